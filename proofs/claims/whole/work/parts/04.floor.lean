/-! floor, divide, thin, peak -/
def cq_gl (W : Nat) (p : Nat) (s : Int32 × (Nat → Int32)) : Int32 × (Nat → Int32) := if cq_in W p then (if 0 ≤ s.2 p then s else (s.1 + 1, upd s.2 p 0)) else s
theorem cq_gln {W : Nat} (p : Nat) (s : Int32 × (Nat → Int32)) (c : ¬ cq_in W p) : cq_gl W p s = s := if_neg c
theorem cq_gl1 {W p : Nat} {s : Int32 × (Nat → Int32)} (c : cq_in W p) (d : 0 ≤ s.2 p) : cq_gl W p s = s := by
  unfold cq_gl; rw [if_pos c, if_pos d]
theorem cq_gl0 {W p : Nat} {s : Int32 × (Nat → Int32)} (c : cq_in W p) (d : ¬ 0 ≤ s.2 p) : cq_gl W p s = (s.1 + 1, upd s.2 p 0) := by
  unfold cq_gl; rw [if_pos c, if_neg d]
theorem cq_xfloor {post : Int32 → SX → Prop} {W : Nat} (hW : W ≤ 8) {fs fm fc : Int32} {pic ker res fr : Nat → Int32} (h : post (cq_fd (cq_gl W) 64 (0, res)).1 (fs, fm, nI W, fc, pic, ker, (cq_fd (cq_gl W) 64 (0, res)).2, fr)) : ∃ n, wX_floor_4 post fs fm (nI W) fc n 0 0 pic ker res fr := by
  refine cq_dl W W (fun n y => wX_floor_4 post fs fm (nI W) fc n (cq_fd (cq_gl W) (8 * y) (0, res)).1 (nI y) pic ker (cq_fd (cq_gl W) (8 * y) (0, res)).2 fr) (fun n y m x => wX_floor_14 post (wX_floor_4 post fs fm (nI W) fc n) (nI y) fs fm (nI W) fc m (cq_fd (cq_gl W) (8 * y + x) (0, res)).1 (nI x) pic ker (cq_fd (cq_gl W) (8 * y + x) (0, res)).2 fr) ?_ ?_ ?_ ?_
  · intro n
    refine br_t (cq_le (by omega) (by omega)) ?_
    rw [cq_all hW cq_gln]
    exact h
  · intro n y hy h'
    exact br_f (cq_nle hy (by omega)) h'
  · intro n y m hy h'
    rw [cq_row hW cq_gln]
    exact br_t (cq_le (by omega) (by omega)) (nm_r (nI_1 y) h')
  · intro n y m x hy hx h'
    have e1 : cq_fd (cq_gl W) (8 * y + (x + 1)) (0, res) = cq_gl W (8 * y + x) (cq_fd (cq_gl W) (8 * y + x) (0, res)) := rfl
    rw [e1] at h'
    generalize cq_fd (cq_gl W) (8 * y + x) (0, res) = st at h' ⊢
    have hin : vp_in (8 * nI y + nI x) 64 := pk_in (8 * y + x) 64 (by omega) (cq_i8 y x)
    have hcl : (8 * nI y + nI x).toNatClampNeg = 8 * y + x := pk_cl _ (cq_i8 y x)
    have c : cq_in W (8 * y + x) := by omega
    refine br_f (cq_nle hx (by omega)) ⟨hin, ?_⟩
    rw [hcl]
    by_cases d : 0 ≤ st.2 (8 * y + x)
    · rw [cq_gl1 c d] at h'
      exact br_t d (nm_r (nI_1 x) h')
    · rw [cq_gl0 c d] at h'
      exact br_f d ⟨hin, nm_e (nm_e (nm_r (nI_1 x) h'))⟩
theorem cq_yfloor {post : Int32 → SY → Prop} {W : Nat} (hW : W ≤ 8) {fs fm : Int32} {pic ker res : Nat → Int32} (h : post (cq_fd (cq_gl W) 64 (0, res)).1 (fs, fm, nI W, pic, ker, (cq_fd (cq_gl W) 64 (0, res)).2)) : ∃ n, wY_floor_4 post fs fm (nI W) n 0 0 pic ker res := by
  refine cq_ls 64 (fun n i => wY_floor_4 post fs fm (nI W) n (cq_fd (cq_gl W) i (0, res)).1 (nI i) pic ker (cq_fd (cq_gl W) i (0, res)).2) ?_ ?_ 0 (by omega)
  · intro n
    exact br_t (cq_le (a := 64) (b := 64) (by omega) (by omega)) h
  · intro n i hi h'
    rw [cq_fd_s] at h'
    generalize cq_fd (cq_gl W) i (0, res) = st at h' ⊢
    have hin : vp_in (nI i) 64 := vp_in_nI hi (by omega)
    have hcl : (nI i).toNatClampNeg = i := nI_clamp (by omega)
    refine br_f (cq_nle (a := 64) hi (by omega)) ⟨by decide, ?_⟩
    rw [cq_m8 (by omega), cq_d8 (by omega)]
    by_cases a : W ≤ i % 8
    · rw [cq_gln i st (by omega)] at h'
      exact br_t (cq_le a (by omega)) (nm_r (nI_1 i) h')
    by_cases b : W ≤ i / 8
    · rw [cq_gln i st (by omega)] at h'
      exact br_f (cq_nle (by omega) (by omega)) ⟨by decide, br_t (cq_le b (by omega)) (nm_r (nI_1 i) h')⟩
    have c : cq_in W i := by omega
    refine br_f (cq_nle (by omega) (by omega)) ⟨by decide, br_f (cq_nle (by omega) (by omega)) ⟨hin, ?_⟩⟩
    rw [hcl]
    by_cases d : 0 ≤ st.2 i
    · rw [cq_gl1 c d] at h'
      exact br_t d (nm_r (nI_1 i) h')
    · rw [cq_gl0 c d] at h'
      exact br_f d ⟨hin, nm_e (nm_e (nm_r (nI_1 i) h'))⟩
theorem cq_floor {W : Nat} {rx ry : Nat → Int32} (h : cq_ag W rx ry) : ∀ n, (cq_fd (cq_gl W) n (0, ry)).1 = (cq_fd (cq_gl W) n (0, rx)).1 ∧ cq_ag W (cq_fd (cq_gl W) n (0, rx)).2 (cq_fd (cq_gl W) n (0, ry)).2 := by
  intro n
  induction n with
  | zero => exact ⟨rfl, h⟩
  | succ n ih =>
    rw [cq_fd_s, cq_fd_s]
    generalize cq_fd (cq_gl W) n (0, rx) = a at ih ⊢
    generalize cq_fd (cq_gl W) n (0, ry) = b at ih ⊢
    obtain ⟨i1, i2⟩ := ih
    by_cases c : cq_in W n
    · by_cases d : 0 ≤ a.2 n
      · rw [cq_gl1 c d, cq_gl1 c (by rw [← i2 n c]; exact d)]
        exact ⟨i1, i2⟩
      · rw [cq_gl0 c d, cq_gl0 c (by rw [← i2 n c]; exact d)]
        refine ⟨congrArg (· + 1) i1, fun p hp => ?_⟩
        by_cases e : p = n
        · subst e
          exact pk_us.trans pk_us.symm
        · exact (pk_un e).trans ((i2 p hp).trans (pk_un e).symm)
    · rw [cq_gln n a c, cq_gln n b c]
      exact ⟨i1, i2⟩
theorem i_vc_floor {k : Nat} {u : SX} {v : SY} (I : i_Rel k u v) (hk : k + 5 ≤ 2560) : wpX_floor (fun r u' => wpY_floor (fun r' v' => r' = r ∧ i_Rel (k + 5) u' v') v) u := by
  obtain ⟨s, m, W, way, pic, ker, rx, ry, fr, rfl, rfl, hs, hm, hW, hr, hf⟩ := I
  have h := cq_floor hr 64
  exact cq_xfloor hW (cq_yfloor hW ⟨h.1, ⟨s, m, W, way, pic, ker, _, _, fr, rfl, rfl, hs, hm, hW, h.2, hf⟩⟩)
/-! divide -/
def cq_gd (W : Nat) (d : Int32) (p : Nat) (r : Nat → Int32) : Nat → Int32 := if cq_in W p then upd r p (r p / d) else r
def cq_ge (d : Int32) (p : Nat) (r : Nat → Int32) : Nat → Int32 := upd r p (r p / d)
theorem cq_gdn {W : Nat} {d : Int32} (p : Nat) (r : Nat → Int32) (c : ¬ cq_in W p) : cq_gd W d p r = r := if_neg c
theorem cq_xdiv {post : Int32 → SX → Prop} {W : Nat} (hW : W ≤ 8) {d fs fm fc : Int32} (hd : ¬ d = 0) {pic ker res fr : Nat → Int32} (h : post (nI W) (fs, fm, nI W, fc, pic, ker, cq_fd (cq_gd W d) 64 res, fr)) : ∃ n, wX_divide_15 post d fs fm (nI W) fc n 0 pic ker res fr := by
  refine cq_dl W W (fun n y => wX_divide_15 post d fs fm (nI W) fc n (nI y) pic ker (cq_fd (cq_gd W d) (8 * y) res) fr) (fun n y m x => wX_divide_25 post (wX_divide_15 post d fs fm (nI W) fc n) d (nI y) fs fm (nI W) fc m (nI x) pic ker (cq_fd (cq_gd W d) (8 * y + x) res) fr) ?_ ?_ ?_ ?_
  · intro n
    refine br_t (cq_le (by omega) (by omega)) ?_
    rw [cq_all hW cq_gdn]
    exact h
  · intro n y hy h'
    exact br_f (cq_nle hy (by omega)) h'
  · intro n y m hy h'
    rw [cq_row hW cq_gdn]
    exact br_t (cq_le (by omega) (by omega)) (nm_r (nI_1 y) h')
  · intro n y m x hy hx h'
    have hin : vp_in (8 * nI y + nI x) 64 := pk_in (8 * y + x) 64 (by omega) (cq_i8 y x)
    refine br_f (cq_nle hx (by omega)) ⟨hin, hd, hin, nm_r ?_ (nm_r (nI_1 x) h')⟩
    show _ = cq_gd W d (8 * y + x) (cq_fd (cq_gd W d) (8 * y + x) res)
    rw [pk_cl _ (cq_i8 y x)]
    exact (if_pos (by omega)).symm
theorem cq_ydiv {post : Int32 → SY → Prop} {W : Nat} {d fs fm : Int32} (hd : ¬ d = 0) {pic ker res : Nat → Int32} (h : post (nI W) (fs, fm, nI W, pic, ker, cq_fd (cq_ge d) 64 res)) : ∃ n, wY_divide_16 post d fs fm (nI W) n 0 pic ker res := by
  refine cq_ls 64 (fun n i => wY_divide_16 post d fs fm (nI W) n (nI i) pic ker (cq_fd (cq_ge d) i res)) ?_ ?_ 0 (by omega)
  · intro n
    exact br_t (cq_le (a := 64) (b := 64) (by omega) (by omega)) h
  · intro n i hi h'
    have hin : vp_in (nI i) 64 := vp_in_nI hi (by omega)
    refine br_f (cq_nle (a := 64) hi (by omega)) ⟨hin, hd, hin, nm_r ?_ (nm_r (nI_1 i) h')⟩
    rw [nI_clamp (by omega)]
    rfl
theorem cq_div {W : Nat} (hW : W ≤ 8) {d : Int32} {rx ry : Nat → Int32} (h : cq_ag W rx ry) : cq_ag W (cq_fd (cq_gd W d) 64 rx) (cq_fd (cq_ge d) 64 ry) := by
  intro p hp
  have a := (cq_fu (g := cq_gd W d) (C := cq_in W) (h := fun _ v => v / d) (fun p r c => if_pos c) (fun p r c => if_neg c) rx 64).1 p (by omega) hp
  have b := (cq_fu (g := cq_ge d) (C := fun _ => True) (h := fun _ v => v / d) (fun p r c => rfl) (fun p r c => absurd trivial c) ry 64).1 p (by omega) trivial
  rw [a, b, h p hp]
theorem i_vc_divide {k : Nat} {u : SX} {v : SY} (I : i_Rel k u v) (hk : k + 5 ≤ 2560) (v1 : Int32) : wpX_divide (fun r u' => wpY_divide (fun r' v' => r' = r ∧ i_Rel (k + 5) u' v') v v1) u v1 := by
  obtain ⟨s, m, W, way, pic, ker, rx, ry, fr, rfl, rfl, hs, hm, hW, hr, hf⟩ := I
  have R : i_Rel (k + 5) (nI s, nI m, nI W, way, pic, ker, rx, fr) (nI s, nI m, nI W, pic, ker, ry) := ⟨s, m, W, way, pic, ker, rx, ry, fr, rfl, rfl, hs, hm, hW, hr, hf⟩
  unfold wpX_divide
  dsimp only
  by_cases a : v1 < 1
  · exact cq_iw0 (Or.inl a) (br_t rfl (br_t a ⟨rfl, R⟩))
  by_cases b : v1 ≤ 100
  · have hd : ¬ v1 = 0 := by
      intro z
      rw [z] at a
      exact a (by decide)
    exact cq_iw1 a (Int32.not_lt.mpr b) (br_f cq_10 (cq_xdiv hW hd (br_f a (br_t b (cq_ydiv hd ⟨rfl, ⟨s, m, W, way, pic, ker, _, _, fr, rfl, rfl, hs, hm, hW, cq_div hW hr, hf⟩⟩)))))
  · exact cq_iw0 (Or.inr (Int32.not_le.mp b)) (br_t rfl (br_f a (br_f b ⟨rfl, R⟩)))
/-! thin -/
def cq_mx (r : Nat → Int32) (f : Nat) : Nat → Int32
  | 0 => r f
  | 1 => r f
  | k + 2 => if r (f + 8 * ((k + 1) / 2) + (k + 1) % 2) ≤ cq_mx r f (k + 1) then cq_mx r f (k + 1) else r (f + 8 * ((k + 1) / 2) + (k + 1) % 2)
theorem cq_mxs {r : Nat → Int32} {f i : Nat} (hi : 1 ≤ i) : cq_mx r f (i + 1) = if r (f + 8 * (i / 2) + i % 2) ≤ cq_mx r f i then cq_mx r f i else r (f + 8 * (i / 2) + i % 2) := by
  obtain ⟨k, rfl⟩ : ∃ k, i = k + 1 := ⟨i - 1, by omega⟩
  rfl
theorem cq_mxc {r r' : Nat → Int32} {f : Nat} (h0 : r f = r' f) (h : ∀ i, i < 4 → r (f + 8 * (i / 2) + i % 2) = r' (f + 8 * (i / 2) + i % 2)) : cq_mx r f 4 = cq_mx r' f 4 := by
  have g : ∀ n, n ≤ 4 → cq_mx r f n = cq_mx r' f n := by
    intro n
    induction n with
    | zero => intro _; exact h0
    | succ n ih =>
      intro hn
      by_cases z : n = 0
      · subst z; exact h0
      · rw [cq_mxs (r := r) (by omega), cq_mxs (r := r') (by omega), ih (by omega), h n (by omega)]
  exact g 4 (Nat.le_refl 4)
theorem cq_d2 {p : Nat} (h : p < 2 ^ 31) : nI p / 2 = nI (p / 2) := pk_div (d := 2) h (by decide) (by decide)
theorem cq_m2 {p : Nat} (h : p < 2 ^ 31) : nI p - nI p / 2 * 2 = nI (p % 2) := pk_rem (d := 2) h (by decide) (by decide)
theorem cq_ig {i : Nat} (hi : i < 4) (f : Nat) : (nI f + (8 * (nI i / 2))) + (nI i - nI i / 2 * 2) = nI (f + 8 * (i / 2) + i % 2) := by
  rw [cq_m2 (by omega), cq_d2 (by omega)]
  show (nI f + (nI 8 * nI (i / 2))) + nI (i % 2) = _
  rw [pk_mul, nI_add, nI_add]
theorem cq_ih {i : Nat} (hi : i < 4) (x y : Nat) : ((8 * (nI y + (nI i / 2))) + nI x) + (nI i - nI i / 2 * 2) = nI ((8 * y + x) + 8 * (i / 2) + i % 2) := by
  rw [cq_m2 (by omega), cq_d2 (by omega)]
  show ((nI 8 * (nI y + nI (i / 2))) + nI x) + nI (i % 2) = _
  rw [nI_add, pk_mul, nI_add, nI_add]
  exact congrArg nI (by omega)
theorem cq_xgr {post : Int32 → Prop} {x y : Nat} (hx : x < 7) (hy : y < 7) {fs fm fw fc : Int32} {pic ker res fr : Nat → Int32} (h : post (cq_mx res (8 * y + x) 4)) : wpX_greatestOfSquare post (fs, fm, fw, fc, pic, ker, res, fr) (nI x) (nI y) := by
  refine nm_r (cq_i8 y x) ⟨vp_in_nI (by omega) (by omega), nm_r (congrArg res (nI_clamp (by omega))) ?_⟩
  refine cq_ls 4 (fun n i => 1 ≤ i → wX_greatestOfSquare_18 post (nI (8 * y + x)) fs fm fw fc pic ker res fr n (cq_mx res (8 * y + x) i) (nI i)) ?_ ?_ 1 (by omega) |>.imp (fun n z => z (Nat.le_refl 1))
  · intro n _
    exact br_t (cq_le (a := 4) (b := 4) (by omega) (by omega)) h
  · intro n i hi h' hi1
    have h2 := h' (by omega)
    rw [cq_mxs hi1] at h2
    refine br_f (cq_nle (a := 4) hi (by omega)) ⟨by decide, by decide, pk_in (8 * y + x + 8 * (i / 2) + i % 2) 64 (by omega) (cq_ig hi _), nm_r (congrArg res (pk_cl _ (cq_ig hi _))) ?_⟩
    by_cases z : res (8 * y + x + 8 * (i / 2) + i % 2) ≤ cq_mx res (8 * y + x) i
    · rw [if_pos z] at h2
      exact br_t z (nm_r (nI_1 i) h2)
    · rw [if_neg z] at h2
      exact br_f z (nm_r (nI_1 i) h2)
theorem cq_ygr {post : Int32 → Prop} {x y : Nat} (hx : x < 7) (hy : y < 7) {fs fm fw : Int32} {pic ker res : Nat → Int32} (h : post (cq_mx res (8 * y + x) 4)) : wpY_greatestOf post (fs, fm, fw, pic, ker, res) (nI x) (nI y) := by
  refine ⟨pk_in (8 * y + x) 64 (by omega) (cq_i8 y x), nm_r (congrArg res (pk_cl _ (cq_i8 y x))) ?_⟩
  refine cq_ls 4 (fun n i => 1 ≤ i → wY_greatestOf_15 post (nI x) (nI y) fs fm fw pic ker res n (cq_mx res (8 * y + x) i) (nI i)) ?_ ?_ 1 (by omega) |>.imp (fun n z => z (Nat.le_refl 1))
  · intro n _
    exact br_t (cq_le (a := 4) (b := 4) (by omega) (by omega)) h
  · intro n i hi h' hi1
    have h2 := h' (by omega)
    rw [cq_mxs hi1] at h2
    refine br_f (cq_nle (a := 4) hi (by omega)) ⟨by decide, by decide, pk_in (8 * y + x + 8 * (i / 2) + i % 2) 64 (by omega) (cq_ih hi _ _), nm_r (congrArg res (pk_cl _ (cq_ih hi _ _))) ?_⟩
    by_cases z : res (8 * y + x + 8 * (i / 2) + i % 2) ≤ cq_mx res (8 * y + x) i
    · rw [if_pos z] at h2
      exact br_t z (nm_r (nI_1 i) h2)
    · rw [if_neg z] at h2
      exact br_f z (nm_r (nI_1 i) h2)
def cq_gh (H p : Nat) (r : Nat → Int32) : Nat → Int32 := if cq_in H p then upd r p (cq_mx r (8 * (2 * (p / 8)) + 2 * (p % 8)) 4) else r
theorem cq_ghn {H : Nat} (p : Nat) (r : Nat → Int32) (c : ¬ cq_in H p) : cq_gh H p r = r := if_neg c
theorem cq_gh1 {H p : Nat} (r : Nat → Int32) (c : cq_in H p) : cq_gh H p r = upd r p (cq_mx r (8 * (2 * (p / 8)) + 2 * (p % 8)) 4) := if_pos c
theorem cq_2x (x : Nat) : 2 * nI x = nI (2 * x) := pk_mul 2 x
theorem cq_xthin {post : Int32 → SX → Prop} {H : Nat} (hH : H ≤ 4) {fs fm fw fc : Int32} {pic ker res fr : Nat → Int32} (h : post (nI H) (fs, fm, nI H, fc, pic, ker, cq_fd (cq_gh H) 64 res, fr)) : ∃ n, wX_thin_9 post (nI H) fs fm fw fc n 0 pic ker res fr := by
  refine cq_dl H H (fun n y => wX_thin_9 post (nI H) fs fm fw fc n (nI y) pic ker (cq_fd (cq_gh H) (8 * y) res) fr) (fun n y m x => wX_thin_16 post (wX_thin_9 post (nI H) fs fm fw fc n) (nI H) (nI y) fs fm fw fc m (nI x) pic ker (cq_fd (cq_gh H) (8 * y + x) res) fr) ?_ ?_ ?_ ?_
  · intro n
    refine br_t (cq_le (by omega) (by omega)) ?_
    rw [cq_all (by omega) cq_ghn]
    exact h
  · intro n y hy h'
    exact br_f (cq_nle hy (by omega)) h'
  · intro n y m hy h'
    rw [cq_row (by omega) cq_ghn]
    exact br_t (cq_le (by omega) (by omega)) (nm_r (nI_1 y) h')
  · intro n y m x hy hx h'
    have hin : vp_in (8 * nI y + nI x) 64 := pk_in (8 * y + x) 64 (by omega) (cq_i8 y x)
    refine br_f (cq_nle hx (by omega)) ?_
    rw [cq_2x, cq_2x]
    refine cq_xgr (by omega) (by omega) ⟨hin, nm_r ?_ (nm_r (nI_1 x) h')⟩
    show _ = cq_gh H (8 * y + x) (cq_fd (cq_gh H) (8 * y + x) res)
    rw [pk_cl _ (cq_i8 y x), cq_gh1 _ (by omega), (cq_pq (by omega) y).1, (cq_pq (by omega) y).2]
theorem cq_ythin {post : Int32 → SY → Prop} {H : Nat} (hH : H ≤ 4) {fs fm : Int32} {pic ker res : Nat → Int32} (h : post (nI H) (fs, fm, nI H, pic, ker, cq_fd (cq_gh H) 64 res)) : ∃ n, wY_thin_12 post fs fm (nI H) n 0 pic ker res := by
  refine cq_dl H H (fun n y => wY_thin_12 post fs fm (nI H) n (nI y) pic ker (cq_fd (cq_gh H) (8 * y) res)) (fun n y m x => wY_thin_22 post (wY_thin_12 post fs fm (nI H) n) (nI y) fs fm (nI H) m (nI x) pic ker (cq_fd (cq_gh H) (8 * y + x) res)) ?_ ?_ ?_ ?_
  · intro n
    refine br_t (cq_le (by omega) (by omega)) ?_
    rw [cq_all (by omega) cq_ghn]
    exact h
  · intro n y hy h'
    exact br_f (cq_nle hy (by omega)) h'
  · intro n y m hy h'
    rw [cq_row (by omega) cq_ghn]
    exact br_t (cq_le (by omega) (by omega)) (nm_r (nI_1 y) h')
  · intro n y m x hy hx h'
    have hin : vp_in (8 * nI y + nI x) 64 := pk_in (8 * y + x) 64 (by omega) (cq_i8 y x)
    refine br_f (cq_nle hx (by omega)) ?_
    rw [cq_2x, cq_2x]
    refine cq_ygr (by omega) (by omega) ⟨hin, nm_r ?_ (nm_r (nI_1 x) h')⟩
    show _ = cq_gh H (8 * y + x) (cq_fd (cq_gh H) (8 * y + x) res)
    rw [pk_cl _ (cq_i8 y x), cq_gh1 _ (by omega), (cq_pq (by omega) y).1, (cq_pq (by omega) y).2]
theorem cq_thin {W : Nat} (hW : W ≤ 8) {rx ry : Nat → Int32} (h : cq_ag W rx ry) : ∀ n, cq_ag W (cq_fd (cq_gh (W / 2)) n rx) (cq_fd (cq_gh (W / 2)) n ry) := by
  intro n
  induction n with
  | zero => exact h
  | succ n ih =>
    rw [cq_fd_s, cq_fd_s]
    generalize cq_fd (cq_gh (W / 2)) n rx = a at ih ⊢
    generalize cq_fd (cq_gh (W / 2)) n ry = b at ih ⊢
    by_cases c : cq_in (W / 2) n
    · rw [cq_gh1 a c, cq_gh1 b c]
      have e : cq_mx a (8 * (2 * (n / 8)) + 2 * (n % 8)) 4 = cq_mx b (8 * (2 * (n / 8)) + 2 * (n % 8)) 4 := by
        refine cq_mxc (ih _ ?_) (fun i hi => ih _ ?_)
        · constructor <;> omega
        · constructor <;> omega
      rw [e]
      intro p hp
      by_cases e : p = n
      · subst e; rw [pk_us, pk_us]
      · rw [pk_un e, pk_un e]; exact ih p hp
    · rw [cq_ghn n a c, cq_ghn n b c]
      exact ih
theorem i_vc_thin {k : Nat} {u : SX} {v : SY} (I : i_Rel k u v) (hk : k + 5 ≤ 2560) : wpX_thin (fun r u' => wpY_thin (fun r' v' => r' = r ∧ i_Rel (k + 5) u' v') v) u := by
  obtain ⟨s, m, W, way, pic, ker, rx, ry, fr, rfl, rfl, hs, hm, hW, hr, hf⟩ := I
  have h := cq_thin hW hr 64
  have e : nI W / 2 = nI (W / 2) := cq_d2 (by omega)
  refine ⟨by decide, nm_r e (cq_xthin (by omega) ⟨by decide, nm_r e (cq_ythin (by omega) ⟨rfl, ⟨s, m, W / 2, way, pic, ker, _, _, fr, rfl, rfl, hs, hm, by omega, fun p hp => h p (by omega), hf⟩⟩)⟩)⟩
