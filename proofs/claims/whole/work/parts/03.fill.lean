/-! fill, take, sum -/
def cq_gf (c : Nat) (A B D E : Int32) (p : Nat) (pic : Nat → Int32) : Nat → Int32 := upd pic (64 * c + p) (cq_ct (((A + (B * nI (p % 8))) + (D * nI (p / 8))) + ((E * nI (p % 8)) * nI (p / 8))))
theorem cq_pq {x : Nat} (hx : x < 8) (y : Nat) : (8 * y + x) % 8 = x ∧ (8 * y + x) / 8 = y := by omega
theorem cq_xfill {post : Int32 → SX → Prop} {c : Nat} (hc : c ≤ 1) {A E B D fs fm fw fc : Int32} {pic ker res fr : Nat → Int32} (h : post 0 (fs, fm, fw, fc, cq_fd (cq_gf c A B D E) 64 pic, ker, res, fr)) : ∃ n, wX_fill_60 post (nI c) A E B D fs fm fw fc n 0 pic ker res fr := by
  refine cq_dl 8 8 (fun n y => wX_fill_60 post (nI c) A E B D fs fm fw fc n (nI y) (cq_fd (cq_gf c A B D E) (8 * y) pic) ker res fr) (fun n y m x => wX_fill_70 post (wX_fill_60 post (nI c) A E B D fs fm fw fc n) (nI c) A E B D (nI y) fs fm fw fc m (nI x) (cq_fd (cq_gf c A B D E) (8 * y + x) pic) ker res fr) ?_ ?_ ?_ ?_
  · intro n
    exact br_t (cq_le (a := 8) (b := 8) (by omega) (by omega)) h
  · intro n y hy h'
    exact br_f (cq_nle (a := 8) hy (by omega)) h'
  · intro n y m hy h'
    exact br_t (cq_le (a := 8) (b := 8) (by omega) (by omega)) (nm_r (nI_1 y) h')
  · intro n y m x hy hx h'
    refine br_f (cq_nle (a := 8) hx (by omega)) (cq_xct ⟨pk_in (64 * c + (8 * y + x)) 128 (by omega) (cq_i64 c y x), nm_r ?_ (nm_r (nI_1 x) h')⟩)
    show _ = cq_gf c A B D E (8 * y + x) (cq_fd (cq_gf c A B D E) (8 * y + x) pic)
    unfold cq_gf
    rw [pk_cl _ (cq_i64 c y x), (cq_pq hx y).1, (cq_pq hx y).2]
theorem cq_yfill {post : Int32 → SY → Prop} {c : Nat} (hc : c ≤ 1) {A E B D fs fm fw : Int32} {pic ker res : Nat → Int32} (h : post 0 (fs, fm, fw, cq_fd (cq_gf c A B D E) 64 pic, ker, res)) : ∃ n, wY_fill_83 post (nI c) A E B D fs fm fw n 0 pic ker res := by
  refine cq_ls 64 (fun n i => wY_fill_83 post (nI c) A E B D fs fm fw n (nI i) (cq_fd (cq_gf c A B D E) i pic) ker res) ?_ ?_ 0 (by omega)
  · intro n
    exact br_t (cq_le (a := 64) (b := 64) (by omega) (by omega)) h
  · intro n i hi h'
    exact br_f (cq_nle (a := 64) hi (by omega)) ⟨by decide, nm_r (cq_m8 (by omega)) ⟨by decide, nm_r (cq_d8 (by omega)) (cq_yct ⟨pk_in (64 * c + i) 128 (by omega) (cq_j64 c i), nm_r (by rw [pk_cl _ (cq_j64 c i)]; rfl) (nm_r (nI_1 i) h')⟩)⟩⟩
theorem cq_yfbad {post : Int32 → SY → Prop} {v1 v2 v3 v4 fs fm fw : Int32} {pic ker res : Nat → Int32} (h : v1 < 0 ∨ 1 < v1 ∨ v2 < -20 ∨ 20 < v2 ∨ v4 < -3 ∨ 3 < v4 ∨ v3 < 0 ∨ 20 < v3 / 100 ∨ 20 < v3 - v3 / 100 * 100) (hp : post (-1000000) (fs, fm, fw, pic, ker, res)) : wpY_fill post (fs, fm, fw, pic, ker, res) v1 v2 v3 v4 := by
  by_cases a : v1 < 0
  · exact br_t a hp
  by_cases b : 1 < v1
  · exact br_f a (br_t b hp)
  by_cases c : v2 < -20
  · exact br_f a (br_f b (br_t c hp))
  by_cases d : 20 < v2
  · exact br_f a (br_f b (br_f c (br_t d hp)))
  by_cases e : v4 < -3
  · exact br_f a (br_f b (br_f c (br_f d (br_t e hp))))
  by_cases f : v4 ≤ 3
  · by_cases g : v3 < 0
    · exact br_f a (br_f b (br_f c (br_f d (br_f e (br_t f (br_t g hp))))))
    by_cases i : 20 < v3 / 100
    · exact br_f a (br_f b (br_f c (br_f d (br_f e (br_t f (br_f g ⟨by decide, br_t i hp⟩))))))
    by_cases j : v3 - v3 / 100 * 100 ≤ 20
    · exact absurd h (by
        intro h
        rcases h with h | h | h | h | h | h | h | h | h
        · exact a h
        · exact b h
        · exact c h
        · exact d h
        · exact e h
        · exact Int32.not_lt.mpr f h
        · exact g h
        · exact i h
        · exact Int32.not_lt.mpr j h)
    · exact br_f a (br_f b (br_f c (br_f d (br_f e (br_t f (br_f g ⟨by decide, br_f i ⟨by decide, br_f j hp⟩⟩))))))
  · exact br_f a (br_f b (br_f c (br_f d (br_f e (br_f f hp)))))
theorem cq_yfok {post : Int32 → SY → Prop} {v1 v2 v3 v4 fs fm fw : Int32} {pic ker res : Nat → Int32} (a : ¬ v1 < 0) (b : ¬ 1 < v1) (c : ¬ v2 < -20) (d : ¬ 20 < v2) (e : ¬ v4 < -3) (f : v4 ≤ 3) (g : ¬ v3 < 0) (i : ¬ 20 < v3 / 100) (j : v3 - v3 / 100 * 100 ≤ 20) (hp : ∃ n, wY_fill_83 post v1 v2 v4 (v3 / 100 - 10) (v3 - v3 / 100 * 100 - 10) fs fm fw n 0 pic ker res) : wpY_fill post (fs, fm, fw, pic, ker, res) v1 v2 v3 v4 :=
  br_f a (br_f b (br_f c (br_f d (br_f e (br_t f (br_f g ⟨by decide, br_f i ⟨by decide, br_t j ⟨by decide, nm_e ⟨by decide, nm_e hp⟩⟩⟩⟩))))))
theorem cq_2020 : ((100 : Int32) * 20) + 20 = nI 2020 := by decide
theorem cq_d100 {t : Nat} (h : t < 2 ^ 31) : nI t / 100 = nI (t / 100) := pk_div (d := 100) h (by decide) (by decide)
theorem cq_m100 {t : Nat} (h : t < 2 ^ 31) : nI t - nI t / 100 * 100 = nI (t % 100) := pk_rem (d := 100) h (by decide) (by decide)
theorem i_vc_fill {k : Nat} {u : SX} {v : SY} (I : i_Rel k u v) (hk : k + 5 ≤ 2560) (v1 : Int32) (v2 : Int32) (v3 : Int32) (v4 : Int32) : wpX_fill (fun r u' => wpY_fill (fun r' v' => r' = r ∧ i_Rel (k + 5) u' v') v v1 v2 v3 v4) u v1 v2 v3 v4 := by
  obtain ⟨s, m, W, way, pic, ker, rx, ry, fr, rfl, rfl, hs, hm, hW, hr, hf⟩ := I
  have R : i_Rel (k + 5) (nI s, nI m, nI W, way, pic, ker, rx, fr) (nI s, nI m, nI W, pic, ker, ry) := ⟨s, m, W, way, pic, ker, rx, ry, fr, rfl, rfl, hs, hm, hW, hr, hf⟩
  unfold wpX_fill wpX_isLayer wpX_areSlopes
  dsimp only
  by_cases a : v1 < 0
  · exact cq_iw0 (Or.inl a) ⟨rfl, br_t rfl (cq_yfbad (Or.inl a) ⟨rfl, R⟩)⟩
  by_cases b : 1 < v1
  · exact cq_iw0 (Or.inr b) ⟨rfl, br_t rfl (cq_yfbad (Or.inr (Or.inl b)) ⟨rfl, R⟩)⟩
  refine cq_iw1 a b ⟨rfl, br_f cq_10 ?_⟩
  by_cases c : v2 < -20
  · exact cq_iw0 (Or.inl c) (br_t rfl (cq_yfbad (Or.inr (Or.inr (Or.inl c))) ⟨rfl, R⟩))
  by_cases d : 20 < v2
  · exact cq_iw0 (Or.inr d) (br_t rfl (cq_yfbad (Or.inr (Or.inr (Or.inr (Or.inl d)))) ⟨rfl, R⟩))
  refine cq_iw1 c d (br_f cq_10 ?_)
  by_cases g : v3 < 0
  · exact cq_iw0 (Or.inl g) (br_t rfl (br_t rfl (cq_yfbad (Or.inr (Or.inr (Or.inr (Or.inr (Or.inr (Or.inr (Or.inl g))))))) ⟨rfl, R⟩)))
  obtain ⟨t, ht, rfl⟩ := nI_of g
  by_cases i : 2020 < t
  · have h2 : 20 < nI t / 100 ∨ 20 < nI t - nI t / 100 * 100 := by
      rw [cq_m100 ht, cq_d100 ht]
      by_cases z : 20 < t / 100
      · exact Or.inl (nI_lt (a := 20) z (by omega))
      · exact Or.inr (nI_lt (a := 20) (by omega) (by omega))
    exact cq_iw0 (Or.inr (by rw [cq_2020]; exact nI_lt i ht)) (br_t rfl (br_t rfl (cq_yfbad (Or.inr (Or.inr (Or.inr (Or.inr (Or.inr (Or.inr (Or.inr h2))))))) ⟨rfl, R⟩)))
  refine cq_iw1 g (by rw [cq_2020]; exact nI_nlt (by omega) (by omega)) (br_f cq_10 ⟨by decide, ?_⟩)
  by_cases j : 20 < nI t - nI t / 100 * 100
  · exact br_t j (br_t rfl (cq_yfbad (Or.inr (Or.inr (Or.inr (Or.inr (Or.inr (Or.inr (Or.inr (Or.inr j)))))))) ⟨rfl, R⟩))
  refine br_f j (br_f cq_10 ?_)
  have i2 : ¬ 20 < nI t / 100 := by
    rw [cq_d100 ht]
    exact nI_nlt (a := 20) (by omega) (by omega)
  by_cases e : v4 < -3
  · exact cq_iw0 (Or.inl e) (br_t rfl (cq_yfbad (Or.inr (Or.inr (Or.inr (Or.inr (Or.inl e))))) ⟨rfl, R⟩))
  by_cases f : v4 ≤ 3
  · obtain ⟨q, hq, rfl⟩ := cq_range (n := 1) (by decide) a b
    exact cq_iw1 e (Int32.not_lt.mpr f) (br_f cq_10 ⟨by decide, nm_e ⟨by decide, nm_e (cq_xfill hq (cq_yfok a b c d e f g i2 (Int32.not_lt.mp j) (cq_yfill hq ⟨rfl, ⟨s, m, W, way, _, ker, rx, ry, fr, rfl, rfl, hs, hm, hW, hr, hf⟩⟩)))⟩⟩)
  · exact cq_iw0 (Or.inr (Int32.not_le.mp f)) (br_t rfl (cq_yfbad (Or.inr (Or.inr (Or.inr (Or.inr (Or.inr (Or.inl (Int32.not_le.mp f))))))) ⟨rfl, R⟩))
/-! take -/
def cq_gt (c W : Nat) (res : Nat → Int32) (p : Nat) (s : Int32 × (Nat → Int32)) : Int32 × (Nat → Int32) := (if s.2 (64 * c + p) = cq_ct (cq_rv W res p) then s.1 else s.1 + 1, upd s.2 (64 * c + p) (cq_ct (cq_rv W res p)))
theorem cq_gtc {c W : Nat} {rx ry : Nat → Int32} (h : cq_ag W rx ry) : cq_gt c W rx = cq_gt c W ry := by
  funext p s
  unfold cq_gt
  rw [cq_rvc h p]
theorem cq_gt1 {c W : Nat} {res : Nat → Int32} {p : Nat} {s : Int32 × (Nat → Int32)} (h : s.2 (64 * c + p) = cq_ct (cq_rv W res p)) : cq_gt c W res p s = (s.1, upd s.2 (64 * c + p) (cq_ct (cq_rv W res p))) := by
  unfold cq_gt; rw [if_pos h]
theorem cq_gt0 {c W : Nat} {res : Nat → Int32} {p : Nat} {s : Int32 × (Nat → Int32)} (h : ¬ s.2 (64 * c + p) = cq_ct (cq_rv W res p)) : cq_gt c W res p s = (s.1 + 1, upd s.2 (64 * c + p) (cq_ct (cq_rv W res p))) := by
  unfold cq_gt; rw [if_neg h]
theorem cq_xtake {post : Int32 → SX → Prop} {c W : Nat} (hc : c ≤ 1) (hW : W ≤ 8) {fs fm fc : Int32} {pic ker res fr : Nat → Int32} (h : post (cq_fd (cq_gt c W res) 64 (0, pic)).1 (fs, fm, nI W, fc, (cq_fd (cq_gt c W res) 64 (0, pic)).2, ker, res, fr)) : ∃ n, wX_take_14 post (nI c) fs fm (nI W) fc n 0 0 pic ker res fr := by
  refine cq_dl 8 8 (fun n y => wX_take_14 post (nI c) fs fm (nI W) fc n (cq_fd (cq_gt c W res) (8 * y) (0, pic)).1 (nI y) (cq_fd (cq_gt c W res) (8 * y) (0, pic)).2 ker res fr) (fun n y m x => wX_take_23 post (wX_take_14 post (nI c) fs fm (nI W) fc n) (nI c) (nI y) fs fm (nI W) fc m (cq_fd (cq_gt c W res) (8 * y + x) (0, pic)).1 (nI x) (cq_fd (cq_gt c W res) (8 * y + x) (0, pic)).2 ker res fr) ?_ ?_ ?_ ?_
  · intro n
    exact br_t (cq_le (a := 8) (b := 8) (by omega) (by omega)) h
  · intro n y hy h'
    exact br_f (cq_nle (a := 8) hy (by omega)) h'
  · intro n y m hy h'
    exact br_t (cq_le (a := 8) (b := 8) (by omega) (by omega)) (nm_r (nI_1 y) h')
  · intro n y m x hy hx h'
    have e1 : cq_fd (cq_gt c W res) (8 * y + (x + 1)) (0, pic) = cq_gt c W res (8 * y + x) (cq_fd (cq_gt c W res) (8 * y + x) (0, pic)) := rfl
    rw [e1] at h'
    generalize cq_fd (cq_gt c W res) (8 * y + x) (0, pic) = st at h' ⊢
    have hi : vp_in (nI (64 * c + (8 * y + x))) 128 := vp_in_nI (by omega) (by omega)
    have hcl : (nI (64 * c + (8 * y + x))).toNatClampNeg = 64 * c + (8 * y + x) := nI_clamp (by omega)
    refine br_f (cq_nle (a := 8) hx (by omega)) (nm_r (cq_i64 c y x) ⟨hi, nm_e (cq_xrv hW hx hy (cq_xct ⟨hi, nm_e ⟨hi, ?_⟩⟩))⟩)
    rw [hcl, pk_us]
    by_cases z : st.2 (64 * c + (8 * y + x)) = cq_ct (cq_rv W res (8 * y + x))
    · rw [cq_gt1 z] at h'
      exact br_t z.symm (nm_r (nI_1 x) h')
    · rw [cq_gt0 z] at h'
      exact br_f (fun w => z w.symm) (nm_e (nm_r (nI_1 x) h'))
theorem cq_ytake {post : Int32 → SY → Prop} {c W : Nat} (hc : c ≤ 1) (hW : W ≤ 8) {fs fm : Int32} {pic ker res : Nat → Int32} (h : post (cq_fd (cq_gt c W res) 64 (0, pic)).1 (fs, fm, nI W, (cq_fd (cq_gt c W res) 64 (0, pic)).2, ker, res)) : ∃ n, wY_take_16 post (nI c) fs fm (nI W) n 0 0 pic ker res := by
  refine cq_ls 64 (fun n i => wY_take_16 post (nI c) fs fm (nI W) n (cq_fd (cq_gt c W res) i (0, pic)).1 (nI i) (cq_fd (cq_gt c W res) i (0, pic)).2 ker res) ?_ ?_ 0 (by omega)
  · intro n
    exact br_t (cq_le (a := 64) (b := 64) (by omega) (by omega)) h
  · intro n i hi h'
    rw [cq_fd_s] at h'
    generalize cq_fd (cq_gt c W res) i (0, pic) = st at h' ⊢
    have hin : vp_in (64 * nI c + nI i) 128 := pk_in (64 * c + i) 128 (by omega) (cq_j64 c i)
    have hcl : (64 * nI c + nI i).toNatClampNeg = 64 * c + i := pk_cl _ (cq_j64 c i)
    refine br_f (cq_nle (a := 64) hi (by omega)) ⟨by decide, by decide, ?_⟩
    rw [cq_m8 (by omega), cq_d8 (by omega)]
    refine cq_yrv hW hi (cq_yct ⟨hin, ?_⟩)
    unfold wY_take_67
    rw [hcl]
    by_cases z : st.2 (64 * c + i) = cq_ct (cq_rv W res i)
    · rw [cq_gt1 z] at h'
      exact br_t z ⟨hin, nm_e (nm_r (nI_1 i) h')⟩
    · rw [cq_gt0 z] at h'
      exact br_f z ⟨hin, nm_e (nm_r (nI_1 i) h')⟩
theorem i_vc_take {k : Nat} {u : SX} {v : SY} (I : i_Rel k u v) (hk : k + 5 ≤ 2560) (v1 : Int32) : wpX_take (fun r u' => wpY_take (fun r' v' => r' = r ∧ i_Rel (k + 5) u' v') v v1) u v1 := by
  obtain ⟨s, m, W, way, pic, ker, rx, ry, fr, rfl, rfl, hs, hm, hW, hr, hf⟩ := I
  have R : i_Rel (k + 5) (nI s, nI m, nI W, way, pic, ker, rx, fr) (nI s, nI m, nI W, pic, ker, ry) := ⟨s, m, W, way, pic, ker, rx, ry, fr, rfl, rfl, hs, hm, hW, hr, hf⟩
  unfold wpX_take wpX_isLayer
  dsimp only
  by_cases a : v1 < 0
  · exact cq_iw0 (Or.inl a) ⟨rfl, br_t rfl (br_t a ⟨rfl, R⟩)⟩
  by_cases b : v1 ≤ 1
  · obtain ⟨c, hc, rfl⟩ := nI_of2 (n := 1) (by decide) a b
    refine cq_iw1 a (Int32.not_lt.mpr b) ⟨rfl, br_f cq_10 (cq_xtake hc hW (br_f a (br_t b (cq_ytake hc hW ?_))))⟩
    rw [cq_gtc hr]
    exact ⟨rfl, ⟨s, m, W, way, _, ker, rx, ry, fr, rfl, rfl, hs, hm, hW, hr, hf⟩⟩
  · exact cq_iw0 (Or.inr (Int32.not_le.mp b)) ⟨rfl, br_t rfl (br_f a (br_f b ⟨rfl, R⟩))⟩
/-! sum -/
def cq_gs (W : Nat) (res : Nat → Int32) (p : Nat) (a : Int32) : Int32 := if cq_in W p then a + res p else a
theorem cq_gsc {W : Nat} {rx ry : Nat → Int32} (h : cq_ag W rx ry) : cq_gs W rx = cq_gs W ry := by
  funext p a
  unfold cq_gs
  by_cases c : cq_in W p
  · rw [if_pos c, if_pos c, h p c]
  · rw [if_neg c, if_neg c]
theorem cq_gsn {W : Nat} {res : Nat → Int32} (p : Nat) (a : Int32) (c : ¬ cq_in W p) : cq_gs W res p a = a := if_neg c
theorem cq_xsum {post : Int32 → Prop} {W : Nat} (hW : W ≤ 8) {fs fm fc : Int32} {pic ker res fr : Nat → Int32} (h : post (cq_fd (cq_gs W res) 64 0)) : ∃ n, wX_sum_4 post fs fm (nI W) fc pic ker res fr n 0 0 := by
  refine cq_dl W W (fun n y => wX_sum_4 post fs fm (nI W) fc pic ker res fr n (cq_fd (cq_gs W res) (8 * y) 0) (nI y)) (fun n y m x => wX_sum_14 post (wX_sum_4 post fs fm (nI W) fc pic ker res fr n) (nI y) fs fm (nI W) fc pic ker res fr m (cq_fd (cq_gs W res) (8 * y + x) 0) (nI x)) ?_ ?_ ?_ ?_
  · intro n
    refine br_t (cq_le (by omega) (by omega)) ?_
    rw [cq_all hW cq_gsn]
    exact h
  · intro n y hy h'
    exact br_f (cq_nle hy (by omega)) h'
  · intro n y m hy h'
    rw [cq_row hW cq_gsn]
    exact br_t (cq_le (by omega) (by omega)) (nm_r (nI_1 y) h')
  · intro n y m x hy hx h'
    refine br_f (cq_nle hx (by omega)) ⟨pk_in (8 * y + x) 64 (by omega) (cq_i8 y x), nm_r ?_ (nm_r (nI_1 x) h')⟩
    show _ = cq_gs W res (8 * y + x) (cq_fd (cq_gs W res) (8 * y + x) 0)
    unfold cq_gs
    rw [pk_cl _ (cq_i8 y x), if_pos (by omega)]
theorem cq_ysum {post : Int32 → Prop} {W : Nat} (hW : W ≤ 8) {fs fm : Int32} {pic ker res : Nat → Int32} (h : post (cq_fd (cq_gs W res) 64 0)) : ∃ n, wY_sum_4 post fs fm (nI W) pic ker res n 0 0 := by
  refine cq_ls 64 (fun n i => wY_sum_4 post fs fm (nI W) pic ker res n (cq_fd (cq_gs W res) i 0) (nI i)) ?_ ?_ 0 (by omega)
  · intro n
    exact br_t (cq_le (a := 64) (b := 64) (by omega) (by omega)) h
  · intro n i hi h'
    refine br_f (cq_nle (a := 64) hi (by omega)) ⟨by decide, by decide, ?_⟩
    rw [cq_m8 (by omega), cq_d8 (by omega)]
    refine cq_yrv hW hi (nm_r ?_ (nm_r (nI_1 i) h'))
    show _ = cq_gs W res i (cq_fd (cq_gs W res) i 0)
    unfold cq_rv
    by_cases c : cq_in W i
    · rw [if_pos c]; exact (if_pos c).symm
    · rw [if_neg c, Int32.add_zero]; exact (if_neg c).symm
theorem i_vc_sum {k : Nat} {u : SX} {v : SY} (I : i_Rel k u v) (hk : k + 5 ≤ 2560) : wpX_sum (fun r => wpY_sum (fun r' => r' = r ∧ i_Rel (k + 5) u v) v) u := by
  obtain ⟨s, m, W, way, pic, ker, rx, ry, fr, rfl, rfl, hs, hm, hW, hr, hf⟩ := I
  refine cq_xsum hW (cq_ysum hW ⟨?_, ⟨s, m, W, way, pic, ker, rx, ry, fr, rfl, rfl, hs, hm, hW, hr, hf⟩⟩)
  rw [cq_gsc hr]
