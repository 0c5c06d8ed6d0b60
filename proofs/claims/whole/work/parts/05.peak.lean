/-! peak -/
def cq_gp (W : Nat) (res : Nat → Int32) (p b : Nat) : Nat := if cq_in W p then (if res p ≤ res b then b else p) else b
theorem cq_gpn {W : Nat} {res : Nat → Int32} (p b : Nat) (c : ¬ cq_in W p) : cq_gp W res p b = b := if_neg c
theorem cq_gp1 {W p b : Nat} {res : Nat → Int32} (c : cq_in W p) (d : res p ≤ res b) : cq_gp W res p b = b := by
  unfold cq_gp; rw [if_pos c, if_pos d]
theorem cq_gp0 {W p b : Nat} {res : Nat → Int32} (c : cq_in W p) (d : ¬ res p ≤ res b) : cq_gp W res p b = p := by
  unfold cq_gp; rw [if_pos c, if_neg d]
theorem cq_gpb (W : Nat) (res : Nat → Int32) : ∀ n, cq_fd (cq_gp W res) n 0 ≤ n := by
  intro n
  induction n with
  | zero => exact Nat.le_refl 0
  | succ n ih =>
    rw [cq_fd_s]
    generalize cq_fd (cq_gp W res) n 0 = b at ih ⊢
    by_cases c : cq_in W n
    · by_cases d : res n ≤ res b
      · rw [cq_gp1 c d]; omega
      · rw [cq_gp0 c d]; omega
    · rw [cq_gpn n b c]; omega
theorem cq_fd_0 {σ : Type} (g : Nat → σ → σ) (s : σ) : cq_fd g 0 s = s := rfl
theorem cq_gpd {W n b : Nat} {rx ry : Nat → Int32} (h : cq_ag W rx ry) (i2 : cq_in W b) : cq_gp W rx n b = cq_gp W ry n b ∧ cq_in W (cq_gp W rx n b) := by
  by_cases c : cq_in W n
  · have e : rx n ≤ rx b ↔ ry n ≤ ry b := by rw [h n c, h b i2]
    by_cases d : rx n ≤ rx b
    · rw [cq_gp1 c d, cq_gp1 c (e.mp d)]
      exact ⟨rfl, i2⟩
    · rw [cq_gp0 c d, cq_gp0 c (fun z => d (e.mpr z))]
      exact ⟨rfl, c⟩
  · rw [cq_gpn n b c, cq_gpn n b c]
    exact ⟨rfl, i2⟩
theorem cq_gpc {W : Nat} (h0 : 0 < W) {rx ry : Nat → Int32} (h : cq_ag W rx ry) : ∀ n, cq_fd (cq_gp W rx) n 0 = cq_fd (cq_gp W ry) n 0 ∧ cq_in W (cq_fd (cq_gp W rx) n 0) := by
  intro n
  induction n with
  | zero =>
    have c : cq_in W 0 := by omega
    rw [cq_fd_0, cq_fd_0]
    exact ⟨rfl, c⟩
  | succ n ih =>
    rw [cq_fd_s, cq_fd_s, ← ih.1]
    exact cq_gpd h ih.2
theorem cq_xpeak {post : Int32 → Prop} {W : Nat} (hW : W ≤ 8) {fs fm fc : Int32} {pic ker res fr : Nat → Int32} (h : post (nI (cq_fd (cq_gp W res) 64 0))) : ∃ n, wX_peak_13 post fs fm (nI W) fc pic ker res fr n 0 0 := by
  refine cq_dl W W (fun n y => wX_peak_13 post fs fm (nI W) fc pic ker res fr n (nI (cq_fd (cq_gp W res) (8 * y) 0)) (nI y)) (fun n y m x => wX_peak_23 post (wX_peak_13 post fs fm (nI W) fc pic ker res fr n) (nI y) fs fm (nI W) fc pic ker res fr m (nI (cq_fd (cq_gp W res) (8 * y + x) 0)) (nI x)) ?_ ?_ ?_ ?_
  · intro n
    refine br_t (cq_le (by omega) (by omega)) ?_
    rw [cq_all hW cq_gpn]
    exact h
  · intro n y hy h'
    exact br_f (cq_nle hy (by omega)) h'
  · intro n y m hy h'
    rw [cq_row hW cq_gpn]
    exact br_t (cq_le (by omega) (by omega)) (nm_r (nI_1 y) h')
  · intro n y m x hy hx h'
    have e1 : cq_fd (cq_gp W res) (8 * y + (x + 1)) 0 = cq_gp W res (8 * y + x) (cq_fd (cq_gp W res) (8 * y + x) 0) := rfl
    rw [e1] at h'
    have hb := cq_gpb W res (8 * y + x)
    generalize cq_fd (cq_gp W res) (8 * y + x) 0 = b at h' hb ⊢
    have hin : vp_in (8 * nI y + nI x) 64 := pk_in (8 * y + x) 64 (by omega) (cq_i8 y x)
    have hcl : (8 * nI y + nI x).toNatClampNeg = 8 * y + x := pk_cl _ (cq_i8 y x)
    have hcb : (nI b).toNatClampNeg = b := nI_clamp (by omega)
    have c : cq_in W (8 * y + x) := by omega
    refine br_f (cq_nle hx (by omega)) ⟨hin, vp_in_nI (by omega) (by omega), ?_⟩
    rw [hcl, hcb]
    by_cases d : res (8 * y + x) ≤ res b
    · rw [cq_gp1 c d] at h'
      exact br_t d (nm_r (nI_1 x) h')
    · rw [cq_gp0 c d] at h'
      exact br_f d (nm_r (cq_i8 y x) (nm_r (nI_1 x) h'))
def cq_gy (W : Nat) (res : Nat → Int32) (p : Nat) (x : Int32) : Int32 := if cq_in W p then (if x < 0 then nI p else (if res p ≤ res x.toNatClampNeg then x else nI p)) else x
theorem cq_gyn {W : Nat} {res : Nat → Int32} (p : Nat) (x : Int32) (c : ¬ cq_in W p) : cq_gy W res p x = x := if_neg c
theorem cq_gy2 {W p : Nat} {x : Int32} {res : Nat → Int32} (c : cq_in W p) (z : x < 0) : cq_gy W res p x = nI p := by
  unfold cq_gy; rw [if_pos c, if_pos z]
theorem cq_gy1 {W p b : Nat} {res : Nat → Int32} (hb : b < 64) (c : cq_in W p) (d : res p ≤ res b) : cq_gy W res p (nI b) = nI b := by
  have e : (nI b).toNatClampNeg = b := nI_clamp (by omega)
  unfold cq_gy; rw [if_pos c, if_neg (nI_pos (by omega)), e, if_pos d]
theorem cq_gy0 {W p b : Nat} {res : Nat → Int32} (hb : b < 64) (c : cq_in W p) (d : ¬ res p ≤ res b) : cq_gy W res p (nI b) = nI p := by
  have e : (nI b).toNatClampNeg = b := nI_clamp (by omega)
  unfold cq_gy; rw [if_pos c, if_neg (nI_pos (by omega)), e, if_neg d]
theorem cq_pk {W : Nat} (h0 : 0 < W) (res : Nat → Int32) : ∀ n, n < 64 → cq_fd (cq_gy W res) (n + 1) (-1) = nI (cq_fd (cq_gp W res) (n + 1) 0) := by
  intro n
  induction n with
  | zero =>
    intro _
    have c : cq_in W 0 := by omega
    show cq_gy W res 0 (-1) = nI (cq_gp W res 0 0)
    rw [cq_gy2 c (by decide), cq_gp1 c (Int32.le_refl _)]
  | succ n ih =>
    intro hn
    rw [cq_fd_s _ (n + 1), cq_fd_s _ (n + 1), ih (by omega)]
    have hb := cq_gpb W res (n + 1)
    generalize cq_fd (cq_gp W res) (n + 1) 0 = b at hb ⊢
    by_cases c : cq_in W (n + 1)
    · by_cases d : res (n + 1) ≤ res b
      · rw [cq_gp1 c d, cq_gy1 (by omega) c d]
      · rw [cq_gp0 c d, cq_gy0 (by omega) c d]
    · rw [cq_gpn _ b c, cq_gyn _ _ c]
theorem cq_p0 (res : Nat → Int32) : ∀ n, cq_fd (cq_gy 0 res) n (-1) = -1 := by
  intro n
  induction n with
  | zero => rfl
  | succ n ih => rw [cq_fd_s, ih, cq_gyn _ _ (by omega)]
theorem cq_pb {W : Nat} {res : Nat → Int32} {n : Nat} (hn : n < 64) : cq_fd (cq_gy W res) n (-1) < 0 ∨ ∃ b, b < 64 ∧ cq_fd (cq_gy W res) n (-1) = nI b := by
  by_cases h0 : W = 0
  · subst h0; rw [cq_p0]; exact Or.inl (by decide)
  by_cases h1 : n = 0
  · subst h1
    exact Or.inl (show (-1 : Int32) < 0 by decide)
  obtain ⟨q, rfl⟩ : ∃ q, n = q + 1 := ⟨n - 1, by omega⟩
  have hb := cq_gpb W res (q + 1)
  exact Or.inr ⟨_, by omega, cq_pk (by omega) res q (by omega)⟩
theorem cq_ypeak {post : Int32 → Prop} {W : Nat} (hW : W ≤ 8) {fs fm : Int32} {pic ker res : Nat → Int32} (h : post (cq_fd (cq_gy W res) 64 (-1))) : ∃ n, wY_peak_4 post fs fm (nI W) pic ker res n (-1) 0 := by
  refine cq_ls 64 (fun n i => wY_peak_4 post fs fm (nI W) pic ker res n (cq_fd (cq_gy W res) i (-1)) (nI i)) ?_ ?_ 0 (by omega)
  · intro n
    exact br_t (cq_le (a := 64) (b := 64) (by omega) (by omega)) h
  · intro n i hi h'
    rw [cq_fd_s] at h'
    have hb := cq_pb (W := W) (res := res) hi
    generalize cq_fd (cq_gy W res) i (-1) = st at h' hb ⊢
    have hin : vp_in (nI i) 64 := vp_in_nI hi (by omega)
    have hcl : (nI i).toNatClampNeg = i := nI_clamp (by omega)
    refine br_f (cq_nle (a := 64) hi (by omega)) ⟨by decide, ?_⟩
    rw [cq_m8 (by omega), cq_d8 (by omega)]
    by_cases a : W ≤ i % 8
    · rw [cq_gyn i st (by omega)] at h'
      exact br_t (cq_le a (by omega)) (nm_r (nI_1 i) h')
    by_cases b : W ≤ i / 8
    · rw [cq_gyn i st (by omega)] at h'
      exact br_f (cq_nle (by omega) (by omega)) ⟨by decide, br_t (cq_le b (by omega)) (nm_r (nI_1 i) h')⟩
    have c : cq_in W i := by omega
    refine br_f (cq_nle (by omega) (by omega)) ⟨by decide, br_f (cq_nle (by omega) (by omega)) ?_⟩
    rcases hb with z | ⟨q, hq, rfl⟩
    · rw [cq_gy2 c z] at h'
      exact br_t z (nm_r (nI_1 i) h')
    · have hcq : (nI q).toNatClampNeg = q := nI_clamp (by omega)
      refine br_f (nI_pos (by omega)) ⟨hin, vp_in_nI hq (by omega), ?_⟩
      rw [hcl, hcq]
      by_cases d : res i ≤ res q
      · rw [cq_gy1 hq c d] at h'
        exact br_t d (nm_r (nI_1 i) h')
      · rw [cq_gy0 hq c d] at h'
        exact br_f d (nm_r (nI_1 i) h')
theorem i_vc_peak {k : Nat} {u : SX} {v : SY} (I : i_Rel k u v) (hk : k + 5 ≤ 2560) : wpX_peak (fun r => wpY_peak (fun r' => r' = r ∧ i_Rel (k + 5) u v) v) u := by
  obtain ⟨s, m, W, way, pic, ker, rx, ry, fr, rfl, rfl, hs, hm, hW, hr, hf⟩ := I
  have R : i_Rel (k + 5) (nI s, nI m, nI W, way, pic, ker, rx, fr) (nI s, nI m, nI W, pic, ker, ry) := ⟨s, m, W, way, pic, ker, rx, ry, fr, rfl, rfl, hs, hm, hW, hr, hf⟩
  by_cases h0 : W = 0
  · subst h0
    exact br_t rfl (cq_ypeak hW ⟨cq_p0 ry 64, R⟩)
  · refine br_f (nI_ne0 (by omega) (by omega)) (cq_xpeak hW (cq_ypeak hW ⟨?_, R⟩))
    rw [cq_pk (by omega) ry 63 (by omega), (cq_gpc (by omega) hr 64).1]
