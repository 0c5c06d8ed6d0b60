/-! ways 1 and 2 -/
def cq_gc (p : Nat) (r : Nat → Int32) : Nat → Int32 := upd r p 0
theorem cq_xclear {post : SX → Prop} {fs fm fw fc : Int32} {pic ker res fr : Nat → Int32} (H : ∀ r', (∀ p, p < 64 → r' p = 0) → post (fs, fm, fw, fc, pic, ker, r', fr)) : wpX_clearResult post (fs, fm, fw, fc, pic, ker, res, fr) := by
  have h := H (cq_fd cq_gc 64 res) (fun p hp => (cq_fu (g := cq_gc) (C := fun _ => True) (h := fun _ _ => 0) (fun p r c => rfl) (fun p r c => absurd trivial c) res 64).1 p hp trivial)
  refine cq_ls 64 (fun n i => wX_clearResult_2 post fs fm fw fc n (nI i) pic ker (cq_fd cq_gc i res) fr) ?_ ?_ 0 (by omega)
  · intro n
    exact br_t (cq_le (a := 64) (b := 64) (by omega) (by omega)) h
  · intro n i hi h'
    refine br_f (cq_nle (a := 64) hi (by omega)) ⟨vp_in_nI hi (by omega), nm_r ?_ (nm_r (nI_1 i) h')⟩
    rw [nI_clamp (by omega)]
    rfl
theorem cq_gaP {W p : Nat} {v r : Nat → Int32} (c : cq_in W p) : cq_ga W v p r = upd r p (r p + v p) := if_pos c
theorem cq_xshare {post : SX → Prop} {s m W q : Nat} (hs : s = 1 ∨ s = 2) (hm : m ≤ 1) (hW : W ≤ 8) (hq : q < 18) {fc : Int32} {pic ker res fr : Nat → Int32} (h : post (nI s, nI m, nI W, fc, pic, ker, cq_fd (cq_ga W (fun p => cq_t ker pic s m (p % 8) (p / 8) q)) 64 res, fr)) : wpX_addShareOfKernelNumber post (nI s, nI m, nI W, fc, pic, ker, res, fr) (nI q) := by
  refine ⟨by decide, nm_r (cq_d9 (by omega)) ⟨by decide, by decide, nm_r (cq_md hq) ⟨by decide, nm_r (cq_m3 (by omega)) ?_⟩⟩⟩
  refine cq_dl W W (fun n y => wX_addShareOfKernelNumber_20 post (nI q) (nI (q / 9)) (nI (q % 9 / 3)) (nI (q % 3)) (nI s) (nI m) (nI W) fc n (nI y) pic ker (cq_fd (cq_ga W (fun p => cq_t ker pic s m (p % 8) (p / 8) q)) (8 * y) res) fr) (fun n y k x => wX_addShareOfKernelNumber_32 post (wX_addShareOfKernelNumber_20 post (nI q) (nI (q / 9)) (nI (q % 9 / 3)) (nI (q % 3)) (nI s) (nI m) (nI W) fc n) (nI q) (nI (q / 9)) (nI (q % 9 / 3)) (nI (q % 3)) (nI y) (nI s) (nI m) (nI W) fc k (nI x) pic ker (cq_fd (cq_ga W (fun p => cq_t ker pic s m (p % 8) (p / 8) q)) (8 * y + x) res) fr) ?_ ?_ ?_ ?_
  · intro n
    refine br_t (cq_le (by omega) (by omega)) ?_
    rw [cq_all hW cq_gan]
    exact h
  · intro n y hy h'
    exact br_f (cq_nle hy (by omega)) h'
  · intro n y m hy h'
    rw [cq_row hW cq_gan]
    exact br_t (cq_le (by omega) (by omega)) (nm_r (nI_1 y) h')
  · intro n y k x hy hx h'
    have hin : vp_in (8 * nI y + nI x) 64 := pk_in (8 * y + x) 64 (by omega) (cq_i8 y x)
    have hsx := cq_sx hs (show x < 8 by omega)
    have hsy := cq_sx hs (show y < 8 by omega)
    refine br_f (cq_nle hx (by omega)) ?_
    rw [cq_co hm, cq_co hm]
    refine cq_xpz (by omega) (by omega) (by omega) ⟨hin, vp_in_nI hq (by omega), hin, nm_r ?_ (nm_r (nI_1 x) h')⟩
    show _ = cq_ga W (fun p => cq_t ker pic s m (p % 8) (p / 8) q) (8 * y + x) (cq_fd (cq_ga W (fun p => cq_t ker pic s m (p % 8) (p / 8) q)) (8 * y + x) res)
    generalize cq_fd (cq_ga W (fun p => cq_t ker pic s m (p % 8) (p / 8) q)) (8 * y + x) res = R
    rw [cq_gaP (by omega), pk_cl _ (cq_i8 y x), nI_clamp (by omega), (cq_pq (by omega) y).1, (cq_pq (by omega) y).2]
    rfl
theorem cq_way1 {post : SX → Prop} {s m W : Nat} (hs : s = 1 ∨ s = 2) (hm : m ≤ 1) (hW : W ≤ 8) {fc : Int32} {pic ker res fr : Nat → Int32} (hf : cq_fb fr) (H : ∀ r' f', cq_ok ker pic s m W r' → cq_fb f' → post (nI s, nI m, nI W, fc, pic, ker, r', f')) : wpX_moveByKernel post (nI s, nI m, nI W, fc, pic, ker, res, fr) := by
  unfold wpX_moveByKernel
  dsimp only
  refine cq_xclear (fun r0 hr0 => ?_)
  refine loop_0 (fun n q r => wX_moveByKernel_6 post n (nI q) (nI s) (nI m) (nI W) fc pic ker r fr) (fun q r => ∀ p, cq_in W p → r p = cq_sm (cq_t ker pic s m (p % 8) (p / 8)) q) 18 r0 (fun p hp => hr0 p (by omega)) ?_ ?_
  · intro n r hr
    exact br_t (cq_le (a := 18) (b := 18) (by omega) (by omega)) (H r fr hr hf)
  · intro n q r hq hr k
    have hcl : (nI q).toNatClampNeg = q := nI_clamp (by omega)
    refine br_f (cq_nle (a := 18) hq (by omega)) ⟨vp_in_nI hq (by omega), ?_⟩
    rw [hcl]
    by_cases z : ker q = 0
    · refine br_t z (nm_r (nI_1 q) (k r (fun p hp => ?_)))
      have e : cq_t ker pic s m (p % 8) (p / 8) q = 0 := by unfold cq_t; rw [z, Int32.zero_mul]
      rw [hr p hp, cq_sms, e, Int32.add_zero]
    · refine br_f z (cq_xshare hs hm hW hq (nm_r (nI_1 q) (k _ (fun p hp => ?_))))
      rw [cq_ga1 hW hp, hr p hp]
      rfl
/-! way 2 -/
def cq_gr (c : Nat) (pic : Nat → Int32) (p : Nat) (f : Nat → Int32) : Nat → Int32 := upd f (10 * (p / 8 + 1) + (p % 8 + 1)) (pic (64 * c + p))
theorem cq_gr1 (c : Nat) (pic f : Nat → Int32) : ∀ n, n ≤ 64 → ∀ a b, a < 10 → b < 10 → cq_fd (cq_gr c pic) n f (10 * b + a) = if 1 ≤ a ∧ a ≤ 8 ∧ 1 ≤ b ∧ b ≤ 8 ∧ 8 * (b - 1) + (a - 1) < n then pic (64 * c + (8 * (b - 1) + (a - 1))) else f (10 * b + a) := by
  intro n
  induction n with
  | zero =>
    intro _ a b ha hb
    rw [if_neg (by omega)]
    rfl
  | succ n ih =>
    intro hn a b ha hb
    rw [cq_fd_s]
    show upd _ (10 * (n / 8 + 1) + (n % 8 + 1)) (pic (64 * c + n)) (10 * b + a) = _
    by_cases e : 10 * b + a = 10 * (n / 8 + 1) + (n % 8 + 1)
    · have e2 : n = 8 * (b - 1) + (a - 1) := by omega
      rw [if_pos (by omega), e, pk_us, ← e2]
    · rw [pk_un e, ih (by omega) a b ha hb]
      by_cases d : 1 ≤ a ∧ a ≤ 8 ∧ 1 ≤ b ∧ b ≤ 8 ∧ 8 * (b - 1) + (a - 1) < n
      · rw [if_pos d, if_pos (by omega)]
      · rw [if_neg d, if_neg (by omega)]
theorem cq_gr2 {c : Nat} {pic f : Nat → Int32} (hf : cq_fb f) {a b : Nat} (ha : a < 10) (hb : b < 10) : cq_fd (cq_gr c pic) 64 f (10 * b + a) = cq_pz pic c a b := by
  rw [cq_gr1 c pic f 64 (by omega) a b ha hb]
  by_cases d : 1 ≤ a ∧ a ≤ 8 ∧ 1 ≤ b ∧ b ≤ 8
  · rw [if_pos (by omega)]
    exact (if_pos d).symm
  · rw [if_neg (by omega), cq_pz0 d]
    exact hf a b ha hb (by omega)
theorem cq_gr3 {c : Nat} {pic f : Nat → Int32} (hf : cq_fb f) : cq_fb (cq_fd (cq_gr c pic) 64 f) := by
  intro a b ha hb h
  rw [cq_gr2 hf ha hb]
  exact cq_pz0 (by omega)
theorem cq_xframe {post : SX → Prop} {c : Nat} (hc : c ≤ 1) {fs fm fw fc : Int32} {pic ker res fr : Nat → Int32} (h : post (fs, fm, fw, fc, pic, ker, res, cq_fd (cq_gr c pic) 64 fr)) : wpX_frameLayer post (fs, fm, fw, fc, pic, ker, res, fr) (nI c) := by
  refine cq_dl 8 8 (fun n y => wX_frameLayer_2 post (nI c) fs fm fw fc n (nI y) pic ker res (cq_fd (cq_gr c pic) (8 * y) fr)) (fun n y k x => wX_frameLayer_10 post (wX_frameLayer_2 post (nI c) fs fm fw fc n) (nI c) (nI y) fs fm fw fc k (nI x) pic ker res (cq_fd (cq_gr c pic) (8 * y + x) fr)) ?_ ?_ ?_ ?_
  · intro n
    exact br_t (cq_le (a := 8) (b := 8) (by omega) (by omega)) h
  · intro n y hy h'
    exact br_f (cq_nle (a := 8) hy (by omega)) h'
  · intro n y m hy h'
    exact br_t (cq_le (a := 8) (b := 8) (by omega) (by omega)) (nm_r (nI_1 y) h')
  · intro n y k x hy hx h'
    refine br_f (cq_nle (a := 8) hx (by omega)) ⟨pk_in (64 * c + (8 * y + x)) 128 (by omega) (cq_i64 c y x), pk_in (10 * (y + 1) + (x + 1)) 100 (by omega) (cq_if y x), nm_r ?_ (nm_r (nI_1 x) h')⟩
    show _ = cq_gr c pic (8 * y + x) (cq_fd (cq_gr c pic) (8 * y + x) fr)
    unfold cq_gr
    rw [pk_cl _ (cq_i64 c y x), pk_cl _ (cq_if y x), (cq_pq hx y).1, (cq_pq hx y).2]
def cq_st (ker f : Nat → Int32) (c k q : Nat) : Int32 := ker (9 * c + q) * f (k + 10 * (q / 3) + q % 3)
theorem cq_xsf {post : Int32 → Prop} {c k : Nat} (hc : c ≤ 1) (hk : k ≤ 77) {fs fm fw fc : Int32} {pic ker res fr : Nat → Int32} (h : post (cq_sm (cq_st ker fr c k) 9)) : wpX_sumInFrame post (fs, fm, fw, fc, pic, ker, res, fr) (nI c) (nI k) := by
  refine cq_dl 3 3 (fun n j => wX_sumInFrame_5 post (nI c) (nI k) fs fm fw fc pic ker res fr n (cq_sm (cq_st ker fr c k) (3 * j)) (nI j)) (fun n j l i => wX_sumInFrame_14 post (wX_sumInFrame_5 post (nI c) (nI k) fs fm fw fc pic ker res fr n) (nI c) (nI k) (nI j) fs fm fw fc pic ker res fr l (cq_sm (cq_st ker fr c k) (3 * j + i)) (nI i)) ?_ ?_ ?_ ?_
  · intro n
    exact br_t (cq_le (a := 3) (b := 3) (by omega) (by omega)) h
  · intro n j hj h'
    exact br_f (cq_nle (a := 3) hj (by omega)) h'
  · intro n j l hj h'
    exact br_t (cq_le (a := 3) (b := 3) (by omega) (by omega)) (nm_r (nI_1 j) h')
  · intro n j l i hj hi h'
    refine br_f (cq_nle (a := 3) hi (by omega)) ⟨pk_in (9 * c + 3 * j + i) 18 (by omega) (cq_i9 c j i), nm_r (congrArg ker (pk_cl _ (cq_i9 c j i))) ⟨pk_in (k + 10 * j + i) 100 (by omega) (cq_ik k j i), nm_r ?_ (nm_r (nI_1 i) h')⟩⟩
    show _ = cq_sm (cq_st ker fr c k) (3 * j + i) + cq_st ker fr c k (3 * j + i)
    have e1 : (3 * j + i) / 3 = j := by omega
    have e2 : (3 * j + i) % 3 = i := by omega
    have e3 : 9 * c + 3 * j + i = 9 * c + (3 * j + i) := by omega
    rw [pk_cl _ (cq_ik k j i), e3]
    unfold cq_st
    rw [e1, e2]
theorem cq_xaddf {post : SX → Prop} {s m W c : Nat} (hm : m ≤ 1) (hW : W ≤ 8) (hc : c ≤ 1) (hB : ∀ x, x < W → s * x + (1 - m) ≤ 7) {fc : Int32} {pic ker res fr : Nat → Int32} (h : post (nI s, nI m, nI W, fc, pic, ker, cq_fd (cq_ga W (fun p => cq_sm (cq_st ker fr c (10 * (s * (p / 8) + (1 - m)) + (s * (p % 8) + (1 - m)))) 9)) 64 res, fr)) : wpX_addFramedLayer post (nI s, nI m, nI W, fc, pic, ker, res, fr) (nI c) := by
  refine nm_r (pk_sub (a := 1) hm) ?_
  refine cq_dl W W (fun n y => wX_addFramedLayer_9 post (nI c) (nI (1 - m)) (nI s) (nI m) (nI W) fc n (nI y) pic ker (cq_fd (cq_ga W (fun p => cq_sm (cq_st ker fr c (10 * (s * (p / 8) + (1 - m)) + (s * (p % 8) + (1 - m)))) 9)) (8 * y) res) fr) (fun n y k x => wX_addFramedLayer_20 post (wX_addFramedLayer_9 post (nI c) (nI (1 - m)) (nI s) (nI m) (nI W) fc n) (nI c) (nI (1 - m)) (nI y) (nI s) (nI m) (nI W) fc k (nI x) pic ker (cq_fd (cq_ga W (fun p => cq_sm (cq_st ker fr c (10 * (s * (p / 8) + (1 - m)) + (s * (p % 8) + (1 - m)))) 9)) (8 * y + x) res) fr) ?_ ?_ ?_ ?_
  · intro n
    refine br_t (cq_le (by omega) (by omega)) ?_
    rw [cq_all hW cq_gan]
    exact h
  · intro n y hy h'
    exact br_f (cq_nle hy (by omega)) h'
  · intro n y m hy h'
    rw [cq_row hW cq_gan]
    exact br_t (cq_le (by omega) (by omega)) (nm_r (nI_1 y) h')
  · intro n y k x hy hx h'
    have hin : vp_in (8 * nI y + nI x) 64 := pk_in (8 * y + x) 64 (by omega) (cq_i8 y x)
    have bx := hB x hx
    have by' := hB y hy
    refine br_f (cq_nle hx (by omega)) (nm_r (cq_ic s y x (1 - m)) ⟨hin, cq_xsf hc (by omega) ⟨hin, nm_r ?_ (nm_r (nI_1 x) h')⟩⟩)
    show _ = cq_ga W (fun p => cq_sm (cq_st ker fr c (10 * (s * (p / 8) + (1 - m)) + (s * (p % 8) + (1 - m)))) 9) (8 * y + x) (cq_fd (cq_ga W (fun p => cq_sm (cq_st ker fr c (10 * (s * (p / 8) + (1 - m)) + (s * (p % 8) + (1 - m)))) 9)) (8 * y + x) res)
    generalize cq_fd (cq_ga W (fun p => cq_sm (cq_st ker fr c (10 * (s * (p / 8) + (1 - m)) + (s * (p % 8) + (1 - m)))) 9)) (8 * y + x) res = R
    rw [cq_gaP (by omega), pk_cl _ (cq_i8 y x), (cq_pq (by omega) y).1, (cq_pq (by omega) y).2]
theorem cq_stt {ker pic f : Nat → Int32} {s m c x y : Nat} (hm : m ≤ 1) (hf : ∀ a b, a < 10 → b < 10 → f (10 * b + a) = cq_pz pic c a b) (hx : s * x + (1 - m) ≤ 7) (hy : s * y + (1 - m) ≤ 7) : cq_sm (cq_st ker f c (10 * (s * y + (1 - m)) + (s * x + (1 - m)))) 9 = cq_sm (fun q => cq_t ker pic s m x y (9 * c + q)) 9 := by
  refine cq_smc 9 (fun q hq => ?_)
  unfold cq_st cq_t
  have e1 : 10 * (s * y + (1 - m)) + (s * x + (1 - m)) + 10 * (q / 3) + q % 3 = 10 * (s * y + (1 - m) + q / 3) + (s * x + (1 - m) + q % 3) := by omega
  have e2 : (9 * c + q) / 9 = c := by omega
  have e3 : s * x + (9 * c + q) % 3 + 1 - m = s * x + (1 - m) + q % 3 := by omega
  have e4 : s * y + (9 * c + q) % 9 / 3 + 1 - m = s * y + (1 - m) + q / 3 := by omega
  rw [e1, e2, e3, e4, hf _ _ (by omega) (by omega)]
theorem cq_way2 {post : SX → Prop} {s m W : Nat} (hm : m ≤ 1) (hW : W ≤ 8) (hB : ∀ x, x < W → s * x + (1 - m) ≤ 7) {fc : Int32} {pic ker res fr : Nat → Int32} (hf : cq_fb fr) (H : ∀ r' f', cq_ok ker pic s m W r' → cq_fb f' → post (nI s, nI m, nI W, fc, pic, ker, r', f')) : wpX_moveByFrame post (nI s, nI m, nI W, fc, pic, ker, res, fr) := by
  unfold wpX_moveByFrame
  dsimp only
  refine cq_xclear (fun r0 hr0 => ?_)
  refine loop_0 (fun n c (st : (Nat → Int32) × (Nat → Int32)) => wX_moveByFrame_6 post n (nI c) (nI s) (nI m) (nI W) fc pic ker st.1 st.2) (fun c st => (∀ p, cq_in W p → st.1 p = cq_sm (cq_t ker pic s m (p % 8) (p / 8)) (9 * c)) ∧ cq_fb st.2) 2 (r0, fr) ⟨fun p hp => hr0 p (by omega), hf⟩ ?_ ?_
  · intro n st hst
    exact br_t (cq_le (a := 2) (b := 2) (by omega) (by omega)) (H st.1 st.2 hst.1 hst.2)
  · intro n c st hc hst k
    refine br_f (cq_nle (a := 2) hc (by omega)) (cq_xframe (by omega) ?_)
    refine cq_xaddf hm hW (by omega) hB (nm_r (nI_1 c) (k (cq_fd (cq_ga W (fun p => cq_sm (cq_st ker (cq_fd (cq_gr c pic) 64 st.2) c (10 * (s * (p / 8) + (1 - m)) + (s * (p % 8) + (1 - m)))) 9)) 64 st.1, cq_fd (cq_gr c pic) 64 st.2) ⟨fun p hp => ?_, cq_gr3 hst.2⟩))
    dsimp only
    rw [cq_ga1 hW hp, hst.1 p hp, cq_stt hm (fun a b ha hb => cq_gr2 hst.2 ha hb) (hB _ hp.1) (hB _ hp.2)]
    exact (cq_sma _ (9 * c) 9).symm
