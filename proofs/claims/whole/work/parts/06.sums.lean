/-! move: the picture with zeros around it, the sum under the kernel, the reference's walk, ways 0 and 1 -/
/-- the number at column a - 1, row b - 1 of layer c, 0 outside -/
def cq_pz (pic : Nat → Int32) (c a b : Nat) : Int32 := if 1 ≤ a ∧ a ≤ 8 ∧ 1 ≤ b ∧ b ≤ 8 then pic (64 * c + (8 * (b - 1) + (a - 1))) else 0
def cq_t (ker pic : Nat → Int32) (s m x y q : Nat) : Int32 := ker q * cq_pz pic (q / 9) (s * x + q % 3 + 1 - m) (s * y + q % 9 / 3 + 1 - m)
def cq_sm (t : Nat → Int32) : Nat → Int32
  | 0 => 0
  | n + 1 => cq_sm t n + t n
def cq_cv (ker pic : Nat → Int32) (s m p : Nat) : Int32 := cq_sm (cq_t ker pic s m (p % 8) (p / 8)) 18
theorem cq_sms (t : Nat → Int32) (n : Nat) : cq_sm t (n + 1) = cq_sm t n + t n := rfl
theorem cq_smc {f g : Nat → Int32} : ∀ n, (∀ q, q < n → f q = g q) → cq_sm f n = cq_sm g n := by
  intro n
  induction n with
  | zero => intro _; rfl
  | succ n ih =>
    intro h
    rw [cq_sms, cq_sms, ih (fun q hq => h q (by omega)), h n (by omega)]
theorem cq_sm1 {f g : Nat → Int32} {Q : Nat} {d : Int32} (hQ : g Q = f Q + d) : ∀ n, Q < n → (∀ q, q < n → q ≠ Q → g q = f q) → cq_sm g n = cq_sm f n + d := by
  intro n
  induction n with
  | zero => intro h _; omega
  | succ n ih =>
    intro h hq
    rw [cq_sms, cq_sms]
    by_cases e : n = Q
    · subst e
      rw [cq_smc n (fun q z => hq q (by omega) (by omega)), hQ, Int32.add_assoc]
    · rw [ih (by omega) (fun q z => hq q (by omega)), hq n (by omega) e, Int32.add_assoc, Int32.add_assoc, Int32.add_comm d]
theorem cq_sma (t : Nat → Int32) (a : Nat) : ∀ n, cq_sm t (a + n) = cq_sm t a + cq_sm (fun q => t (a + q)) n := by
  intro n
  induction n with
  | zero => exact (Int32.add_zero _).symm
  | succ n ih =>
    show cq_sm t (a + n) + t (a + n) = cq_sm t a + (cq_sm (fun q => t (a + q)) n + t (a + n))
    rw [ih, Int32.add_assoc]
theorem cq_pz0 {pic : Nat → Int32} {c a b : Nat} (h : ¬ (1 ≤ a ∧ a ≤ 8 ∧ 1 ≤ b ∧ b ≤ 8)) : cq_pz pic c a b = 0 := if_neg h
theorem cq_pz1 {pic : Nat → Int32} {c a b : Nat} (ha : a < 8) (hb : b < 8) : cq_pz pic c (a + 1) (b + 1) = pic (64 * c + (8 * b + a)) := if_pos (by omega)
theorem cq_xpz {post : Int32 → Prop} {c a b : Nat} (hc : c ≤ 1) (ha : a < 100) (hb : b < 100) {fs fm fw fc : Int32} {pic ker res fr : Nat → Int32} (h : post (cq_pz pic c a b)) : wpX_pixelOrZero post (fs, fm, fw, fc, pic, ker, res, fr) (nI c) (nI a - 1) (nI b - 1) := by
  unfold wpX_pixelOrZero
  dsimp only
  by_cases a0 : a = 0
  · subst a0
    rw [cq_pz0 (by omega)] at h
    exact cq_iw0 (Or.inl (by decide)) (br_t rfl h)
  obtain ⟨a, rfl⟩ : ∃ a', a = a' + 1 := ⟨a - 1, by omega⟩
  rw [nI_pred a]
  by_cases a8 : 8 ≤ a
  · rw [cq_pz0 (by omega)] at h
    exact cq_iw0 (Or.inr (nI_lt (a := 7) (by omega) (by omega))) (br_t rfl h)
  refine cq_iw1 (nI_pos (by omega)) (nI_nlt (a := 7) (by omega) (by omega)) (br_f cq_10 ?_)
  by_cases b0 : b = 0
  · subst b0
    rw [cq_pz0 (by omega)] at h
    exact cq_iw0 (Or.inl (by decide)) (br_t rfl h)
  obtain ⟨b, rfl⟩ : ∃ b', b = b' + 1 := ⟨b - 1, by omega⟩
  rw [nI_pred b]
  by_cases b8 : 8 ≤ b
  · rw [cq_pz0 (by omega)] at h
    exact cq_iw0 (Or.inr (nI_lt (a := 7) (by omega) (by omega))) (br_t rfl h)
  refine cq_iw1 (nI_pos (by omega)) (nI_nlt (a := 7) (by omega) (by omega)) (br_f cq_10 ⟨pk_in (64 * c + (8 * b + a)) 128 (by omega) (cq_i64 c b a), ?_⟩)
  rw [cq_pz1 (by omega) (by omega)] at h
  rw [pk_cl _ (cq_i64 c b a)]
  exact h
theorem cq_ypz {post : Int32 → Prop} {c a b : Nat} (hc : c ≤ 1) (ha : a < 100) (hb : b < 100) {fs fm fw : Int32} {pic ker res : Nat → Int32} (h : post (cq_pz pic c a b)) : wpY_pixelAt post (fs, fm, fw, pic, ker, res) (nI c) (nI a - 1) (nI b - 1) := by
  by_cases a0 : a = 0
  · subst a0
    rw [cq_pz0 (by omega)] at h
    exact br_t (by decide) h
  obtain ⟨a, rfl⟩ : ∃ a', a = a' + 1 := ⟨a - 1, by omega⟩
  rw [nI_pred a]
  by_cases a8 : 8 ≤ a
  · rw [cq_pz0 (by omega)] at h
    exact br_f (nI_pos (by omega)) (br_t (nI_lt (a := 7) (by omega) (by omega)) h)
  by_cases b0 : b = 0
  · subst b0
    rw [cq_pz0 (by omega)] at h
    exact br_f (nI_pos (by omega)) (br_f (nI_nlt (a := 7) (by omega) (by omega)) (br_t (by decide) h))
  obtain ⟨b, rfl⟩ : ∃ b', b = b' + 1 := ⟨b - 1, by omega⟩
  rw [nI_pred b]
  by_cases b8 : 8 ≤ b
  · rw [cq_pz0 (by omega)] at h
    exact br_f (nI_pos (by omega)) (br_f (nI_nlt (a := 7) (by omega) (by omega)) (br_f (nI_pos (by omega)) (br_f (nI_ge (b := b) (a := 7) (by omega) (by omega)) h)))
  refine br_f (nI_pos (by omega)) (br_f (nI_nlt (a := 7) (by omega) (by omega)) (br_f (nI_pos (by omega)) (br_t (nI_le (b := 7) (by omega) (by omega)) ⟨pk_in (64 * c + (8 * b + a)) 128 (by omega) (cq_i64 c b a), ?_⟩)))
  rw [cq_pz1 (by omega) (by omega)] at h
  rw [pk_cl _ (cq_i64 c b a)]
  exact h
theorem cq_sx {s x : Nat} (hs : s = 1 ∨ s = 2) (hx : x < 8) : s * x ≤ 14 := by
  rcases hs with rfl | rfl <;> omega
theorem cq_d9 {p : Nat} (h : p < 2 ^ 31) : nI p / 9 = nI (p / 9) := pk_div (d := 9) h (by decide) (by decide)
theorem cq_d3 {p : Nat} (h : p < 2 ^ 31) : nI p / 3 = nI (p / 3) := pk_div (d := 3) h (by decide) (by decide)
theorem cq_m9 {p : Nat} (h : p < 2 ^ 31) : nI p - nI p / 9 * 9 = nI (p % 9) := pk_rem (d := 9) h (by decide) (by decide)
theorem cq_m3 {p : Nat} (h : p < 2 ^ 31) : nI p - nI p / 3 * 3 = nI (p % 3) := pk_rem (d := 3) h (by decide) (by decide)
theorem cq_md {p : Nat} (h : p < 18) : (nI p - nI p / 9 * 9) / 3 = nI (p % 9 / 3) := by
  rw [cq_m9 (by omega), cq_d3 (by omega)]
theorem cq_yprod {post : Int32 → Prop} {s m x y : Nat} (hs : s = 1 ∨ s = 2) (hm : m ≤ 1) (hx : x < 8) (hy : y < 8) {fw : Int32} {pic ker res : Nat → Int32} (h : post (cq_sm (cq_t ker pic s m x y) 18)) : wpY_product post (nI s, nI m, fw, pic, ker, res) (nI x) (nI y) := by
  have hsx := cq_sx hs hx
  have hsy := cq_sx hs hy
  refine cq_ls 18 (fun n i => wY_product_5 post (nI x) (nI y) (nI s) (nI m) fw pic ker res n (cq_sm (cq_t ker pic s m x y) i) (nI i)) ?_ ?_ 0 (by omega)
  · intro n
    exact br_t (cq_le (a := 18) (b := 18) (by omega) (by omega)) h
  · intro n i hi h'
    refine br_f (cq_nle (a := 18) hi (by omega)) ⟨by decide, nm_r (cq_d9 (by omega)) ⟨by decide, nm_r (cq_m3 (by omega)) ⟨by decide, by decide, nm_r (cq_md hi) ⟨vp_in_nI hi (by omega), ?_⟩⟩⟩⟩
    rw [cq_co hm, cq_co hm]
    refine cq_ypz (by omega) (by omega) (by omega) (nm_r ?_ (nm_r (nI_1 i) h'))
    rw [nI_clamp (by omega)]
    rfl
/-! stores over the square -/
def cq_gm (W : Nat) (v : Nat → Int32) (p : Nat) (r : Nat → Int32) : Nat → Int32 := if cq_in W p then upd r p (v p) else r
theorem cq_gmn {W : Nat} {v : Nat → Int32} (p : Nat) (r : Nat → Int32) (c : ¬ cq_in W p) : cq_gm W v p r = r := if_neg c
theorem cq_gm1 {W : Nat} (hW : W ≤ 8) {v r : Nat → Int32} {p : Nat} (hp : cq_in W p) : cq_fd (cq_gm W v) 64 r p = v p :=
  (cq_fu (g := cq_gm W v) (C := cq_in W) (h := fun p _ => v p) (fun p r c => if_pos c) (fun p r c => if_neg c) r 64).1 p (by omega) hp
def cq_ga (W : Nat) (v : Nat → Int32) (p : Nat) (r : Nat → Int32) : Nat → Int32 := if cq_in W p then upd r p (r p + v p) else r
theorem cq_gan {W : Nat} {v : Nat → Int32} (p : Nat) (r : Nat → Int32) (c : ¬ cq_in W p) : cq_ga W v p r = r := if_neg c
theorem cq_ga1 {W : Nat} (hW : W ≤ 8) {v r : Nat → Int32} {p : Nat} (hp : cq_in W p) : cq_fd (cq_ga W v) 64 r p = r p + v p :=
  (cq_fu (g := cq_ga W v) (C := cq_in W) (h := fun p a => a + v p) (fun p r c => if_pos c) (fun p r c => if_neg c) r 64).1 p (by omega) hp
theorem cq_ymove {post : Int32 → SY → Prop} {s m W : Nat} (hs : s = 1 ∨ s = 2) (hm : m ≤ 1) (hW : W ≤ 8) {pic ker res : Nat → Int32} (h : post (nI W) (nI s, nI m, nI W, pic, ker, cq_fd (cq_gm W (cq_cv ker pic s m)) 64 res)) : ∃ n, wY_move_10 post (nI s) (nI m) (nI W) n 0 pic ker res := by
  refine cq_dl W W (fun n y => wY_move_10 post (nI s) (nI m) (nI W) n (nI y) pic ker (cq_fd (cq_gm W (cq_cv ker pic s m)) (8 * y) res)) (fun n y k x => wY_move_20 post (wY_move_10 post (nI s) (nI m) (nI W) n) (nI y) (nI s) (nI m) (nI W) k (nI x) pic ker (cq_fd (cq_gm W (cq_cv ker pic s m)) (8 * y + x) res)) ?_ ?_ ?_ ?_
  · intro n
    refine br_t (cq_le (by omega) (by omega)) ?_
    rw [cq_all hW cq_gmn]
    exact h
  · intro n y hy h'
    exact br_f (cq_nle hy (by omega)) h'
  · intro n y m hy h'
    rw [cq_row hW cq_gmn]
    exact br_t (cq_le (by omega) (by omega)) (nm_r (nI_1 y) h')
  · intro n y k x hy hx h'
    refine br_f (cq_nle hx (by omega)) (cq_yprod hs hm (by omega) (by omega) ⟨pk_in (8 * y + x) 64 (by omega) (cq_i8 y x), nm_r ?_ (nm_r (nI_1 x) h')⟩)
    show _ = cq_gm W (cq_cv ker pic s m) (8 * y + x) (cq_fd (cq_gm W (cq_cv ker pic s m)) (8 * y + x) res)
    unfold cq_gm cq_cv
    rw [pk_cl _ (cq_i8 y x), if_pos (by omega), (cq_pq (by omega) y).1, (cq_pq (by omega) y).2]
/-! way 0 -/
theorem cq_q9 {c j i : Nat} (hj : j < 3) (hi : i < 3) : (9 * c + 3 * j + i) / 9 = c ∧ (9 * c + 3 * j + i) % 3 = i ∧ (9 * c + 3 * j + i) % 9 / 3 = j := by omega
theorem cq_xsuk {post : Int32 → Prop} {s m x y : Nat} (hs : s = 1 ∨ s = 2) (hm : m ≤ 1) (hx : x < 8) (hy : y < 8) {fw fc : Int32} {pic ker res fr : Nat → Int32} (h : post (cq_sm (cq_t ker pic s m x y) 18)) : wpX_sumUnderKernel post (nI s, nI m, fw, fc, pic, ker, res, fr) ((nI s * nI x) - nI m) ((nI s * nI y) - nI m) := by
  have hsx := cq_sx hs hx
  have hsy := cq_sx hs hy
  refine cq_ls 2 (fun n c => wX_sumUnderKernel_5 post ((nI s * nI x) - nI m) ((nI s * nI y) - nI m) (nI s) (nI m) fw fc pic ker res fr n (cq_sm (cq_t ker pic s m x y) (9 * c)) (nI c)) ?_ ?_ 0 (by omega)
  · intro n
    exact br_t (cq_le (a := 2) (b := 2) (by omega) (by omega)) h
  intro n c hc h1
  refine br_f (cq_nle (a := 2) hc (by omega)) ?_
  refine cq_ls 3 (fun k j => wX_sumUnderKernel_14 post (wX_sumUnderKernel_5 post ((nI s * nI x) - nI m) ((nI s * nI y) - nI m) (nI s) (nI m) fw fc pic ker res fr n) ((nI s * nI x) - nI m) ((nI s * nI y) - nI m) (nI c) (nI s) (nI m) fw fc pic ker res fr k (cq_sm (cq_t ker pic s m x y) (9 * c + 3 * j)) (nI j)) ?_ ?_ 0 (by omega)
  · intro k
    exact br_t (cq_le (a := 3) (b := 3) (by omega) (by omega)) (nm_r (nI_1 c) h1)
  intro k j hj h2
  refine br_f (cq_nle (a := 3) hj (by omega)) ?_
  refine cq_ls 3 (fun l i => wX_sumUnderKernel_23 post (wX_sumUnderKernel_5 post ((nI s * nI x) - nI m) ((nI s * nI y) - nI m) (nI s) (nI m) fw fc pic ker res fr n) (wX_sumUnderKernel_14 post (wX_sumUnderKernel_5 post ((nI s * nI x) - nI m) ((nI s * nI y) - nI m) (nI s) (nI m) fw fc pic ker res fr n) ((nI s * nI x) - nI m) ((nI s * nI y) - nI m) (nI c) (nI s) (nI m) fw fc pic ker res fr k) ((nI s * nI x) - nI m) ((nI s * nI y) - nI m) (nI c) (nI j) (nI s) (nI m) fw fc pic ker res fr l (cq_sm (cq_t ker pic s m x y) (9 * c + 3 * j + i)) (nI i)) ?_ ?_ 0 (by omega)
  · intro l
    exact br_t (cq_le (a := 3) (b := 3) (by omega) (by omega)) (nm_r (nI_1 j) h2)
  intro l i hi h3
  refine br_f (cq_nle (a := 3) hi (by omega)) ⟨pk_in (9 * c + 3 * j + i) 18 (by omega) (cq_i9 c j i), nm_r (congrArg ker (pk_cl _ (cq_i9 c j i))) ?_⟩
  rw [cq_co0 hm, cq_co0 hm]
  refine cq_xpz (by omega) (by omega) (by omega) (nm_r ?_ (nm_r (nI_1 i) h3))
  show _ = cq_sm (cq_t ker pic s m x y) (9 * c + 3 * j + i) + cq_t ker pic s m x y (9 * c + 3 * j + i)
  unfold cq_t
  rw [(cq_q9 hj hi).1, (cq_q9 hj hi).2.1, (cq_q9 hj hi).2.2]
/-- what a way of moving owes -/
def cq_ok (ker pic : Nat → Int32) (s m W : Nat) (r : Nat → Int32) : Prop := ∀ p, cq_in W p → r p = cq_cv ker pic s m p
theorem cq_way0 {post : SX → Prop} {s m W : Nat} (hs : s = 1 ∨ s = 2) (hm : m ≤ 1) (hW : W ≤ 8) {fc : Int32} {pic ker res fr : Nat → Int32} (hf : cq_fb fr) (H : ∀ r' f', cq_ok ker pic s m W r' → cq_fb f' → post (nI s, nI m, nI W, fc, pic, ker, r', f')) : wpX_moveByResult post (nI s, nI m, nI W, fc, pic, ker, res, fr) := by
  have h := H (cq_fd (cq_gm W (cq_cv ker pic s m)) 64 res) fr (fun p hp => cq_gm1 hW hp) hf
  refine cq_dl W W (fun n y => wX_moveByResult_2 post (nI s) (nI m) (nI W) fc n (nI y) pic ker (cq_fd (cq_gm W (cq_cv ker pic s m)) (8 * y) res) fr) (fun n y k x => wX_moveByResult_12 post (wX_moveByResult_2 post (nI s) (nI m) (nI W) fc n) (nI y) (nI s) (nI m) (nI W) fc k (nI x) pic ker (cq_fd (cq_gm W (cq_cv ker pic s m)) (8 * y + x) res) fr) ?_ ?_ ?_ ?_
  · intro n
    refine br_t (cq_le (by omega) (by omega)) ?_
    rw [cq_all hW cq_gmn]
    exact h
  · intro n y hy h'
    exact br_f (cq_nle hy (by omega)) h'
  · intro n y m hy h'
    rw [cq_row hW cq_gmn]
    exact br_t (cq_le (by omega) (by omega)) (nm_r (nI_1 y) h')
  · intro n y k x hy hx h'
    refine br_f (cq_nle hx (by omega)) (cq_xsuk hs hm (by omega) (by omega) ⟨pk_in (8 * y + x) 64 (by omega) (cq_i8 y x), nm_r ?_ (nm_r (nI_1 x) h')⟩)
    show _ = cq_gm W (cq_cv ker pic s m) (8 * y + x) (cq_fd (cq_gm W (cq_cv ker pic s m)) (8 * y + x) res)
    unfold cq_gm cq_cv
    rw [pk_cl _ (cq_i8 y x), if_pos (by omega), (cq_pq (by omega) y).1, (cq_pq (by omega) y).2]
