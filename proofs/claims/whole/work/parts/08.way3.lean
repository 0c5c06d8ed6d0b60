/-! way 3: the picture cut off at a place -/
theorem cq_xln {post : Int32 → Prop} {s m W l k : Nat} (hs : s = 1 ∨ s = 2) (hm : m ≤ 1) (hW : W ≤ 8) (hl : l < 8) (hk : k < 3) {fc : Int32} {pic ker res fr : Nat → Int32} (h1 : ∀ x, x < W → s * x + k = l + m → post (nI x)) (h0 : (∀ x, x < W → s * x + k ≠ l + m) → post (-1)) : wpX_resultLineSeeing post (nI s, nI m, nI W, fc, pic, ker, res, fr) (nI l) (nI k) := by
  by_cases c : l + m < k
  · refine nm_r (e' := nI (l + m) - nI k) (by rw [nI_add]) (br_t (pk_sneg (by omega) c) (h0 (fun x hx e => ?_)))
    omega
  refine nm_r (e' := nI (l + m - k)) (by rw [nI_add, pk_sub (by omega)]) (br_f (nI_pos (by omega)) ?_)
  rcases hs with rfl | rfl
  · refine br_f (by decide) (br_f (by decide) ?_)
    by_cases d : W ≤ l + m - k
    · exact br_t (cq_le d (by omega)) (h0 (fun x hx e => by omega))
    · exact br_f (cq_nle (by omega) (by omega)) (h1 _ (by omega) (by omega))
  · refine br_t rfl ⟨by decide, ?_⟩
    rw [cq_m2 (by omega)]
    by_cases z : (l + m - k) % 2 = 0
    · rw [z]
      refine br_t rfl (br_t rfl ⟨by decide, ?_⟩)
      rw [cq_d2 (by omega)]
      by_cases d : W ≤ (l + m - k) / 2
      · exact br_t (cq_le d (by omega)) (h0 (fun x hx e => by omega))
      · exact br_f (cq_nle (by omega) (by omega)) (h1 _ (by omega) (by omega))
    · exact br_f (nI_ne0 (by omega) (by omega)) (h0 (fun x hx e => by omega))
def cq_cut (pic : Nat → Int32) (n : Nat) : Nat → Int32 := fun k => if k < n then pic k else 0
theorem cq_cutl {pic : Nat → Int32} {n k : Nat} (h : k < n) : cq_cut pic n k = pic k := if_pos h
theorem cq_cutg {pic : Nat → Int32} {n k : Nat} (h : n ≤ k) : cq_cut pic n k = 0 := if_neg (by omega)
theorem cq_cuts {pic : Nat → Int32} {n k : Nat} (h : k ≠ n) : cq_cut pic (n + 1) k = cq_cut pic n k := by
  by_cases c : k < n
  · rw [cq_cutl c, cq_cutl (by omega)]
  · rw [cq_cutg (by omega), cq_cutg (by omega)]
theorem cq_cut0 {pic : Nat → Int32} {n : Nat} (h : pic n = 0) : cq_cut pic (n + 1) = cq_cut pic n := by
  funext k
  by_cases c : k = n
  · subst c; rw [cq_cutl (by omega), cq_cutg (by omega), h]
  · exact cq_cuts c
theorem cq_pzc {f g : Nat → Int32} {c a b : Nat} (h : (1 ≤ a ∧ a ≤ 8 ∧ 1 ≤ b ∧ b ≤ 8) → f (64 * c + (8 * (b - 1) + (a - 1))) = g (64 * c + (8 * (b - 1) + (a - 1)))) : cq_pz f c a b = cq_pz g c a b := by
  unfold cq_pz
  by_cases d : 1 ≤ a ∧ a ≤ 8 ∧ 1 ≤ b ∧ b ≤ 8
  · rw [if_pos d, if_pos d, h d]
  · rw [if_neg d, if_neg d]
theorem cq_pzn {pic : Nat → Int32} {p c a b : Nat} (h : ¬ (c = p / 64 ∧ a = p % 8 + 1 ∧ b = p % 64 / 8 + 1)) : cq_pz (cq_cut pic (p + 1)) c a b = cq_pz (cq_cut pic p) c a b :=
  cq_pzc (fun d => cq_cuts (by omega))
theorem cq_pzi (p : Nat) : 64 * (p / 64) + (8 * (p % 64 / 8) + p % 8) = p := by omega
theorem cq_pzy (pic : Nat → Int32) (p : Nat) : cq_pz (cq_cut pic (p + 1)) (p / 64) (p % 8 + 1) (p % 64 / 8 + 1) = pic p := by
  rw [cq_pz1 (by omega) (by omega), cq_pzi, cq_cutl (by omega)]
theorem cq_pzz (pic : Nat → Int32) (p : Nat) : cq_pz (cq_cut pic p) (p / 64) (p % 8 + 1) (p % 64 / 8 + 1) = 0 := by
  rw [cq_pz1 (by omega) (by omega), cq_pzi, cq_cutg (by omega)]
theorem cq_tl {ker pic : Nat → Int32} {s m x y p q : Nat} (h : q / 9 ≠ p / 64) : cq_t ker (cq_cut pic (p + 1)) s m x y q = cq_t ker (cq_cut pic p) s m x y q := by
  unfold cq_t
  rw [cq_pzn (fun z => h z.1)]
def cq_V (ker pic : Nat → Int32) (s m W p : Nat) (r : Nat → Int32) : Prop := ∀ P, cq_in W P → r P = cq_sm (cq_t ker (cq_cut pic p) s m (P % 8) (P / 8)) 18
def cq_jt (ker pic : Nat → Int32) (s m p k P q : Nat) : Int32 := if q < 9 * (p / 64) + k then cq_t ker (cq_cut pic (p + 1)) s m (P % 8) (P / 8) q else cq_t ker (cq_cut pic p) s m (P % 8) (P / 8) q
def cq_J (ker pic : Nat → Int32) (s m W p k : Nat) (r : Nat → Int32) : Prop := ∀ P, cq_in W P → r P = cq_sm (cq_jt ker pic s m p k P) 18
theorem cq_Jt {ker pic : Nat → Int32} {s m W p : Nat} {r : Nat → Int32} (h : cq_V ker pic s m W p r) : cq_J ker pic s m W p 0 r := by
  intro P hP
  rw [h P hP]
  refine cq_smc 18 (fun q hq => ?_)
  unfold cq_jt
  by_cases c : q < 9 * (p / 64) + 0
  · rw [if_pos c, cq_tl (by omega)]
  · rw [if_neg c]
theorem cq_Je {ker pic : Nat → Int32} {s m W p : Nat} {r : Nat → Int32} (h : cq_J ker pic s m W p 9 r) : cq_V ker pic s m W (p + 1) r := by
  intro P hP
  rw [h P hP]
  refine cq_smc 18 (fun q hq => ?_)
  unfold cq_jt
  by_cases c : q < 9 * (p / 64) + 9
  · rw [if_pos c]
  · rw [if_neg c, cq_tl (by omega)]
theorem cq_jo {ker pic : Nat → Int32} {s m p k P q : Nat} (h : q ≠ 9 * (p / 64) + k) : cq_jt ker pic s m p (k + 1) P q = cq_jt ker pic s m p k P q := by
  unfold cq_jt
  by_cases c : q < 9 * (p / 64) + k
  · rw [if_pos c, if_pos (by omega)]
  · rw [if_neg c, if_neg (by omega)]
theorem cq_j0 {ker pic : Nat → Int32} {s m p k P : Nat} (hk : k < 9) : cq_jt ker pic s m p k P (9 * (p / 64) + k) = ker (9 * (p / 64) + k) * cq_pz (cq_cut pic p) (p / 64) (s * (P % 8) + k % 3 + 1 - m) (s * (P / 8) + k / 3 + 1 - m) := by
  unfold cq_jt cq_t
  have e1 : (9 * (p / 64) + k) / 9 = p / 64 := by omega
  have e2 : (9 * (p / 64) + k) % 3 = k % 3 := by omega
  have e3 : (9 * (p / 64) + k) % 9 / 3 = k / 3 := by omega
  rw [if_neg (by omega), e1, e2, e3]
theorem cq_j1 {ker pic : Nat → Int32} {s m p k P : Nat} (hk : k < 9) : cq_jt ker pic s m p (k + 1) P (9 * (p / 64) + k) = ker (9 * (p / 64) + k) * cq_pz (cq_cut pic (p + 1)) (p / 64) (s * (P % 8) + k % 3 + 1 - m) (s * (P / 8) + k / 3 + 1 - m) := by
  unfold cq_jt cq_t
  have e1 : (9 * (p / 64) + k) / 9 = p / 64 := by omega
  have e2 : (9 * (p / 64) + k) % 3 = k % 3 := by omega
  have e3 : (9 * (p / 64) + k) % 9 / 3 = k / 3 := by omega
  rw [if_pos (by omega), e1, e2, e3]
theorem cq_Js {ker pic : Nat → Int32} {s m W p k : Nat} (hm : m ≤ 1) (hp : p < 128) (hk : k < 9) {r r' : Nat → Int32} (hJ : cq_J ker pic s m W p k r) (hy : ∀ P, cq_in W P → s * (P % 8) + k % 3 = p % 8 + m → s * (P / 8) + k / 3 = p % 64 / 8 + m → r' P = r P + ker (9 * (p / 64) + k) * pic p) (hn : ∀ P, cq_in W P → ¬ (s * (P % 8) + k % 3 = p % 8 + m ∧ s * (P / 8) + k / 3 = p % 64 / 8 + m) → r' P = r P) : cq_J ker pic s m W p (k + 1) r' := by
  intro P hP
  by_cases z : s * (P % 8) + k % 3 = p % 8 + m ∧ s * (P / 8) + k / 3 = p % 64 / 8 + m
  · rw [hy P hP z.1 z.2, hJ P hP]
    refine (cq_sm1 (Q := 9 * (p / 64) + k) ?_ 18 (by omega) (fun q _ hne => cq_jo hne)).symm
    have e1 : s * (P % 8) + k % 3 + 1 - m = p % 8 + 1 := by omega
    have e2 : s * (P / 8) + k / 3 + 1 - m = p % 64 / 8 + 1 := by omega
    rw [cq_j0 hk, cq_j1 hk, e1, e2, cq_pzy, cq_pzz, Int32.mul_zero, Int32.zero_add]
  · rw [hn P hP z, hJ P hP]
    refine cq_smc 18 (fun q _ => ?_)
    by_cases e : q = 9 * (p / 64) + k
    · subst e
      rw [cq_j0 hk, cq_j1 hk, cq_pzn (by omega)]
    · exact (cq_jo e).symm
theorem cq_inj {s x x' i t : Nat} (hs : s = 1 ∨ s = 2) (h : s * x + i = t) (h' : s * x' + i = t) : x = x' := by
  rcases hs with rfl | rfl <;> omega
theorem cq_xsp40 {post : SX → Prop} {J22 : Int32 → (Nat → Int32) → (Nat → Int32) → (Nat → Int32) → (Nat → Int32) → Prop} {s m W p j : Nat} {Y : Int32} (hs : s = 1 ∨ s = 2) (hm : m ≤ 1) (hW : W ≤ 8) (hp : p < 128) (hj : j < 3) {fc : Int32} {pic ker res fr : Nat → Int32} (hY : (∃ y, y < W ∧ s * y + j = p % 64 / 8 + m ∧ Y = nI y) ∨ (Y < 0 ∧ ∀ y, y < W → s * y + j ≠ p % 64 / 8 + m)) (hr : cq_J ker pic s m W p (3 * j) res) (hk : ∀ r', cq_J ker pic s m W p (3 * (j + 1)) r' → J22 (nI (j + 1)) pic ker r' fr) : ∃ n, wX_spreadPixel_40 post J22 (nI p) (nI (p / 64)) (nI (p % 64 / 8)) (nI (p % 8)) (nI j) Y (nI s) (nI m) (nI W) fc n 0 pic ker res fr := by
  refine loop_0 (fun n i r => wX_spreadPixel_40 post J22 (nI p) (nI (p / 64)) (nI (p % 64 / 8)) (nI (p % 8)) (nI j) Y (nI s) (nI m) (nI W) fc n (nI i) pic ker r fr) (fun i r => cq_J ker pic s m W p (3 * j + i) r) 3 res hr ?_ ?_
  · intro n r h
    exact br_t (cq_le (a := 3) (b := 3) (by omega) (by omega)) (nm_r (nI_1 j) (hk r h))
  · intro n i r hi h k
    have e1 : (3 * j + i) % 3 = i := by omega
    have e2 : (3 * j + i) / 3 = j := by omega
    refine br_f (cq_nle (a := 3) hi (by omega)) (cq_xln hs hm hW (by omega) hi (fun x hx ex => ?_) (fun hno => ?_))
    · refine br_f (nI_pos (by omega)) ?_
      rcases hY with ⟨y, hy, ey, rfl⟩ | ⟨hneg, hnoy⟩
      · have hin : vp_in (8 * nI y + nI x) 64 := pk_in (8 * y + x) 64 (by omega) (cq_i8 y x)
        have e3 : 9 * (p / 64) + 3 * j + i = 9 * (p / 64) + (3 * j + i) := by omega
        refine br_f (nI_pos (by omega)) ⟨pk_in (9 * (p / 64) + 3 * j + i) 18 (by omega) (cq_i9 _ j i), nm_r (congrArg ker (pk_cl _ (cq_i9 _ j i))) ⟨hin, vp_in_nI hp (by omega), hin, ?_⟩⟩
        rw [pk_cl _ (cq_i8 y x), nI_clamp (by omega)]
        refine nm_e (nm_r (nI_1 i) (k _ (cq_Js (k := 3 * j + i) hm hp (by omega) h (fun P hP z1 z2 => ?_) (fun P hP z => ?_))))
        · rw [e1] at z1
          rw [e2] at z2
          have a := cq_inj hs z1 ex
          have b := cq_inj hs z2 ey
          have e : P = 8 * y + x := by omega
          rw [e, pk_us, e3]
        · refine pk_un (fun e => z ?_)
          rw [e1, e2, e, (cq_pq (by omega) y).1, (cq_pq (by omega) y).2]
          exact ⟨ex, ey⟩
      · refine br_t hneg (nm_r (nI_1 i) (k r (cq_Js (k := 3 * j + i) hm hp (by omega) h (fun P hP z1 z2 => ?_) (fun P hP z => rfl))))
        rw [e2] at z2
        exact absurd z2 (hnoy _ hP.2)
    · refine br_t (show (-1 : Int32) < 0 by decide) (nm_r (nI_1 i) (k r (cq_Js (k := 3 * j + i) hm hp (by omega) h (fun P hP z1 z2 => ?_) (fun P hP z => rfl))))
      rw [e1] at z1
      exact absurd z1 (hno _ hP.1)
theorem cq_d64 {p : Nat} (h : p < 2 ^ 31) : nI p / 64 = nI (p / 64) := pk_div (d := 64) h (by decide) (by decide)
theorem cq_m64 {p : Nat} (h : p < 2 ^ 31) : nI p - nI p / 64 * 64 = nI (p % 64) := pk_rem (d := 64) h (by decide) (by decide)
theorem cq_me {p : Nat} (h : p < 128) : (nI p - nI p / 64 * 64) / 8 = nI (p % 64 / 8) := by
  rw [cq_m64 (by omega), cq_d8 (by omega)]
theorem cq_xspread {post : SX → Prop} {s m W p : Nat} (hs : s = 1 ∨ s = 2) (hm : m ≤ 1) (hW : W ≤ 8) (hp : p < 128) {fc : Int32} {pic ker res fr : Nat → Int32} (hr : cq_V ker pic s m W p res) (H : ∀ r', cq_V ker pic s m W (p + 1) r' → post (nI s, nI m, nI W, fc, pic, ker, r', fr)) : wpX_spreadPixel post (nI s, nI m, nI W, fc, pic, ker, res, fr) (nI p) := by
  refine ⟨by decide, nm_r (cq_d64 (by omega)) ⟨by decide, by decide, nm_r (cq_me hp) ⟨by decide, nm_r (cq_m8 (by omega)) ?_⟩⟩⟩
  refine loop_0 (fun n j r => wX_spreadPixel_22 post (nI p) (nI (p / 64)) (nI (p % 64 / 8)) (nI (p % 8)) (nI s) (nI m) (nI W) fc n (nI j) pic ker r fr) (fun j r => cq_J ker pic s m W p (3 * j) r) 3 res (cq_Jt hr) ?_ ?_
  · intro n r h
    exact br_t (cq_le (a := 3) (b := 3) (by omega) (by omega)) (H r (cq_Je h))
  · intro n j r hj h k
    refine br_f (cq_nle (a := 3) hj (by omega)) (cq_xln hs hm hW (by omega) hj (fun y hy ey => ?_) (fun hno => ?_))
    · exact cq_xsp40 hs hm hW hp hj (Or.inl ⟨y, hy, ey, rfl⟩) h k
    · exact cq_xsp40 hs hm hW hp hj (Or.inr ⟨by decide, hno⟩) h k
theorem cq_sm0 {f : Nat → Int32} (h : ∀ q, f q = 0) : ∀ n, cq_sm f n = 0 := by
  intro n
  induction n with
  | zero => rfl
  | succ n ih => rw [cq_sms, ih, h n, Int32.add_zero]
theorem cq_pz00 {pic : Nat → Int32} {c a b : Nat} : cq_pz (cq_cut pic 0) c a b = 0 := by
  unfold cq_pz
  by_cases d : 1 ≤ a ∧ a ≤ 8 ∧ 1 ≤ b ∧ b ≤ 8
  · rw [if_pos d, cq_cutg (by omega)]
  · rw [if_neg d]
theorem cq_way3 {post : SX → Prop} {s m W : Nat} (hs : s = 1 ∨ s = 2) (hm : m ≤ 1) (hW : W ≤ 8) {fc : Int32} {pic ker res fr : Nat → Int32} (hf : cq_fb fr) (H : ∀ r' f', cq_ok ker pic s m W r' → cq_fb f' → post (nI s, nI m, nI W, fc, pic, ker, r', f')) : wpX_moveByPicture post (nI s, nI m, nI W, fc, pic, ker, res, fr) := by
  unfold wpX_moveByPicture
  dsimp only
  refine cq_xclear (fun r0 hr0 => ?_)
  refine loop_0 (fun n p r => wX_moveByPicture_6 post n (nI p) (nI s) (nI m) (nI W) fc pic ker r fr) (fun p r => cq_V ker pic s m W p r) 128 r0 (fun P hP => ?_) ?_ ?_
  · rw [hr0 P (by omega)]
    refine (cq_sm0 (fun q => ?_) 18).symm
    unfold cq_t
    rw [cq_pz00, Int32.mul_zero]
  · intro n r hr
    refine br_t (nI_le (a := 128) (b := 128) (by omega) (by omega)) (H r fr (fun P hP => ?_) hf)
    rw [hr P hP]
    refine cq_smc 18 (fun q hq => ?_)
    unfold cq_t
    rw [cq_pzc (g := pic) (fun d => cq_cutl (by omega))]
  · intro n p r hp hr k
    have hcl : (nI p).toNatClampNeg = p := nI_clamp (by omega)
    refine br_f (nI_ge (b := 128) hp (by omega)) ⟨vp_in_nI hp (by omega), ?_⟩
    rw [hcl]
    by_cases z : pic p = 0
    · refine br_t z (nm_r (nI_1 p) (k r (fun P hP => ?_)))
      rw [cq_cut0 z]
      exact hr P hP
    · exact br_f z (cq_xspread hs hm hW hp hr (fun r' hr' => nm_r (nI_1 p) (k r' hr')))
