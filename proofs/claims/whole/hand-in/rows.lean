section
/-! numbers: rows pasted from kit/rows (pk_), then steps, loops, indices -/
theorem pk_us {f : Nat → Int32} {k : Nat} {x : Int32} : upd f k x k = x := if_pos rfl
theorem pk_un {f : Nat → Int32} {k j : Nat} {x : Int32} (h : j ≠ k) : upd f k x j = f j := if_neg h
theorem pk_sub {a b : Nat} (h : b ≤ a) : nI a - nI b = nI (a - b) := by
  obtain ⟨c, rfl⟩ : ∃ c, a = c + b := ⟨a - b, by omega⟩
  rw [← nI_add, Int32.add_sub_cancel, Nat.add_sub_cancel]
theorem pk_mul (a b : Nat) : nI a * nI b = nI (a * b) := (Int32.ofNat_mul a b).symm
theorem pk_div {a d : Nat} (ha : a < 2 ^ 31) (h0 : 0 < d) (hd : d < 2 ^ 31) : nI a / nI d = nI (a / d) := by
  apply Int32.toInt_inj.mp
  rw [lg_idiv_nonneg (by rw [nI_toInt ha]; omega) (by rw [nI_toInt hd]; omega), nI_toInt ha, nI_toInt hd, nI_toInt (Nat.lt_of_le_of_lt (Nat.div_le_self a d) ha)]
  first | rfl | exact (Int.natCast_ediv _ _).symm
theorem pk_rem {a d : Nat} (ha : a < 2 ^ 31) (h0 : 0 < d) (hd : d < 2 ^ 31) : nI a - nI a / nI d * nI d = nI (a % d) := by
  rw [pk_div ha h0 hd, pk_mul, pk_sub (Nat.div_mul_le_self a d)]
  exact congrArg nI (by have := Nat.div_add_mod' a d; omega)
theorem pk_sub_toInt {a b : Nat} (ha : a < 2 ^ 30) (hb : b < 2 ^ 30) : (nI a - nI b).toInt = (a : Int) - b := by
  rw [Int32.toInt_sub, nI_toInt (by omega), nI_toInt (by omega)]
  exact Int.bmod_eq_of_le (by omega) (by omega)
theorem pk_sneg {a b : Nat} (hb : b < 2 ^ 30) (h : a < b) : nI a - nI b < 0 := by
  rw [Int32.lt_iff_toInt_lt, pk_sub_toInt (by omega) hb, show (0 : Int32).toInt = 0 from by decide]
  omega
theorem pk_le {x y : Int32} {A B : Prop} (a b : Nat) (f : a ≤ b → A) (g : b < a → B) (hx : x = nI a := by rfl) (hy : y = nI b := by rfl) (ha : a < 2 ^ 31 := by omega) (hb : b < 2 ^ 31 := by omega) : (x ≤ y → A) ∧ (¬ x ≤ y → B) := by
  subst hx hy
  rw [nI_leI ha hb]
  exact ⟨f, fun z => g (by omega)⟩
theorem pk_in {x : Int32} (n N : Nat) (h : n < N) (hx : x = nI n := by rfl) (hN : N < 2 ^ 31 := by omega) : vp_in x N := by
  subst hx
  exact vp_in_nI h hN
theorem pk_cl {x : Int32} (n : Nat) (hx : x = nI n := by rfl) (h : n < 2 ^ 31 := by omega) : x.toNatClampNeg = n := by
  subst hx
  exact nI_clamp h
/-- g 0, g 1, .. g (n - 1), one after the other -/
def cq_fd {σ : Type} (g : Nat → σ → σ) : Nat → σ → σ
  | 0, s => s
  | n + 1, s => g n (cq_fd g n s)
theorem cq_fd_s {σ : Type} (g : Nat → σ → σ) (n : Nat) (s : σ) : cq_fd g (n + 1) s = g n (cq_fd g n s) := rfl
theorem cq_skip {σ : Type} (g : Nat → σ → σ) (a : Nat) (s : σ) : ∀ d : Nat, (∀ p t, a ≤ p → p < a + d → g p t = t) → cq_fd g (a + d) s = cq_fd g a s := by
  intro d
  induction d with
  | zero => intro _; rfl
  | succ d ih =>
    intro h
    have e : cq_fd g (a + (d + 1)) s = g (a + d) (cq_fd g (a + d) s) := rfl
    rw [e, h _ _ (by omega) (by omega)]
    exact ih (fun p t h1 h2 => h p t h1 (by omega))
/-- the places of a result of width W -/
abbrev cq_in (W p : Nat) : Prop := p % 8 < W ∧ p / 8 < W
theorem cq_row {σ : Type} {g : Nat → σ → σ} {W : Nat} (hW : W ≤ 8) (hg : ∀ p t, ¬ cq_in W p → g p t = t) (y : Nat) (s : σ) : cq_fd g (8 * y + W) s = cq_fd g (8 * (y + 1)) s := by
  have e : 8 * (y + 1) = (8 * y + W) + (8 - W) := by omega
  rw [e]
  exact (cq_skip g _ s _ (fun p t h1 h2 => hg p t (by omega))).symm
theorem cq_all {σ : Type} {g : Nat → σ → σ} {W : Nat} (hW : W ≤ 8) (hg : ∀ p t, ¬ cq_in W p → g p t = t) (s : σ) : cq_fd g (8 * W) s = cq_fd g 64 s := by
  have e : 64 = (8 * W) + (64 - 8 * W) := by omega
  rw [e]
  exact (cq_skip g _ s _ (fun p t h1 h2 => hg p t (by omega))).symm
theorem cq_fu {g : Nat → (Nat → Int32) → Nat → Int32} {C : Nat → Prop} {h : Nat → Int32 → Int32} (h1 : ∀ p r, C p → g p r = upd r p (h p (r p))) (h0 : ∀ p r, ¬ C p → g p r = r) (r : Nat → Int32) : ∀ n, (∀ p, p < n → C p → cq_fd g n r p = h p (r p)) ∧ (∀ p, (n ≤ p ∨ ¬ C p) → cq_fd g n r p = r p) := by
  intro n
  induction n with
  | zero => exact ⟨fun p hp => absurd hp (Nat.not_lt_zero p), fun p _ => rfl⟩
  | succ n ih =>
    obtain ⟨i1, i0⟩ := ih
    rw [cq_fd_s]
    by_cases c : C n
    · rw [h1 n _ c]
      constructor
      · intro p hp hc
        by_cases e : p = n
        · subst e; rw [pk_us, i0 p (Or.inl (Nat.le_refl p))]
        · rw [pk_un e]; exact i1 p (by omega) hc
      · intro p hp
        have e : p ≠ n := by
          intro e; subst e
          rcases hp with hp | hp
          · omega
          · exact hp c
        rw [pk_un e]
        exact i0 p (hp.imp (by omega) id)
    · rw [h0 n _ c]
      constructor
      · intro p hp hc
        have e : p ≠ n := by intro e; subst e; exact c hc
        exact i1 p (by omega) hc
      · intro p hp
        exact i0 p (hp.imp (by omega) id)
theorem cq_ls (N : Nat) (W : Nat → Nat → Prop) (hx : ∀ n, W (n + 1) N) (hS : ∀ n i, i < N → W n (i + 1) → W (n + 1) i) (i0 : Nat) (hi : i0 ≤ N) : ∃ n, W n i0 := by
  have h : ∀ d i, i + d = N → ∃ n, W n i := by
    intro d
    induction d with
    | zero => intro i hi; have e : i = N := by omega
              subst e; exact ⟨_, hx 0⟩
    | succ d ih => intro i hi; obtain ⟨n, hn⟩ := ih (i + 1) (by omega); exact ⟨n + 1, hS n i (by omega) hn⟩
  exact h (N - i0) i0 (by omega)
theorem cq_dl (H W : Nat) (WO : Nat → Nat → Prop) (WI : Nat → Nat → Nat → Nat → Prop) (hx : ∀ n, WO (n + 1) H) (hO : ∀ n y, y < H → (∃ m, WI n y m 0) → WO (n + 1) y) (hI : ∀ n y m, y < H → WO n (y + 1) → WI n y (m + 1) W) (hS : ∀ n y m x, y < H → x < W → WI n y m (x + 1) → WI n y (m + 1) x) : ∃ n, WO n 0 :=
  cq_ls H WO hx (fun n y hy h => hO n y hy (cq_ls W (WI n y) (fun m => hI n y m hy h) (fun m x hx h => hS n y m x hy hx h) 0 (Nat.zero_le _))) 0 (Nat.zero_le _)
theorem cq_i8 (y x : Nat) : 8 * nI y + nI x = nI (8 * y + x) := by
  show nI 8 * nI y + nI x = _
  rw [pk_mul, nI_add]
theorem cq_j64 (c p : Nat) : 64 * nI c + nI p = nI (64 * c + p) := by
  show nI 64 * nI c + nI p = _
  rw [pk_mul, nI_add]
theorem cq_i64 (c y x : Nat) : ((64 * nI c) + (8 * nI y)) + nI x = nI (64 * c + (8 * y + x)) := by
  show ((nI 64 * nI c) + (nI 8 * nI y)) + nI x = _
  rw [pk_mul, pk_mul, nI_add, nI_add, Nat.add_assoc]
theorem cq_i9 (c j i : Nat) : ((9 * nI c) + (3 * nI j)) + nI i = nI (9 * c + 3 * j + i) := by
  show ((nI 9 * nI c) + (nI 3 * nI j)) + nI i = _
  rw [pk_mul, pk_mul, nI_add, nI_add]
theorem cq_if (y x : Nat) : (((10 * (nI y + 1)) + nI x) + 1) = nI (10 * (y + 1) + (x + 1)) := by
  show (((nI 10 * (nI y + nI 1)) + nI x) + nI 1) = _
  rw [nI_add, pk_mul, nI_add, nI_add, Nat.add_assoc]
theorem cq_ic (s y x e : Nat) : ((10 * ((nI s * nI y) + nI e)) + (nI s * nI x)) + nI e = nI (10 * (s * y + e) + (s * x + e)) := by
  show ((nI 10 * ((nI s * nI y) + nI e)) + (nI s * nI x)) + nI e = _
  rw [pk_mul, pk_mul, nI_add, pk_mul, nI_add, nI_add, Nat.add_assoc]
theorem cq_ik (k j i : Nat) : (nI k + (10 * nI j)) + nI i = nI (k + 10 * j + i) := by
  show (nI k + (nI 10 * nI j)) + nI i = _
  rw [pk_mul, nI_add, nI_add]
/-- a coordinate, moved on by one -/
theorem cq_co {m : Nat} (hm : m ≤ 1) (s x i : Nat) : ((nI s * nI x) + nI i) - nI m = nI (s * x + i + 1 - m) - 1 := by
  obtain rfl | rfl : m = 0 ∨ m = 1 := by omega
  · rw [pk_mul, nI_add, nI_0, Int32.sub_zero]
    exact (nI_pred _).symm
  · rw [pk_mul, nI_add, Nat.add_sub_cancel]
    rfl
theorem cq_co0 {m : Nat} (hm : m ≤ 1) (s x i : Nat) : ((nI s * nI x) - nI m) + nI i = nI (s * x + i + 1 - m) - 1 := by
  rw [← cq_co hm, Int32.sub_eq_add_neg, Int32.sub_eq_add_neg, Int32.add_assoc, Int32.add_assoc, Int32.add_comm (nI i)]
theorem cq_d8 {p : Nat} (h : p < 2 ^ 31) : nI p / 8 = nI (p / 8) := pk_div (d := 8) h (by decide) (by decide)
theorem cq_m8 {p : Nat} (h : p < 2 ^ 31) : nI p - nI p / 8 * 8 = nI (p % 8) := pk_rem (d := 8) h (by decide) (by decide)
theorem cq_le {a b : Nat} (h : a ≤ b) (hb : b < 100) : nI a ≤ nI b := nI_le h (by omega)
theorem cq_nle {a b : Nat} (h : b < a) (hb : a < 100) : ¬ nI a ≤ nI b := nI_ge h (by omega)
theorem cq_lt0 {a : Nat} (ha : a < 1000) : ¬ nI a < 0 := nI_pos (by omega)
/-- what cut answers -/
def cq_ct (v : Int32) : Int32 := if -20 ≤ v then (if v ≤ 20 then v else 20) else -20
theorem cq_xct {post : Int32 → Prop} {v : Int32} (h : post (cq_ct v)) : wpX_cut post v := by
  unfold cq_ct at h
  by_cases c : -20 ≤ v
  · rw [if_pos c] at h
    by_cases d : v ≤ 20
    · rw [if_pos d] at h; exact br_t c (br_t d h)
    · rw [if_neg d] at h; exact br_t c (br_f d h)
  · rw [if_neg c] at h; exact br_f c h
theorem cq_yct {post : Int32 → Prop} {v : Int32} {u : SY} (h : post (cq_ct v)) : wpY_cut post u v := by
  unfold cq_ct at h
  by_cases c : -20 ≤ v
  · rw [if_pos c] at h
    by_cases d : v ≤ 20
    · rw [if_pos d] at h; exact br_t c (br_t d h)
    · rw [if_neg d] at h; exact br_t c (br_f d h)
  · rw [if_neg c] at h; exact br_f c h
theorem cq_iw1 {post : Int32 → Prop} {x l g : Int32} (h1 : ¬ x < l) (h2 : ¬ g < x) (h : post 1) : wpX_isWithin post x l g := br_f h1 (br_f h2 h)
theorem cq_iw0 {post : Int32 → Prop} {x l g : Int32} (h1 : x < l ∨ g < x) (h : post 0) : wpX_isWithin post x l g := by
  by_cases z : x < l
  · exact br_t z h
  · exact br_f z (br_t (h1.resolve_left z) h)
theorem cq_10 : ¬ (1 : Int32) = 0 := by decide
end
section
/-! the relation, and the methods without a loop -/
def cq_fb (fr : Nat → Int32) : Prop := ∀ a b, a < 10 → b < 10 → (a = 0 ∨ a = 9 ∨ b = 0 ∨ b = 9) → fr (10 * b + a) = 0
def cq_ag (W : Nat) (rx ry : Nat → Int32) : Prop := ∀ p, cq_in W p → rx p = ry p
def i_Rel (k : Nat) (u : SX) (v : SY) : Prop := ∃ (s m W : Nat) (way : Int32) (pic ker rx ry fr : Nat → Int32), u = (nI s, nI m, nI W, way, pic, ker, rx, fr) ∧ v = (nI s, nI m, nI W, pic, ker, ry) ∧ (s = 1 ∨ s = 2) ∧ m ≤ 1 ∧ W ≤ 8 ∧ cq_ag W rx ry ∧ cq_fb fr
theorem i_up {k : Nat} {u : SX} {v : SY} (h : i_Rel k u v) : i_Rel (k + 5) u v := h
theorem i_vc0 : wpX_init (fun u => wpY_init (fun v => i_Rel 0 u v)) :=
  ⟨1, 1, 0, 0, fun _ => 0, fun _ => 0, fun _ => 0, fun _ => 0, fun _ => 0, rfl, rfl, Or.inl rfl, Nat.le_refl 1, Nat.zero_le 8, fun _ _ => rfl, fun _ _ _ _ _ => rfl⟩
theorem cq_range {x M : Int32} {n : Nat} (hM : M.toInt = n) (h : ¬ x < 0) (h5 : ¬ M < x) : ∃ j : Nat, j ≤ n ∧ x = nI j := nI_of2 hM h (Int32.not_lt.mp h5)
theorem i_vc_put {k : Nat} {u : SX} {v : SY} (I : i_Rel k u v) (hk : k + 5 ≤ 2560) (v1 : Int32) (v2 : Int32) : wpX_put (fun r u' => wpY_put (fun r' v' => r' = r ∧ i_Rel (k + 5) u' v') v v1 v2) u v1 v2 := by
  obtain ⟨s, m, W, way, pic, ker, rx, ry, fr, rfl, rfl, hs, hm, hW, hr, hf⟩ := I
  have R : i_Rel (k + 5) (nI s, nI m, nI W, way, pic, ker, rx, fr) (nI s, nI m, nI W, pic, ker, ry) := ⟨s, m, W, way, pic, ker, rx, ry, fr, rfl, rfl, hs, hm, hW, hr, hf⟩
  unfold wpX_put wpX_isPicturePlace
  dsimp only
  by_cases a : v1 < 0
  · exact cq_iw0 (Or.inl a) ⟨rfl, br_t rfl (br_t a ⟨rfl, R⟩)⟩
  by_cases b : 127 < v1
  · exact cq_iw0 (Or.inr b) ⟨rfl, br_t rfl (br_f a (br_t b ⟨rfl, R⟩))⟩
  refine cq_iw1 a b ⟨rfl, br_f cq_10 ?_⟩
  by_cases c : v2 < -20
  · exact cq_iw0 (Or.inl c) (br_t rfl (br_f a (br_f b (br_t c ⟨rfl, R⟩))))
  by_cases d : v2 ≤ 20
  · obtain ⟨j, hj, rfl⟩ := cq_range (n := 127) (by decide) a b
    have hin : vp_in (nI j) 128 := vp_in_nI (by omega) (by omega)
    exact cq_iw1 c (Int32.not_lt.mpr d) (br_f cq_10 ⟨hin, nm_e ⟨hin, nm_e (br_f a (br_f b (br_f c (br_t d ⟨hin, nm_e ⟨hin, nm_e ⟨rfl, ⟨s, m, W, way, _, ker, rx, ry, fr, rfl, rfl, hs, hm, hW, hr, hf⟩⟩⟩⟩))))⟩⟩)
  · exact cq_iw0 (Or.inr (Int32.not_le.mp d)) (br_t rfl (br_f a (br_f b (br_f c (br_f d ⟨rfl, R⟩)))))
theorem i_vc_kernel {k : Nat} {u : SX} {v : SY} (I : i_Rel k u v) (hk : k + 5 ≤ 2560) (v1 : Int32) (v2 : Int32) : wpX_kernel (fun r u' => wpY_kernel (fun r' v' => r' = r ∧ i_Rel (k + 5) u' v') v v1 v2) u v1 v2 := by
  obtain ⟨s, m, W, way, pic, ker, rx, ry, fr, rfl, rfl, hs, hm, hW, hr, hf⟩ := I
  have R : i_Rel (k + 5) (nI s, nI m, nI W, way, pic, ker, rx, fr) (nI s, nI m, nI W, pic, ker, ry) := ⟨s, m, W, way, pic, ker, rx, ry, fr, rfl, rfl, hs, hm, hW, hr, hf⟩
  unfold wpX_kernel
  dsimp only
  by_cases a : v1 < 0
  · exact cq_iw0 (Or.inl a) (br_t rfl (br_t a ⟨rfl, R⟩))
  by_cases b : 17 < v1
  · exact cq_iw0 (Or.inr b) (br_t rfl (br_f a (br_t b ⟨rfl, R⟩)))
  refine cq_iw1 a b (br_f cq_10 ?_)
  by_cases c : v2 < -9
  · exact cq_iw0 (Or.inl c) (br_t rfl (br_f a (br_f b (br_t c ⟨rfl, R⟩))))
  by_cases d : v2 ≤ 9
  · obtain ⟨j, hj, rfl⟩ := cq_range (n := 17) (by decide) a b
    have hin : vp_in (nI j) 18 := vp_in_nI (by omega) (by omega)
    exact cq_iw1 c (Int32.not_lt.mpr d) (br_f cq_10 ⟨hin, nm_e ⟨hin, nm_e (br_f a (br_f b (br_f c (br_t d ⟨hin, nm_e ⟨hin, nm_e ⟨rfl, ⟨s, m, W, way, pic, _, rx, ry, fr, rfl, rfl, hs, hm, hW, hr, hf⟩⟩⟩⟩))))⟩⟩)
  · exact cq_iw0 (Or.inr (Int32.not_le.mp d)) (br_t rfl (br_f a (br_f b (br_f c (br_f d ⟨rfl, R⟩)))))
theorem i_vc_pixel {k : Nat} {u : SX} {v : SY} (I : i_Rel k u v) (hk : k + 5 ≤ 2560) (v1 : Int32) : wpX_pixel (fun r => wpY_pixel (fun r' => r' = r ∧ i_Rel (k + 5) u v) v v1) u v1 := by
  obtain ⟨s, m, W, way, pic, ker, rx, ry, fr, rfl, rfl, hs, hm, hW, hr, hf⟩ := I
  have R : i_Rel (k + 5) (nI s, nI m, nI W, way, pic, ker, rx, fr) (nI s, nI m, nI W, pic, ker, ry) := ⟨s, m, W, way, pic, ker, rx, ry, fr, rfl, rfl, hs, hm, hW, hr, hf⟩
  unfold wpX_pixel wpX_isPicturePlace
  dsimp only
  by_cases a : v1 < 0
  · exact cq_iw0 (Or.inl a) ⟨rfl, br_t rfl (br_t a ⟨rfl, R⟩)⟩
  by_cases b : v1 ≤ 127
  · obtain ⟨j, hj, rfl⟩ := nI_of2 (n := 127) (by decide) a b
    have hin : vp_in (nI j) 128 := vp_in_nI (by omega) (by omega)
    exact cq_iw1 a (Int32.not_lt.mpr b) ⟨rfl, br_f cq_10 ⟨hin, br_f a (br_t b ⟨hin, ⟨rfl, R⟩⟩)⟩⟩
  · exact cq_iw0 (Or.inr (Int32.not_le.mp b)) ⟨rfl, br_t rfl (br_f a (br_f b ⟨rfl, R⟩))⟩
theorem i_vc_width {k : Nat} {u : SX} {v : SY} (I : i_Rel k u v) (hk : k + 5 ≤ 2560) : wpX_width (fun r => wpY_width (fun r' => r' = r ∧ i_Rel (k + 5) u v) v) u := by
  obtain ⟨s, m, W, way, pic, ker, rx, ry, fr, rfl, rfl, hs, hm, hW, hr, hf⟩ := I
  exact ⟨rfl, ⟨s, m, W, way, pic, ker, rx, ry, fr, rfl, rfl, hs, hm, hW, hr, hf⟩⟩
theorem i_vc_way {k : Nat} {u : SX} {v : SY} (I : i_Rel k u v) (hk : k + 5 ≤ 2560) (v1 : Int32) : wpX_way (fun r u' => wpY_way (fun r' => r' = r ∧ i_Rel (k + 5) u' v) v v1) u v1 := by
  obtain ⟨s, m, W, way, pic, ker, rx, ry, fr, rfl, rfl, hs, hm, hW, hr, hf⟩ := I
  have R : ∀ w, i_Rel (k + 5) (nI s, nI m, nI W, w, pic, ker, rx, fr) (nI s, nI m, nI W, pic, ker, ry) := fun w => ⟨s, m, W, w, pic, ker, rx, ry, fr, rfl, rfl, hs, hm, hW, hr, hf⟩
  unfold wpX_way
  dsimp only
  by_cases a : v1 < 0
  · exact cq_iw0 (Or.inl a) (br_t rfl (br_t a ⟨rfl, R _⟩))
  by_cases b : v1 ≤ 3
  · exact cq_iw1 a (Int32.not_lt.mpr b) (br_f cq_10 (br_f a (br_t b ⟨rfl, R _⟩)))
  · exact cq_iw0 (Or.inr (Int32.not_le.mp b)) (br_t rfl (br_f a (br_f b ⟨rfl, R _⟩)))
/-- the width that a move will have -/
def cq_w (s m : Nat) : Nat := (5 + 2 * m) / s + 1
theorem cq_xw {post : Int32 → Prop} {s m : Nat} {fw fc : Int32} {pic ker res fr : Nat → Int32} (hs : s = 1 ∨ s = 2) (hm : m ≤ 1) (h : post (nI (cq_w s m))) : wpX_widthOfMoving post (nI s, nI m, fw, fc, pic, ker, res, fr) := by
  obtain rfl | rfl : m = 0 ∨ m = 1 := by omega
  · rcases hs with rfl | rfl
    · exact nm_e (br_f (by decide) h)
    · exact nm_e (br_t rfl ⟨by decide, h⟩)
  · rcases hs with rfl | rfl
    · exact nm_e (br_f (by decide) h)
    · exact nm_e (br_t rfl ⟨by decide, h⟩)
theorem cq_yw {post : Int32 → Prop} {s m : Nat} {fw : Int32} {pic ker res : Nat → Int32} (hs : s = 1 ∨ s = 2) (hm : m ≤ 1) (h : post (nI (cq_w s m))) : wpY_widthAfter post (nI s, nI m, fw, pic, ker, res) := by
  obtain rfl | rfl : m = 0 ∨ m = 1 := by omega
  · rcases hs with rfl | rfl
    · exact ⟨by decide, h⟩
    · exact ⟨by decide, h⟩
  · rcases hs with rfl | rfl
    · exact ⟨by decide, h⟩
    · exact ⟨by decide, h⟩
theorem i_vc_shape {k : Nat} {u : SX} {v : SY} (I : i_Rel k u v) (hk : k + 5 ≤ 2560) (v1 : Int32) (v2 : Int32) : wpX_shape (fun r u' => wpY_shape (fun r' v' => r' = r ∧ i_Rel (k + 5) u' v') v v1 v2) u v1 v2 := by
  obtain ⟨s, m, W, way, pic, ker, rx, ry, fr, rfl, rfl, hs, hm, hW, hr, hf⟩ := I
  have R : i_Rel (k + 5) (nI s, nI m, nI W, way, pic, ker, rx, fr) (nI s, nI m, nI W, pic, ker, ry) := ⟨s, m, W, way, pic, ker, rx, ry, fr, rfl, rfl, hs, hm, hW, hr, hf⟩
  unfold wpX_shape
  dsimp only
  by_cases a : v1 < 1
  · exact cq_iw0 (Or.inl a) (br_t rfl (br_t a ⟨rfl, R⟩))
  by_cases b : 2 < v1
  · exact cq_iw0 (Or.inr b) (br_t rfl (br_f a (br_t b ⟨rfl, R⟩)))
  refine cq_iw1 a b (br_f cq_10 ?_)
  by_cases c : v2 < 0
  · exact cq_iw0 (Or.inl c) (br_t rfl (br_f a (br_f b (br_t c ⟨rfl, R⟩))))
  by_cases d : v2 ≤ 1
  · have a0 : ¬ v1 < 0 := fun z => a (Int32.lt_trans z (by decide))
    obtain ⟨t, ht, rfl⟩ := cq_range (n := 2) (by decide) a0 b
    obtain ⟨q, hq, rfl⟩ := nI_of2 (n := 1) (by decide) c d
    have t1 : t = 1 ∨ t = 2 := by
      have : ¬ t < 1 := fun z => a (nI_lt (b := 1) z (by decide))
      omega
    exact cq_iw1 c (Int32.not_lt.mpr d) (br_f cq_10 (cq_xw t1 hq (br_f a (br_f b (br_f c (br_t d (cq_yw t1 hq ⟨rfl, ⟨t, q, W, way, pic, ker, rx, ry, fr, rfl, rfl, t1, hq, hW, hr, hf⟩⟩)))))))
  · exact cq_iw0 (Or.inr (Int32.not_le.mp d)) (br_t rfl (br_f a (br_f b (br_f c (br_f d ⟨rfl, R⟩)))))
/-- result: out of the square, and in it -/
theorem cq_wm {W : Nat} (hW : W ≤ 8) {x : Int32} (h0 : ¬ x < 0) : nI W - 1 < x ↔ nI W ≤ x := by
  obtain ⟨j, hj, rfl⟩ := nI_of h0
  have e : (nI W - 1).toInt = (W : Int) - 1 := pk_sub_toInt (a := W) (b := 1) (by omega) (by omega)
  rw [Int32.lt_iff_toInt_lt, Int32.le_iff_toInt_le, e, nI_toInt hj, nI_toInt (by omega)]
  omega
theorem cq_xr0 {post : Int32 → Prop} {W : Nat} {fs fm fc x y : Int32} {pic ker res fr : Nat → Int32} (hW : W ≤ 8) (h : x < 0 ∨ nI W ≤ x ∨ y < 0 ∨ nI W ≤ y) (hp : post 0) : wpX_result post (fs, fm, nI W, fc, pic, ker, res, fr) x y := by
  unfold wpX_result
  dsimp only
  by_cases a : x < 0
  · exact cq_iw0 (Or.inl a) (br_t rfl hp)
  by_cases b : nI W ≤ x
  · exact cq_iw0 (Or.inr ((cq_wm hW a).mpr b)) (br_t rfl hp)
  refine cq_iw1 a (fun z => b ((cq_wm hW a).mp z)) (br_f cq_10 ?_)
  by_cases c : y < 0
  · exact cq_iw0 (Or.inl c) (br_t rfl hp)
  · exact cq_iw0 (Or.inr ((cq_wm hW c).mpr (((h.resolve_left a).resolve_left b).resolve_left c))) (br_t rfl hp)
theorem cq_xr1 {post : Int32 → Prop} {W x y : Nat} {fs fm fc : Int32} {pic ker res fr : Nat → Int32} (hW : W ≤ 8) (hx : x < W) (hy : y < W) (hp : post (res (8 * y + x))) : wpX_result post (fs, fm, nI W, fc, pic, ker, res, fr) (nI x) (nI y) := by
  unfold wpX_result
  dsimp only
  have a : ¬ nI x < 0 := nI_pos (by omega)
  have b : ¬ nI y < 0 := nI_pos (by omega)
  refine cq_iw1 a (fun z => cq_nle hx (by omega) ((cq_wm hW a).mp z)) (br_f cq_10 ?_)
  refine cq_iw1 b (fun z => cq_nle hy (by omega) ((cq_wm hW b).mp z)) (br_f cq_10 ⟨pk_in (8 * y + x) 64 (by omega) (cq_i8 y x), ?_⟩)
  rw [pk_cl (8 * y + x) (cq_i8 y x)]
  exact hp
theorem cq_yr0 {post : Int32 → Prop} {W : Nat} {fs fm x y : Int32} {pic ker res : Nat → Int32} (h : x < 0 ∨ nI W ≤ x ∨ y < 0 ∨ nI W ≤ y) (hp : post 0) : wpY_result post (fs, fm, nI W, pic, ker, res) x y := by
  by_cases a : x < 0
  · exact br_t a hp
  by_cases b : nI W ≤ x
  · exact br_f a (br_t b hp)
  by_cases c : y < 0
  · exact br_f a (br_f b (br_t c hp))
  · exact br_f a (br_f b (br_f c (br_f (Int32.not_lt.mpr (((h.resolve_left a).resolve_left b).resolve_left c)) hp)))
theorem cq_yr1 {post : Int32 → Prop} {W x y : Nat} {fs fm : Int32} {pic ker res : Nat → Int32} (hW : W ≤ 8) (hx : x < W) (hy : y < W) (hp : post (res (8 * y + x))) : wpY_result post (fs, fm, nI W, pic, ker, res) (nI x) (nI y) := by
  refine br_f (nI_pos (by omega)) (br_f (cq_nle hx (by omega)) (br_f (nI_pos (by omega)) (br_t (nI_lt hy (by omega)) ⟨pk_in (8 * y + x) 64 (by omega) (cq_i8 y x), ?_⟩)))
  rw [pk_cl (8 * y + x) (cq_i8 y x)]
  exact hp
theorem i_vc_result {k : Nat} {u : SX} {v : SY} (I : i_Rel k u v) (hk : k + 5 ≤ 2560) (v1 : Int32) (v2 : Int32) : wpX_result (fun r => wpY_result (fun r' => r' = r ∧ i_Rel (k + 5) u v) v v1 v2) u v1 v2 := by
  obtain ⟨s, m, W, way, pic, ker, rx, ry, fr, rfl, rfl, hs, hm, hW, hr, hf⟩ := I
  have R : i_Rel (k + 5) (nI s, nI m, nI W, way, pic, ker, rx, fr) (nI s, nI m, nI W, pic, ker, ry) := ⟨s, m, W, way, pic, ker, rx, ry, fr, rfl, rfl, hs, hm, hW, hr, hf⟩
  by_cases h : v1 < 0 ∨ nI W ≤ v1 ∨ v2 < 0 ∨ nI W ≤ v2
  · exact cq_xr0 hW h (cq_yr0 h ⟨rfl, R⟩)
  · have a : ¬ v1 < 0 := fun z => h (Or.inl z)
    have b : ¬ v2 < 0 := fun z => h (Or.inr (Or.inr (Or.inl z)))
    obtain ⟨x, hx, rfl⟩ := nI_of a
    obtain ⟨y, hy, rfl⟩ := nI_of b
    have x1 : x < W := Nat.lt_of_not_le fun z => h (Or.inr (Or.inl (nI_le z hx)))
    have y1 : y < W := Nat.lt_of_not_le fun z => h (Or.inr (Or.inr (Or.inr (nI_le z hy))))
    exact cq_xr1 hW x1 y1 (cq_yr1 hW x1 y1 ⟨(hr (8 * y + x) (by omega)).symm, R⟩)
/-- what result answers at a place of the layer -/
def cq_rv (W : Nat) (res : Nat → Int32) (p : Nat) : Int32 := if cq_in W p then res p else 0
theorem cq_xrv {post : Int32 → Prop} {W x y : Nat} {fs fm fc : Int32} {pic ker res fr : Nat → Int32} (hW : W ≤ 8) (hx : x < 8) (hy : y < 8) (hp : post (cq_rv W res (8 * y + x))) : wpX_result post (fs, fm, nI W, fc, pic, ker, res, fr) (nI x) (nI y) := by
  by_cases c : x < W ∧ y < W
  · refine cq_xr1 hW c.1 c.2 ?_
    have e : cq_rv W res (8 * y + x) = res (8 * y + x) := if_pos (by omega)
    rw [← e]; exact hp
  · have e : cq_rv W res (8 * y + x) = 0 := if_neg (by omega)
    rw [e] at hp
    refine cq_xr0 hW ?_ hp
    by_cases d : x < W
    · exact Or.inr (Or.inr (Or.inr (nI_le (by omega) (by omega))))
    · exact Or.inr (Or.inl (nI_le (by omega) (by omega)))
theorem cq_yrv {post : Int32 → Prop} {W p : Nat} {fs fm : Int32} {pic ker res : Nat → Int32} (hW : W ≤ 8) (hp : p < 64) (h : post (cq_rv W res p)) : wpY_result post (fs, fm, nI W, pic, ker, res) (nI (p % 8)) (nI (p / 8)) := by
  by_cases c : p % 8 < W ∧ p / 8 < W
  · refine cq_yr1 hW c.1 c.2 ?_
    have e : cq_rv W res p = res p := if_pos c
    have e2 : 8 * (p / 8) + p % 8 = p := by omega
    rw [e2, ← e]; exact h
  · have e : cq_rv W res p = 0 := if_neg c
    rw [e] at h
    refine cq_yr0 ?_ h
    by_cases d : p % 8 < W
    · exact Or.inr (Or.inr (Or.inr (nI_le (by omega) (by omega))))
    · exact Or.inr (Or.inl (nI_le (by omega) (by omega)))
theorem cq_rvc {W : Nat} {rx ry : Nat → Int32} (h : cq_ag W rx ry) (p : Nat) : cq_rv W rx p = cq_rv W ry p := by
  unfold cq_rv
  by_cases c : cq_in W p
  · rw [if_pos c, if_pos c]; exact h p c
  · rw [if_neg c, if_neg c]
end
section
/-! fill, take, sum -/
def cq_gf (c : Nat) (A B D E : Int32) (p : Nat) (pic : Nat → Int32) : Nat → Int32 := upd pic (64 * c + p) (cq_ct (((A + (B * nI (p % 8))) + (D * nI (p / 8))) + ((E * nI (p % 8)) * nI (p / 8))))
theorem cq_pq {x : Nat} (hx : x < 8) (y : Nat) : (8 * y + x) % 8 = x ∧ (8 * y + x) / 8 = y := by omega
theorem cq_xfill {post : Int32 → SX → Prop} {c : Nat} (hc : c ≤ 1) {A E B D fs fm fw fc : Int32} {pic ker res fr : Nat → Int32} (h : post 0 (fs, fm, fw, fc, cq_fd (cq_gf c A B D E) 64 pic, ker, res, fr)) : ∃ n, wX_fill_60 post (nI c) A E B D fs fm fw fc n 0 pic ker res fr := by
  refine cq_dl 8 8 (fun n y => wX_fill_60 post (nI c) A E B D fs fm fw fc n (nI y) (cq_fd (cq_gf c A B D E) (8 * y) pic) ker res fr) (fun n y m x => wX_fill_70 post (wX_fill_60 post (nI c) A E B D fs fm fw fc n) (nI c) A E B D (nI y) fs fm fw fc m (nI x) (cq_fd (cq_gf c A B D E) (8 * y + x) pic) ker res fr) ?_ ?_ ?_ ?_
  · intro n
    exact br_t (cq_le (a := 8) (b := 8) (by omega) (by omega)) h
  · intro n y hy h'
    exact br_f (cq_nle (a := 8) hy (by omega)) h'
  · intro n y m hy h'
    exact br_t (cq_le (a := 8) (b := 8) (by omega) (by omega)) (nm_r (nI_1 y) h')
  · intro n y m x hy hx h'
    refine br_f (cq_nle (a := 8) hx (by omega)) (cq_xct ⟨pk_in (64 * c + (8 * y + x)) 128 (by omega) (cq_i64 c y x), nm_r ?_ (nm_r (nI_1 x) h')⟩)
    show _ = cq_gf c A B D E (8 * y + x) (cq_fd (cq_gf c A B D E) (8 * y + x) pic)
    unfold cq_gf
    rw [pk_cl _ (cq_i64 c y x), (cq_pq hx y).1, (cq_pq hx y).2]
theorem cq_yfill {post : Int32 → SY → Prop} {c : Nat} (hc : c ≤ 1) {A E B D fs fm fw : Int32} {pic ker res : Nat → Int32} (h : post 0 (fs, fm, fw, cq_fd (cq_gf c A B D E) 64 pic, ker, res)) : ∃ n, wY_fill_83 post (nI c) A E B D fs fm fw n 0 pic ker res := by
  refine cq_ls 64 (fun n i => wY_fill_83 post (nI c) A E B D fs fm fw n (nI i) (cq_fd (cq_gf c A B D E) i pic) ker res) ?_ ?_ 0 (by omega)
  · intro n
    exact br_t (cq_le (a := 64) (b := 64) (by omega) (by omega)) h
  · intro n i hi h'
    exact br_f (cq_nle (a := 64) hi (by omega)) ⟨by decide, nm_r (cq_m8 (by omega)) ⟨by decide, nm_r (cq_d8 (by omega)) (cq_yct ⟨pk_in (64 * c + i) 128 (by omega) (cq_j64 c i), nm_r (by rw [pk_cl _ (cq_j64 c i)]; rfl) (nm_r (nI_1 i) h')⟩)⟩⟩
theorem cq_yfbad {post : Int32 → SY → Prop} {v1 v2 v3 v4 fs fm fw : Int32} {pic ker res : Nat → Int32} (h : v1 < 0 ∨ 1 < v1 ∨ v2 < -20 ∨ 20 < v2 ∨ v4 < -3 ∨ 3 < v4 ∨ v3 < 0 ∨ 20 < v3 / 100 ∨ 20 < v3 - v3 / 100 * 100) (hp : post (-1000000) (fs, fm, fw, pic, ker, res)) : wpY_fill post (fs, fm, fw, pic, ker, res) v1 v2 v3 v4 := by
  by_cases a : v1 < 0
  · exact br_t a hp
  by_cases b : 1 < v1
  · exact br_f a (br_t b hp)
  by_cases c : v2 < -20
  · exact br_f a (br_f b (br_t c hp))
  by_cases d : 20 < v2
  · exact br_f a (br_f b (br_f c (br_t d hp)))
  by_cases e : v4 < -3
  · exact br_f a (br_f b (br_f c (br_f d (br_t e hp))))
  by_cases f : v4 ≤ 3
  · by_cases g : v3 < 0
    · exact br_f a (br_f b (br_f c (br_f d (br_f e (br_t f (br_t g hp))))))
    by_cases i : 20 < v3 / 100
    · exact br_f a (br_f b (br_f c (br_f d (br_f e (br_t f (br_f g ⟨by decide, br_t i hp⟩))))))
    by_cases j : v3 - v3 / 100 * 100 ≤ 20
    · exact absurd h (by
        intro h
        rcases h with h | h | h | h | h | h | h | h | h
        · exact a h
        · exact b h
        · exact c h
        · exact d h
        · exact e h
        · exact Int32.not_lt.mpr f h
        · exact g h
        · exact i h
        · exact Int32.not_lt.mpr j h)
    · exact br_f a (br_f b (br_f c (br_f d (br_f e (br_t f (br_f g ⟨by decide, br_f i ⟨by decide, br_f j hp⟩⟩))))))
  · exact br_f a (br_f b (br_f c (br_f d (br_f e (br_f f hp)))))
theorem cq_yfok {post : Int32 → SY → Prop} {v1 v2 v3 v4 fs fm fw : Int32} {pic ker res : Nat → Int32} (a : ¬ v1 < 0) (b : ¬ 1 < v1) (c : ¬ v2 < -20) (d : ¬ 20 < v2) (e : ¬ v4 < -3) (f : v4 ≤ 3) (g : ¬ v3 < 0) (i : ¬ 20 < v3 / 100) (j : v3 - v3 / 100 * 100 ≤ 20) (hp : ∃ n, wY_fill_83 post v1 v2 v4 (v3 / 100 - 10) (v3 - v3 / 100 * 100 - 10) fs fm fw n 0 pic ker res) : wpY_fill post (fs, fm, fw, pic, ker, res) v1 v2 v3 v4 :=
  br_f a (br_f b (br_f c (br_f d (br_f e (br_t f (br_f g ⟨by decide, br_f i ⟨by decide, br_t j ⟨by decide, nm_e ⟨by decide, nm_e hp⟩⟩⟩⟩))))))
theorem cq_2020 : ((100 : Int32) * 20) + 20 = nI 2020 := by decide
theorem cq_d100 {t : Nat} (h : t < 2 ^ 31) : nI t / 100 = nI (t / 100) := pk_div (d := 100) h (by decide) (by decide)
theorem cq_m100 {t : Nat} (h : t < 2 ^ 31) : nI t - nI t / 100 * 100 = nI (t % 100) := pk_rem (d := 100) h (by decide) (by decide)
theorem i_vc_fill {k : Nat} {u : SX} {v : SY} (I : i_Rel k u v) (hk : k + 5 ≤ 2560) (v1 : Int32) (v2 : Int32) (v3 : Int32) (v4 : Int32) : wpX_fill (fun r u' => wpY_fill (fun r' v' => r' = r ∧ i_Rel (k + 5) u' v') v v1 v2 v3 v4) u v1 v2 v3 v4 := by
  obtain ⟨s, m, W, way, pic, ker, rx, ry, fr, rfl, rfl, hs, hm, hW, hr, hf⟩ := I
  have R : i_Rel (k + 5) (nI s, nI m, nI W, way, pic, ker, rx, fr) (nI s, nI m, nI W, pic, ker, ry) := ⟨s, m, W, way, pic, ker, rx, ry, fr, rfl, rfl, hs, hm, hW, hr, hf⟩
  unfold wpX_fill wpX_isLayer wpX_areSlopes
  dsimp only
  by_cases a : v1 < 0
  · exact cq_iw0 (Or.inl a) ⟨rfl, br_t rfl (cq_yfbad (Or.inl a) ⟨rfl, R⟩)⟩
  by_cases b : 1 < v1
  · exact cq_iw0 (Or.inr b) ⟨rfl, br_t rfl (cq_yfbad (Or.inr (Or.inl b)) ⟨rfl, R⟩)⟩
  refine cq_iw1 a b ⟨rfl, br_f cq_10 ?_⟩
  by_cases c : v2 < -20
  · exact cq_iw0 (Or.inl c) (br_t rfl (cq_yfbad (Or.inr (Or.inr (Or.inl c))) ⟨rfl, R⟩))
  by_cases d : 20 < v2
  · exact cq_iw0 (Or.inr d) (br_t rfl (cq_yfbad (Or.inr (Or.inr (Or.inr (Or.inl d)))) ⟨rfl, R⟩))
  refine cq_iw1 c d (br_f cq_10 ?_)
  by_cases g : v3 < 0
  · exact cq_iw0 (Or.inl g) (br_t rfl (br_t rfl (cq_yfbad (Or.inr (Or.inr (Or.inr (Or.inr (Or.inr (Or.inr (Or.inl g))))))) ⟨rfl, R⟩)))
  obtain ⟨t, ht, rfl⟩ := nI_of g
  by_cases i : 2020 < t
  · have h2 : 20 < nI t / 100 ∨ 20 < nI t - nI t / 100 * 100 := by
      rw [cq_m100 ht, cq_d100 ht]
      by_cases z : 20 < t / 100
      · exact Or.inl (nI_lt (a := 20) z (by omega))
      · exact Or.inr (nI_lt (a := 20) (by omega) (by omega))
    exact cq_iw0 (Or.inr (by rw [cq_2020]; exact nI_lt i ht)) (br_t rfl (br_t rfl (cq_yfbad (Or.inr (Or.inr (Or.inr (Or.inr (Or.inr (Or.inr (Or.inr h2))))))) ⟨rfl, R⟩)))
  refine cq_iw1 g (by rw [cq_2020]; exact nI_nlt (by omega) (by omega)) (br_f cq_10 ⟨by decide, ?_⟩)
  by_cases j : 20 < nI t - nI t / 100 * 100
  · exact br_t j (br_t rfl (cq_yfbad (Or.inr (Or.inr (Or.inr (Or.inr (Or.inr (Or.inr (Or.inr (Or.inr j)))))))) ⟨rfl, R⟩))
  refine br_f j (br_f cq_10 ?_)
  have i2 : ¬ 20 < nI t / 100 := by
    rw [cq_d100 ht]
    exact nI_nlt (a := 20) (by omega) (by omega)
  by_cases e : v4 < -3
  · exact cq_iw0 (Or.inl e) (br_t rfl (cq_yfbad (Or.inr (Or.inr (Or.inr (Or.inr (Or.inl e))))) ⟨rfl, R⟩))
  by_cases f : v4 ≤ 3
  · obtain ⟨q, hq, rfl⟩ := cq_range (n := 1) (by decide) a b
    exact cq_iw1 e (Int32.not_lt.mpr f) (br_f cq_10 ⟨by decide, nm_e ⟨by decide, nm_e (cq_xfill hq (cq_yfok a b c d e f g i2 (Int32.not_lt.mp j) (cq_yfill hq ⟨rfl, ⟨s, m, W, way, _, ker, rx, ry, fr, rfl, rfl, hs, hm, hW, hr, hf⟩⟩)))⟩⟩)
  · exact cq_iw0 (Or.inr (Int32.not_le.mp f)) (br_t rfl (cq_yfbad (Or.inr (Or.inr (Or.inr (Or.inr (Or.inr (Or.inl (Int32.not_le.mp f))))))) ⟨rfl, R⟩))
/-! take -/
def cq_gt (c W : Nat) (res : Nat → Int32) (p : Nat) (s : Int32 × (Nat → Int32)) : Int32 × (Nat → Int32) := (if s.2 (64 * c + p) = cq_ct (cq_rv W res p) then s.1 else s.1 + 1, upd s.2 (64 * c + p) (cq_ct (cq_rv W res p)))
theorem cq_gtc {c W : Nat} {rx ry : Nat → Int32} (h : cq_ag W rx ry) : cq_gt c W rx = cq_gt c W ry := by
  funext p s
  unfold cq_gt
  rw [cq_rvc h p]
theorem cq_gt1 {c W : Nat} {res : Nat → Int32} {p : Nat} {s : Int32 × (Nat → Int32)} (h : s.2 (64 * c + p) = cq_ct (cq_rv W res p)) : cq_gt c W res p s = (s.1, upd s.2 (64 * c + p) (cq_ct (cq_rv W res p))) := by
  unfold cq_gt; rw [if_pos h]
theorem cq_gt0 {c W : Nat} {res : Nat → Int32} {p : Nat} {s : Int32 × (Nat → Int32)} (h : ¬ s.2 (64 * c + p) = cq_ct (cq_rv W res p)) : cq_gt c W res p s = (s.1 + 1, upd s.2 (64 * c + p) (cq_ct (cq_rv W res p))) := by
  unfold cq_gt; rw [if_neg h]
theorem cq_xtake {post : Int32 → SX → Prop} {c W : Nat} (hc : c ≤ 1) (hW : W ≤ 8) {fs fm fc : Int32} {pic ker res fr : Nat → Int32} (h : post (cq_fd (cq_gt c W res) 64 (0, pic)).1 (fs, fm, nI W, fc, (cq_fd (cq_gt c W res) 64 (0, pic)).2, ker, res, fr)) : ∃ n, wX_take_14 post (nI c) fs fm (nI W) fc n 0 0 pic ker res fr := by
  refine cq_dl 8 8 (fun n y => wX_take_14 post (nI c) fs fm (nI W) fc n (cq_fd (cq_gt c W res) (8 * y) (0, pic)).1 (nI y) (cq_fd (cq_gt c W res) (8 * y) (0, pic)).2 ker res fr) (fun n y m x => wX_take_23 post (wX_take_14 post (nI c) fs fm (nI W) fc n) (nI c) (nI y) fs fm (nI W) fc m (cq_fd (cq_gt c W res) (8 * y + x) (0, pic)).1 (nI x) (cq_fd (cq_gt c W res) (8 * y + x) (0, pic)).2 ker res fr) ?_ ?_ ?_ ?_
  · intro n
    exact br_t (cq_le (a := 8) (b := 8) (by omega) (by omega)) h
  · intro n y hy h'
    exact br_f (cq_nle (a := 8) hy (by omega)) h'
  · intro n y m hy h'
    exact br_t (cq_le (a := 8) (b := 8) (by omega) (by omega)) (nm_r (nI_1 y) h')
  · intro n y m x hy hx h'
    have e1 : cq_fd (cq_gt c W res) (8 * y + (x + 1)) (0, pic) = cq_gt c W res (8 * y + x) (cq_fd (cq_gt c W res) (8 * y + x) (0, pic)) := rfl
    rw [e1] at h'
    generalize cq_fd (cq_gt c W res) (8 * y + x) (0, pic) = st at h' ⊢
    have hi : vp_in (nI (64 * c + (8 * y + x))) 128 := vp_in_nI (by omega) (by omega)
    have hcl : (nI (64 * c + (8 * y + x))).toNatClampNeg = 64 * c + (8 * y + x) := nI_clamp (by omega)
    refine br_f (cq_nle (a := 8) hx (by omega)) (nm_r (cq_i64 c y x) ⟨hi, nm_e (cq_xrv hW hx hy (cq_xct ⟨hi, nm_e ⟨hi, ?_⟩⟩))⟩)
    rw [hcl, pk_us]
    by_cases z : st.2 (64 * c + (8 * y + x)) = cq_ct (cq_rv W res (8 * y + x))
    · rw [cq_gt1 z] at h'
      exact br_t z.symm (nm_r (nI_1 x) h')
    · rw [cq_gt0 z] at h'
      exact br_f (fun w => z w.symm) (nm_e (nm_r (nI_1 x) h'))
theorem cq_ytake {post : Int32 → SY → Prop} {c W : Nat} (hc : c ≤ 1) (hW : W ≤ 8) {fs fm : Int32} {pic ker res : Nat → Int32} (h : post (cq_fd (cq_gt c W res) 64 (0, pic)).1 (fs, fm, nI W, (cq_fd (cq_gt c W res) 64 (0, pic)).2, ker, res)) : ∃ n, wY_take_16 post (nI c) fs fm (nI W) n 0 0 pic ker res := by
  refine cq_ls 64 (fun n i => wY_take_16 post (nI c) fs fm (nI W) n (cq_fd (cq_gt c W res) i (0, pic)).1 (nI i) (cq_fd (cq_gt c W res) i (0, pic)).2 ker res) ?_ ?_ 0 (by omega)
  · intro n
    exact br_t (cq_le (a := 64) (b := 64) (by omega) (by omega)) h
  · intro n i hi h'
    rw [cq_fd_s] at h'
    generalize cq_fd (cq_gt c W res) i (0, pic) = st at h' ⊢
    have hin : vp_in (64 * nI c + nI i) 128 := pk_in (64 * c + i) 128 (by omega) (cq_j64 c i)
    have hcl : (64 * nI c + nI i).toNatClampNeg = 64 * c + i := pk_cl _ (cq_j64 c i)
    refine br_f (cq_nle (a := 64) hi (by omega)) ⟨by decide, by decide, ?_⟩
    rw [cq_m8 (by omega), cq_d8 (by omega)]
    refine cq_yrv hW hi (cq_yct ⟨hin, ?_⟩)
    unfold wY_take_67
    rw [hcl]
    by_cases z : st.2 (64 * c + i) = cq_ct (cq_rv W res i)
    · rw [cq_gt1 z] at h'
      exact br_t z ⟨hin, nm_e (nm_r (nI_1 i) h')⟩
    · rw [cq_gt0 z] at h'
      exact br_f z ⟨hin, nm_e (nm_r (nI_1 i) h')⟩
theorem i_vc_take {k : Nat} {u : SX} {v : SY} (I : i_Rel k u v) (hk : k + 5 ≤ 2560) (v1 : Int32) : wpX_take (fun r u' => wpY_take (fun r' v' => r' = r ∧ i_Rel (k + 5) u' v') v v1) u v1 := by
  obtain ⟨s, m, W, way, pic, ker, rx, ry, fr, rfl, rfl, hs, hm, hW, hr, hf⟩ := I
  have R : i_Rel (k + 5) (nI s, nI m, nI W, way, pic, ker, rx, fr) (nI s, nI m, nI W, pic, ker, ry) := ⟨s, m, W, way, pic, ker, rx, ry, fr, rfl, rfl, hs, hm, hW, hr, hf⟩
  unfold wpX_take wpX_isLayer
  dsimp only
  by_cases a : v1 < 0
  · exact cq_iw0 (Or.inl a) ⟨rfl, br_t rfl (br_t a ⟨rfl, R⟩)⟩
  by_cases b : v1 ≤ 1
  · obtain ⟨c, hc, rfl⟩ := nI_of2 (n := 1) (by decide) a b
    refine cq_iw1 a (Int32.not_lt.mpr b) ⟨rfl, br_f cq_10 (cq_xtake hc hW (br_f a (br_t b (cq_ytake hc hW ?_))))⟩
    rw [cq_gtc hr]
    exact ⟨rfl, ⟨s, m, W, way, _, ker, rx, ry, fr, rfl, rfl, hs, hm, hW, hr, hf⟩⟩
  · exact cq_iw0 (Or.inr (Int32.not_le.mp b)) ⟨rfl, br_t rfl (br_f a (br_f b ⟨rfl, R⟩))⟩
/-! sum -/
def cq_gs (W : Nat) (res : Nat → Int32) (p : Nat) (a : Int32) : Int32 := if cq_in W p then a + res p else a
theorem cq_gsc {W : Nat} {rx ry : Nat → Int32} (h : cq_ag W rx ry) : cq_gs W rx = cq_gs W ry := by
  funext p a
  unfold cq_gs
  by_cases c : cq_in W p
  · rw [if_pos c, if_pos c, h p c]
  · rw [if_neg c, if_neg c]
theorem cq_gsn {W : Nat} {res : Nat → Int32} (p : Nat) (a : Int32) (c : ¬ cq_in W p) : cq_gs W res p a = a := if_neg c
theorem cq_xsum {post : Int32 → Prop} {W : Nat} (hW : W ≤ 8) {fs fm fc : Int32} {pic ker res fr : Nat → Int32} (h : post (cq_fd (cq_gs W res) 64 0)) : ∃ n, wX_sum_4 post fs fm (nI W) fc pic ker res fr n 0 0 := by
  refine cq_dl W W (fun n y => wX_sum_4 post fs fm (nI W) fc pic ker res fr n (cq_fd (cq_gs W res) (8 * y) 0) (nI y)) (fun n y m x => wX_sum_14 post (wX_sum_4 post fs fm (nI W) fc pic ker res fr n) (nI y) fs fm (nI W) fc pic ker res fr m (cq_fd (cq_gs W res) (8 * y + x) 0) (nI x)) ?_ ?_ ?_ ?_
  · intro n
    refine br_t (cq_le (by omega) (by omega)) ?_
    rw [cq_all hW cq_gsn]
    exact h
  · intro n y hy h'
    exact br_f (cq_nle hy (by omega)) h'
  · intro n y m hy h'
    rw [cq_row hW cq_gsn]
    exact br_t (cq_le (by omega) (by omega)) (nm_r (nI_1 y) h')
  · intro n y m x hy hx h'
    refine br_f (cq_nle hx (by omega)) ⟨pk_in (8 * y + x) 64 (by omega) (cq_i8 y x), nm_r ?_ (nm_r (nI_1 x) h')⟩
    show _ = cq_gs W res (8 * y + x) (cq_fd (cq_gs W res) (8 * y + x) 0)
    unfold cq_gs
    rw [pk_cl _ (cq_i8 y x), if_pos (by omega)]
theorem cq_ysum {post : Int32 → Prop} {W : Nat} (hW : W ≤ 8) {fs fm : Int32} {pic ker res : Nat → Int32} (h : post (cq_fd (cq_gs W res) 64 0)) : ∃ n, wY_sum_4 post fs fm (nI W) pic ker res n 0 0 := by
  refine cq_ls 64 (fun n i => wY_sum_4 post fs fm (nI W) pic ker res n (cq_fd (cq_gs W res) i 0) (nI i)) ?_ ?_ 0 (by omega)
  · intro n
    exact br_t (cq_le (a := 64) (b := 64) (by omega) (by omega)) h
  · intro n i hi h'
    refine br_f (cq_nle (a := 64) hi (by omega)) ⟨by decide, by decide, ?_⟩
    rw [cq_m8 (by omega), cq_d8 (by omega)]
    refine cq_yrv hW hi (nm_r ?_ (nm_r (nI_1 i) h'))
    show _ = cq_gs W res i (cq_fd (cq_gs W res) i 0)
    unfold cq_rv
    by_cases c : cq_in W i
    · rw [if_pos c]; exact (if_pos c).symm
    · rw [if_neg c, Int32.add_zero]; exact (if_neg c).symm
theorem i_vc_sum {k : Nat} {u : SX} {v : SY} (I : i_Rel k u v) (hk : k + 5 ≤ 2560) : wpX_sum (fun r => wpY_sum (fun r' => r' = r ∧ i_Rel (k + 5) u v) v) u := by
  obtain ⟨s, m, W, way, pic, ker, rx, ry, fr, rfl, rfl, hs, hm, hW, hr, hf⟩ := I
  refine cq_xsum hW (cq_ysum hW ⟨?_, ⟨s, m, W, way, pic, ker, rx, ry, fr, rfl, rfl, hs, hm, hW, hr, hf⟩⟩)
  rw [cq_gsc hr]
end
section
/-! floor, divide, thin, peak -/
def cq_gl (W : Nat) (p : Nat) (s : Int32 × (Nat → Int32)) : Int32 × (Nat → Int32) := if cq_in W p then (if 0 ≤ s.2 p then s else (s.1 + 1, upd s.2 p 0)) else s
theorem cq_gln {W : Nat} (p : Nat) (s : Int32 × (Nat → Int32)) (c : ¬ cq_in W p) : cq_gl W p s = s := if_neg c
theorem cq_gl1 {W p : Nat} {s : Int32 × (Nat → Int32)} (c : cq_in W p) (d : 0 ≤ s.2 p) : cq_gl W p s = s := by
  unfold cq_gl; rw [if_pos c, if_pos d]
theorem cq_gl0 {W p : Nat} {s : Int32 × (Nat → Int32)} (c : cq_in W p) (d : ¬ 0 ≤ s.2 p) : cq_gl W p s = (s.1 + 1, upd s.2 p 0) := by
  unfold cq_gl; rw [if_pos c, if_neg d]
theorem cq_xfloor {post : Int32 → SX → Prop} {W : Nat} (hW : W ≤ 8) {fs fm fc : Int32} {pic ker res fr : Nat → Int32} (h : post (cq_fd (cq_gl W) 64 (0, res)).1 (fs, fm, nI W, fc, pic, ker, (cq_fd (cq_gl W) 64 (0, res)).2, fr)) : ∃ n, wX_floor_4 post fs fm (nI W) fc n 0 0 pic ker res fr := by
  refine cq_dl W W (fun n y => wX_floor_4 post fs fm (nI W) fc n (cq_fd (cq_gl W) (8 * y) (0, res)).1 (nI y) pic ker (cq_fd (cq_gl W) (8 * y) (0, res)).2 fr) (fun n y m x => wX_floor_14 post (wX_floor_4 post fs fm (nI W) fc n) (nI y) fs fm (nI W) fc m (cq_fd (cq_gl W) (8 * y + x) (0, res)).1 (nI x) pic ker (cq_fd (cq_gl W) (8 * y + x) (0, res)).2 fr) ?_ ?_ ?_ ?_
  · intro n
    refine br_t (cq_le (by omega) (by omega)) ?_
    rw [cq_all hW cq_gln]
    exact h
  · intro n y hy h'
    exact br_f (cq_nle hy (by omega)) h'
  · intro n y m hy h'
    rw [cq_row hW cq_gln]
    exact br_t (cq_le (by omega) (by omega)) (nm_r (nI_1 y) h')
  · intro n y m x hy hx h'
    have e1 : cq_fd (cq_gl W) (8 * y + (x + 1)) (0, res) = cq_gl W (8 * y + x) (cq_fd (cq_gl W) (8 * y + x) (0, res)) := rfl
    rw [e1] at h'
    generalize cq_fd (cq_gl W) (8 * y + x) (0, res) = st at h' ⊢
    have hin : vp_in (8 * nI y + nI x) 64 := pk_in (8 * y + x) 64 (by omega) (cq_i8 y x)
    have hcl : (8 * nI y + nI x).toNatClampNeg = 8 * y + x := pk_cl _ (cq_i8 y x)
    have c : cq_in W (8 * y + x) := by omega
    refine br_f (cq_nle hx (by omega)) ⟨hin, ?_⟩
    rw [hcl]
    by_cases d : 0 ≤ st.2 (8 * y + x)
    · rw [cq_gl1 c d] at h'
      exact br_t d (nm_r (nI_1 x) h')
    · rw [cq_gl0 c d] at h'
      exact br_f d ⟨hin, nm_e (nm_e (nm_r (nI_1 x) h'))⟩
theorem cq_yfloor {post : Int32 → SY → Prop} {W : Nat} (hW : W ≤ 8) {fs fm : Int32} {pic ker res : Nat → Int32} (h : post (cq_fd (cq_gl W) 64 (0, res)).1 (fs, fm, nI W, pic, ker, (cq_fd (cq_gl W) 64 (0, res)).2)) : ∃ n, wY_floor_4 post fs fm (nI W) n 0 0 pic ker res := by
  refine cq_ls 64 (fun n i => wY_floor_4 post fs fm (nI W) n (cq_fd (cq_gl W) i (0, res)).1 (nI i) pic ker (cq_fd (cq_gl W) i (0, res)).2) ?_ ?_ 0 (by omega)
  · intro n
    exact br_t (cq_le (a := 64) (b := 64) (by omega) (by omega)) h
  · intro n i hi h'
    rw [cq_fd_s] at h'
    generalize cq_fd (cq_gl W) i (0, res) = st at h' ⊢
    have hin : vp_in (nI i) 64 := vp_in_nI hi (by omega)
    have hcl : (nI i).toNatClampNeg = i := nI_clamp (by omega)
    refine br_f (cq_nle (a := 64) hi (by omega)) ⟨by decide, ?_⟩
    rw [cq_m8 (by omega), cq_d8 (by omega)]
    by_cases a : W ≤ i % 8
    · rw [cq_gln i st (by omega)] at h'
      exact br_t (cq_le a (by omega)) (nm_r (nI_1 i) h')
    by_cases b : W ≤ i / 8
    · rw [cq_gln i st (by omega)] at h'
      exact br_f (cq_nle (by omega) (by omega)) ⟨by decide, br_t (cq_le b (by omega)) (nm_r (nI_1 i) h')⟩
    have c : cq_in W i := by omega
    refine br_f (cq_nle (by omega) (by omega)) ⟨by decide, br_f (cq_nle (by omega) (by omega)) ⟨hin, ?_⟩⟩
    rw [hcl]
    by_cases d : 0 ≤ st.2 i
    · rw [cq_gl1 c d] at h'
      exact br_t d (nm_r (nI_1 i) h')
    · rw [cq_gl0 c d] at h'
      exact br_f d ⟨hin, nm_e (nm_e (nm_r (nI_1 i) h'))⟩
theorem cq_floor {W : Nat} {rx ry : Nat → Int32} (h : cq_ag W rx ry) : ∀ n, (cq_fd (cq_gl W) n (0, ry)).1 = (cq_fd (cq_gl W) n (0, rx)).1 ∧ cq_ag W (cq_fd (cq_gl W) n (0, rx)).2 (cq_fd (cq_gl W) n (0, ry)).2 := by
  intro n
  induction n with
  | zero => exact ⟨rfl, h⟩
  | succ n ih =>
    rw [cq_fd_s, cq_fd_s]
    generalize cq_fd (cq_gl W) n (0, rx) = a at ih ⊢
    generalize cq_fd (cq_gl W) n (0, ry) = b at ih ⊢
    obtain ⟨i1, i2⟩ := ih
    by_cases c : cq_in W n
    · by_cases d : 0 ≤ a.2 n
      · rw [cq_gl1 c d, cq_gl1 c (by rw [← i2 n c]; exact d)]
        exact ⟨i1, i2⟩
      · rw [cq_gl0 c d, cq_gl0 c (by rw [← i2 n c]; exact d)]
        refine ⟨congrArg (· + 1) i1, fun p hp => ?_⟩
        by_cases e : p = n
        · subst e
          exact pk_us.trans pk_us.symm
        · exact (pk_un e).trans ((i2 p hp).trans (pk_un e).symm)
    · rw [cq_gln n a c, cq_gln n b c]
      exact ⟨i1, i2⟩
theorem i_vc_floor {k : Nat} {u : SX} {v : SY} (I : i_Rel k u v) (hk : k + 5 ≤ 2560) : wpX_floor (fun r u' => wpY_floor (fun r' v' => r' = r ∧ i_Rel (k + 5) u' v') v) u := by
  obtain ⟨s, m, W, way, pic, ker, rx, ry, fr, rfl, rfl, hs, hm, hW, hr, hf⟩ := I
  have h := cq_floor hr 64
  exact cq_xfloor hW (cq_yfloor hW ⟨h.1, ⟨s, m, W, way, pic, ker, _, _, fr, rfl, rfl, hs, hm, hW, h.2, hf⟩⟩)
/-! divide -/
def cq_gd (W : Nat) (d : Int32) (p : Nat) (r : Nat → Int32) : Nat → Int32 := if cq_in W p then upd r p (r p / d) else r
def cq_ge (d : Int32) (p : Nat) (r : Nat → Int32) : Nat → Int32 := upd r p (r p / d)
theorem cq_gdn {W : Nat} {d : Int32} (p : Nat) (r : Nat → Int32) (c : ¬ cq_in W p) : cq_gd W d p r = r := if_neg c
theorem cq_xdiv {post : Int32 → SX → Prop} {W : Nat} (hW : W ≤ 8) {d fs fm fc : Int32} (hd : ¬ d = 0) {pic ker res fr : Nat → Int32} (h : post (nI W) (fs, fm, nI W, fc, pic, ker, cq_fd (cq_gd W d) 64 res, fr)) : ∃ n, wX_divide_15 post d fs fm (nI W) fc n 0 pic ker res fr := by
  refine cq_dl W W (fun n y => wX_divide_15 post d fs fm (nI W) fc n (nI y) pic ker (cq_fd (cq_gd W d) (8 * y) res) fr) (fun n y m x => wX_divide_25 post (wX_divide_15 post d fs fm (nI W) fc n) d (nI y) fs fm (nI W) fc m (nI x) pic ker (cq_fd (cq_gd W d) (8 * y + x) res) fr) ?_ ?_ ?_ ?_
  · intro n
    refine br_t (cq_le (by omega) (by omega)) ?_
    rw [cq_all hW cq_gdn]
    exact h
  · intro n y hy h'
    exact br_f (cq_nle hy (by omega)) h'
  · intro n y m hy h'
    rw [cq_row hW cq_gdn]
    exact br_t (cq_le (by omega) (by omega)) (nm_r (nI_1 y) h')
  · intro n y m x hy hx h'
    have hin : vp_in (8 * nI y + nI x) 64 := pk_in (8 * y + x) 64 (by omega) (cq_i8 y x)
    refine br_f (cq_nle hx (by omega)) ⟨hin, hd, hin, nm_r ?_ (nm_r (nI_1 x) h')⟩
    show _ = cq_gd W d (8 * y + x) (cq_fd (cq_gd W d) (8 * y + x) res)
    rw [pk_cl _ (cq_i8 y x)]
    exact (if_pos (by omega)).symm
theorem cq_ydiv {post : Int32 → SY → Prop} {W : Nat} {d fs fm : Int32} (hd : ¬ d = 0) {pic ker res : Nat → Int32} (h : post (nI W) (fs, fm, nI W, pic, ker, cq_fd (cq_ge d) 64 res)) : ∃ n, wY_divide_16 post d fs fm (nI W) n 0 pic ker res := by
  refine cq_ls 64 (fun n i => wY_divide_16 post d fs fm (nI W) n (nI i) pic ker (cq_fd (cq_ge d) i res)) ?_ ?_ 0 (by omega)
  · intro n
    exact br_t (cq_le (a := 64) (b := 64) (by omega) (by omega)) h
  · intro n i hi h'
    have hin : vp_in (nI i) 64 := vp_in_nI hi (by omega)
    refine br_f (cq_nle (a := 64) hi (by omega)) ⟨hin, hd, hin, nm_r ?_ (nm_r (nI_1 i) h')⟩
    rw [nI_clamp (by omega)]
    rfl
theorem cq_div {W : Nat} (hW : W ≤ 8) {d : Int32} {rx ry : Nat → Int32} (h : cq_ag W rx ry) : cq_ag W (cq_fd (cq_gd W d) 64 rx) (cq_fd (cq_ge d) 64 ry) := by
  intro p hp
  have a := (cq_fu (g := cq_gd W d) (C := cq_in W) (h := fun _ v => v / d) (fun p r c => if_pos c) (fun p r c => if_neg c) rx 64).1 p (by omega) hp
  have b := (cq_fu (g := cq_ge d) (C := fun _ => True) (h := fun _ v => v / d) (fun p r c => rfl) (fun p r c => absurd trivial c) ry 64).1 p (by omega) trivial
  rw [a, b, h p hp]
theorem i_vc_divide {k : Nat} {u : SX} {v : SY} (I : i_Rel k u v) (hk : k + 5 ≤ 2560) (v1 : Int32) : wpX_divide (fun r u' => wpY_divide (fun r' v' => r' = r ∧ i_Rel (k + 5) u' v') v v1) u v1 := by
  obtain ⟨s, m, W, way, pic, ker, rx, ry, fr, rfl, rfl, hs, hm, hW, hr, hf⟩ := I
  have R : i_Rel (k + 5) (nI s, nI m, nI W, way, pic, ker, rx, fr) (nI s, nI m, nI W, pic, ker, ry) := ⟨s, m, W, way, pic, ker, rx, ry, fr, rfl, rfl, hs, hm, hW, hr, hf⟩
  unfold wpX_divide
  dsimp only
  by_cases a : v1 < 1
  · exact cq_iw0 (Or.inl a) (br_t rfl (br_t a ⟨rfl, R⟩))
  by_cases b : v1 ≤ 100
  · have hd : ¬ v1 = 0 := by
      intro z
      rw [z] at a
      exact a (by decide)
    exact cq_iw1 a (Int32.not_lt.mpr b) (br_f cq_10 (cq_xdiv hW hd (br_f a (br_t b (cq_ydiv hd ⟨rfl, ⟨s, m, W, way, pic, ker, _, _, fr, rfl, rfl, hs, hm, hW, cq_div hW hr, hf⟩⟩)))))
  · exact cq_iw0 (Or.inr (Int32.not_le.mp b)) (br_t rfl (br_f a (br_f b ⟨rfl, R⟩)))
/-! thin -/
def cq_mx (r : Nat → Int32) (f : Nat) : Nat → Int32
  | 0 => r f
  | 1 => r f
  | k + 2 => if r (f + 8 * ((k + 1) / 2) + (k + 1) % 2) ≤ cq_mx r f (k + 1) then cq_mx r f (k + 1) else r (f + 8 * ((k + 1) / 2) + (k + 1) % 2)
theorem cq_mxs {r : Nat → Int32} {f i : Nat} (hi : 1 ≤ i) : cq_mx r f (i + 1) = if r (f + 8 * (i / 2) + i % 2) ≤ cq_mx r f i then cq_mx r f i else r (f + 8 * (i / 2) + i % 2) := by
  obtain ⟨k, rfl⟩ : ∃ k, i = k + 1 := ⟨i - 1, by omega⟩
  rfl
theorem cq_mxc {r r' : Nat → Int32} {f : Nat} (h0 : r f = r' f) (h : ∀ i, i < 4 → r (f + 8 * (i / 2) + i % 2) = r' (f + 8 * (i / 2) + i % 2)) : cq_mx r f 4 = cq_mx r' f 4 := by
  have g : ∀ n, n ≤ 4 → cq_mx r f n = cq_mx r' f n := by
    intro n
    induction n with
    | zero => intro _; exact h0
    | succ n ih =>
      intro hn
      by_cases z : n = 0
      · subst z; exact h0
      · rw [cq_mxs (r := r) (by omega), cq_mxs (r := r') (by omega), ih (by omega), h n (by omega)]
  exact g 4 (Nat.le_refl 4)
theorem cq_d2 {p : Nat} (h : p < 2 ^ 31) : nI p / 2 = nI (p / 2) := pk_div (d := 2) h (by decide) (by decide)
theorem cq_m2 {p : Nat} (h : p < 2 ^ 31) : nI p - nI p / 2 * 2 = nI (p % 2) := pk_rem (d := 2) h (by decide) (by decide)
theorem cq_ig {i : Nat} (hi : i < 4) (f : Nat) : (nI f + (8 * (nI i / 2))) + (nI i - nI i / 2 * 2) = nI (f + 8 * (i / 2) + i % 2) := by
  rw [cq_m2 (by omega), cq_d2 (by omega)]
  show (nI f + (nI 8 * nI (i / 2))) + nI (i % 2) = _
  rw [pk_mul, nI_add, nI_add]
theorem cq_ih {i : Nat} (hi : i < 4) (x y : Nat) : ((8 * (nI y + (nI i / 2))) + nI x) + (nI i - nI i / 2 * 2) = nI ((8 * y + x) + 8 * (i / 2) + i % 2) := by
  rw [cq_m2 (by omega), cq_d2 (by omega)]
  show ((nI 8 * (nI y + nI (i / 2))) + nI x) + nI (i % 2) = _
  rw [nI_add, pk_mul, nI_add, nI_add]
  exact congrArg nI (by omega)
theorem cq_xgr {post : Int32 → Prop} {x y : Nat} (hx : x < 7) (hy : y < 7) {fs fm fw fc : Int32} {pic ker res fr : Nat → Int32} (h : post (cq_mx res (8 * y + x) 4)) : wpX_greatestOfSquare post (fs, fm, fw, fc, pic, ker, res, fr) (nI x) (nI y) := by
  refine nm_r (cq_i8 y x) ⟨vp_in_nI (by omega) (by omega), nm_r (congrArg res (nI_clamp (by omega))) ?_⟩
  refine cq_ls 4 (fun n i => 1 ≤ i → wX_greatestOfSquare_18 post (nI (8 * y + x)) fs fm fw fc pic ker res fr n (cq_mx res (8 * y + x) i) (nI i)) ?_ ?_ 1 (by omega) |>.imp (fun n z => z (Nat.le_refl 1))
  · intro n _
    exact br_t (cq_le (a := 4) (b := 4) (by omega) (by omega)) h
  · intro n i hi h' hi1
    have h2 := h' (by omega)
    rw [cq_mxs hi1] at h2
    refine br_f (cq_nle (a := 4) hi (by omega)) ⟨by decide, by decide, pk_in (8 * y + x + 8 * (i / 2) + i % 2) 64 (by omega) (cq_ig hi _), nm_r (congrArg res (pk_cl _ (cq_ig hi _))) ?_⟩
    by_cases z : res (8 * y + x + 8 * (i / 2) + i % 2) ≤ cq_mx res (8 * y + x) i
    · rw [if_pos z] at h2
      exact br_t z (nm_r (nI_1 i) h2)
    · rw [if_neg z] at h2
      exact br_f z (nm_r (nI_1 i) h2)
theorem cq_ygr {post : Int32 → Prop} {x y : Nat} (hx : x < 7) (hy : y < 7) {fs fm fw : Int32} {pic ker res : Nat → Int32} (h : post (cq_mx res (8 * y + x) 4)) : wpY_greatestOf post (fs, fm, fw, pic, ker, res) (nI x) (nI y) := by
  refine ⟨pk_in (8 * y + x) 64 (by omega) (cq_i8 y x), nm_r (congrArg res (pk_cl _ (cq_i8 y x))) ?_⟩
  refine cq_ls 4 (fun n i => 1 ≤ i → wY_greatestOf_15 post (nI x) (nI y) fs fm fw pic ker res n (cq_mx res (8 * y + x) i) (nI i)) ?_ ?_ 1 (by omega) |>.imp (fun n z => z (Nat.le_refl 1))
  · intro n _
    exact br_t (cq_le (a := 4) (b := 4) (by omega) (by omega)) h
  · intro n i hi h' hi1
    have h2 := h' (by omega)
    rw [cq_mxs hi1] at h2
    refine br_f (cq_nle (a := 4) hi (by omega)) ⟨by decide, by decide, pk_in (8 * y + x + 8 * (i / 2) + i % 2) 64 (by omega) (cq_ih hi _ _), nm_r (congrArg res (pk_cl _ (cq_ih hi _ _))) ?_⟩
    by_cases z : res (8 * y + x + 8 * (i / 2) + i % 2) ≤ cq_mx res (8 * y + x) i
    · rw [if_pos z] at h2
      exact br_t z (nm_r (nI_1 i) h2)
    · rw [if_neg z] at h2
      exact br_f z (nm_r (nI_1 i) h2)
def cq_gh (H p : Nat) (r : Nat → Int32) : Nat → Int32 := if cq_in H p then upd r p (cq_mx r (8 * (2 * (p / 8)) + 2 * (p % 8)) 4) else r
theorem cq_ghn {H : Nat} (p : Nat) (r : Nat → Int32) (c : ¬ cq_in H p) : cq_gh H p r = r := if_neg c
theorem cq_gh1 {H p : Nat} (r : Nat → Int32) (c : cq_in H p) : cq_gh H p r = upd r p (cq_mx r (8 * (2 * (p / 8)) + 2 * (p % 8)) 4) := if_pos c
theorem cq_2x (x : Nat) : 2 * nI x = nI (2 * x) := pk_mul 2 x
theorem cq_xthin {post : Int32 → SX → Prop} {H : Nat} (hH : H ≤ 4) {fs fm fw fc : Int32} {pic ker res fr : Nat → Int32} (h : post (nI H) (fs, fm, nI H, fc, pic, ker, cq_fd (cq_gh H) 64 res, fr)) : ∃ n, wX_thin_9 post (nI H) fs fm fw fc n 0 pic ker res fr := by
  refine cq_dl H H (fun n y => wX_thin_9 post (nI H) fs fm fw fc n (nI y) pic ker (cq_fd (cq_gh H) (8 * y) res) fr) (fun n y m x => wX_thin_16 post (wX_thin_9 post (nI H) fs fm fw fc n) (nI H) (nI y) fs fm fw fc m (nI x) pic ker (cq_fd (cq_gh H) (8 * y + x) res) fr) ?_ ?_ ?_ ?_
  · intro n
    refine br_t (cq_le (by omega) (by omega)) ?_
    rw [cq_all (by omega) cq_ghn]
    exact h
  · intro n y hy h'
    exact br_f (cq_nle hy (by omega)) h'
  · intro n y m hy h'
    rw [cq_row (by omega) cq_ghn]
    exact br_t (cq_le (by omega) (by omega)) (nm_r (nI_1 y) h')
  · intro n y m x hy hx h'
    have hin : vp_in (8 * nI y + nI x) 64 := pk_in (8 * y + x) 64 (by omega) (cq_i8 y x)
    refine br_f (cq_nle hx (by omega)) ?_
    rw [cq_2x, cq_2x]
    refine cq_xgr (by omega) (by omega) ⟨hin, nm_r ?_ (nm_r (nI_1 x) h')⟩
    show _ = cq_gh H (8 * y + x) (cq_fd (cq_gh H) (8 * y + x) res)
    rw [pk_cl _ (cq_i8 y x), cq_gh1 _ (by omega), (cq_pq (by omega) y).1, (cq_pq (by omega) y).2]
theorem cq_ythin {post : Int32 → SY → Prop} {H : Nat} (hH : H ≤ 4) {fs fm : Int32} {pic ker res : Nat → Int32} (h : post (nI H) (fs, fm, nI H, pic, ker, cq_fd (cq_gh H) 64 res)) : ∃ n, wY_thin_12 post fs fm (nI H) n 0 pic ker res := by
  refine cq_dl H H (fun n y => wY_thin_12 post fs fm (nI H) n (nI y) pic ker (cq_fd (cq_gh H) (8 * y) res)) (fun n y m x => wY_thin_22 post (wY_thin_12 post fs fm (nI H) n) (nI y) fs fm (nI H) m (nI x) pic ker (cq_fd (cq_gh H) (8 * y + x) res)) ?_ ?_ ?_ ?_
  · intro n
    refine br_t (cq_le (by omega) (by omega)) ?_
    rw [cq_all (by omega) cq_ghn]
    exact h
  · intro n y hy h'
    exact br_f (cq_nle hy (by omega)) h'
  · intro n y m hy h'
    rw [cq_row (by omega) cq_ghn]
    exact br_t (cq_le (by omega) (by omega)) (nm_r (nI_1 y) h')
  · intro n y m x hy hx h'
    have hin : vp_in (8 * nI y + nI x) 64 := pk_in (8 * y + x) 64 (by omega) (cq_i8 y x)
    refine br_f (cq_nle hx (by omega)) ?_
    rw [cq_2x, cq_2x]
    refine cq_ygr (by omega) (by omega) ⟨hin, nm_r ?_ (nm_r (nI_1 x) h')⟩
    show _ = cq_gh H (8 * y + x) (cq_fd (cq_gh H) (8 * y + x) res)
    rw [pk_cl _ (cq_i8 y x), cq_gh1 _ (by omega), (cq_pq (by omega) y).1, (cq_pq (by omega) y).2]
theorem cq_thin {W : Nat} (hW : W ≤ 8) {rx ry : Nat → Int32} (h : cq_ag W rx ry) : ∀ n, cq_ag W (cq_fd (cq_gh (W / 2)) n rx) (cq_fd (cq_gh (W / 2)) n ry) := by
  intro n
  induction n with
  | zero => exact h
  | succ n ih =>
    rw [cq_fd_s, cq_fd_s]
    generalize cq_fd (cq_gh (W / 2)) n rx = a at ih ⊢
    generalize cq_fd (cq_gh (W / 2)) n ry = b at ih ⊢
    by_cases c : cq_in (W / 2) n
    · rw [cq_gh1 a c, cq_gh1 b c]
      have e : cq_mx a (8 * (2 * (n / 8)) + 2 * (n % 8)) 4 = cq_mx b (8 * (2 * (n / 8)) + 2 * (n % 8)) 4 := by
        refine cq_mxc (ih _ ?_) (fun i hi => ih _ ?_)
        · constructor <;> omega
        · constructor <;> omega
      rw [e]
      intro p hp
      by_cases e : p = n
      · subst e; rw [pk_us, pk_us]
      · rw [pk_un e, pk_un e]; exact ih p hp
    · rw [cq_ghn n a c, cq_ghn n b c]
      exact ih
theorem i_vc_thin {k : Nat} {u : SX} {v : SY} (I : i_Rel k u v) (hk : k + 5 ≤ 2560) : wpX_thin (fun r u' => wpY_thin (fun r' v' => r' = r ∧ i_Rel (k + 5) u' v') v) u := by
  obtain ⟨s, m, W, way, pic, ker, rx, ry, fr, rfl, rfl, hs, hm, hW, hr, hf⟩ := I
  have h := cq_thin hW hr 64
  have e : nI W / 2 = nI (W / 2) := cq_d2 (by omega)
  refine ⟨by decide, nm_r e (cq_xthin (by omega) ⟨by decide, nm_r e (cq_ythin (by omega) ⟨rfl, ⟨s, m, W / 2, way, pic, ker, _, _, fr, rfl, rfl, hs, hm, by omega, fun p hp => h p (by omega), hf⟩⟩)⟩)⟩
end
section
/-! peak -/
def cq_gp (W : Nat) (res : Nat → Int32) (p b : Nat) : Nat := if cq_in W p then (if res p ≤ res b then b else p) else b
theorem cq_gpn {W : Nat} {res : Nat → Int32} (p b : Nat) (c : ¬ cq_in W p) : cq_gp W res p b = b := if_neg c
theorem cq_gp1 {W p b : Nat} {res : Nat → Int32} (c : cq_in W p) (d : res p ≤ res b) : cq_gp W res p b = b := by
  unfold cq_gp; rw [if_pos c, if_pos d]
theorem cq_gp0 {W p b : Nat} {res : Nat → Int32} (c : cq_in W p) (d : ¬ res p ≤ res b) : cq_gp W res p b = p := by
  unfold cq_gp; rw [if_pos c, if_neg d]
theorem cq_gpb (W : Nat) (res : Nat → Int32) : ∀ n, cq_fd (cq_gp W res) n 0 ≤ n := by
  intro n
  induction n with
  | zero => exact Nat.le_refl 0
  | succ n ih =>
    rw [cq_fd_s]
    generalize cq_fd (cq_gp W res) n 0 = b at ih ⊢
    by_cases c : cq_in W n
    · by_cases d : res n ≤ res b
      · rw [cq_gp1 c d]; omega
      · rw [cq_gp0 c d]; omega
    · rw [cq_gpn n b c]; omega
theorem cq_fd_0 {σ : Type} (g : Nat → σ → σ) (s : σ) : cq_fd g 0 s = s := rfl
theorem cq_gpd {W n b : Nat} {rx ry : Nat → Int32} (h : cq_ag W rx ry) (i2 : cq_in W b) : cq_gp W rx n b = cq_gp W ry n b ∧ cq_in W (cq_gp W rx n b) := by
  by_cases c : cq_in W n
  · have e : rx n ≤ rx b ↔ ry n ≤ ry b := by rw [h n c, h b i2]
    by_cases d : rx n ≤ rx b
    · rw [cq_gp1 c d, cq_gp1 c (e.mp d)]
      exact ⟨rfl, i2⟩
    · rw [cq_gp0 c d, cq_gp0 c (fun z => d (e.mpr z))]
      exact ⟨rfl, c⟩
  · rw [cq_gpn n b c, cq_gpn n b c]
    exact ⟨rfl, i2⟩
theorem cq_gpc {W : Nat} (h0 : 0 < W) {rx ry : Nat → Int32} (h : cq_ag W rx ry) : ∀ n, cq_fd (cq_gp W rx) n 0 = cq_fd (cq_gp W ry) n 0 ∧ cq_in W (cq_fd (cq_gp W rx) n 0) := by
  intro n
  induction n with
  | zero =>
    have c : cq_in W 0 := by omega
    rw [cq_fd_0, cq_fd_0]
    exact ⟨rfl, c⟩
  | succ n ih =>
    rw [cq_fd_s, cq_fd_s, ← ih.1]
    exact cq_gpd h ih.2
theorem cq_xpeak {post : Int32 → Prop} {W : Nat} (hW : W ≤ 8) {fs fm fc : Int32} {pic ker res fr : Nat → Int32} (h : post (nI (cq_fd (cq_gp W res) 64 0))) : ∃ n, wX_peak_13 post fs fm (nI W) fc pic ker res fr n 0 0 := by
  refine cq_dl W W (fun n y => wX_peak_13 post fs fm (nI W) fc pic ker res fr n (nI (cq_fd (cq_gp W res) (8 * y) 0)) (nI y)) (fun n y m x => wX_peak_23 post (wX_peak_13 post fs fm (nI W) fc pic ker res fr n) (nI y) fs fm (nI W) fc pic ker res fr m (nI (cq_fd (cq_gp W res) (8 * y + x) 0)) (nI x)) ?_ ?_ ?_ ?_
  · intro n
    refine br_t (cq_le (by omega) (by omega)) ?_
    rw [cq_all hW cq_gpn]
    exact h
  · intro n y hy h'
    exact br_f (cq_nle hy (by omega)) h'
  · intro n y m hy h'
    rw [cq_row hW cq_gpn]
    exact br_t (cq_le (by omega) (by omega)) (nm_r (nI_1 y) h')
  · intro n y m x hy hx h'
    have e1 : cq_fd (cq_gp W res) (8 * y + (x + 1)) 0 = cq_gp W res (8 * y + x) (cq_fd (cq_gp W res) (8 * y + x) 0) := rfl
    rw [e1] at h'
    have hb := cq_gpb W res (8 * y + x)
    generalize cq_fd (cq_gp W res) (8 * y + x) 0 = b at h' hb ⊢
    have hin : vp_in (8 * nI y + nI x) 64 := pk_in (8 * y + x) 64 (by omega) (cq_i8 y x)
    have hcl : (8 * nI y + nI x).toNatClampNeg = 8 * y + x := pk_cl _ (cq_i8 y x)
    have hcb : (nI b).toNatClampNeg = b := nI_clamp (by omega)
    have c : cq_in W (8 * y + x) := by omega
    refine br_f (cq_nle hx (by omega)) ⟨hin, vp_in_nI (by omega) (by omega), ?_⟩
    rw [hcl, hcb]
    by_cases d : res (8 * y + x) ≤ res b
    · rw [cq_gp1 c d] at h'
      exact br_t d (nm_r (nI_1 x) h')
    · rw [cq_gp0 c d] at h'
      exact br_f d (nm_r (cq_i8 y x) (nm_r (nI_1 x) h'))
def cq_gy (W : Nat) (res : Nat → Int32) (p : Nat) (x : Int32) : Int32 := if cq_in W p then (if x < 0 then nI p else (if res p ≤ res x.toNatClampNeg then x else nI p)) else x
theorem cq_gyn {W : Nat} {res : Nat → Int32} (p : Nat) (x : Int32) (c : ¬ cq_in W p) : cq_gy W res p x = x := if_neg c
theorem cq_gy2 {W p : Nat} {x : Int32} {res : Nat → Int32} (c : cq_in W p) (z : x < 0) : cq_gy W res p x = nI p := by
  unfold cq_gy; rw [if_pos c, if_pos z]
theorem cq_gy1 {W p b : Nat} {res : Nat → Int32} (hb : b < 64) (c : cq_in W p) (d : res p ≤ res b) : cq_gy W res p (nI b) = nI b := by
  have e : (nI b).toNatClampNeg = b := nI_clamp (by omega)
  unfold cq_gy; rw [if_pos c, if_neg (nI_pos (by omega)), e, if_pos d]
theorem cq_gy0 {W p b : Nat} {res : Nat → Int32} (hb : b < 64) (c : cq_in W p) (d : ¬ res p ≤ res b) : cq_gy W res p (nI b) = nI p := by
  have e : (nI b).toNatClampNeg = b := nI_clamp (by omega)
  unfold cq_gy; rw [if_pos c, if_neg (nI_pos (by omega)), e, if_neg d]
theorem cq_pk {W : Nat} (h0 : 0 < W) (res : Nat → Int32) : ∀ n, n < 64 → cq_fd (cq_gy W res) (n + 1) (-1) = nI (cq_fd (cq_gp W res) (n + 1) 0) := by
  intro n
  induction n with
  | zero =>
    intro _
    have c : cq_in W 0 := by omega
    show cq_gy W res 0 (-1) = nI (cq_gp W res 0 0)
    rw [cq_gy2 c (by decide), cq_gp1 c (Int32.le_refl _)]
  | succ n ih =>
    intro hn
    rw [cq_fd_s _ (n + 1), cq_fd_s _ (n + 1), ih (by omega)]
    have hb := cq_gpb W res (n + 1)
    generalize cq_fd (cq_gp W res) (n + 1) 0 = b at hb ⊢
    by_cases c : cq_in W (n + 1)
    · by_cases d : res (n + 1) ≤ res b
      · rw [cq_gp1 c d, cq_gy1 (by omega) c d]
      · rw [cq_gp0 c d, cq_gy0 (by omega) c d]
    · rw [cq_gpn _ b c, cq_gyn _ _ c]
theorem cq_p0 (res : Nat → Int32) : ∀ n, cq_fd (cq_gy 0 res) n (-1) = -1 := by
  intro n
  induction n with
  | zero => rfl
  | succ n ih => rw [cq_fd_s, ih, cq_gyn _ _ (by omega)]
theorem cq_pb {W : Nat} {res : Nat → Int32} {n : Nat} (hn : n < 64) : cq_fd (cq_gy W res) n (-1) < 0 ∨ ∃ b, b < 64 ∧ cq_fd (cq_gy W res) n (-1) = nI b := by
  by_cases h0 : W = 0
  · subst h0; rw [cq_p0]; exact Or.inl (by decide)
  by_cases h1 : n = 0
  · subst h1
    exact Or.inl (show (-1 : Int32) < 0 by decide)
  obtain ⟨q, rfl⟩ : ∃ q, n = q + 1 := ⟨n - 1, by omega⟩
  have hb := cq_gpb W res (q + 1)
  exact Or.inr ⟨_, by omega, cq_pk (by omega) res q (by omega)⟩
theorem cq_ypeak {post : Int32 → Prop} {W : Nat} (hW : W ≤ 8) {fs fm : Int32} {pic ker res : Nat → Int32} (h : post (cq_fd (cq_gy W res) 64 (-1))) : ∃ n, wY_peak_4 post fs fm (nI W) pic ker res n (-1) 0 := by
  refine cq_ls 64 (fun n i => wY_peak_4 post fs fm (nI W) pic ker res n (cq_fd (cq_gy W res) i (-1)) (nI i)) ?_ ?_ 0 (by omega)
  · intro n
    exact br_t (cq_le (a := 64) (b := 64) (by omega) (by omega)) h
  · intro n i hi h'
    rw [cq_fd_s] at h'
    have hb := cq_pb (W := W) (res := res) hi
    generalize cq_fd (cq_gy W res) i (-1) = st at h' hb ⊢
    have hin : vp_in (nI i) 64 := vp_in_nI hi (by omega)
    have hcl : (nI i).toNatClampNeg = i := nI_clamp (by omega)
    refine br_f (cq_nle (a := 64) hi (by omega)) ⟨by decide, ?_⟩
    rw [cq_m8 (by omega), cq_d8 (by omega)]
    by_cases a : W ≤ i % 8
    · rw [cq_gyn i st (by omega)] at h'
      exact br_t (cq_le a (by omega)) (nm_r (nI_1 i) h')
    by_cases b : W ≤ i / 8
    · rw [cq_gyn i st (by omega)] at h'
      exact br_f (cq_nle (by omega) (by omega)) ⟨by decide, br_t (cq_le b (by omega)) (nm_r (nI_1 i) h')⟩
    have c : cq_in W i := by omega
    refine br_f (cq_nle (by omega) (by omega)) ⟨by decide, br_f (cq_nle (by omega) (by omega)) ?_⟩
    rcases hb with z | ⟨q, hq, rfl⟩
    · rw [cq_gy2 c z] at h'
      exact br_t z (nm_r (nI_1 i) h')
    · have hcq : (nI q).toNatClampNeg = q := nI_clamp (by omega)
      refine br_f (nI_pos (by omega)) ⟨hin, vp_in_nI hq (by omega), ?_⟩
      rw [hcl, hcq]
      by_cases d : res i ≤ res q
      · rw [cq_gy1 hq c d] at h'
        exact br_t d (nm_r (nI_1 i) h')
      · rw [cq_gy0 hq c d] at h'
        exact br_f d (nm_r (nI_1 i) h')
theorem i_vc_peak {k : Nat} {u : SX} {v : SY} (I : i_Rel k u v) (hk : k + 5 ≤ 2560) : wpX_peak (fun r => wpY_peak (fun r' => r' = r ∧ i_Rel (k + 5) u v) v) u := by
  obtain ⟨s, m, W, way, pic, ker, rx, ry, fr, rfl, rfl, hs, hm, hW, hr, hf⟩ := I
  have R : i_Rel (k + 5) (nI s, nI m, nI W, way, pic, ker, rx, fr) (nI s, nI m, nI W, pic, ker, ry) := ⟨s, m, W, way, pic, ker, rx, ry, fr, rfl, rfl, hs, hm, hW, hr, hf⟩
  by_cases h0 : W = 0
  · subst h0
    exact br_t rfl (cq_ypeak hW ⟨cq_p0 ry 64, R⟩)
  · refine br_f (nI_ne0 (by omega) (by omega)) (cq_xpeak hW (cq_ypeak hW ⟨?_, R⟩))
    rw [cq_pk (by omega) ry 63 (by omega), (cq_gpc (by omega) hr 64).1]
end
section
/-! move: the picture with zeros around it, the sum under the kernel, the reference's walk, ways 0 and 1 -/
/-- the number at column a - 1, row b - 1 of layer c, 0 outside -/
def cq_pz (pic : Nat → Int32) (c a b : Nat) : Int32 := if 1 ≤ a ∧ a ≤ 8 ∧ 1 ≤ b ∧ b ≤ 8 then pic (64 * c + (8 * (b - 1) + (a - 1))) else 0
def cq_t (ker pic : Nat → Int32) (s m x y q : Nat) : Int32 := ker q * cq_pz pic (q / 9) (s * x + q % 3 + 1 - m) (s * y + q % 9 / 3 + 1 - m)
def cq_sm (t : Nat → Int32) : Nat → Int32
  | 0 => 0
  | n + 1 => cq_sm t n + t n
def cq_cv (ker pic : Nat → Int32) (s m p : Nat) : Int32 := cq_sm (cq_t ker pic s m (p % 8) (p / 8)) 18
theorem cq_sms (t : Nat → Int32) (n : Nat) : cq_sm t (n + 1) = cq_sm t n + t n := rfl
theorem cq_smc {f g : Nat → Int32} : ∀ n, (∀ q, q < n → f q = g q) → cq_sm f n = cq_sm g n := by
  intro n
  induction n with
  | zero => intro _; rfl
  | succ n ih =>
    intro h
    rw [cq_sms, cq_sms, ih (fun q hq => h q (by omega)), h n (by omega)]
theorem cq_sm1 {f g : Nat → Int32} {Q : Nat} {d : Int32} (hQ : g Q = f Q + d) : ∀ n, Q < n → (∀ q, q < n → q ≠ Q → g q = f q) → cq_sm g n = cq_sm f n + d := by
  intro n
  induction n with
  | zero => intro h _; omega
  | succ n ih =>
    intro h hq
    rw [cq_sms, cq_sms]
    by_cases e : n = Q
    · subst e
      rw [cq_smc n (fun q z => hq q (by omega) (by omega)), hQ, Int32.add_assoc]
    · rw [ih (by omega) (fun q z => hq q (by omega)), hq n (by omega) e, Int32.add_assoc, Int32.add_assoc, Int32.add_comm d]
theorem cq_sma (t : Nat → Int32) (a : Nat) : ∀ n, cq_sm t (a + n) = cq_sm t a + cq_sm (fun q => t (a + q)) n := by
  intro n
  induction n with
  | zero => exact (Int32.add_zero _).symm
  | succ n ih =>
    show cq_sm t (a + n) + t (a + n) = cq_sm t a + (cq_sm (fun q => t (a + q)) n + t (a + n))
    rw [ih, Int32.add_assoc]
theorem cq_pz0 {pic : Nat → Int32} {c a b : Nat} (h : ¬ (1 ≤ a ∧ a ≤ 8 ∧ 1 ≤ b ∧ b ≤ 8)) : cq_pz pic c a b = 0 := if_neg h
theorem cq_pz1 {pic : Nat → Int32} {c a b : Nat} (ha : a < 8) (hb : b < 8) : cq_pz pic c (a + 1) (b + 1) = pic (64 * c + (8 * b + a)) := if_pos (by omega)
theorem cq_xpz {post : Int32 → Prop} {c a b : Nat} (hc : c ≤ 1) (ha : a < 100) (hb : b < 100) {fs fm fw fc : Int32} {pic ker res fr : Nat → Int32} (h : post (cq_pz pic c a b)) : wpX_pixelOrZero post (fs, fm, fw, fc, pic, ker, res, fr) (nI c) (nI a - 1) (nI b - 1) := by
  unfold wpX_pixelOrZero
  dsimp only
  by_cases a0 : a = 0
  · subst a0
    rw [cq_pz0 (by omega)] at h
    exact cq_iw0 (Or.inl (by decide)) (br_t rfl h)
  obtain ⟨a, rfl⟩ : ∃ a', a = a' + 1 := ⟨a - 1, by omega⟩
  rw [nI_pred a]
  by_cases a8 : 8 ≤ a
  · rw [cq_pz0 (by omega)] at h
    exact cq_iw0 (Or.inr (nI_lt (a := 7) (by omega) (by omega))) (br_t rfl h)
  refine cq_iw1 (nI_pos (by omega)) (nI_nlt (a := 7) (by omega) (by omega)) (br_f cq_10 ?_)
  by_cases b0 : b = 0
  · subst b0
    rw [cq_pz0 (by omega)] at h
    exact cq_iw0 (Or.inl (by decide)) (br_t rfl h)
  obtain ⟨b, rfl⟩ : ∃ b', b = b' + 1 := ⟨b - 1, by omega⟩
  rw [nI_pred b]
  by_cases b8 : 8 ≤ b
  · rw [cq_pz0 (by omega)] at h
    exact cq_iw0 (Or.inr (nI_lt (a := 7) (by omega) (by omega))) (br_t rfl h)
  refine cq_iw1 (nI_pos (by omega)) (nI_nlt (a := 7) (by omega) (by omega)) (br_f cq_10 ⟨pk_in (64 * c + (8 * b + a)) 128 (by omega) (cq_i64 c b a), ?_⟩)
  rw [cq_pz1 (by omega) (by omega)] at h
  rw [pk_cl _ (cq_i64 c b a)]
  exact h
theorem cq_ypz {post : Int32 → Prop} {c a b : Nat} (hc : c ≤ 1) (ha : a < 100) (hb : b < 100) {fs fm fw : Int32} {pic ker res : Nat → Int32} (h : post (cq_pz pic c a b)) : wpY_pixelAt post (fs, fm, fw, pic, ker, res) (nI c) (nI a - 1) (nI b - 1) := by
  by_cases a0 : a = 0
  · subst a0
    rw [cq_pz0 (by omega)] at h
    exact br_t (by decide) h
  obtain ⟨a, rfl⟩ : ∃ a', a = a' + 1 := ⟨a - 1, by omega⟩
  rw [nI_pred a]
  by_cases a8 : 8 ≤ a
  · rw [cq_pz0 (by omega)] at h
    exact br_f (nI_pos (by omega)) (br_t (nI_lt (a := 7) (by omega) (by omega)) h)
  by_cases b0 : b = 0
  · subst b0
    rw [cq_pz0 (by omega)] at h
    exact br_f (nI_pos (by omega)) (br_f (nI_nlt (a := 7) (by omega) (by omega)) (br_t (by decide) h))
  obtain ⟨b, rfl⟩ : ∃ b', b = b' + 1 := ⟨b - 1, by omega⟩
  rw [nI_pred b]
  by_cases b8 : 8 ≤ b
  · rw [cq_pz0 (by omega)] at h
    exact br_f (nI_pos (by omega)) (br_f (nI_nlt (a := 7) (by omega) (by omega)) (br_f (nI_pos (by omega)) (br_f (nI_ge (b := b) (a := 7) (by omega) (by omega)) h)))
  refine br_f (nI_pos (by omega)) (br_f (nI_nlt (a := 7) (by omega) (by omega)) (br_f (nI_pos (by omega)) (br_t (nI_le (b := 7) (by omega) (by omega)) ⟨pk_in (64 * c + (8 * b + a)) 128 (by omega) (cq_i64 c b a), ?_⟩)))
  rw [cq_pz1 (by omega) (by omega)] at h
  rw [pk_cl _ (cq_i64 c b a)]
  exact h
theorem cq_sx {s x : Nat} (hs : s = 1 ∨ s = 2) (hx : x < 8) : s * x ≤ 14 := by
  rcases hs with rfl | rfl <;> omega
theorem cq_d9 {p : Nat} (h : p < 2 ^ 31) : nI p / 9 = nI (p / 9) := pk_div (d := 9) h (by decide) (by decide)
theorem cq_d3 {p : Nat} (h : p < 2 ^ 31) : nI p / 3 = nI (p / 3) := pk_div (d := 3) h (by decide) (by decide)
theorem cq_m9 {p : Nat} (h : p < 2 ^ 31) : nI p - nI p / 9 * 9 = nI (p % 9) := pk_rem (d := 9) h (by decide) (by decide)
theorem cq_m3 {p : Nat} (h : p < 2 ^ 31) : nI p - nI p / 3 * 3 = nI (p % 3) := pk_rem (d := 3) h (by decide) (by decide)
theorem cq_md {p : Nat} (h : p < 18) : (nI p - nI p / 9 * 9) / 3 = nI (p % 9 / 3) := by
  rw [cq_m9 (by omega), cq_d3 (by omega)]
theorem cq_yprod {post : Int32 → Prop} {s m x y : Nat} (hs : s = 1 ∨ s = 2) (hm : m ≤ 1) (hx : x < 8) (hy : y < 8) {fw : Int32} {pic ker res : Nat → Int32} (h : post (cq_sm (cq_t ker pic s m x y) 18)) : wpY_product post (nI s, nI m, fw, pic, ker, res) (nI x) (nI y) := by
  have hsx := cq_sx hs hx
  have hsy := cq_sx hs hy
  refine cq_ls 18 (fun n i => wY_product_5 post (nI x) (nI y) (nI s) (nI m) fw pic ker res n (cq_sm (cq_t ker pic s m x y) i) (nI i)) ?_ ?_ 0 (by omega)
  · intro n
    exact br_t (cq_le (a := 18) (b := 18) (by omega) (by omega)) h
  · intro n i hi h'
    refine br_f (cq_nle (a := 18) hi (by omega)) ⟨by decide, nm_r (cq_d9 (by omega)) ⟨by decide, nm_r (cq_m3 (by omega)) ⟨by decide, by decide, nm_r (cq_md hi) ⟨vp_in_nI hi (by omega), ?_⟩⟩⟩⟩
    rw [cq_co hm, cq_co hm]
    refine cq_ypz (by omega) (by omega) (by omega) (nm_r ?_ (nm_r (nI_1 i) h'))
    rw [nI_clamp (by omega)]
    rfl
/-! stores over the square -/
def cq_gm (W : Nat) (v : Nat → Int32) (p : Nat) (r : Nat → Int32) : Nat → Int32 := if cq_in W p then upd r p (v p) else r
theorem cq_gmn {W : Nat} {v : Nat → Int32} (p : Nat) (r : Nat → Int32) (c : ¬ cq_in W p) : cq_gm W v p r = r := if_neg c
theorem cq_gm1 {W : Nat} (hW : W ≤ 8) {v r : Nat → Int32} {p : Nat} (hp : cq_in W p) : cq_fd (cq_gm W v) 64 r p = v p :=
  (cq_fu (g := cq_gm W v) (C := cq_in W) (h := fun p _ => v p) (fun p r c => if_pos c) (fun p r c => if_neg c) r 64).1 p (by omega) hp
def cq_ga (W : Nat) (v : Nat → Int32) (p : Nat) (r : Nat → Int32) : Nat → Int32 := if cq_in W p then upd r p (r p + v p) else r
theorem cq_gan {W : Nat} {v : Nat → Int32} (p : Nat) (r : Nat → Int32) (c : ¬ cq_in W p) : cq_ga W v p r = r := if_neg c
theorem cq_ga1 {W : Nat} (hW : W ≤ 8) {v r : Nat → Int32} {p : Nat} (hp : cq_in W p) : cq_fd (cq_ga W v) 64 r p = r p + v p :=
  (cq_fu (g := cq_ga W v) (C := cq_in W) (h := fun p a => a + v p) (fun p r c => if_pos c) (fun p r c => if_neg c) r 64).1 p (by omega) hp
theorem cq_ymove {post : Int32 → SY → Prop} {s m W : Nat} (hs : s = 1 ∨ s = 2) (hm : m ≤ 1) (hW : W ≤ 8) {pic ker res : Nat → Int32} (h : post (nI W) (nI s, nI m, nI W, pic, ker, cq_fd (cq_gm W (cq_cv ker pic s m)) 64 res)) : ∃ n, wY_move_10 post (nI s) (nI m) (nI W) n 0 pic ker res := by
  refine cq_dl W W (fun n y => wY_move_10 post (nI s) (nI m) (nI W) n (nI y) pic ker (cq_fd (cq_gm W (cq_cv ker pic s m)) (8 * y) res)) (fun n y k x => wY_move_20 post (wY_move_10 post (nI s) (nI m) (nI W) n) (nI y) (nI s) (nI m) (nI W) k (nI x) pic ker (cq_fd (cq_gm W (cq_cv ker pic s m)) (8 * y + x) res)) ?_ ?_ ?_ ?_
  · intro n
    refine br_t (cq_le (by omega) (by omega)) ?_
    rw [cq_all hW cq_gmn]
    exact h
  · intro n y hy h'
    exact br_f (cq_nle hy (by omega)) h'
  · intro n y m hy h'
    rw [cq_row hW cq_gmn]
    exact br_t (cq_le (by omega) (by omega)) (nm_r (nI_1 y) h')
  · intro n y k x hy hx h'
    refine br_f (cq_nle hx (by omega)) (cq_yprod hs hm (by omega) (by omega) ⟨pk_in (8 * y + x) 64 (by omega) (cq_i8 y x), nm_r ?_ (nm_r (nI_1 x) h')⟩)
    show _ = cq_gm W (cq_cv ker pic s m) (8 * y + x) (cq_fd (cq_gm W (cq_cv ker pic s m)) (8 * y + x) res)
    unfold cq_gm cq_cv
    rw [pk_cl _ (cq_i8 y x), if_pos (by omega), (cq_pq (by omega) y).1, (cq_pq (by omega) y).2]
/-! way 0 -/
theorem cq_q9 {c j i : Nat} (hj : j < 3) (hi : i < 3) : (9 * c + 3 * j + i) / 9 = c ∧ (9 * c + 3 * j + i) % 3 = i ∧ (9 * c + 3 * j + i) % 9 / 3 = j := by omega
theorem cq_xsuk {post : Int32 → Prop} {s m x y : Nat} (hs : s = 1 ∨ s = 2) (hm : m ≤ 1) (hx : x < 8) (hy : y < 8) {fw fc : Int32} {pic ker res fr : Nat → Int32} (h : post (cq_sm (cq_t ker pic s m x y) 18)) : wpX_sumUnderKernel post (nI s, nI m, fw, fc, pic, ker, res, fr) ((nI s * nI x) - nI m) ((nI s * nI y) - nI m) := by
  have hsx := cq_sx hs hx
  have hsy := cq_sx hs hy
  refine cq_ls 2 (fun n c => wX_sumUnderKernel_5 post ((nI s * nI x) - nI m) ((nI s * nI y) - nI m) (nI s) (nI m) fw fc pic ker res fr n (cq_sm (cq_t ker pic s m x y) (9 * c)) (nI c)) ?_ ?_ 0 (by omega)
  · intro n
    exact br_t (cq_le (a := 2) (b := 2) (by omega) (by omega)) h
  intro n c hc h1
  refine br_f (cq_nle (a := 2) hc (by omega)) ?_
  refine cq_ls 3 (fun k j => wX_sumUnderKernel_14 post (wX_sumUnderKernel_5 post ((nI s * nI x) - nI m) ((nI s * nI y) - nI m) (nI s) (nI m) fw fc pic ker res fr n) ((nI s * nI x) - nI m) ((nI s * nI y) - nI m) (nI c) (nI s) (nI m) fw fc pic ker res fr k (cq_sm (cq_t ker pic s m x y) (9 * c + 3 * j)) (nI j)) ?_ ?_ 0 (by omega)
  · intro k
    exact br_t (cq_le (a := 3) (b := 3) (by omega) (by omega)) (nm_r (nI_1 c) h1)
  intro k j hj h2
  refine br_f (cq_nle (a := 3) hj (by omega)) ?_
  refine cq_ls 3 (fun l i => wX_sumUnderKernel_23 post (wX_sumUnderKernel_5 post ((nI s * nI x) - nI m) ((nI s * nI y) - nI m) (nI s) (nI m) fw fc pic ker res fr n) (wX_sumUnderKernel_14 post (wX_sumUnderKernel_5 post ((nI s * nI x) - nI m) ((nI s * nI y) - nI m) (nI s) (nI m) fw fc pic ker res fr n) ((nI s * nI x) - nI m) ((nI s * nI y) - nI m) (nI c) (nI s) (nI m) fw fc pic ker res fr k) ((nI s * nI x) - nI m) ((nI s * nI y) - nI m) (nI c) (nI j) (nI s) (nI m) fw fc pic ker res fr l (cq_sm (cq_t ker pic s m x y) (9 * c + 3 * j + i)) (nI i)) ?_ ?_ 0 (by omega)
  · intro l
    exact br_t (cq_le (a := 3) (b := 3) (by omega) (by omega)) (nm_r (nI_1 j) h2)
  intro l i hi h3
  refine br_f (cq_nle (a := 3) hi (by omega)) ⟨pk_in (9 * c + 3 * j + i) 18 (by omega) (cq_i9 c j i), nm_r (congrArg ker (pk_cl _ (cq_i9 c j i))) ?_⟩
  rw [cq_co0 hm, cq_co0 hm]
  refine cq_xpz (by omega) (by omega) (by omega) (nm_r ?_ (nm_r (nI_1 i) h3))
  show _ = cq_sm (cq_t ker pic s m x y) (9 * c + 3 * j + i) + cq_t ker pic s m x y (9 * c + 3 * j + i)
  unfold cq_t
  rw [(cq_q9 hj hi).1, (cq_q9 hj hi).2.1, (cq_q9 hj hi).2.2]
/-- what a way of moving owes -/
def cq_ok (ker pic : Nat → Int32) (s m W : Nat) (r : Nat → Int32) : Prop := ∀ p, cq_in W p → r p = cq_cv ker pic s m p
theorem cq_way0 {post : SX → Prop} {s m W : Nat} (hs : s = 1 ∨ s = 2) (hm : m ≤ 1) (hW : W ≤ 8) {fc : Int32} {pic ker res fr : Nat → Int32} (hf : cq_fb fr) (H : ∀ r' f', cq_ok ker pic s m W r' → cq_fb f' → post (nI s, nI m, nI W, fc, pic, ker, r', f')) : wpX_moveByResult post (nI s, nI m, nI W, fc, pic, ker, res, fr) := by
  have h := H (cq_fd (cq_gm W (cq_cv ker pic s m)) 64 res) fr (fun p hp => cq_gm1 hW hp) hf
  refine cq_dl W W (fun n y => wX_moveByResult_2 post (nI s) (nI m) (nI W) fc n (nI y) pic ker (cq_fd (cq_gm W (cq_cv ker pic s m)) (8 * y) res) fr) (fun n y k x => wX_moveByResult_12 post (wX_moveByResult_2 post (nI s) (nI m) (nI W) fc n) (nI y) (nI s) (nI m) (nI W) fc k (nI x) pic ker (cq_fd (cq_gm W (cq_cv ker pic s m)) (8 * y + x) res) fr) ?_ ?_ ?_ ?_
  · intro n
    refine br_t (cq_le (by omega) (by omega)) ?_
    rw [cq_all hW cq_gmn]
    exact h
  · intro n y hy h'
    exact br_f (cq_nle hy (by omega)) h'
  · intro n y m hy h'
    rw [cq_row hW cq_gmn]
    exact br_t (cq_le (by omega) (by omega)) (nm_r (nI_1 y) h')
  · intro n y k x hy hx h'
    refine br_f (cq_nle hx (by omega)) (cq_xsuk hs hm (by omega) (by omega) ⟨pk_in (8 * y + x) 64 (by omega) (cq_i8 y x), nm_r ?_ (nm_r (nI_1 x) h')⟩)
    show _ = cq_gm W (cq_cv ker pic s m) (8 * y + x) (cq_fd (cq_gm W (cq_cv ker pic s m)) (8 * y + x) res)
    unfold cq_gm cq_cv
    rw [pk_cl _ (cq_i8 y x), if_pos (by omega), (cq_pq (by omega) y).1, (cq_pq (by omega) y).2]
end
section
/-! ways 1 and 2 -/
def cq_gc (p : Nat) (r : Nat → Int32) : Nat → Int32 := upd r p 0
theorem cq_xclear {post : SX → Prop} {fs fm fw fc : Int32} {pic ker res fr : Nat → Int32} (H : ∀ r', (∀ p, p < 64 → r' p = 0) → post (fs, fm, fw, fc, pic, ker, r', fr)) : wpX_clearResult post (fs, fm, fw, fc, pic, ker, res, fr) := by
  have h := H (cq_fd cq_gc 64 res) (fun p hp => (cq_fu (g := cq_gc) (C := fun _ => True) (h := fun _ _ => 0) (fun p r c => rfl) (fun p r c => absurd trivial c) res 64).1 p hp trivial)
  refine cq_ls 64 (fun n i => wX_clearResult_2 post fs fm fw fc n (nI i) pic ker (cq_fd cq_gc i res) fr) ?_ ?_ 0 (by omega)
  · intro n
    exact br_t (cq_le (a := 64) (b := 64) (by omega) (by omega)) h
  · intro n i hi h'
    refine br_f (cq_nle (a := 64) hi (by omega)) ⟨vp_in_nI hi (by omega), nm_r ?_ (nm_r (nI_1 i) h')⟩
    rw [nI_clamp (by omega)]
    rfl
theorem cq_gaP {W p : Nat} {v r : Nat → Int32} (c : cq_in W p) : cq_ga W v p r = upd r p (r p + v p) := if_pos c
theorem cq_xshare {post : SX → Prop} {s m W q : Nat} (hs : s = 1 ∨ s = 2) (hm : m ≤ 1) (hW : W ≤ 8) (hq : q < 18) {fc : Int32} {pic ker res fr : Nat → Int32} (h : post (nI s, nI m, nI W, fc, pic, ker, cq_fd (cq_ga W (fun p => cq_t ker pic s m (p % 8) (p / 8) q)) 64 res, fr)) : wpX_addShareOfKernelNumber post (nI s, nI m, nI W, fc, pic, ker, res, fr) (nI q) := by
  refine ⟨by decide, nm_r (cq_d9 (by omega)) ⟨by decide, by decide, nm_r (cq_md hq) ⟨by decide, nm_r (cq_m3 (by omega)) ?_⟩⟩⟩
  refine cq_dl W W (fun n y => wX_addShareOfKernelNumber_20 post (nI q) (nI (q / 9)) (nI (q % 9 / 3)) (nI (q % 3)) (nI s) (nI m) (nI W) fc n (nI y) pic ker (cq_fd (cq_ga W (fun p => cq_t ker pic s m (p % 8) (p / 8) q)) (8 * y) res) fr) (fun n y k x => wX_addShareOfKernelNumber_32 post (wX_addShareOfKernelNumber_20 post (nI q) (nI (q / 9)) (nI (q % 9 / 3)) (nI (q % 3)) (nI s) (nI m) (nI W) fc n) (nI q) (nI (q / 9)) (nI (q % 9 / 3)) (nI (q % 3)) (nI y) (nI s) (nI m) (nI W) fc k (nI x) pic ker (cq_fd (cq_ga W (fun p => cq_t ker pic s m (p % 8) (p / 8) q)) (8 * y + x) res) fr) ?_ ?_ ?_ ?_
  · intro n
    refine br_t (cq_le (by omega) (by omega)) ?_
    rw [cq_all hW cq_gan]
    exact h
  · intro n y hy h'
    exact br_f (cq_nle hy (by omega)) h'
  · intro n y m hy h'
    rw [cq_row hW cq_gan]
    exact br_t (cq_le (by omega) (by omega)) (nm_r (nI_1 y) h')
  · intro n y k x hy hx h'
    have hin : vp_in (8 * nI y + nI x) 64 := pk_in (8 * y + x) 64 (by omega) (cq_i8 y x)
    have hsx := cq_sx hs (show x < 8 by omega)
    have hsy := cq_sx hs (show y < 8 by omega)
    refine br_f (cq_nle hx (by omega)) ?_
    rw [cq_co hm, cq_co hm]
    refine cq_xpz (by omega) (by omega) (by omega) ⟨hin, vp_in_nI hq (by omega), hin, nm_r ?_ (nm_r (nI_1 x) h')⟩
    show _ = cq_ga W (fun p => cq_t ker pic s m (p % 8) (p / 8) q) (8 * y + x) (cq_fd (cq_ga W (fun p => cq_t ker pic s m (p % 8) (p / 8) q)) (8 * y + x) res)
    generalize cq_fd (cq_ga W (fun p => cq_t ker pic s m (p % 8) (p / 8) q)) (8 * y + x) res = R
    rw [cq_gaP (by omega), pk_cl _ (cq_i8 y x), nI_clamp (by omega), (cq_pq (by omega) y).1, (cq_pq (by omega) y).2]
    rfl
theorem cq_way1 {post : SX → Prop} {s m W : Nat} (hs : s = 1 ∨ s = 2) (hm : m ≤ 1) (hW : W ≤ 8) {fc : Int32} {pic ker res fr : Nat → Int32} (hf : cq_fb fr) (H : ∀ r' f', cq_ok ker pic s m W r' → cq_fb f' → post (nI s, nI m, nI W, fc, pic, ker, r', f')) : wpX_moveByKernel post (nI s, nI m, nI W, fc, pic, ker, res, fr) := by
  unfold wpX_moveByKernel
  dsimp only
  refine cq_xclear (fun r0 hr0 => ?_)
  refine loop_0 (fun n q r => wX_moveByKernel_6 post n (nI q) (nI s) (nI m) (nI W) fc pic ker r fr) (fun q r => ∀ p, cq_in W p → r p = cq_sm (cq_t ker pic s m (p % 8) (p / 8)) q) 18 r0 (fun p hp => hr0 p (by omega)) ?_ ?_
  · intro n r hr
    exact br_t (cq_le (a := 18) (b := 18) (by omega) (by omega)) (H r fr hr hf)
  · intro n q r hq hr k
    have hcl : (nI q).toNatClampNeg = q := nI_clamp (by omega)
    refine br_f (cq_nle (a := 18) hq (by omega)) ⟨vp_in_nI hq (by omega), ?_⟩
    rw [hcl]
    by_cases z : ker q = 0
    · refine br_t z (nm_r (nI_1 q) (k r (fun p hp => ?_)))
      have e : cq_t ker pic s m (p % 8) (p / 8) q = 0 := by unfold cq_t; rw [z, Int32.zero_mul]
      rw [hr p hp, cq_sms, e, Int32.add_zero]
    · refine br_f z (cq_xshare hs hm hW hq (nm_r (nI_1 q) (k _ (fun p hp => ?_))))
      rw [cq_ga1 hW hp, hr p hp]
      rfl
/-! way 2 -/
def cq_gr (c : Nat) (pic : Nat → Int32) (p : Nat) (f : Nat → Int32) : Nat → Int32 := upd f (10 * (p / 8 + 1) + (p % 8 + 1)) (pic (64 * c + p))
theorem cq_gr1 (c : Nat) (pic f : Nat → Int32) : ∀ n, n ≤ 64 → ∀ a b, a < 10 → b < 10 → cq_fd (cq_gr c pic) n f (10 * b + a) = if 1 ≤ a ∧ a ≤ 8 ∧ 1 ≤ b ∧ b ≤ 8 ∧ 8 * (b - 1) + (a - 1) < n then pic (64 * c + (8 * (b - 1) + (a - 1))) else f (10 * b + a) := by
  intro n
  induction n with
  | zero =>
    intro _ a b ha hb
    rw [if_neg (by omega)]
    rfl
  | succ n ih =>
    intro hn a b ha hb
    rw [cq_fd_s]
    show upd _ (10 * (n / 8 + 1) + (n % 8 + 1)) (pic (64 * c + n)) (10 * b + a) = _
    by_cases e : 10 * b + a = 10 * (n / 8 + 1) + (n % 8 + 1)
    · have e2 : n = 8 * (b - 1) + (a - 1) := by omega
      rw [if_pos (by omega), e, pk_us, ← e2]
    · rw [pk_un e, ih (by omega) a b ha hb]
      by_cases d : 1 ≤ a ∧ a ≤ 8 ∧ 1 ≤ b ∧ b ≤ 8 ∧ 8 * (b - 1) + (a - 1) < n
      · rw [if_pos d, if_pos (by omega)]
      · rw [if_neg d, if_neg (by omega)]
theorem cq_gr2 {c : Nat} {pic f : Nat → Int32} (hf : cq_fb f) {a b : Nat} (ha : a < 10) (hb : b < 10) : cq_fd (cq_gr c pic) 64 f (10 * b + a) = cq_pz pic c a b := by
  rw [cq_gr1 c pic f 64 (by omega) a b ha hb]
  by_cases d : 1 ≤ a ∧ a ≤ 8 ∧ 1 ≤ b ∧ b ≤ 8
  · rw [if_pos (by omega)]
    exact (if_pos d).symm
  · rw [if_neg (by omega), cq_pz0 d]
    exact hf a b ha hb (by omega)
theorem cq_gr3 {c : Nat} {pic f : Nat → Int32} (hf : cq_fb f) : cq_fb (cq_fd (cq_gr c pic) 64 f) := by
  intro a b ha hb h
  rw [cq_gr2 hf ha hb]
  exact cq_pz0 (by omega)
theorem cq_xframe {post : SX → Prop} {c : Nat} (hc : c ≤ 1) {fs fm fw fc : Int32} {pic ker res fr : Nat → Int32} (h : post (fs, fm, fw, fc, pic, ker, res, cq_fd (cq_gr c pic) 64 fr)) : wpX_frameLayer post (fs, fm, fw, fc, pic, ker, res, fr) (nI c) := by
  refine cq_dl 8 8 (fun n y => wX_frameLayer_2 post (nI c) fs fm fw fc n (nI y) pic ker res (cq_fd (cq_gr c pic) (8 * y) fr)) (fun n y k x => wX_frameLayer_10 post (wX_frameLayer_2 post (nI c) fs fm fw fc n) (nI c) (nI y) fs fm fw fc k (nI x) pic ker res (cq_fd (cq_gr c pic) (8 * y + x) fr)) ?_ ?_ ?_ ?_
  · intro n
    exact br_t (cq_le (a := 8) (b := 8) (by omega) (by omega)) h
  · intro n y hy h'
    exact br_f (cq_nle (a := 8) hy (by omega)) h'
  · intro n y m hy h'
    exact br_t (cq_le (a := 8) (b := 8) (by omega) (by omega)) (nm_r (nI_1 y) h')
  · intro n y k x hy hx h'
    refine br_f (cq_nle (a := 8) hx (by omega)) ⟨pk_in (64 * c + (8 * y + x)) 128 (by omega) (cq_i64 c y x), pk_in (10 * (y + 1) + (x + 1)) 100 (by omega) (cq_if y x), nm_r ?_ (nm_r (nI_1 x) h')⟩
    show _ = cq_gr c pic (8 * y + x) (cq_fd (cq_gr c pic) (8 * y + x) fr)
    unfold cq_gr
    rw [pk_cl _ (cq_i64 c y x), pk_cl _ (cq_if y x), (cq_pq hx y).1, (cq_pq hx y).2]
def cq_st (ker f : Nat → Int32) (c k q : Nat) : Int32 := ker (9 * c + q) * f (k + 10 * (q / 3) + q % 3)
theorem cq_xsf {post : Int32 → Prop} {c k : Nat} (hc : c ≤ 1) (hk : k ≤ 77) {fs fm fw fc : Int32} {pic ker res fr : Nat → Int32} (h : post (cq_sm (cq_st ker fr c k) 9)) : wpX_sumInFrame post (fs, fm, fw, fc, pic, ker, res, fr) (nI c) (nI k) := by
  refine cq_dl 3 3 (fun n j => wX_sumInFrame_5 post (nI c) (nI k) fs fm fw fc pic ker res fr n (cq_sm (cq_st ker fr c k) (3 * j)) (nI j)) (fun n j l i => wX_sumInFrame_14 post (wX_sumInFrame_5 post (nI c) (nI k) fs fm fw fc pic ker res fr n) (nI c) (nI k) (nI j) fs fm fw fc pic ker res fr l (cq_sm (cq_st ker fr c k) (3 * j + i)) (nI i)) ?_ ?_ ?_ ?_
  · intro n
    exact br_t (cq_le (a := 3) (b := 3) (by omega) (by omega)) h
  · intro n j hj h'
    exact br_f (cq_nle (a := 3) hj (by omega)) h'
  · intro n j l hj h'
    exact br_t (cq_le (a := 3) (b := 3) (by omega) (by omega)) (nm_r (nI_1 j) h')
  · intro n j l i hj hi h'
    refine br_f (cq_nle (a := 3) hi (by omega)) ⟨pk_in (9 * c + 3 * j + i) 18 (by omega) (cq_i9 c j i), nm_r (congrArg ker (pk_cl _ (cq_i9 c j i))) ⟨pk_in (k + 10 * j + i) 100 (by omega) (cq_ik k j i), nm_r ?_ (nm_r (nI_1 i) h')⟩⟩
    show _ = cq_sm (cq_st ker fr c k) (3 * j + i) + cq_st ker fr c k (3 * j + i)
    have e1 : (3 * j + i) / 3 = j := by omega
    have e2 : (3 * j + i) % 3 = i := by omega
    have e3 : 9 * c + 3 * j + i = 9 * c + (3 * j + i) := by omega
    rw [pk_cl _ (cq_ik k j i), e3]
    unfold cq_st
    rw [e1, e2]
theorem cq_xaddf {post : SX → Prop} {s m W c : Nat} (hm : m ≤ 1) (hW : W ≤ 8) (hc : c ≤ 1) (hB : ∀ x, x < W → s * x + (1 - m) ≤ 7) {fc : Int32} {pic ker res fr : Nat → Int32} (h : post (nI s, nI m, nI W, fc, pic, ker, cq_fd (cq_ga W (fun p => cq_sm (cq_st ker fr c (10 * (s * (p / 8) + (1 - m)) + (s * (p % 8) + (1 - m)))) 9)) 64 res, fr)) : wpX_addFramedLayer post (nI s, nI m, nI W, fc, pic, ker, res, fr) (nI c) := by
  refine nm_r (pk_sub (a := 1) hm) ?_
  refine cq_dl W W (fun n y => wX_addFramedLayer_9 post (nI c) (nI (1 - m)) (nI s) (nI m) (nI W) fc n (nI y) pic ker (cq_fd (cq_ga W (fun p => cq_sm (cq_st ker fr c (10 * (s * (p / 8) + (1 - m)) + (s * (p % 8) + (1 - m)))) 9)) (8 * y) res) fr) (fun n y k x => wX_addFramedLayer_20 post (wX_addFramedLayer_9 post (nI c) (nI (1 - m)) (nI s) (nI m) (nI W) fc n) (nI c) (nI (1 - m)) (nI y) (nI s) (nI m) (nI W) fc k (nI x) pic ker (cq_fd (cq_ga W (fun p => cq_sm (cq_st ker fr c (10 * (s * (p / 8) + (1 - m)) + (s * (p % 8) + (1 - m)))) 9)) (8 * y + x) res) fr) ?_ ?_ ?_ ?_
  · intro n
    refine br_t (cq_le (by omega) (by omega)) ?_
    rw [cq_all hW cq_gan]
    exact h
  · intro n y hy h'
    exact br_f (cq_nle hy (by omega)) h'
  · intro n y m hy h'
    rw [cq_row hW cq_gan]
    exact br_t (cq_le (by omega) (by omega)) (nm_r (nI_1 y) h')
  · intro n y k x hy hx h'
    have hin : vp_in (8 * nI y + nI x) 64 := pk_in (8 * y + x) 64 (by omega) (cq_i8 y x)
    have bx := hB x hx
    have by' := hB y hy
    refine br_f (cq_nle hx (by omega)) (nm_r (cq_ic s y x (1 - m)) ⟨hin, cq_xsf hc (by omega) ⟨hin, nm_r ?_ (nm_r (nI_1 x) h')⟩⟩)
    show _ = cq_ga W (fun p => cq_sm (cq_st ker fr c (10 * (s * (p / 8) + (1 - m)) + (s * (p % 8) + (1 - m)))) 9) (8 * y + x) (cq_fd (cq_ga W (fun p => cq_sm (cq_st ker fr c (10 * (s * (p / 8) + (1 - m)) + (s * (p % 8) + (1 - m)))) 9)) (8 * y + x) res)
    generalize cq_fd (cq_ga W (fun p => cq_sm (cq_st ker fr c (10 * (s * (p / 8) + (1 - m)) + (s * (p % 8) + (1 - m)))) 9)) (8 * y + x) res = R
    rw [cq_gaP (by omega), pk_cl _ (cq_i8 y x), (cq_pq (by omega) y).1, (cq_pq (by omega) y).2]
theorem cq_stt {ker pic f : Nat → Int32} {s m c x y : Nat} (hm : m ≤ 1) (hf : ∀ a b, a < 10 → b < 10 → f (10 * b + a) = cq_pz pic c a b) (hx : s * x + (1 - m) ≤ 7) (hy : s * y + (1 - m) ≤ 7) : cq_sm (cq_st ker f c (10 * (s * y + (1 - m)) + (s * x + (1 - m)))) 9 = cq_sm (fun q => cq_t ker pic s m x y (9 * c + q)) 9 := by
  refine cq_smc 9 (fun q hq => ?_)
  unfold cq_st cq_t
  have e1 : 10 * (s * y + (1 - m)) + (s * x + (1 - m)) + 10 * (q / 3) + q % 3 = 10 * (s * y + (1 - m) + q / 3) + (s * x + (1 - m) + q % 3) := by omega
  have e2 : (9 * c + q) / 9 = c := by omega
  have e3 : s * x + (9 * c + q) % 3 + 1 - m = s * x + (1 - m) + q % 3 := by omega
  have e4 : s * y + (9 * c + q) % 9 / 3 + 1 - m = s * y + (1 - m) + q / 3 := by omega
  rw [e1, e2, e3, e4, hf _ _ (by omega) (by omega)]
theorem cq_way2 {post : SX → Prop} {s m W : Nat} (hm : m ≤ 1) (hW : W ≤ 8) (hB : ∀ x, x < W → s * x + (1 - m) ≤ 7) {fc : Int32} {pic ker res fr : Nat → Int32} (hf : cq_fb fr) (H : ∀ r' f', cq_ok ker pic s m W r' → cq_fb f' → post (nI s, nI m, nI W, fc, pic, ker, r', f')) : wpX_moveByFrame post (nI s, nI m, nI W, fc, pic, ker, res, fr) := by
  unfold wpX_moveByFrame
  dsimp only
  refine cq_xclear (fun r0 hr0 => ?_)
  refine loop_0 (fun n c (st : (Nat → Int32) × (Nat → Int32)) => wX_moveByFrame_6 post n (nI c) (nI s) (nI m) (nI W) fc pic ker st.1 st.2) (fun c st => (∀ p, cq_in W p → st.1 p = cq_sm (cq_t ker pic s m (p % 8) (p / 8)) (9 * c)) ∧ cq_fb st.2) 2 (r0, fr) ⟨fun p hp => hr0 p (by omega), hf⟩ ?_ ?_
  · intro n st hst
    exact br_t (cq_le (a := 2) (b := 2) (by omega) (by omega)) (H st.1 st.2 hst.1 hst.2)
  · intro n c st hc hst k
    refine br_f (cq_nle (a := 2) hc (by omega)) (cq_xframe (by omega) ?_)
    refine cq_xaddf hm hW (by omega) hB (nm_r (nI_1 c) (k (cq_fd (cq_ga W (fun p => cq_sm (cq_st ker (cq_fd (cq_gr c pic) 64 st.2) c (10 * (s * (p / 8) + (1 - m)) + (s * (p % 8) + (1 - m)))) 9)) 64 st.1, cq_fd (cq_gr c pic) 64 st.2) ⟨fun p hp => ?_, cq_gr3 hst.2⟩))
    dsimp only
    rw [cq_ga1 hW hp, hst.1 p hp, cq_stt hm (fun a b ha hb => cq_gr2 hst.2 ha hb) (hB _ hp.1) (hB _ hp.2)]
    exact (cq_sma _ (9 * c) 9).symm
end
section
/-! way 3: the picture cut off at a place -/
theorem cq_xln {post : Int32 → Prop} {s m W l k : Nat} (hs : s = 1 ∨ s = 2) (hm : m ≤ 1) (hW : W ≤ 8) (hl : l < 8) (hk : k < 3) {fc : Int32} {pic ker res fr : Nat → Int32} (h1 : ∀ x, x < W → s * x + k = l + m → post (nI x)) (h0 : (∀ x, x < W → s * x + k ≠ l + m) → post (-1)) : wpX_resultLineSeeing post (nI s, nI m, nI W, fc, pic, ker, res, fr) (nI l) (nI k) := by
  by_cases c : l + m < k
  · refine nm_r (e' := nI (l + m) - nI k) (by rw [nI_add]) (br_t (pk_sneg (by omega) c) (h0 (fun x hx e => ?_)))
    omega
  refine nm_r (e' := nI (l + m - k)) (by rw [nI_add, pk_sub (by omega)]) (br_f (nI_pos (by omega)) ?_)
  rcases hs with rfl | rfl
  · refine br_f (by decide) (br_f (by decide) ?_)
    by_cases d : W ≤ l + m - k
    · exact br_t (cq_le d (by omega)) (h0 (fun x hx e => by omega))
    · exact br_f (cq_nle (by omega) (by omega)) (h1 _ (by omega) (by omega))
  · refine br_t rfl ⟨by decide, ?_⟩
    rw [cq_m2 (by omega)]
    by_cases z : (l + m - k) % 2 = 0
    · rw [z]
      refine br_t rfl (br_t rfl ⟨by decide, ?_⟩)
      rw [cq_d2 (by omega)]
      by_cases d : W ≤ (l + m - k) / 2
      · exact br_t (cq_le d (by omega)) (h0 (fun x hx e => by omega))
      · exact br_f (cq_nle (by omega) (by omega)) (h1 _ (by omega) (by omega))
    · exact br_f (nI_ne0 (by omega) (by omega)) (h0 (fun x hx e => by omega))
def cq_cut (pic : Nat → Int32) (n : Nat) : Nat → Int32 := fun k => if k < n then pic k else 0
theorem cq_cutl {pic : Nat → Int32} {n k : Nat} (h : k < n) : cq_cut pic n k = pic k := if_pos h
theorem cq_cutg {pic : Nat → Int32} {n k : Nat} (h : n ≤ k) : cq_cut pic n k = 0 := if_neg (by omega)
theorem cq_cuts {pic : Nat → Int32} {n k : Nat} (h : k ≠ n) : cq_cut pic (n + 1) k = cq_cut pic n k := by
  by_cases c : k < n
  · rw [cq_cutl c, cq_cutl (by omega)]
  · rw [cq_cutg (by omega), cq_cutg (by omega)]
theorem cq_cut0 {pic : Nat → Int32} {n : Nat} (h : pic n = 0) : cq_cut pic (n + 1) = cq_cut pic n := by
  funext k
  by_cases c : k = n
  · subst c; rw [cq_cutl (by omega), cq_cutg (by omega), h]
  · exact cq_cuts c
theorem cq_pzc {f g : Nat → Int32} {c a b : Nat} (h : (1 ≤ a ∧ a ≤ 8 ∧ 1 ≤ b ∧ b ≤ 8) → f (64 * c + (8 * (b - 1) + (a - 1))) = g (64 * c + (8 * (b - 1) + (a - 1)))) : cq_pz f c a b = cq_pz g c a b := by
  unfold cq_pz
  by_cases d : 1 ≤ a ∧ a ≤ 8 ∧ 1 ≤ b ∧ b ≤ 8
  · rw [if_pos d, if_pos d, h d]
  · rw [if_neg d, if_neg d]
theorem cq_pzn {pic : Nat → Int32} {p c a b : Nat} (h : ¬ (c = p / 64 ∧ a = p % 8 + 1 ∧ b = p % 64 / 8 + 1)) : cq_pz (cq_cut pic (p + 1)) c a b = cq_pz (cq_cut pic p) c a b :=
  cq_pzc (fun d => cq_cuts (by omega))
theorem cq_pzi (p : Nat) : 64 * (p / 64) + (8 * (p % 64 / 8) + p % 8) = p := by omega
theorem cq_pzy (pic : Nat → Int32) (p : Nat) : cq_pz (cq_cut pic (p + 1)) (p / 64) (p % 8 + 1) (p % 64 / 8 + 1) = pic p := by
  rw [cq_pz1 (by omega) (by omega), cq_pzi, cq_cutl (by omega)]
theorem cq_pzz (pic : Nat → Int32) (p : Nat) : cq_pz (cq_cut pic p) (p / 64) (p % 8 + 1) (p % 64 / 8 + 1) = 0 := by
  rw [cq_pz1 (by omega) (by omega), cq_pzi, cq_cutg (by omega)]
theorem cq_tl {ker pic : Nat → Int32} {s m x y p q : Nat} (h : q / 9 ≠ p / 64) : cq_t ker (cq_cut pic (p + 1)) s m x y q = cq_t ker (cq_cut pic p) s m x y q := by
  unfold cq_t
  rw [cq_pzn (fun z => h z.1)]
def cq_V (ker pic : Nat → Int32) (s m W p : Nat) (r : Nat → Int32) : Prop := ∀ P, cq_in W P → r P = cq_sm (cq_t ker (cq_cut pic p) s m (P % 8) (P / 8)) 18
def cq_jt (ker pic : Nat → Int32) (s m p k P q : Nat) : Int32 := if q < 9 * (p / 64) + k then cq_t ker (cq_cut pic (p + 1)) s m (P % 8) (P / 8) q else cq_t ker (cq_cut pic p) s m (P % 8) (P / 8) q
def cq_J (ker pic : Nat → Int32) (s m W p k : Nat) (r : Nat → Int32) : Prop := ∀ P, cq_in W P → r P = cq_sm (cq_jt ker pic s m p k P) 18
theorem cq_Jt {ker pic : Nat → Int32} {s m W p : Nat} {r : Nat → Int32} (h : cq_V ker pic s m W p r) : cq_J ker pic s m W p 0 r := by
  intro P hP
  rw [h P hP]
  refine cq_smc 18 (fun q hq => ?_)
  unfold cq_jt
  by_cases c : q < 9 * (p / 64) + 0
  · rw [if_pos c, cq_tl (by omega)]
  · rw [if_neg c]
theorem cq_Je {ker pic : Nat → Int32} {s m W p : Nat} {r : Nat → Int32} (h : cq_J ker pic s m W p 9 r) : cq_V ker pic s m W (p + 1) r := by
  intro P hP
  rw [h P hP]
  refine cq_smc 18 (fun q hq => ?_)
  unfold cq_jt
  by_cases c : q < 9 * (p / 64) + 9
  · rw [if_pos c]
  · rw [if_neg c, cq_tl (by omega)]
theorem cq_jo {ker pic : Nat → Int32} {s m p k P q : Nat} (h : q ≠ 9 * (p / 64) + k) : cq_jt ker pic s m p (k + 1) P q = cq_jt ker pic s m p k P q := by
  unfold cq_jt
  by_cases c : q < 9 * (p / 64) + k
  · rw [if_pos c, if_pos (by omega)]
  · rw [if_neg c, if_neg (by omega)]
theorem cq_j0 {ker pic : Nat → Int32} {s m p k P : Nat} (hk : k < 9) : cq_jt ker pic s m p k P (9 * (p / 64) + k) = ker (9 * (p / 64) + k) * cq_pz (cq_cut pic p) (p / 64) (s * (P % 8) + k % 3 + 1 - m) (s * (P / 8) + k / 3 + 1 - m) := by
  unfold cq_jt cq_t
  have e1 : (9 * (p / 64) + k) / 9 = p / 64 := by omega
  have e2 : (9 * (p / 64) + k) % 3 = k % 3 := by omega
  have e3 : (9 * (p / 64) + k) % 9 / 3 = k / 3 := by omega
  rw [if_neg (by omega), e1, e2, e3]
theorem cq_j1 {ker pic : Nat → Int32} {s m p k P : Nat} (hk : k < 9) : cq_jt ker pic s m p (k + 1) P (9 * (p / 64) + k) = ker (9 * (p / 64) + k) * cq_pz (cq_cut pic (p + 1)) (p / 64) (s * (P % 8) + k % 3 + 1 - m) (s * (P / 8) + k / 3 + 1 - m) := by
  unfold cq_jt cq_t
  have e1 : (9 * (p / 64) + k) / 9 = p / 64 := by omega
  have e2 : (9 * (p / 64) + k) % 3 = k % 3 := by omega
  have e3 : (9 * (p / 64) + k) % 9 / 3 = k / 3 := by omega
  rw [if_pos (by omega), e1, e2, e3]
theorem cq_Js {ker pic : Nat → Int32} {s m W p k : Nat} (hm : m ≤ 1) (hp : p < 128) (hk : k < 9) {r r' : Nat → Int32} (hJ : cq_J ker pic s m W p k r) (hy : ∀ P, cq_in W P → s * (P % 8) + k % 3 = p % 8 + m → s * (P / 8) + k / 3 = p % 64 / 8 + m → r' P = r P + ker (9 * (p / 64) + k) * pic p) (hn : ∀ P, cq_in W P → ¬ (s * (P % 8) + k % 3 = p % 8 + m ∧ s * (P / 8) + k / 3 = p % 64 / 8 + m) → r' P = r P) : cq_J ker pic s m W p (k + 1) r' := by
  intro P hP
  by_cases z : s * (P % 8) + k % 3 = p % 8 + m ∧ s * (P / 8) + k / 3 = p % 64 / 8 + m
  · rw [hy P hP z.1 z.2, hJ P hP]
    refine (cq_sm1 (Q := 9 * (p / 64) + k) ?_ 18 (by omega) (fun q _ hne => cq_jo hne)).symm
    have e1 : s * (P % 8) + k % 3 + 1 - m = p % 8 + 1 := by omega
    have e2 : s * (P / 8) + k / 3 + 1 - m = p % 64 / 8 + 1 := by omega
    rw [cq_j0 hk, cq_j1 hk, e1, e2, cq_pzy, cq_pzz, Int32.mul_zero, Int32.zero_add]
  · rw [hn P hP z, hJ P hP]
    refine cq_smc 18 (fun q _ => ?_)
    by_cases e : q = 9 * (p / 64) + k
    · subst e
      rw [cq_j0 hk, cq_j1 hk, cq_pzn (by omega)]
    · exact (cq_jo e).symm
theorem cq_inj {s x x' i t : Nat} (hs : s = 1 ∨ s = 2) (h : s * x + i = t) (h' : s * x' + i = t) : x = x' := by
  rcases hs with rfl | rfl <;> omega
theorem cq_xsp40 {post : SX → Prop} {J22 : Int32 → (Nat → Int32) → (Nat → Int32) → (Nat → Int32) → (Nat → Int32) → Prop} {s m W p j : Nat} {Y : Int32} (hs : s = 1 ∨ s = 2) (hm : m ≤ 1) (hW : W ≤ 8) (hp : p < 128) (hj : j < 3) {fc : Int32} {pic ker res fr : Nat → Int32} (hY : (∃ y, y < W ∧ s * y + j = p % 64 / 8 + m ∧ Y = nI y) ∨ (Y < 0 ∧ ∀ y, y < W → s * y + j ≠ p % 64 / 8 + m)) (hr : cq_J ker pic s m W p (3 * j) res) (hk : ∀ r', cq_J ker pic s m W p (3 * (j + 1)) r' → J22 (nI (j + 1)) pic ker r' fr) : ∃ n, wX_spreadPixel_40 post J22 (nI p) (nI (p / 64)) (nI (p % 64 / 8)) (nI (p % 8)) (nI j) Y (nI s) (nI m) (nI W) fc n 0 pic ker res fr := by
  refine loop_0 (fun n i r => wX_spreadPixel_40 post J22 (nI p) (nI (p / 64)) (nI (p % 64 / 8)) (nI (p % 8)) (nI j) Y (nI s) (nI m) (nI W) fc n (nI i) pic ker r fr) (fun i r => cq_J ker pic s m W p (3 * j + i) r) 3 res hr ?_ ?_
  · intro n r h
    exact br_t (cq_le (a := 3) (b := 3) (by omega) (by omega)) (nm_r (nI_1 j) (hk r h))
  · intro n i r hi h k
    have e1 : (3 * j + i) % 3 = i := by omega
    have e2 : (3 * j + i) / 3 = j := by omega
    refine br_f (cq_nle (a := 3) hi (by omega)) (cq_xln hs hm hW (by omega) hi (fun x hx ex => ?_) (fun hno => ?_))
    · refine br_f (nI_pos (by omega)) ?_
      rcases hY with ⟨y, hy, ey, rfl⟩ | ⟨hneg, hnoy⟩
      · have hin : vp_in (8 * nI y + nI x) 64 := pk_in (8 * y + x) 64 (by omega) (cq_i8 y x)
        have e3 : 9 * (p / 64) + 3 * j + i = 9 * (p / 64) + (3 * j + i) := by omega
        refine br_f (nI_pos (by omega)) ⟨pk_in (9 * (p / 64) + 3 * j + i) 18 (by omega) (cq_i9 _ j i), nm_r (congrArg ker (pk_cl _ (cq_i9 _ j i))) ⟨hin, vp_in_nI hp (by omega), hin, ?_⟩⟩
        rw [pk_cl _ (cq_i8 y x), nI_clamp (by omega)]
        refine nm_e (nm_r (nI_1 i) (k _ (cq_Js (k := 3 * j + i) hm hp (by omega) h (fun P hP z1 z2 => ?_) (fun P hP z => ?_))))
        · rw [e1] at z1
          rw [e2] at z2
          have a := cq_inj hs z1 ex
          have b := cq_inj hs z2 ey
          have e : P = 8 * y + x := by omega
          rw [e, pk_us, e3]
        · refine pk_un (fun e => z ?_)
          rw [e1, e2, e, (cq_pq (by omega) y).1, (cq_pq (by omega) y).2]
          exact ⟨ex, ey⟩
      · refine br_t hneg (nm_r (nI_1 i) (k r (cq_Js (k := 3 * j + i) hm hp (by omega) h (fun P hP z1 z2 => ?_) (fun P hP z => rfl))))
        rw [e2] at z2
        exact absurd z2 (hnoy _ hP.2)
    · refine br_t (show (-1 : Int32) < 0 by decide) (nm_r (nI_1 i) (k r (cq_Js (k := 3 * j + i) hm hp (by omega) h (fun P hP z1 z2 => ?_) (fun P hP z => rfl))))
      rw [e1] at z1
      exact absurd z1 (hno _ hP.1)
theorem cq_d64 {p : Nat} (h : p < 2 ^ 31) : nI p / 64 = nI (p / 64) := pk_div (d := 64) h (by decide) (by decide)
theorem cq_m64 {p : Nat} (h : p < 2 ^ 31) : nI p - nI p / 64 * 64 = nI (p % 64) := pk_rem (d := 64) h (by decide) (by decide)
theorem cq_me {p : Nat} (h : p < 128) : (nI p - nI p / 64 * 64) / 8 = nI (p % 64 / 8) := by
  rw [cq_m64 (by omega), cq_d8 (by omega)]
theorem cq_xspread {post : SX → Prop} {s m W p : Nat} (hs : s = 1 ∨ s = 2) (hm : m ≤ 1) (hW : W ≤ 8) (hp : p < 128) {fc : Int32} {pic ker res fr : Nat → Int32} (hr : cq_V ker pic s m W p res) (H : ∀ r', cq_V ker pic s m W (p + 1) r' → post (nI s, nI m, nI W, fc, pic, ker, r', fr)) : wpX_spreadPixel post (nI s, nI m, nI W, fc, pic, ker, res, fr) (nI p) := by
  refine ⟨by decide, nm_r (cq_d64 (by omega)) ⟨by decide, by decide, nm_r (cq_me hp) ⟨by decide, nm_r (cq_m8 (by omega)) ?_⟩⟩⟩
  refine loop_0 (fun n j r => wX_spreadPixel_22 post (nI p) (nI (p / 64)) (nI (p % 64 / 8)) (nI (p % 8)) (nI s) (nI m) (nI W) fc n (nI j) pic ker r fr) (fun j r => cq_J ker pic s m W p (3 * j) r) 3 res (cq_Jt hr) ?_ ?_
  · intro n r h
    exact br_t (cq_le (a := 3) (b := 3) (by omega) (by omega)) (H r (cq_Je h))
  · intro n j r hj h k
    refine br_f (cq_nle (a := 3) hj (by omega)) (cq_xln hs hm hW (by omega) hj (fun y hy ey => ?_) (fun hno => ?_))
    · exact cq_xsp40 hs hm hW hp hj (Or.inl ⟨y, hy, ey, rfl⟩) h k
    · exact cq_xsp40 hs hm hW hp hj (Or.inr ⟨by decide, hno⟩) h k
theorem cq_sm0 {f : Nat → Int32} (h : ∀ q, f q = 0) : ∀ n, cq_sm f n = 0 := by
  intro n
  induction n with
  | zero => rfl
  | succ n ih => rw [cq_sms, ih, h n, Int32.add_zero]
theorem cq_pz00 {pic : Nat → Int32} {c a b : Nat} : cq_pz (cq_cut pic 0) c a b = 0 := by
  unfold cq_pz
  by_cases d : 1 ≤ a ∧ a ≤ 8 ∧ 1 ≤ b ∧ b ≤ 8
  · rw [if_pos d, cq_cutg (by omega)]
  · rw [if_neg d]
theorem cq_way3 {post : SX → Prop} {s m W : Nat} (hs : s = 1 ∨ s = 2) (hm : m ≤ 1) (hW : W ≤ 8) {fc : Int32} {pic ker res fr : Nat → Int32} (hf : cq_fb fr) (H : ∀ r' f', cq_ok ker pic s m W r' → cq_fb f' → post (nI s, nI m, nI W, fc, pic, ker, r', f')) : wpX_moveByPicture post (nI s, nI m, nI W, fc, pic, ker, res, fr) := by
  unfold wpX_moveByPicture
  dsimp only
  refine cq_xclear (fun r0 hr0 => ?_)
  refine loop_0 (fun n p r => wX_moveByPicture_6 post n (nI p) (nI s) (nI m) (nI W) fc pic ker r fr) (fun p r => cq_V ker pic s m W p r) 128 r0 (fun P hP => ?_) ?_ ?_
  · rw [hr0 P (by omega)]
    refine (cq_sm0 (fun q => ?_) 18).symm
    unfold cq_t
    rw [cq_pz00, Int32.mul_zero]
  · intro n r hr
    refine br_t (nI_le (a := 128) (b := 128) (by omega) (by omega)) (H r fr (fun P hP => ?_) hf)
    rw [hr P hP]
    refine cq_smc 18 (fun q hq => ?_)
    unfold cq_t
    rw [cq_pzc (g := pic) (fun d => cq_cutl (by omega))]
  · intro n p r hp hr k
    have hcl : (nI p).toNatClampNeg = p := nI_clamp (by omega)
    refine br_f (nI_ge (b := 128) hp (by omega)) ⟨vp_in_nI hp (by omega), ?_⟩
    rw [hcl]
    by_cases z : pic p = 0
    · refine br_t z (nm_r (nI_1 p) (k r (fun P hP => ?_)))
      rw [cq_cut0 z]
      exact hr P hP
    · exact br_f z (cq_xspread hs hm hW hp hr (fun r' hr' => nm_r (nI_1 p) (k r' hr')))
end
section
/-! move -/
theorem cq_wb {s m : Nat} (hs : s = 1 ∨ s = 2) (hm : m ≤ 1) : cq_w s m ≤ 8 ∧ ∀ x, x < cq_w s m → s * x + (1 - m) ≤ 7 := by
  unfold cq_w
  rcases hs with rfl | rfl
  · exact ⟨by omega, fun x hx => by omega⟩
  · exact ⟨by omega, fun x hx => by omega⟩
theorem i_vc_move {k : Nat} {u : SX} {v : SY} (I : i_Rel k u v) (hk : k + 5 ≤ 2560) : wpX_move (fun r u' => wpY_move (fun r' v' => r' = r ∧ i_Rel (k + 5) u' v') v) u := by
  obtain ⟨s, m, W, way, pic, ker, rx, ry, fr, rfl, rfl, hs, hm, hW, hr, hf⟩ := I
  obtain ⟨hW', hB⟩ := cq_wb hs hm
  have H : ∀ r' f', cq_ok ker pic s m (cq_w s m) r' → cq_fb f' → wpY_move (fun q v' => q = nI (cq_w s m) ∧ i_Rel (k + 5) (nI s, nI m, nI (cq_w s m), way, pic, ker, r', f') v') (nI s, nI m, nI W, pic, ker, ry) := by
    intro r' f' h1 h2
    unfold wpY_move
    dsimp only
    exact cq_yw hs hm (cq_ymove hs hm hW' ⟨rfl, ⟨s, m, cq_w s m, way, pic, ker, r', _, f', rfl, rfl, hs, hm, hW', fun p hp => (h1 p hp).trans (cq_gm1 hW' hp).symm, h2⟩⟩)
  unfold wpX_move
  dsimp only
  refine cq_xw hs hm ?_
  by_cases a : way < 1
  · exact br_t a (cq_way0 hs hm hW' hf H)
  refine br_f a ?_
  by_cases b : 3 < way
  · exact br_t b (cq_way0 hs hm hW' hf H)
  refine br_f b ?_
  by_cases c : way = 1
  · exact br_t c (cq_way1 hs hm hW' hf H)
  refine br_f c ?_
  by_cases d : way = 2
  · exact br_t d (cq_way2 hm hW' hB hf H)
  refine br_f d ?_
  by_cases e : way = 3
  · exact br_t e (cq_way3 hs hm hW' hf H)
  · exact br_f e trivial
end
