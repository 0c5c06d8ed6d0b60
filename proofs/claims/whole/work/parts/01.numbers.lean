/-! numbers: rows pasted from kit/rows (pk_), then steps, loops, indices -/
theorem pk_us {f : Nat → Int32} {k : Nat} {x : Int32} : upd f k x k = x := if_pos rfl
theorem pk_un {f : Nat → Int32} {k j : Nat} {x : Int32} (h : j ≠ k) : upd f k x j = f j := if_neg h
theorem pk_sub {a b : Nat} (h : b ≤ a) : nI a - nI b = nI (a - b) := by
  obtain ⟨c, rfl⟩ : ∃ c, a = c + b := ⟨a - b, by omega⟩
  rw [← nI_add, Int32.add_sub_cancel, Nat.add_sub_cancel]
theorem pk_mul (a b : Nat) : nI a * nI b = nI (a * b) := (Int32.ofNat_mul a b).symm
theorem pk_div {a d : Nat} (ha : a < 2 ^ 31) (h0 : 0 < d) (hd : d < 2 ^ 31) : nI a / nI d = nI (a / d) := by
  apply Int32.toInt_inj.mp
  rw [lg_idiv_nonneg (by rw [nI_toInt ha]; omega) (by rw [nI_toInt hd]; omega), nI_toInt ha, nI_toInt hd, nI_toInt (Nat.lt_of_le_of_lt (Nat.div_le_self a d) ha)]
  first | rfl | exact (Int.natCast_ediv _ _).symm
theorem pk_rem {a d : Nat} (ha : a < 2 ^ 31) (h0 : 0 < d) (hd : d < 2 ^ 31) : nI a - nI a / nI d * nI d = nI (a % d) := by
  rw [pk_div ha h0 hd, pk_mul, pk_sub (Nat.div_mul_le_self a d)]
  exact congrArg nI (by have := Nat.div_add_mod' a d; omega)
theorem pk_sub_toInt {a b : Nat} (ha : a < 2 ^ 30) (hb : b < 2 ^ 30) : (nI a - nI b).toInt = (a : Int) - b := by
  rw [Int32.toInt_sub, nI_toInt (by omega), nI_toInt (by omega)]
  exact Int.bmod_eq_of_le (by omega) (by omega)
theorem pk_sneg {a b : Nat} (hb : b < 2 ^ 30) (h : a < b) : nI a - nI b < 0 := by
  rw [Int32.lt_iff_toInt_lt, pk_sub_toInt (by omega) hb, show (0 : Int32).toInt = 0 from by decide]
  omega
theorem pk_le {x y : Int32} {A B : Prop} (a b : Nat) (f : a ≤ b → A) (g : b < a → B) (hx : x = nI a := by rfl) (hy : y = nI b := by rfl) (ha : a < 2 ^ 31 := by omega) (hb : b < 2 ^ 31 := by omega) : (x ≤ y → A) ∧ (¬ x ≤ y → B) := by
  subst hx hy
  rw [nI_leI ha hb]
  exact ⟨f, fun z => g (by omega)⟩
theorem pk_in {x : Int32} (n N : Nat) (h : n < N) (hx : x = nI n := by rfl) (hN : N < 2 ^ 31 := by omega) : vp_in x N := by
  subst hx
  exact vp_in_nI h hN
theorem pk_cl {x : Int32} (n : Nat) (hx : x = nI n := by rfl) (h : n < 2 ^ 31 := by omega) : x.toNatClampNeg = n := by
  subst hx
  exact nI_clamp h
/-- g 0, g 1, .. g (n - 1), one after the other -/
def cq_fd {σ : Type} (g : Nat → σ → σ) : Nat → σ → σ
  | 0, s => s
  | n + 1, s => g n (cq_fd g n s)
theorem cq_fd_s {σ : Type} (g : Nat → σ → σ) (n : Nat) (s : σ) : cq_fd g (n + 1) s = g n (cq_fd g n s) := rfl
theorem cq_skip {σ : Type} (g : Nat → σ → σ) (a : Nat) (s : σ) : ∀ d : Nat, (∀ p t, a ≤ p → p < a + d → g p t = t) → cq_fd g (a + d) s = cq_fd g a s := by
  intro d
  induction d with
  | zero => intro _; rfl
  | succ d ih =>
    intro h
    have e : cq_fd g (a + (d + 1)) s = g (a + d) (cq_fd g (a + d) s) := rfl
    rw [e, h _ _ (by omega) (by omega)]
    exact ih (fun p t h1 h2 => h p t h1 (by omega))
/-- the places of a result of width W -/
abbrev cq_in (W p : Nat) : Prop := p % 8 < W ∧ p / 8 < W
theorem cq_row {σ : Type} {g : Nat → σ → σ} {W : Nat} (hW : W ≤ 8) (hg : ∀ p t, ¬ cq_in W p → g p t = t) (y : Nat) (s : σ) : cq_fd g (8 * y + W) s = cq_fd g (8 * (y + 1)) s := by
  have e : 8 * (y + 1) = (8 * y + W) + (8 - W) := by omega
  rw [e]
  exact (cq_skip g _ s _ (fun p t h1 h2 => hg p t (by omega))).symm
theorem cq_all {σ : Type} {g : Nat → σ → σ} {W : Nat} (hW : W ≤ 8) (hg : ∀ p t, ¬ cq_in W p → g p t = t) (s : σ) : cq_fd g (8 * W) s = cq_fd g 64 s := by
  have e : 64 = (8 * W) + (64 - 8 * W) := by omega
  rw [e]
  exact (cq_skip g _ s _ (fun p t h1 h2 => hg p t (by omega))).symm
theorem cq_fu {g : Nat → (Nat → Int32) → Nat → Int32} {C : Nat → Prop} {h : Nat → Int32 → Int32} (h1 : ∀ p r, C p → g p r = upd r p (h p (r p))) (h0 : ∀ p r, ¬ C p → g p r = r) (r : Nat → Int32) : ∀ n, (∀ p, p < n → C p → cq_fd g n r p = h p (r p)) ∧ (∀ p, (n ≤ p ∨ ¬ C p) → cq_fd g n r p = r p) := by
  intro n
  induction n with
  | zero => exact ⟨fun p hp => absurd hp (Nat.not_lt_zero p), fun p _ => rfl⟩
  | succ n ih =>
    obtain ⟨i1, i0⟩ := ih
    rw [cq_fd_s]
    by_cases c : C n
    · rw [h1 n _ c]
      constructor
      · intro p hp hc
        by_cases e : p = n
        · subst e; rw [pk_us, i0 p (Or.inl (Nat.le_refl p))]
        · rw [pk_un e]; exact i1 p (by omega) hc
      · intro p hp
        have e : p ≠ n := by
          intro e; subst e
          rcases hp with hp | hp
          · omega
          · exact hp c
        rw [pk_un e]
        exact i0 p (hp.imp (by omega) id)
    · rw [h0 n _ c]
      constructor
      · intro p hp hc
        have e : p ≠ n := by intro e; subst e; exact c hc
        exact i1 p (by omega) hc
      · intro p hp
        exact i0 p (hp.imp (by omega) id)
theorem cq_ls (N : Nat) (W : Nat → Nat → Prop) (hx : ∀ n, W (n + 1) N) (hS : ∀ n i, i < N → W n (i + 1) → W (n + 1) i) (i0 : Nat) (hi : i0 ≤ N) : ∃ n, W n i0 := by
  have h : ∀ d i, i + d = N → ∃ n, W n i := by
    intro d
    induction d with
    | zero => intro i hi; have e : i = N := by omega
              subst e; exact ⟨_, hx 0⟩
    | succ d ih => intro i hi; obtain ⟨n, hn⟩ := ih (i + 1) (by omega); exact ⟨n + 1, hS n i (by omega) hn⟩
  exact h (N - i0) i0 (by omega)
theorem cq_dl (H W : Nat) (WO : Nat → Nat → Prop) (WI : Nat → Nat → Nat → Nat → Prop) (hx : ∀ n, WO (n + 1) H) (hO : ∀ n y, y < H → (∃ m, WI n y m 0) → WO (n + 1) y) (hI : ∀ n y m, y < H → WO n (y + 1) → WI n y (m + 1) W) (hS : ∀ n y m x, y < H → x < W → WI n y m (x + 1) → WI n y (m + 1) x) : ∃ n, WO n 0 :=
  cq_ls H WO hx (fun n y hy h => hO n y hy (cq_ls W (WI n y) (fun m => hI n y m hy h) (fun m x hx h => hS n y m x hy hx h) 0 (Nat.zero_le _))) 0 (Nat.zero_le _)
theorem cq_i8 (y x : Nat) : 8 * nI y + nI x = nI (8 * y + x) := by
  show nI 8 * nI y + nI x = _
  rw [pk_mul, nI_add]
theorem cq_j64 (c p : Nat) : 64 * nI c + nI p = nI (64 * c + p) := by
  show nI 64 * nI c + nI p = _
  rw [pk_mul, nI_add]
theorem cq_i64 (c y x : Nat) : ((64 * nI c) + (8 * nI y)) + nI x = nI (64 * c + (8 * y + x)) := by
  show ((nI 64 * nI c) + (nI 8 * nI y)) + nI x = _
  rw [pk_mul, pk_mul, nI_add, nI_add, Nat.add_assoc]
theorem cq_i9 (c j i : Nat) : ((9 * nI c) + (3 * nI j)) + nI i = nI (9 * c + 3 * j + i) := by
  show ((nI 9 * nI c) + (nI 3 * nI j)) + nI i = _
  rw [pk_mul, pk_mul, nI_add, nI_add]
theorem cq_if (y x : Nat) : (((10 * (nI y + 1)) + nI x) + 1) = nI (10 * (y + 1) + (x + 1)) := by
  show (((nI 10 * (nI y + nI 1)) + nI x) + nI 1) = _
  rw [nI_add, pk_mul, nI_add, nI_add, Nat.add_assoc]
theorem cq_ic (s y x e : Nat) : ((10 * ((nI s * nI y) + nI e)) + (nI s * nI x)) + nI e = nI (10 * (s * y + e) + (s * x + e)) := by
  show ((nI 10 * ((nI s * nI y) + nI e)) + (nI s * nI x)) + nI e = _
  rw [pk_mul, pk_mul, nI_add, pk_mul, nI_add, nI_add, Nat.add_assoc]
theorem cq_ik (k j i : Nat) : (nI k + (10 * nI j)) + nI i = nI (k + 10 * j + i) := by
  show (nI k + (nI 10 * nI j)) + nI i = _
  rw [pk_mul, nI_add, nI_add]
/-- a coordinate, moved on by one -/
theorem cq_co {m : Nat} (hm : m ≤ 1) (s x i : Nat) : ((nI s * nI x) + nI i) - nI m = nI (s * x + i + 1 - m) - 1 := by
  obtain rfl | rfl : m = 0 ∨ m = 1 := by omega
  · rw [pk_mul, nI_add, nI_0, Int32.sub_zero]
    exact (nI_pred _).symm
  · rw [pk_mul, nI_add, Nat.add_sub_cancel]
    rfl
theorem cq_co0 {m : Nat} (hm : m ≤ 1) (s x i : Nat) : ((nI s * nI x) - nI m) + nI i = nI (s * x + i + 1 - m) - 1 := by
  rw [← cq_co hm, Int32.sub_eq_add_neg, Int32.sub_eq_add_neg, Int32.add_assoc, Int32.add_assoc, Int32.add_comm (nI i)]
theorem cq_d8 {p : Nat} (h : p < 2 ^ 31) : nI p / 8 = nI (p / 8) := pk_div (d := 8) h (by decide) (by decide)
theorem cq_m8 {p : Nat} (h : p < 2 ^ 31) : nI p - nI p / 8 * 8 = nI (p % 8) := pk_rem (d := 8) h (by decide) (by decide)
theorem cq_le {a b : Nat} (h : a ≤ b) (hb : b < 100) : nI a ≤ nI b := nI_le h (by omega)
theorem cq_nle {a b : Nat} (h : b < a) (hb : a < 100) : ¬ nI a ≤ nI b := nI_ge h (by omega)
theorem cq_lt0 {a : Nat} (ha : a < 1000) : ¬ nI a < 0 := nI_pos (by omega)
/-- what cut answers -/
def cq_ct (v : Int32) : Int32 := if -20 ≤ v then (if v ≤ 20 then v else 20) else -20
theorem cq_xct {post : Int32 → Prop} {v : Int32} (h : post (cq_ct v)) : wpX_cut post v := by
  unfold cq_ct at h
  by_cases c : -20 ≤ v
  · rw [if_pos c] at h
    by_cases d : v ≤ 20
    · rw [if_pos d] at h; exact br_t c (br_t d h)
    · rw [if_neg d] at h; exact br_t c (br_f d h)
  · rw [if_neg c] at h; exact br_f c h
theorem cq_yct {post : Int32 → Prop} {v : Int32} {u : SY} (h : post (cq_ct v)) : wpY_cut post u v := by
  unfold cq_ct at h
  by_cases c : -20 ≤ v
  · rw [if_pos c] at h
    by_cases d : v ≤ 20
    · rw [if_pos d] at h; exact br_t c (br_t d h)
    · rw [if_neg d] at h; exact br_t c (br_f d h)
  · rw [if_neg c] at h; exact br_f c h
theorem cq_iw1 {post : Int32 → Prop} {x l g : Int32} (h1 : ¬ x < l) (h2 : ¬ g < x) (h : post 1) : wpX_isWithin post x l g := br_f h1 (br_f h2 h)
theorem cq_iw0 {post : Int32 → Prop} {x l g : Int32} (h1 : x < l ∨ g < x) (h : post 0) : wpX_isWithin post x l g := by
  by_cases z : x < l
  · exact br_t z h
  · exact br_f z (br_t (h1.resolve_left z) h)
theorem cq_10 : ¬ (1 : Int32) = 0 := by decide
