/-! move -/
theorem cq_wb {s m : Nat} (hs : s = 1 ∨ s = 2) (hm : m ≤ 1) : cq_w s m ≤ 8 ∧ ∀ x, x < cq_w s m → s * x + (1 - m) ≤ 7 := by
  unfold cq_w
  rcases hs with rfl | rfl
  · exact ⟨by omega, fun x hx => by omega⟩
  · exact ⟨by omega, fun x hx => by omega⟩
theorem i_vc_move {k : Nat} {u : SX} {v : SY} (I : i_Rel k u v) (hk : k + 5 ≤ 2560) : wpX_move (fun r u' => wpY_move (fun r' v' => r' = r ∧ i_Rel (k + 5) u' v') v) u := by
  obtain ⟨s, m, W, way, pic, ker, rx, ry, fr, rfl, rfl, hs, hm, hW, hr, hf⟩ := I
  obtain ⟨hW', hB⟩ := cq_wb hs hm
  have H : ∀ r' f', cq_ok ker pic s m (cq_w s m) r' → cq_fb f' → wpY_move (fun q v' => q = nI (cq_w s m) ∧ i_Rel (k + 5) (nI s, nI m, nI (cq_w s m), way, pic, ker, r', f') v') (nI s, nI m, nI W, pic, ker, ry) := by
    intro r' f' h1 h2
    unfold wpY_move
    dsimp only
    exact cq_yw hs hm (cq_ymove hs hm hW' ⟨rfl, ⟨s, m, cq_w s m, way, pic, ker, r', _, f', rfl, rfl, hs, hm, hW', fun p hp => (h1 p hp).trans (cq_gm1 hW' hp).symm, h2⟩⟩)
  unfold wpX_move
  dsimp only
  refine cq_xw hs hm ?_
  by_cases a : way < 1
  · exact br_t a (cq_way0 hs hm hW' hf H)
  refine br_f a ?_
  by_cases b : 3 < way
  · exact br_t b (cq_way0 hs hm hW' hf H)
  refine br_f b ?_
  by_cases c : way = 1
  · exact br_t c (cq_way1 hs hm hW' hf H)
  refine br_f c ?_
  by_cases d : way = 2
  · exact br_t d (cq_way2 hm hW' hB hf H)
  refine br_f d ?_
  by_cases e : way = 3
  · exact br_t e (cq_way3 hs hm hW' hf H)
  · exact br_f e trivial
