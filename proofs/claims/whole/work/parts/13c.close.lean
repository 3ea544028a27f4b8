/-- the step is over: nothing is marked as its own -/
theorem sim_close {V P R A : VV} {N u : Nat} (hA : rA V R N u) (hon : V 267 1 = 1) (h : rOn V P R A N u) :
    rA (mClose V) (rShut R) N u ∧ mClose V 267 1 = 1 ∧ mClose V 266 4 = 0 ∧ rLf (mClose V) (rShut R) ∧ rShut R 272 14 = -1 ∧ rRows (mClose V) P A N u ∧ hR (mClose V) 3 = hB (A 275) ∧ cU (fun i => decide (¬ mClose V (232 + i) 1 = -1)) 34 0 = hB (A 277) := by
  obtain ⟨a1, a2, a3, a4, a5, a6, a7, a8, a9, a10, a11, a12, a13⟩ := hA
  obtain ⟨o1, o2, ⟨b1, b2, b3, b4, b5, b6⟩, ⟨c1, c2, c3, c4, c5⟩, o5, o6⟩ := h
  have ev : ∀ t j, t < 232 ∨ 266 ≤ t ∨ j ≠ 4 → ¬ (t = 266 ∧ j = 4) → mClose V t j = V t j := fun t j ht h2 => by
    unfold mClose
    rw [zR_at, if_neg (by omega), v2_n h2]
  have e4 : mClose V 266 4 = 0 := by
    unfold mClose
    rw [zR_at, if_neg (by omega), v2_s]
  have ez : ∀ i, i < 34 → mClose V (232 + i) 4 = 0 := fun i hi => by
    unfold mClose
    rw [zR_at, if_pos (by omega)]
  have vr : ∀ i j, i < 34 → j ≠ 4 → mClose V (232 + i) j = V (232 + i) j := fun i j hi hj => ev _ _ (by omega) (by omega)
  have rt : ∀ j, j ≠ 0 → j ≠ 9 → rShut R 272 j = R 272 j := fun j h1 h2 => by
    unfold rShut
    rw [v2_k h2, r0_e R _ h1]
  have r9 : rShut R 272 9 = 0 := by
    unfold rShut
    rw [v2_s]
  refine ⟨⟨?_, ?_, a3, a4, ?_, ?_, ?_, ?_, ?_, ?_, ?_, ?_, ?_⟩, ?_, e4, ?_, ?_, ⟨fun i hi => ?_, fun i j b hi hj hb e1 e2 => ?_, fun b hb => ?_, b4, b5, fun b hb => ?_⟩, ?_, ?_⟩
  · rw [ev _ _ (by omega) (by omega)]; exact a1
  · rw [rt _ (by omega) (by omega)]; exact a2
  · rw [ev _ _ (by omega) (by omega)]; exact a5
  · rw [rt _ (by omega) (by omega)]; exact a6
  · rw [rt _ (by omega) (by omega), ev _ _ (by omega) (by omega)]; exact a7
  · rw [rt _ (by omega) (by omega), ev _ _ (by omega) (by omega)]; exact a8
  · rw [rt _ (by omega) (by omega), ev _ _ (by omega) (by omega)]; exact a9
  · rw [r9, e4]
  · rw [rt _ (by omega) (by omega), ev _ _ (by omega) (by omega)]; exact a11
  · rw [e4]; exact Or.inl rfl
  · rw [ev _ _ (by omega) (by omega)]; exact a13
  · rw [ev _ _ (by omega) (by omega)]; exact hon
  · unfold rLf at o1 ⊢
    rw [rt _ (by omega) (by omega), ev _ _ (by omega) (by omega)]
    exact o1
  · rw [rt _ (by omega) (by omega)]; exact o2
  · rcases b1 i hi with w | ⟨b, w1, w2, w3, w4, w5, w6, w7, w8⟩
    · left
      exact ⟨by rw [vr i 1 hi (by omega)]; exact w.1, by rw [vr i 2 hi (by omega)]; exact w.2.1, by rw [vr i 3 hi (by omega)]; exact w.2.2.1, ez i hi⟩
    · right
      exact ⟨b, w1, by rw [vr i 1 hi (by omega)]; exact w2, by rw [vr i 2 hi (by omega)]; exact w3, w4, by rw [vr i 3 hi (by omega)]; exact w5, fun _ => ez i hi, fun q => absurd e4 q, w8⟩
  · rw [vr i 1 hi (by omega)] at e1
    rw [vr j 1 hj (by omega)] at e2
    exact b2 i j b hi hj hb e1 e2
  · rcases b3 b hb with w | ⟨w, i, hi, e⟩
    · exact Or.inl w
    · exact Or.inr ⟨w, i, hi, by rw [vr i 1 hi (by omega)]; exact e⟩
  · exact ⟨(b6 b hb).1, (b6 b hb).2.1, fun q => absurd e4 q⟩
  · rw [← c1]
    exact cU_congr 34 0 (fun j _ hj => dn_c (vr j 3 (by omega) (by omega)))
  · rw [← c3]
    exact cU_congr 34 0 (fun j _ hj => dn_c (vr j 1 (by omega) (by omega)))
