theorem sim_begin {V P R A : VV} {k : Nat} (h : rel V P R A k) : (mBegin V P).1 = (rBegin R A).1 ∧ rel (mBegin V P).2.1 (mBegin V P).2.2 (rBegin R A).2.1 (rBegin R A).2.2 (k + 1) := by
  obtain ⟨N, u, hu, hA, h2, h3⟩ := id h
  obtain ⟨a1, a2, a3, a4, a5, a6, a7, a8, a9, a10, a11, a12, a13⟩ := id hA
  unfold mBegin rBegin
  rw [a10, a11]
  by_cases c : V 267 1 = 0 ∨ ¬ V 266 4 = 0
  · rw [if_pos c, if_pos c]
    exact ⟨rfl, rel_0 h⟩
  · rw [if_neg c, if_neg c]
    have hon : V 267 1 = 1 := on_1 hA (fun q => c (Or.inl q))
    have hst : V 266 4 = 0 := Decidable.byContradiction fun q => c (Or.inr q)
    obtain ⟨o1, o2, ⟨b1, b2, b3, b4, b5, b6⟩, ⟨c1, c2, c3, c4, c5⟩, o5, o6⟩ := h2 hon
    dsimp only
    refine ⟨rfl, N, u, by omega, ?_, fun _ => ?_, fun q => ?_⟩
    · refine ⟨by rw [v2_k (by omega)]; exact a1, by rw [v2_k (by omega), r0_e R _ (by omega)]; exact a2, a3, a4, by rw [v2_t (by omega)]; exact a5, by rw [v2_k (by omega), r0_e R _ (by omega)]; exact a6, by rw [v2_k (by omega), r0_e R _ (by omega), v2_t (by omega)]; exact a7, by rw [v2_k (by omega), r0_e R _ (by omega), v2_t (by omega)]; exact a8, by rw [v2_k (by omega), r0_e R _ (by omega), v2_t (by omega)]; exact a9, by rw [v2_s, v2_s], by rw [v2_k (by omega), r0_e R _ (by omega), v2_t (by omega)]; exact a11, by rw [v2_s]; exact Or.inr rfl, by rw [v2_t (by omega)]; exact a13⟩
    · have z : ∀ b, b < 80 → p1 A 276 (zF (A 276) 80) 276 b = 0 := fun b hb => by
        rw [p1_s]
        unfold zF
        rw [if_pos hb]
      have so : ∀ t, t ≠ 276 → p1 A 276 (zF (A 276) 80) t = A t := fun t ht => p1_n ht
      have vr : ∀ i j, i < 34 → v2 V 266 4 1 (232 + i) j = V (232 + i) j := fun i j hi => v2_t (by omega)
      have v4 : v2 V 266 4 1 266 4 = 1 := v2_s
      have n4 : ¬ v2 V 266 4 1 266 4 = 0 := by rw [v4]; decide
      refine ⟨?_, by rw [v2_k (by omega), r0_e R _ (by omega)]; exact o2, ⟨fun i hi => ?_, fun i j b hi hj hb e1 e2 => ?_, fun b hb => ?_, fun b hb => ?_, fun b b' hb hb' => ?_, fun b hb => ?_⟩, ⟨?_, fun _ => ?_, ?_, fun q => absurd q n4, fun _ => ?_⟩, ?_, ?_⟩
      · unfold rLf at o1 ⊢
        rw [v2_k (by omega), v2_k (by omega), r0_e R _ (by omega)]
        exact o1
      · rcases b1 i hi with w | ⟨b, w1, w2, w3, w4, w5, w6, w7, w8⟩
        · left
          unfold eRow
          rw [vr i 1 hi, vr i 2 hi, vr i 3 hi, vr i 4 hi]
          exact w
        · right
          refine ⟨b, w1, by rw [vr i 1 hi]; exact w2, by rw [vr i 2 hi, so _ (by omega)]; exact w3, by rw [so _ (by omega)]; exact w4, by rw [vr i 3 hi, so _ (by omega)]; exact w5, fun q => absurd q n4, fun _ => ?_, by rw [so _ (by omega)]; exact w8⟩
          rw [vr i 4 hi, z b (by omega)]
          exact w6 hst
      · rw [vr i 1 hi] at e1
        rw [vr j 1 hj] at e2
        exact b2 i j b hi hj hb e1 e2
      · rw [so _ (by omega)]
        rcases b3 b hb with w | ⟨w, i, hi, e⟩
        · exact Or.inl w
        · exact Or.inr ⟨w, i, hi, by rw [vr i 1 hi]; exact e⟩
      · rw [so _ (by omega)]
        exact b4 b hb
      · rw [so _ (by omega)]
        exact b5 b b' hb hb'
      · rw [so 275 (by omega), so 277 (by omega), z b hb]
        exact ⟨(b6 b hb).1, (b6 b hb).2.1, fun _ q => absurd rfl q⟩
      · rw [so _ (by omega), ← c1]
        exact cU_congr 34 0 (fun j _ hj => dn_c (vr j 3 (by omega)))
      · rw [hB_zero z, hR_zero (fun i hi => by
          rw [vr i 4 hi]
          rcases b1 i hi with w | ⟨b, w1, w2, w3, w4, w5, w6, w7, w8⟩
          · exact w.2.2.2
          · exact w6 hst)]
      · rw [so _ (by omega), ← c3]
        exact cU_congr 34 0 (fun j _ hj => dn_c (vr j 1 (by omega)))
      · rw [so _ (by omega), hB_zero z]
        have := c4 hst
        omega
      · unfold rDisk
        rw [so _ (by omega)]
        exact o5
      · unfold rClean
        rw [so _ (by omega), so _ (by omega), so _ (by omega)]
        exact o6
    · rw [v2_t (by omega), hon] at q
      exact absurd q one_ne
