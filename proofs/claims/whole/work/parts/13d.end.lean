theorem sim_end {V P R A : VV} {k : Nat} (h : rel V P R A k) : (mEnd V P).1 = (rEnd R A).1 ∧ rel (mEnd V P).2.1 (mEnd V P).2.2 (rEnd R A).2.1 (rEnd R A).2.2 (k + 1) := by
  obtain ⟨N, u, hu, hA, h2, h3⟩ := id h
  obtain ⟨a1, a2, a3, a4, a5, a6, a7, a8, a9, a10, a11, a12, a13⟩ := id hA
  unfold mEnd rEnd
  rw [a10, a11]
  by_cases c : V 267 1 = 0 ∨ V 266 4 = 0
  · rw [if_pos c, if_pos c]
    exact ⟨rfl, rel_0 h⟩
  · rw [if_neg c, if_neg c]
    have hon : V 267 1 = 1 := on_1 hA (fun q => c (Or.inl q))
    have hst : ¬ V 266 4 = 0 := fun q => c (Or.inr q)
    have hO := h2 hon
    obtain ⟨g1, g2, g3, g4, g5, g6, g7, g8⟩ := sim_close hA hon hO
    obtain ⟨o1, o2, -, ⟨c1, c2, c3, c4, c5⟩, o5, o6⟩ := hO
    have h30 := c5 hst
    have hc : mCnt (mClose V) 3 = rMany (A 275) := by rw [mCnt_eq, rMany_eq, g7]
    have hB80 := hB_le (A 275)
    rw [hc]
    by_cases h20 : 20 < rMany (A 275)
    · rw [if_pos h20, if_pos h20]
      have h21 : 20 < hB (A 275) := many_20.mp h20
      obtain ⟨r1, r2, V', P', R', A', e1, e2, e3, e4, e5, e6⟩ := sim_commit g1 g2 g3 g4 g5 g6 g7 g8 o5 o6 (by omega) (by omega)
      rw [e1, e2]
      dsimp only
      refine ⟨?_, N, u, by omega, e4, e5, e6⟩
      by_cases q : r1 = 0
      · rw [if_pos q, if_pos (e3.mp q)]
      · rw [if_neg q, if_neg (fun w => q (e3.mpr w))]
    · rw [if_neg h20, if_neg h20]
      have h21 : hB (A 275) ≤ 20 := by
        rcases Nat.lt_or_ge 20 (hB (A 275)) with q | q
        · exact absurd (many_20.mpr q) h20
        · exact q
      dsimp only
      refine ⟨rfl, N, u, by omega, g1, fun _ => ⟨g4, g5, g6, ⟨g7, fun q => absurd g3 q, g8, fun _ => h21, fun q => absurd g3 q⟩, o5, o6⟩, fun q => ?_⟩
      rw [g2] at q
      exact absurd q one_ne
