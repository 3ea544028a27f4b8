theorem sim_flush {V P R A : VV} {k : Nat} (h : rel V P R A k) : (mFlush V P).1 = (rFlush R A).1 ∧ rel (mFlush V P).2.1 (mFlush V P).2.2 (rFlush R A).2.1 (rFlush R A).2.2 (k + 1) := by
  obtain ⟨N, u, hu, hA, h2, h3⟩ := id h
  obtain ⟨a1, a2, a3, a4, a5, a6, a7, a8, a9, a10, a11, a12, a13⟩ := id hA
  unfold mFlush rFlush
  rw [a10, a11]
  by_cases c : V 267 1 = 0 ∨ ¬ V 266 4 = 0
  · rw [if_pos c, if_pos c]
    exact ⟨rfl, rel_0 h⟩
  · rw [if_neg c, if_neg c]
    have hon : V 267 1 = 1 := on_1 hA (fun q => c (Or.inl q))
    have hst : V 266 4 = 0 := Decidable.byContradiction fun q => c (Or.inr q)
    obtain ⟨o1, o2, o3, ⟨c1, c2, c3, c4, c5⟩, o5, o6⟩ := rOn_reg (h2 hon) (r0_e R)
    have h20 := c4 hst
    have hc : mCnt V 3 = rMany (A 275) := by rw [mCnt_eq, rMany_eq, c1]
    rw [hc]
    by_cases h0 : rMany (A 275) = 0
    · rw [if_pos h0, if_pos h0, h0]
      exact ⟨rfl, rel_0 h⟩
    · rw [if_neg h0, if_neg h0]
      have h1 : 1 ≤ hB (A 275) := by
        rcases Nat.eq_zero_or_pos (hB (A 275)) with q | q
        · exact absurd (many_0.mpr q) h0
        · exact q
      obtain ⟨r1, r2, V', P', R', A', e1, e2, e3, e4, e5, e6⟩ := sim_commit (rA_reg hA (r0_e R)) hon hst o1 o2 o3 c1 c3 o5 o6 (by omega) (by omega)
      rw [e1, e2]
      dsimp only
      refine ⟨?_, N, u, by omega, e4, e5, e6⟩
      by_cases q : r1 = 0
      · rw [if_pos q, if_pos (e3.mp q)]
      · rw [if_neg q, if_neg (fun w => q (e3.mpr w))]
