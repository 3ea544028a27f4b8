/-! what the reference's first row of every call (thrown = 0) changes: nothing that is read -/
theorem rA_reg {V R R' : VV} {N u : Nat} (h : rA V R N u) (e : ∀ j, j ≠ 0 → R' 272 j = R 272 j) : rA V R' N u := by
  unfold rA at h ⊢
  rw [e 1 (by omega), e 7 (by omega), e 8 (by omega), e 9 (by omega), e 11 (by omega), e 12 (by omega), e 13 (by omega)]
  exact h
theorem rOn_reg {V P R R' A : VV} {N u : Nat} (h : rOn V P R A N u) (e : ∀ j, j ≠ 0 → R' 272 j = R 272 j) : rOn V P R' A N u := by
  unfold rOn rLf at h ⊢
  rw [e 10 (by omega), e 14 (by omega)]
  exact h
theorem rOff_reg {V P R R' A : VV} {N : Nat} (h : rOff V P R A N) (e : ∀ j, j ≠ 0 → R' 272 j = R 272 j) : rOff V P R' A N := by
  unfold rOff at h ⊢
  rw [e 14 (by omega)]
  exact h
theorem r0_e (R : VV) : ∀ j, j ≠ 0 → r0 R 272 j = R 272 j := fun j hj => by
  unfold r0
  rw [v2_k hj]
theorem rel_0 {V P R A : VV} {k : Nat} (h : rel V P R A k) : rel V P (r0 R) A (k + 1) := by
  obtain ⟨N, u, hu, h1, h2, h3⟩ := h
  exact ⟨N, u, by omega, rA_reg h1 (r0_e R), fun q => rOn_reg (h2 q) (r0_e R), fun q => rOff_reg (h3 q) (r0_e R)⟩
theorem rel_on {V P R A : VV} {k : Nat} (h : rel V P R A k) : ∃ N u, u ≤ k ∧ rA V R N u ∧ (V 267 1 = 1 → rOn V P R A N u) ∧ (V 267 1 = 0 → rOff V P R A N) := h
theorem on_1 {V R : VV} {N u : Nat} (h : rA V R N u) (hn : ¬ V 267 1 = 0) : V 267 1 = 1 := by
  rcases h.2.2.2.2.2.2.2.2.2.2.2.2 with q | q
  · exact absurd q hn
  · exact q
theorem st_1 {V R : VV} {N u : Nat} (h : rA V R N u) (hn : ¬ V 266 4 = 0) : V 266 4 = 1 := by
  rcases h.2.2.2.2.2.2.2.2.2.2.2.1 with q | q
  · exact absurd q hn
  · exact q
theorem one_ne : ¬ (1 : Int32) = 0 := by decide
theorem mBlk {V : VV} {N : Nat} (hV : V 266 0 = nI N) (hN : N ≤ 80) (b : Int32) : mIsBlock V b ↔ ∃ x, isB N x ∧ b = nI x := by
  unfold mIsBlock
  rw [hV]
  constructor
  · intro ⟨h1, h2, h3⟩
    obtain ⟨x, x1, x2⟩ := nI_of h1
    subst x2
    have e1 : x < N := by
      rcases Nat.lt_or_ge x N with q | q
      · exact q
      · exact absurd (nI_le q x1) h2
    refine ⟨x, ⟨e1, ?_⟩, rfl⟩
    rcases Nat.lt_or_ge x 2 with q | q
    · exact Or.inl q
    · right
      rcases Nat.lt_or_ge 32 x with w | w
      · exact w
      · exact absurd ⟨nI_nlt (a := x) (b := 2) q x1, nI_nlt (a := 32) (b := x) w (by omega)⟩ h3
  · intro ⟨x, ⟨h1, h2⟩, h3⟩
    subst h3
    refine ⟨nI_pos (by omega), nI_ge h1 (by omega), fun q => ?_⟩
    rcases h2 with w | w
    · exact q.1 (nI_lt (b := 2) w (by omega))
    · exact q.2 (nI_lt (a := 32) w (by omega))
theorem rBlk {R : VV} {N : Nat} (hV : R 272 1 = nI N) (hN : N ≤ 80) (b : Int32) : rIsBlock R b ↔ ∃ x, isB N x ∧ b = nI x := by
  unfold rIsBlock
  rw [hV]
  constructor
  · intro ⟨h1, h2, h3⟩
    obtain ⟨x, x1, x2⟩ := nI_of h1
    subst x2
    have e1 : x < N := by
      rcases Nat.lt_or_ge x N with q | q
      · exact q
      · exact absurd (nI_le q x1) h2
    refine ⟨x, ⟨e1, ?_⟩, rfl⟩
    rcases h3 with q | q
    · exact Or.inl ((nI_ltI (b := 2) x1 (by omega)).mp q)
    · right
      rcases Nat.lt_or_ge 32 x with w | w
      · exact w
      · exact absurd (nI_le (b := 32) w (by omega)) q
  · intro ⟨x, ⟨h1, h2⟩, h3⟩
    subst h3
    refine ⟨nI_pos (by omega), nI_ge h1 (by omega), ?_⟩
    rcases h2 with w | w
    · exact Or.inl (nI_lt (b := 2) w (by omega))
    · exact Or.inr (nI_ge (a := 32) w (by omega))
theorem sim_begin {V P R A : VV} {k : Nat} (h : rel V P R A k) : (mBegin V P).1 = (rBegin R A).1 ∧ rel (mBegin V P).2.1 (mBegin V P).2.2 (rBegin R A).2.1 (rBegin R A).2.2 (k + 1) := by
  obtain ⟨N, u, hu, hA, h2, h3⟩ := id h
  obtain ⟨a1, a2, a3, a4, a5, a6, a7, a8, a9, a10, a11, a12, a13⟩ := id hA
  unfold mBegin rBegin
  rw [a10, a11]
  by_cases c : V 267 1 = 0 ∨ ¬ V 266 4 = 0
  · rw [if_pos c, if_pos c]
    exact ⟨rfl, rel_0 h⟩
  · rw [if_neg c, if_neg c]
    have hon : V 267 1 = 1 := on_1 hA (fun q => c (Or.inl q))
    have hst : V 266 4 = 0 := Decidable.byContradiction fun q => c (Or.inr q)
    obtain ⟨o1, o2, ⟨b1, b2, b3, b4, b5, b6⟩, ⟨c1, c2, c3, c4, c5⟩, o5, o6⟩ := h2 hon
    refine ⟨rfl, N, u, by omega, ?_, fun _ => ?_, fun q => ?_⟩
    · refine ⟨by rw [v2_k (by omega)]; exact a1, by rw [v2_k (by omega), r0_e R _ (by omega)]; exact a2, a3, a4, by rw [v2_t (by omega)]; exact a5, by rw [v2_k (by omega), r0_e R _ (by omega)]; exact a6, by rw [v2_k (by omega), r0_e R _ (by omega), v2_t (by omega)]; exact a7, by rw [v2_k (by omega), r0_e R _ (by omega), v2_t (by omega)]; exact a8, by rw [v2_k (by omega), r0_e R _ (by omega), v2_t (by omega)]; exact a9, by rw [v2_s, v2_s], by rw [v2_k (by omega), r0_e R _ (by omega), v2_t (by omega)]; exact a11, by rw [v2_s]; exact Or.inr rfl, by rw [v2_t (by omega)]; exact a13⟩
    · have z : ∀ b, b < 80 → p1 A 276 (zF (A 276) 80) 276 b = 0 := fun b hb => by
        rw [p1_s]
        unfold zF
        rw [if_pos hb]
      have so : ∀ t, t ≠ 276 → p1 A 276 (zF (A 276) 80) t = A t := fun t ht => p1_n ht
      have vr : ∀ i j, i < 34 → v2 V 266 4 1 (232 + i) j = V (232 + i) j := fun i j hi => v2_t (by omega)
      have v4 : v2 V 266 4 1 266 4 = 1 := v2_s
      have n4 : ¬ v2 V 266 4 1 266 4 = 0 := by rw [v4]; decide
      refine ⟨?_, by rw [v2_k (by omega), r0_e R _ (by omega)]; exact o2, ⟨fun i hi => ?_, fun i j b hi hj hb e1 e2 => ?_, fun b hb => ?_, fun b hb => ?_, fun b b' hb hb' => ?_, fun b hb => ?_⟩, ⟨?_, fun _ => ?_, ?_, fun q => absurd q n4, fun _ => ?_⟩, ?_, ?_⟩
      · unfold rLf at o1 ⊢
        rw [v2_k (by omega), r0_e R _ (by omega), v2_t (by omega)]
        exact o1
      · rcases b1 i hi with w | ⟨b, w1, w2, w3, w4, w5, w6, w7, w8⟩
        · left
          unfold eRow
          rw [vr i 1 hi, vr i 2 hi, vr i 3 hi, vr i 4 hi]
          exact w
        · right
          refine ⟨b, w1, by rw [vr i 1 hi]; exact w2, by rw [vr i 2 hi, so _ (by omega)]; exact w3, by rw [so _ (by omega)]; exact w4, by rw [vr i 3 hi, so _ (by omega)]; exact w5, fun q => absurd q n4, fun _ => ?_, by rw [so _ (by omega)]; exact w8⟩
          rw [vr i 4 hi, z b (by omega)]
          exact w6 hst
      · rw [vr i 1 hi] at e1
        rw [vr j 1 hj] at e2
        exact b2 i j b hi hj hb e1 e2
      · rw [so _ (by omega)]
        rcases b3 b hb with w | ⟨w, i, hi, e⟩
        · exact Or.inl w
        · exact Or.inr ⟨w, i, hi, by rw [vr i 1 hi]; exact e⟩
      · rw [so _ (by omega)]
        exact b4 b hb
      · rw [so _ (by omega)]
        exact b5 b b' hb hb'
      · rw [so 275 (by omega), so 277 (by omega), z b hb]
        exact ⟨(b6 b hb).1, (b6 b hb).2.1, fun _ q => absurd rfl q⟩
      · rw [so _ (by omega), ← c1]
        exact cU_congr 34 0 (fun j _ hj => dn_c (vr j 3 (by omega)))
      · rw [hB_zero z, hR_zero (fun i hi => by
          rw [vr i 4 hi]
          rcases b1 i hi with w | ⟨b, w1, w2, w3, w4, w5, w6, w7, w8⟩
          · exact w.2.2.2
          · exact w6 hst)]
      · rw [so _ (by omega), ← c3]
        exact cU_congr 34 0 (fun j _ hj => dn_c (vr j 1 (by omega)))
      · rw [so _ (by omega), hB_zero z]
        have := c4 hst
        omega
      · unfold rDisk
        rw [so _ (by omega)]
        exact o5
      · unfold rClean
        rw [so _ (by omega), so _ (by omega), so _ (by omega)]
        exact o6
    · rw [v2_t (by omega), hon] at q
      exact absurd q one_ne
/-- the step is over: nothing is marked as its own -/
theorem sim_close {V P R A : VV} {N u : Nat} (hA : rA V R N u) (hon : V 267 1 = 1) (h : rOn V P R A N u) :
    rA (mClose V) (rShut R) N u ∧ mClose V 267 1 = 1 ∧ mClose V 266 4 = 0 ∧ rLf (mClose V) (rShut R) ∧ rShut R 272 14 = -1 ∧ rRows (mClose V) P A N u ∧ hR (mClose V) 3 = hB (A 275) ∧ cU (fun i => decide (¬ mClose V (232 + i) 1 = -1)) 34 0 = hB (A 277) := by
  obtain ⟨a1, a2, a3, a4, a5, a6, a7, a8, a9, a10, a11, a12, a13⟩ := hA
  obtain ⟨o1, o2, ⟨b1, b2, b3, b4, b5, b6⟩, ⟨c1, c2, c3, c4, c5⟩, o5, o6⟩ := h
  have ev : ∀ t j, t < 232 ∨ 266 ≤ t ∨ j ≠ 4 → ¬ (t = 266 ∧ j = 4) → mClose V t j = V t j := fun t j ht h2 => by
    unfold mClose
    rw [zR_at, if_neg (by omega), v2_n h2]
  have e4 : mClose V 266 4 = 0 := by
    unfold mClose
    rw [zR_at, if_neg (by omega), v2_s]
  have ez : ∀ i, i < 34 → mClose V (232 + i) 4 = 0 := fun i hi => by
    unfold mClose
    rw [zR_at, if_pos (by omega)]
  have vr : ∀ i j, i < 34 → j ≠ 4 → mClose V (232 + i) j = V (232 + i) j := fun i j hi hj => ev _ _ (by omega) (by omega)
  have rt : ∀ j, j ≠ 0 → j ≠ 9 → rShut R 272 j = R 272 j := fun j h1 h2 => by
    unfold rShut
    rw [v2_k h2, r0_e R _ h1]
  have r9 : rShut R 272 9 = 0 := by
    unfold rShut
    rw [v2_s]
  refine ⟨⟨?_, ?_, a3, a4, ?_, ?_, ?_, ?_, ?_, ?_, ?_, ?_, ?_⟩, ?_, e4, ?_, ?_, ⟨fun i hi => ?_, fun i j b hi hj hb e1 e2 => ?_, fun b hb => ?_, b4, b5, fun b hb => ?_⟩, ?_, ?_⟩
  · rw [ev _ _ (by omega) (by omega)]; exact a1
  · rw [rt _ (by omega) (by omega)]; exact a2
  · rw [ev _ _ (by omega) (by omega)]; exact a5
  · rw [rt _ (by omega) (by omega)]; exact a6
  · rw [rt _ (by omega) (by omega), ev _ _ (by omega) (by omega)]; exact a7
  · rw [rt _ (by omega) (by omega), ev _ _ (by omega) (by omega)]; exact a8
  · rw [rt _ (by omega) (by omega), ev _ _ (by omega) (by omega)]; exact a9
  · rw [r9, e4]
  · rw [rt _ (by omega) (by omega), ev _ _ (by omega) (by omega)]; exact a11
  · rw [e4]; exact Or.inl rfl
  · rw [ev _ _ (by omega) (by omega)]; exact a13
  · rw [ev _ _ (by omega) (by omega)]; exact hon
  · unfold rLf at o1 ⊢
    rw [rt _ (by omega) (by omega), ev _ _ (by omega) (by omega)]
    exact o1
  · rw [rt _ (by omega) (by omega)]; exact o2
  · rcases b1 i hi with w | ⟨b, w1, w2, w3, w4, w5, w6, w7, w8⟩
    · left
      exact ⟨by rw [vr i 1 hi (by omega)]; exact w.1, by rw [vr i 2 hi (by omega)]; exact w.2.1, by rw [vr i 3 hi (by omega)]; exact w.2.2.1, ez i hi⟩
    · right
      exact ⟨b, w1, by rw [vr i 1 hi (by omega)]; exact w2, by rw [vr i 2 hi (by omega)]; exact w3, w4, by rw [vr i 3 hi (by omega)]; exact w5, fun _ => ez i hi, fun q => absurd e4 q, w8⟩
  · rw [vr i 1 hi (by omega)] at e1
    rw [vr j 1 hj (by omega)] at e2
    exact b2 i j b hi hj hb e1 e2
  · rcases b3 b hb with w | ⟨w, i, hi, e⟩
    · exact Or.inl w
    · exact Or.inr ⟨w, i, hi, by rw [vr i 1 hi (by omega)]; exact e⟩
  · exact ⟨(b6 b hb).1, (b6 b hb).2.1, fun q => absurd e4 q⟩
  · rw [← c1]
    exact cU_congr 34 0 (fun j _ hj => dn_c (vr j 3 (by omega) (by omega)))
  · rw [← c3]
    exact cU_congr 34 0 (fun j _ hj => dn_c (vr j 1 (by omega) (by omega)))
theorem sim_end {V P R A : VV} {k : Nat} (h : rel V P R A k) : (mEnd V P).1 = (rEnd R A).1 ∧ rel (mEnd V P).2.1 (mEnd V P).2.2 (rEnd R A).2.1 (rEnd R A).2.2 (k + 1) := by
  obtain ⟨N, u, hu, hA, h2, h3⟩ := id h
  obtain ⟨a1, a2, a3, a4, a5, a6, a7, a8, a9, a10, a11, a12, a13⟩ := id hA
  unfold mEnd rEnd
  rw [a10, a11]
  by_cases c : V 267 1 = 0 ∨ V 266 4 = 0
  · rw [if_pos c, if_pos c]
    exact ⟨rfl, rel_0 h⟩
  · rw [if_neg c, if_neg c]
    have hon : V 267 1 = 1 := on_1 hA (fun q => c (Or.inl q))
    have hst : ¬ V 266 4 = 0 := fun q => c (Or.inr q)
    have hO := h2 hon
    obtain ⟨g1, g2, g3, g4, g5, g6, g7, g8⟩ := sim_close hA hon hO
    obtain ⟨o1, o2, -, ⟨c1, c2, c3, c4, c5⟩, o5, o6⟩ := hO
    have h30 := c5 hst
    have hc : mCnt (mClose V) 3 = rMany (A 275) := by rw [mCnt_eq, rMany_eq, g7]
    have hB80 : hB (A 275) ≤ 80 := cU_le _ 80 0
    rw [hc]
    by_cases h20 : 20 < rMany (A 275)
    · rw [if_pos h20, if_pos h20]
      have h21 : 20 < hB (A 275) := by
        rw [rMany_eq] at h20
        exact (nI_ltI (a := 20) (by omega) (by omega)).mp h20
      obtain ⟨r1, r2, V', P', R', A', e1, e2, e3, e4, e5, e6⟩ := sim_commit g1 g2 g3 g4 g5 g6 g7 g8 o5 o6 (by omega) (by omega)
      rw [e1, e2]
      refine ⟨?_, N, u, by omega, e4, e5, e6⟩
      simp only
      by_cases q : r1 = 0
      · rw [if_pos q, if_pos (e3.mp q)]
      · rw [if_neg q, if_neg (fun w => q (e3.mpr w))]
    · rw [if_neg h20, if_neg h20]
      have h21 : hB (A 275) ≤ 20 := by
        rcases Nat.lt_or_ge 20 (hB (A 275)) with q | q
        · rw [rMany_eq] at h20
          exact absurd (nI_lt (a := 20) q (by omega)) h20
        · exact q
      refine ⟨rfl, N, u, by omega, g1, fun _ => ⟨g4, g5, g6, ⟨g7, fun q => absurd g3 q, g8, fun _ => h21, fun q => absurd g3 q⟩, o5, o6⟩, fun q => ?_⟩
      rw [g2] at q
      exact absurd q one_ne
theorem sim_flush {V P R A : VV} {k : Nat} (h : rel V P R A k) : (mFlush V P).1 = (rFlush R A).1 ∧ rel (mFlush V P).2.1 (mFlush V P).2.2 (rFlush R A).2.1 (rFlush R A).2.2 (k + 1) := by
  obtain ⟨N, u, hu, hA, h2, h3⟩ := id h
  obtain ⟨a1, a2, a3, a4, a5, a6, a7, a8, a9, a10, a11, a12, a13⟩ := id hA
  unfold mFlush rFlush
  rw [a10, a11]
  by_cases c : V 267 1 = 0 ∨ ¬ V 266 4 = 0
  · rw [if_pos c, if_pos c]
    exact ⟨rfl, rel_0 h⟩
  · rw [if_neg c, if_neg c]
    have hon : V 267 1 = 1 := on_1 hA (fun q => c (Or.inl q))
    have hst : V 266 4 = 0 := Decidable.byContradiction fun q => c (Or.inr q)
    obtain ⟨o1, o2, o3, ⟨c1, c2, c3, c4, c5⟩, o5, o6⟩ := rOn_reg (h2 hon) (r0_e R)
    have h20 := c4 hst
    have hc : mCnt V 3 = rMany (A 275) := by rw [mCnt_eq, rMany_eq, c1]
    rw [hc]
    by_cases h0 : rMany (A 275) = 0
    · rw [if_pos h0, if_pos h0]
      exact ⟨h0.symm, rel_0 h⟩
    · rw [if_neg h0, if_neg h0]
      have h1 : 1 ≤ hB (A 275) := by
        rcases Nat.eq_zero_or_pos (hB (A 275)) with q | q
        · rw [rMany_eq, q, nI_0] at h0
          exact absurd rfl h0
        · exact q
      obtain ⟨r1, r2, V', P', R', A', e1, e2, e3, e4, e5, e6⟩ := sim_commit (rA_reg hA (r0_e R)) hon hst o1 o2 o3 c1 c3 o5 o6 (by omega) (by omega)
      rw [e1, e2]
      refine ⟨?_, N, u, by omega, e4, e5, e6⟩
      simp only
      by_cases q : r1 = 0
      · rw [if_pos q, if_pos (e3.mp q)]
      · rw [if_neg q, if_neg (fun w => q (e3.mpr w))]
