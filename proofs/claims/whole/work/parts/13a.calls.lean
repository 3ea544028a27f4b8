/-! what the reference's first row of every call (thrown = 0) changes: nothing that is read -/
theorem rA_reg {V R R' : VV} {N u : Nat} (h : rA V R N u) (e : ∀ j, j ≠ 0 → R' 272 j = R 272 j) : rA V R' N u := by
  unfold rA at h ⊢
  rw [e 1 (by omega), e 7 (by omega), e 8 (by omega), e 9 (by omega), e 11 (by omega), e 12 (by omega), e 13 (by omega)]
  exact h
theorem rOn_reg {V P R R' A : VV} {N u : Nat} (h : rOn V P R A N u) (e : ∀ j, j ≠ 0 → R' 272 j = R 272 j) : rOn V P R' A N u := by
  unfold rOn rLf at h ⊢
  rw [e 10 (by omega), e 14 (by omega)]
  exact h
theorem rOff_reg {V P R R' A : VV} {N : Nat} (h : rOff V P R A N) (e : ∀ j, j ≠ 0 → R' 272 j = R 272 j) : rOff V P R' A N := by
  unfold rOff at h ⊢
  rw [e 14 (by omega)]
  exact h
theorem r0_e (R : VV) : ∀ j, j ≠ 0 → r0 R 272 j = R 272 j := fun j hj => by
  unfold r0
  rw [v2_k hj]
theorem rel_0 {V P R A : VV} {k : Nat} (h : rel V P R A k) : rel V P (r0 R) A (k + 1) := by
  obtain ⟨N, u, hu, h1, h2, h3⟩ := h
  exact ⟨N, u, by omega, rA_reg h1 (r0_e R), fun q => rOn_reg (h2 q) (r0_e R), fun q => rOff_reg (h3 q) (r0_e R)⟩
theorem rel_on {V P R A : VV} {k : Nat} (h : rel V P R A k) : ∃ N u, u ≤ k ∧ rA V R N u ∧ (V 267 1 = 1 → rOn V P R A N u) ∧ (V 267 1 = 0 → rOff V P R A N) := h
theorem on_1 {V R : VV} {N u : Nat} (h : rA V R N u) (hn : ¬ V 267 1 = 0) : V 267 1 = 1 := by
  rcases h.2.2.2.2.2.2.2.2.2.2.2.2 with q | q
  · exact absurd q hn
  · exact q
theorem st_1 {V R : VV} {N u : Nat} (h : rA V R N u) (hn : ¬ V 266 4 = 0) : V 266 4 = 1 := by
  rcases h.2.2.2.2.2.2.2.2.2.2.2.1 with q | q
  · exact absurd q hn
  · exact q
theorem one_ne : ¬ (1 : Int32) = 0 := by decide
theorem mBlk {V : VV} {N : Nat} (hV : V 266 0 = nI N) (hN : N ≤ 80) (b : Int32) : mIsBlock V b ↔ ∃ x, isB N x ∧ b = nI x := by
  unfold mIsBlock
  rw [hV]
  constructor
  · intro ⟨h1, h2, h3⟩
    obtain ⟨x, x1, x2⟩ := nI_of h1
    subst x2
    have e1 : x < N := by
      rcases Nat.lt_or_ge x N with q | q
      · exact q
      · exact absurd (nI_le q x1) h2
    refine ⟨x, ⟨e1, ?_⟩, rfl⟩
    rcases Nat.lt_or_ge x 2 with q | q
    · exact Or.inl q
    · right
      rcases Nat.lt_or_ge 32 x with w | w
      · exact w
      · exact absurd ⟨nI_nlt (a := x) (b := 2) q x1, nI_nlt (a := 32) (b := x) w (by omega)⟩ h3
  · intro ⟨x, ⟨h1, h2⟩, h3⟩
    subst h3
    refine ⟨nI_pos (by omega), nI_ge h1 (by omega), fun q => ?_⟩
    rcases h2 with w | w
    · exact q.1 (nI_lt (b := 2) w (by omega))
    · exact q.2 (nI_lt (a := 32) w (by omega))
theorem rBlk {R : VV} {N : Nat} (hV : R 272 1 = nI N) (hN : N ≤ 80) (b : Int32) : rIsBlock R b ↔ ∃ x, isB N x ∧ b = nI x := by
  unfold rIsBlock
  rw [hV]
  constructor
  · intro ⟨h1, h2, h3⟩
    obtain ⟨x, x1, x2⟩ := nI_of h1
    subst x2
    have e1 : x < N := by
      rcases Nat.lt_or_ge x N with q | q
      · exact q
      · exact absurd (nI_le q x1) h2
    refine ⟨x, ⟨e1, ?_⟩, rfl⟩
    rcases h3 with q | q
    · exact Or.inl ((nI_ltI (b := 2) x1 (by omega)).mp q)
    · right
      rcases Nat.lt_or_ge 32 x with w | w
      · exact w
      · exact absurd (nI_le (b := 32) w (by omega)) q
  · intro ⟨x, ⟨h1, h2⟩, h3⟩
    subst h3
    refine ⟨nI_pos (by omega), nI_ge h1 (by omega), ?_⟩
    rcases h2 with w | w
    · exact Or.inl (nI_lt (b := 2) w (by omega))
    · exact Or.inr (nI_ge (a := 32) w (by omega))
theorem lt_n {k n : Nat} {x : Int32} (hx : x = nI k) (hk : k < 2 ^ 31) (hn : n < 2 ^ 31) : x < nI n ↔ k < n := by
  rw [hx]
  exact nI_ltI hk hn
theorem le_n {k n : Nat} {x : Int32} (hx : x = nI k) (hk : k < 2 ^ 31) (hn : n < 2 ^ 31) : x ≤ nI n ↔ k ≤ n := by
  rw [hx]
  exact nI_leI hk hn
theorem hB_le (f : Nat → Int32) : hB f ≤ 80 := cU_le (nz f) 80 0
theorem many_20 {f : Nat → Int32} : 20 < rMany f ↔ 20 < hB f := by
  rw [rMany_eq]
  have h := hB_le f
  generalize hB f = n at h ⊢
  exact lt_n (k := 20) rfl (by omega) (by omega)
theorem many_0 {f : Nat → Int32} : rMany f = 0 ↔ hB f = 0 := by
  rw [rMany_eq]
  have h := hB_le f
  generalize hB f = n at h ⊢
  rw [← nI_0]
  exact nI_eq (by omega) (by omega)
theorem many_10 {f : Nat → Int32} : rMany f = 10 ↔ hB f = 10 := by
  rw [rMany_eq]
  have h := hB_le f
  generalize hB f = n at h ⊢
  exact nI_eq (b := 10) (by omega) (by omega)
