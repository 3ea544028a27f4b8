/-! A COMMIT on both sides, pure -/
theorem rW_ok {V V' R : VV} {k : Nat} (hL : rLf V R) (h : okW V V' k) (hk : k < 2 ^ 31) : ∃ R', rWritten R (nI k) = (1, R') ∧ R' 272 11 = R 272 11 + nI k ∧ rLf V' R' ∧ ∀ t j, ¬ (t = 272 ∧ (j = 10 ∨ j = 11)) → R' t j = R t j := by
  obtain ⟨-, h2, -⟩ := h
  unfold rWritten
  rcases hL with ⟨l1, l2⟩ | ⟨l1, l2⟩
  · rw [if_pos (by rw [l2]; decide)]
    refine ⟨_, rfl, ?_, ?_, fun t j ht => ?_⟩
    · rw [v2_k (by omega), v2_s]
    · left
      rcases h2 with ⟨-, q2⟩ | ⟨m, q1, q2, q3, -⟩
      · exact ⟨by rw [q2]; exact l1, by rw [v2_s]; exact l2⟩
      · rw [q3] at l1
        exact absurd l1 (nI_pos q2)
    · rw [v2_n (fun q => ht ⟨q.1, Or.inl q.2⟩), v2_n (fun q => ht ⟨q.1, Or.inr q.2⟩)]
  · rcases h2 with ⟨q1, -⟩ | ⟨m, q1, q2, q3, q4⟩
    · exact absurd q1 l1
    · rw [q3] at l2
      rw [l2, if_neg (nI_pos q2), if_neg (nI_nlt q1 q2)]
      refine ⟨_, rfl, ?_, ?_, fun t j ht => ?_⟩
      · rw [v2_k (by omega), v2_s]
      · right
        refine ⟨by rw [q4]; exact nI_pos (by omega), ?_⟩
        rw [v2_s, q4]
        exact pk_sub q1
      · rw [v2_n (fun q => ht ⟨q.1, Or.inl q.2⟩), v2_n (fun q => ht ⟨q.1, Or.inr q.2⟩)]
theorem rW_no {V V' R : VV} {m k : Nat} (hL : rLf V R) (h : noW V V' m) (hm : m < k) (hk : k < 2 ^ 31) : ∃ R', rWritten R (nI k) = (0, R') ∧ R' 272 11 = R 272 11 + nI m ∧ R' 272 8 = 0 ∧ ∀ t j, ¬ (t = 272 ∧ (j = 8 ∨ j = 10 ∨ j = 11)) → R' t j = R t j := by
  obtain ⟨h0, h1, -⟩ := h
  unfold rWritten
  rcases hL with ⟨l1, l2⟩ | ⟨l1, l2⟩
  · rw [h1] at l1
    exact absurd l1 (nI_pos h0)
  · rw [h1] at l2
    rw [l2, if_neg (nI_pos h0), if_pos (nI_lt hm hk)]
    refine ⟨_, rfl, ?_, v2_s, fun t j ht => ?_⟩
    · rw [v2_k (by omega), v2_k (by omega), v2_s]
    · rw [v2_n (fun q => ht ⟨q.1, Or.inl q.2⟩), v2_n (fun q => ht ⟨q.1, Or.inr (Or.inl q.2)⟩), v2_n (fun q => ht ⟨q.1, Or.inr (Or.inr q.2)⟩)]
theorem rP_273 (A : VV) (N : Nat) {b j : Nat} (hb : b < N) (hj : j < 1024) : rP A N 273 (1024 * b + j) = if ¬ A 275 b = 0 then A 274 (1024 * b + j) else A 273 (1024 * b + j) := by
  unfold rP
  rw [p1_n (by omega), p1_s]
  unfold rSafe
  have e : (1024 * b + j) / 1024 = b := by omega
  rw [e]
  by_cases h : A 275 b = 0
  · rw [if_neg (fun q => q.2 h), if_neg (fun q => q h)]
  · rw [if_pos ⟨by omega, h⟩, if_pos h]
theorem rP_275 (A : VV) (N b : Nat) : rP A N 275 b = if b < N then 0 else A 275 b := by
  unfold rP
  rw [p1_s]
  rfl
theorem rP_o (A : VV) (N : Nat) {t : Nat} (h1 : t ≠ 273) (h2 : t ≠ 275) : rP A N t = A t := by
  unfold rP
  rw [p1_n h2, p1_n h1]
theorem hB_zero {f : Nat → Int32} (h : ∀ b, b < 80 → f b = 0) : hB f = 0 := cU_zero 80 0 (fun j _ hj => by simp [nz, h j (by omega)])
theorem hR_zero {V : VV} {k : Nat} (h : ∀ i, i < 34 → V (232 + i) k = 0) : hR V k = 0 := cU_zero 34 0 (fun j _ hj => by simp [nz, h j (by omega)])
/-- which row holds a block that is stamped -/
theorem rRows.row {V P A : VV} {N u b : Nat} (h : rRows V P A N u) (hN : N ≤ 80) (hb : b < 80) (hs : ¬ A 277 b = 0) : ∃ i, i < 34 ∧ fRow V P A N i b := by
  obtain ⟨b1, b2, b3, b4, b5, b6⟩ := h
  rcases b3 b hb with q | ⟨q, i, hi, e⟩
  · exact absurd q hs
  · refine ⟨i, hi, ?_⟩
    rcases b1 i hi with w | ⟨b', w⟩
    · rw [w.1] at e
      have : nI b < 0 := by rw [← e]; decide
      exact absurd this (nI_pos (by omega))
    · have e2 := w.2.1
      have hb' := w.1
      rw [e] at e2
      have e3 : b = b' := (nI_eq (by omega) (by omega)).mp e2
      rw [e3]
      exact w
/-- what stands behind a commit that went through, or not -/
theorem sim_commit {V P R A : VV} {N u : Nat} (hA : rA V R N u) (hon : V 267 1 = 1) (hst : V 266 4 = 0) (hLf : rLf V R) (hun : R 272 14 = -1) (hrows : rRows V P A N u) (hcnt : hR V 3 = hB (A 275)) (hcnt3 : cU (fun i => decide (¬ V (232 + i) 1 = -1)) 34 0 = hB (A 277)) (hd : rDisk P A N) (hcl : rClean A N) (h1 : 1 ≤ hR V 3) (h30 : hR V 3 ≤ 30) :
    ∃ (r1 r2 : Int32) (V' P' R' A' : VV), mCommit V P = (r1, V', P') ∧ rCommit R A = (r2, R', A') ∧ (r1 = 0 ↔ r2 = 0) ∧ rA V' R' N u ∧ (V' 267 1 = 1 → rOn V' P' R' A' N u) ∧ (V' 267 1 = 0 → rOff V' P' R' A' N) := by
  have hon' : ¬ V 267 1 = 0 := by rw [hon]; decide
  have hN : N ≤ 80 := hA.2.2.2.1
  have hrow : ∀ x, x < 34 → ¬ V (232 + x) 3 = 0 → ∃ b, isB N b ∧ V (232 + x) 1 = nI b ∧ ∀ j, j < 1024 → P (80 + x) j = rP A N 273 (1024 * b + j) := fun x hx hh => by
    rcases hrows.1 x hx with w | ⟨b, w⟩
    · exact absurd w.2.2.1 hh
    · obtain ⟨w1, w2, w3, w4, w5, w6, w7, w8⟩ := w
      refine ⟨b, w1, w2, fun j hj => ?_⟩
      rw [rP_273 A N w1.1 hj, if_pos (by rw [← w5]; exact hh)]
      exact w8 j hj
  have hdisk : ∀ b, isB N b → (∀ x, x < 34 → ¬ V (232 + x) 3 = 0 → ¬ V (232 + x) 1 = nI b) → ∀ j, j < 1024 → P b j = rP A N 273 (1024 * b + j) := fun b hb hn j hj => by
    have h0 : A 275 b = 0 := Decidable.byContradiction fun h0 => by
      obtain ⟨i, hi, w⟩ := hrows.row hN (b := b) (by omega) ((hrows.2.2.2.2.2 b (by omega)).2.1 h0)
      exact hn i hi (by rw [w.2.2.2.2.1]; exact h0) w.2.1
    rw [rP_273 A N hb.1 hj, if_neg (fun q => q h0)]
    exact hd.2 b hb j hj
  have hm : rMany (A 275) + 1 = nI (hR V 3 + 1) := by rw [rMany_eq, ← hcnt, nI_1]
  obtain ⟨a1, a2, a3, a4, a5, a6, a7, a8, a9, a10, a11, a12, a13⟩ := hA
  unfold mCommit rCommit
  rw [hm]
  rcases mOut_spec hN hon' h1 h30 hrow hdisk with ⟨V', P', m, q1, q2, q3, q4⟩ | ⟨V0, g0, hcase⟩
  · obtain ⟨R', r1, r2, r3, r4⟩ := rW_no hLf q3 q2 (by omega)
    have ev : ∀ t j, t < 232 ∨ 266 ≤ t → eR 34 0 V' t j = V' t j := fun t j ht => by
      rw [eR_at, if_neg (by omega)]
    have er : ∀ i, i < 34 → eRow (eR 34 0 V') i := fun i hi => by
      refine ⟨?_, ?_, ?_, ?_⟩ <;> (rw [eR_at, if_pos (by omega)]; rfl)
    rw [q1, r1]
    simp only
    rw [if_pos trivial, if_pos trivial]
    refine ⟨0, 0, _, _, _, _, rfl, rfl, Iff.rfl, ?_, fun hx => ?_, fun _ => ?_⟩
    · refine ⟨?_, ?_, a3, a4, ?_, ?_, ?_, ?_, ?_, ?_, ?_, ?_, ?_⟩
      · rw [ev _ _ (by omega), q3.at (by omega)]; exact a1
      · rw [r4 _ _ (by omega)]; exact a2
      · rw [ev _ _ (by omega), q3.at (by omega)]; exact a5
      · rw [r4 _ _ (by omega)]; exact a6
      · rw [r2, ev _ _ (by omega), q3.2.2.1, a7]
      · rw [r4 _ _ (by omega), ev _ _ (by omega), q3.at (by omega)]; exact a8
      · rw [r4 _ _ (by omega), ev _ _ (by omega), q3.at (by omega)]; exact a9
      · rw [r4 _ _ (by omega), ev _ _ (by omega), q3.at (by omega)]; exact a10
      · rw [r3, ev _ _ (by omega), q3.2.2.2.1]
      · rw [ev _ _ (by omega), q3.at (by omega)]; exact a12
      · rw [ev _ _ (by omega), q3.2.2.2.1]; exact Or.inl rfl
    · rw [ev _ _ (by omega), q3.2.2.2.1] at hx
      exact absurd hx (by decide)
    · refine ⟨?_, er, Or.inl ⟨?_, ?_, fun b hb j hj => ?_⟩⟩
      · rw [ev _ _ (by omega), q3.at (by omega)]; exact hst
      · rw [r4 _ _ (by omega)]; exact hun
      · rw [q4 2 (by omega) (by omega)]; exact hd.1
      · rw [q4 b (by omega) (by omega)]; exact hd.2 b hb j hj
  · obtain ⟨R0, r1, r2, r3, r4⟩ := rW_ok hLf g0 (by omega)
    rw [r1]
    simp only
    rw [if_neg (show ¬ (1 : Int32) = 0 by decide)]
    unfold rCommit2
    have e1 : (R0 272 1).toNatClampNeg = N := by rw [r4 _ _ (by omega), a2, nI_clamp (by omega)]
    rw [e1]
    generalize hR1 : v2 (v2 R0 272 13 (R0 272 13 + 1)) 272 14 (rMany (A 275)) = R1
    have s14 : R1 272 14 = nI (hR V 3) := by rw [← hR1, v2_s, rMany_eq, ← hcnt]
    have s13 : R1 272 13 = R 272 13 + 1 := by rw [← hR1, v2_k (by omega), v2_s, r4 _ _ (by omega)]
    have so : ∀ j, j ≠ 13 → j ≠ 14 → R1 272 j = R0 272 j := fun j h2 h3 => by rw [← hR1, v2_k h3, v2_k h2]
    have l1 : rLf (v2 V0 269 2 (V0 269 2 + 1)) R1 := by
      have := r3
      unfold rLf at this ⊢
      rw [v2_t (by omega), so _ (by omega) (by omega)]
      exact this
    have e2 : R1 272 14 + 1 = nI (hR V 3 + 1) := by rw [s14, nI_1]
    unfold rEnded
    rw [e2]
    rcases hcase with ⟨V', P', q1, q2, q3, q4⟩ | ⟨V', P', m, blk, q1, q2, q3, q4, q5⟩
    · obtain ⟨R2, t1, t2, t3, t4⟩ := rW_ok l1 q2 (by omega)
      rw [q1, t1]
      simp only
      rw [if_neg (show ¬ (1 : Int32) = 0 by decide)]
      have ev : ∀ t j, t < 232 ∨ 266 ≤ t ∨ j ≠ 3 → zR 3 34 0 V' t j = V' t j := fun t j ht => by
        rw [zR_at, if_neg (by omega)]
      have ez : ∀ i, i < 34 → zR 3 34 0 V' (232 + i) 3 = 0 := fun i hi => by rw [zR_at, if_pos (by omega)]
      have eV : ∀ t j, t ≠ 267 → ¬ (t = 269 ∧ j = 2) → V' t j = V t j := fun t j h2 h3 => by
        rw [q2.at h2, v2_n h3, g0.at h2]
      have eR2 : ∀ j, j ≠ 10 → j ≠ 11 → j ≠ 13 → j ≠ 14 → R2 272 j = R 272 j := fun j h2 h3 h4 h5 => by
        rw [t4 _ _ (by omega), so _ h4 h5, r4 _ _ (by omega)]
      refine ⟨1, 1, _, _, _, _, rfl, rfl, Iff.rfl, ?_, fun _ => ?_, fun hx => ?_⟩
      · refine ⟨?_, ?_, a3, a4, ?_, ?_, ?_, ?_, ?_, ?_, ?_, ?_, ?_⟩
        · rw [ev _ _ (by omega), eV _ _ (by omega) (by omega)]; exact a1
        · rw [v2_k (by omega), eR2 _ (by omega) (by omega) (by omega) (by omega)]; exact a2
        · rw [ev _ _ (by omega), eV _ _ (by omega) (by omega)]; exact a5
        · rw [v2_k (by omega), eR2 _ (by omega) (by omega) (by omega) (by omega)]; exact a6
        · rw [v2_k (by omega), t2, so _ (by omega) (by omega), r2, ev _ _ (by omega), q2.1, v2_t (by omega), g0.1, a7]
        · rw [v2_k (by omega), eR2 _ (by omega) (by omega) (by omega) (by omega), ev _ _ (by omega), eV _ _ (by omega) (by omega)]; exact a8
        · rw [v2_k (by omega), t4 _ _ (by omega), s13, ev _ _ (by omega), q2.at (by omega), v2_s, g0.at (by omega), a9]
        · rw [v2_k (by omega), eR2 _ (by omega) (by omega) (by omega) (by omega), ev _ _ (by omega), eV _ _ (by omega) (by omega)]; exact a10
        · rw [v2_k (by omega), eR2 _ (by omega) (by omega) (by omega) (by omega), ev _ _ (by omega), q2.on, v2_t (by omega), g0.on]; exact a11
        · rw [ev _ _ (by omega), eV _ _ (by omega) (by omega)]; exact a12
        · rw [ev _ _ (by omega), q2.on, v2_t (by omega), g0.on]; exact a13
      · have c277 : rP A N 277 = A 277 := rP_o A N (by omega) (by omega)
        have c276 : rP A N 276 = A 276 := rP_o A N (by omega) (by omega)
        have c274 : rP A N 274 = A 274 := rP_o A N (by omega) (by omega)
        have c275 : ∀ b, b < 80 → rP A N 275 b = 0 := fun b hb => by
          rw [rP_275]
          by_cases hbN : b < N
          · rw [if_pos hbN]
          · rw [if_neg hbN]
            refine Decidable.byContradiction fun h0 => ?_
            rcases hrows.2.2.1 b hb with w | w
            · exact (hrows.2.2.2.2.2 b hb).2.1 h0 w
            · exact hbN w.1.1
        have v4 : zR 3 34 0 V' 266 4 = 0 := by rw [ev _ _ (by omega), eV _ _ (by omega) (by omega)]; exact hst
        have vrow : ∀ i j, i < 34 → j ≠ 3 → zR 3 34 0 V' (232 + i) j = V (232 + i) j := fun i j hi hj => by rw [ev _ _ (by omega), eV _ _ (by omega) (by omega)]
        obtain ⟨b1, b2, b3, b4, b5, b6⟩ := hrows
        refine ⟨?_, v2_s, ⟨fun i hi => ?_, fun i j b hi hj hb e1 e2 => ?_, fun b hb => ?_, fun b hb => ?_, fun b b' hb hb' => ?_, fun b hb => ?_⟩, ⟨?_, fun hx => absurd v4 hx, ?_, fun _ => ?_, fun hx => absurd v4 hx⟩, q3, fun b hb _ j hj => ?_⟩
        · unfold rLf at t3 ⊢
          rw [ev _ _ (by omega), v2_k (by omega)]
          exact t3
        · rcases b1 i hi with w | ⟨b, w1, w2, w3, w4, w5, w6, w7, w8⟩
          · left
            exact ⟨by rw [vrow i 1 hi (by omega)]; exact w.1, by rw [vrow i 2 hi (by omega)]; exact w.2.1, ez i hi, by rw [vrow i 4 hi (by omega)]; exact w.2.2.2⟩
          · right
            refine ⟨b, w1, by rw [vrow i 1 hi (by omega)]; exact w2, by rw [vrow i 2 hi (by omega), c277]; exact w3, by rw [c277]; exact w4, by rw [ez i hi, c275 b (by omega)], fun _ => ?_, fun hx => absurd v4 hx, fun j hj => ?_⟩
            · rw [vrow i 4 hi (by omega)]
              exact w6 hst
            · rw [q4 (80 + i) (by omega) (by omega) (by omega), c274]
              exact w8 j hj
        · rw [vrow i 1 hi (by omega)] at e1
          rw [vrow j 1 hj (by omega)] at e2
          exact b2 i j b hi hj hb e1 e2
        · rw [c277]
          rcases b3 b hb with w | ⟨w, i, hi, e⟩
          · exact Or.inl w
          · exact Or.inr ⟨w, i, hi, by rw [vrow i 1 hi (by omega)]; exact e⟩
        · rw [c277]
          exact b4 b hb
        · rw [c277]
          exact b5 b b' hb hb'
        · rw [c275 b hb]
          exact ⟨Or.inl rfl, fun hx => absurd rfl hx, fun hx => absurd v4 hx⟩
        · rw [hR_zero ez, hB_zero c275]
        · rw [c277, ← hcnt3]
          exact cU_congr 34 0 (fun j _ hj => dn_c (vrow j 1 (by omega) (by omega)))
        · rw [hB_zero c275]
          omega
        · rw [c274, rP_273 A N hb.1 hj]
          by_cases h0 : A 275 b = 0
          · rw [if_neg (fun q => q h0)]
            exact hcl b hb h0 j hj
          · rw [if_pos h0]
      · rw [ev _ _ (by omega), q2.on, v2_t (by omega), g0.on] at hx
        exact absurd hx hon'
    · obtain ⟨R2, t1, t2, t3, t4⟩ := rW_no l1 q3 q2 (by omega)
      rw [q1, t1]
      simp only
      rw [if_pos trivial, if_pos trivial]
      have ev : ∀ t j, t < 232 ∨ 266 ≤ t → eR 34 0 V' t j = V' t j := fun t j ht => by
        rw [eR_at, if_neg (by omega)]
      have er : ∀ i, i < 34 → eRow (eR 34 0 V') i := fun i hi => by
        refine ⟨?_, ?_, ?_, ?_⟩ <;> (rw [eR_at, if_pos (by omega)]; rfl)
      have eV : ∀ t j, t ≠ 267 → ¬ (t = 269 ∧ j = 2) → V' t j = V t j := fun t j h2 h3 => by
        rw [q3.at h2, v2_n h3, g0.at h2]
      have eR2 : ∀ j, j ≠ 8 → j ≠ 10 → j ≠ 11 → j ≠ 13 → j ≠ 14 → R2 272 j = R 272 j := fun j h1 h2 h3 h4 h5 => by
        rw [t4 _ _ (by omega), so _ h4 h5, r4 _ _ (by omega)]
      refine ⟨0, 0, _, _, _, _, rfl, rfl, Iff.rfl, ?_, fun hx => ?_, fun _ => ?_⟩
      · refine ⟨?_, ?_, a3, a4, ?_, ?_, ?_, ?_, ?_, ?_, ?_, ?_, ?_⟩
        · rw [ev _ _ (by omega), eV _ _ (by omega) (by omega)]; exact a1
        · rw [v2_k (by omega), eR2 _ (by omega) (by omega) (by omega) (by omega) (by omega)]; exact a2
        · rw [ev _ _ (by omega), eV _ _ (by omega) (by omega)]; exact a5
        · rw [v2_k (by omega), eR2 _ (by omega) (by omega) (by omega) (by omega) (by omega)]; exact a6
        · rw [v2_k (by omega), t2, so _ (by omega) (by omega), r2, ev _ _ (by omega), q3.2.2.1, v2_t (by omega), g0.1, a7]
        · rw [v2_k (by omega), eR2 _ (by omega) (by omega) (by omega) (by omega) (by omega), ev _ _ (by omega), eV _ _ (by omega) (by omega)]; exact a8
        · rw [v2_k (by omega), t4 _ _ (by omega), s13, ev _ _ (by omega), q3.at (by omega), v2_s, g0.at (by omega), a9]
        · rw [v2_k (by omega), eR2 _ (by omega) (by omega) (by omega) (by omega) (by omega), ev _ _ (by omega), eV _ _ (by omega) (by omega)]; exact a10
        · rw [v2_k (by omega), t3, ev _ _ (by omega), q3.2.2.2.1]
        · rw [ev _ _ (by omega), eV _ _ (by omega) (by omega)]; exact a12
        · rw [ev _ _ (by omega), q3.2.2.2.1]; exact Or.inl rfl
      · rw [ev _ _ (by omega), q3.2.2.2.1] at hx
        exact absurd hx (by decide)
      · refine ⟨?_, er, Or.inr ⟨hR V 3, blk, h1, h30, ?_, q4⟩⟩
        · rw [ev _ _ (by omega), eV _ _ (by omega) (by omega)]; exact hst
        · rw [v2_s, t4 _ _ (by omega)]; exact s14
