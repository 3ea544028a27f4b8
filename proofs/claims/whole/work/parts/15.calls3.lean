theorem rLeft_lf {V R : VV} {k : Int32} (h1 : V 267 2 = k) (h2 : R 272 10 = rLeft k) : rLf V R := by
  unfold rLf
  rw [h1, h2]
  unfold rLeft
  by_cases q : 0 ≤ k
  · rw [if_pos q]
    exact Or.inr ⟨Int32.not_lt.mpr q, rfl⟩
  · rw [if_neg q]
    exact Or.inl ⟨Int32.not_le.mp q, rfl⟩
theorem sim_cut {V P R A : VV} {k : Nat} (h : rel V P R A k) (x : Int32) : (mCut V P x).1 = (rCut R A x).1 ∧ rel (mCut V P x).2.1 (mCut V P x).2.2 (rCut R A x).2.1 (rCut R A x).2.2 (k + 1) := by
  obtain ⟨N, u, hu, hA, h2, h3⟩ := id h
  obtain ⟨a1, a2, a3, a4, a5, a6, a7, a8, a9, a10, a11, a12, a13⟩ := id hA
  unfold mCut rCut
  rw [a11]
  by_cases c : V 267 1 = 0
  · rw [if_pos c, if_pos c]
    exact ⟨rfl, rel_0 h⟩
  · rw [if_neg c, if_neg c]
    have hon : V 267 1 = 1 := on_1 hA c
    have rt : ∀ j, j ≠ 0 → j ≠ 10 → v2 (r0 R) 272 10 (rLeft x) 272 j = R 272 j := fun j h1 h2 => by rw [v2_k h2, r0_e R _ h1]
    have vt : ∀ t j, ¬ (t = 267 ∧ j = 2) → v2 V 267 2 x t j = V t j := fun t j ht => v2_n ht
    have vr : ∀ i j, i < 34 → v2 V 267 2 x (232 + i) j = V (232 + i) j := fun i j hi => vt _ _ (by omega)
    obtain ⟨o1, o2, ⟨b1, b2, b3, b4, b5, b6⟩, ⟨c1, c2, c3, c4, c5⟩, o5, o6⟩ := h2 hon
    have e66 : v2 V 267 2 x 266 4 = V 266 4 := vt _ _ (by omega)
    dsimp only
    refine ⟨rfl, N, u, by omega, ⟨?_, ?_, a3, a4, ?_, ?_, ?_, ?_, ?_, ?_, ?_, ?_, ?_⟩, fun _ => ⟨rLeft_lf v2_s v2_s, ?_, ⟨fun i hi => ?_, fun i j b hi hj hb e1 e2 => ?_, fun b hb => ?_, b4, b5, fun b hb => ?_⟩, ⟨?_, ?_, ?_, ?_, ?_⟩, o5, o6⟩, fun q => ?_⟩
    · rw [vt _ _ (by omega)]; exact a1
    · rw [rt _ (by omega) (by omega)]; exact a2
    · rw [vt _ _ (by omega)]; exact a5
    · rw [rt _ (by omega) (by omega)]; exact a6
    · rw [rt _ (by omega) (by omega), vt _ _ (by omega)]; exact a7
    · rw [rt _ (by omega) (by omega), vt _ _ (by omega)]; exact a8
    · rw [rt _ (by omega) (by omega), vt _ _ (by omega)]; exact a9
    · rw [rt _ (by omega) (by omega), e66]; exact a10
    · rw [rt _ (by omega) (by omega), vt _ _ (by omega)]; exact a11
    · rw [e66]; exact a12
    · rw [vt _ _ (by omega)]; exact a13
    · rw [rt _ (by omega) (by omega)]; exact o2
    · have := b1 i hi
      unfold eRow fRow at this ⊢
      rw [vr i 1 hi, vr i 2 hi, vr i 3 hi, vr i 4 hi, e66]
      exact this
    · rw [vr i 1 hi] at e1
      rw [vr j 1 hj] at e2
      exact b2 i j b hi hj hb e1 e2
    · rcases b3 b hb with w | ⟨w, i, hi, e⟩
      · exact Or.inl w
      · exact Or.inr ⟨w, i, hi, by rw [vr i 1 hi]; exact e⟩
    · rw [e66]
      exact b6 b hb
    · rw [← c1]
      exact cU_congr 34 0 (fun j _ hj => dn_c (vr j 3 (by omega)))
    · rw [e66]
      intro q
      rw [← c2 q]
      exact cU_congr 34 0 (fun j _ hj => dn_c (vr j 4 (by omega)))
    · rw [← c3]
      exact cU_congr 34 0 (fun j _ hj => dn_c (vr j 1 (by omega)))
    · rw [e66]
      exact c4
    · rw [e66]
      exact c5
    · rw [vt _ _ (by omega), hon] at q
      exact absurd q one_ne
/-- nothing is held, no row is taken, nothing is stamped -/
theorem on_empty {V P R A : VV} {N u : Nat} (h4 : V 266 4 = 0) (hl : rLf V R) (hun : R 272 14 = -1) (he : ∀ i, i < 34 → eRow V i) (h277 : ∀ b, b < 80 → A 277 b = 0) (h275 : ∀ b, b < 80 → A 275 b = 0) (hd : rDisk P A N) (hc : ∀ b, isB N b → ∀ j, j < 1024 → A 274 (1024 * b + j) = A 273 (1024 * b + j)) : rOn V P R A N u := by
  refine ⟨hl, hun, ⟨fun i hi => Or.inl (he i hi), fun i j b hi hj hb e1 _ => ?_, fun b hb => Or.inl (h277 b hb), fun b hb => ⟨0, Nat.zero_le _, by rw [h277 b hb, nI_0]⟩, fun b b' hb hb' _ hn => absurd (h277 b hb) hn, fun b hb => ⟨Or.inl (h275 b hb), fun q => absurd (h275 b hb) q, fun q => absurd h4 q⟩⟩, ⟨?_, fun q => absurd h4 q, ?_, fun _ => ?_, fun q => absurd h4 q⟩, hd, fun b hb _ => hc b hb⟩
  · rw [(he i hi).1] at e1
    exact absurd e1 (neg1_ne hb)
  · rw [hR_zero (fun i hi => (he i hi).2.2.1), hB_zero h275]
  · rw [hB_zero h277]
    exact cU_zero 34 0 (fun j _ hj => by
      have := (he j (by omega)).1
      simp [this])
  · rw [hB_zero h275]
    omega
theorem sim_power {V P R A : VV} {k : Nat} (h : rel V P R A k) (x : Int32) : (mPower V P x).1 = (rPower R A x).1 ∧ rel (mPower V P x).2.1 (mPower V P x).2.2 (rPower R A x).2.1 (rPower R A x).2.2 (k + 1) := by
  obtain ⟨N, u, hu, hA, h2, h3⟩ := id h
  obtain ⟨a1, a2, a3, a4, a5, a6, a7, a8, a9, a10, a11, a12, a13⟩ := id hA
  unfold mPower rPower
  rw [a11]
  by_cases c : V 267 1 = 0
  case neg =>
    rw [if_neg c, if_neg c]
    exact ⟨rfl, rel_0 h⟩
  rw [if_pos c, if_pos c]
  obtain ⟨f1, f2, f3⟩ := h3 c
  generalize hV1 : v2 (v2 V 267 1 1) 267 2 x = V1
  generalize hR1 : rBackV R x = R1
  generalize hA1 : rBackP A = A1
  have v1 : V1 267 1 = 1 := by rw [← hV1, v2_k (by omega), v2_s]
  have v2' : V1 267 2 = x := by rw [← hV1, v2_s]
  have vt : ∀ t j, ¬ (t = 267 ∧ (j = 1 ∨ j = 2)) → V1 t j = V t j := fun t j ht => by
    rw [← hV1, v2_n (fun q => ht ⟨q.1, Or.inr q.2⟩), v2_n (fun q => ht ⟨q.1, Or.inl q.2⟩)]
  have r8 : R1 272 8 = 1 := by
    rw [← hR1]
    unfold rBackV
    rw [v2_k (by omega), v2_k (by omega), v2_s]
  have r9 : R1 272 9 = 0 := by
    rw [← hR1]
    unfold rBackV
    rw [v2_k (by omega), v2_s]
  have r10 : R1 272 10 = rLeft x := by
    rw [← hR1]
    unfold rBackV
    rw [v2_s]
  have rt : ∀ j, j ≠ 0 → j ≠ 8 → j ≠ 9 → j ≠ 10 → R1 272 j = R 272 j := fun j h1 h2 h3 h4 => by
    rw [← hR1]
    unfold rBackV
    rw [v2_k h4, v2_k h3, v2_k h2, r0_e R _ h1]
  have z7 : ∀ b, b < 80 → A1 277 b = 0 := fun b hb => by
    rw [← hA1]
    unfold rBackP
    rw [p1_s]
    unfold zF
    rw [if_pos hb]
  have z5 : ∀ b, b < 80 → A1 275 b = 0 := fun b hb => by
    rw [← hA1]
    unfold rBackP
    rw [p1_n (by omega), p1_s]
    unfold zF
    rw [if_pos hb]
  have z3 : A1 273 = A 273 := by
    rw [← hA1]
    unfold rBackP
    rw [p1_n (by omega), p1_n (by omega), p1_n (by omega)]
  have z4 : ∀ b, isB N b → ∀ j, j < 1024 → A1 274 (1024 * b + j) = A1 273 (1024 * b + j) := fun b hb j hj => by
    rw [z3, ← hA1]
    unfold rBackP
    rw [p1_n (by omega), p1_n (by omega), p1_s]
    unfold rNow
    have := hb.1
    rw [if_pos (by omega)]
  have hlf : rLf V1 R1 := rLeft_lf v2' r10
  have hA1' : rA V1 R1 N u := by
    refine ⟨?_, ?_, a3, a4, ?_, ?_, ?_, ?_, ?_, ?_, ?_, ?_, ?_⟩
    · rw [vt _ _ (by omega)]; exact a1
    · rw [rt _ (by omega) (by omega) (by omega) (by omega)]; exact a2
    · rw [vt _ _ (by omega)]; exact a5
    · rw [rt _ (by omega) (by omega) (by omega) (by omega)]; exact a6
    · rw [rt _ (by omega) (by omega) (by omega) (by omega), vt _ _ (by omega)]; exact a7
    · rw [rt _ (by omega) (by omega) (by omega) (by omega), vt _ _ (by omega)]; exact a8
    · rw [rt _ (by omega) (by omega) (by omega) (by omega), vt _ _ (by omega)]; exact a9
    · rw [r9, vt _ _ (by omega), f1]
    · rw [r8, v1]
    · rw [vt _ _ (by omega), f1]; exact Or.inl rfl
    · rw [v1]; exact Or.inr rfl
  have he : ∀ i, i < 34 → eRow V1 i := fun i hi => by
    have := f2 i hi
    unfold eRow at this ⊢
    rw [vt _ _ (by omega), vt _ _ (by omega), vt _ _ (by omega), vt _ _ (by omega)]
    exact this
  have h4 : V1 266 4 = 0 := by rw [vt _ _ (by omega)]; exact f1
  rcases f3 with ⟨q1, q2⟩ | ⟨n, blk, n1, n30, q1, q2⟩
  · rw [mHome_0 q2.1, if_pos (by rw [q1]; decide)]
    dsimp only
    refine ⟨rfl, N, u, by omega, hA1', fun _ => on_empty h4 hlf (by rw [rt _ (by omega) (by omega) (by omega) (by omega)]; exact q1) he z7 z5 ⟨?_, fun b hb j hj => ?_⟩ z4, fun q => ?_⟩
    · rw [p1_n (by omega)]
      exact q2.1
    · have := hb.1
      rw [p1_n (by omega), z3]
      exact q2.2 b hb j hj
    · rw [v1] at q
      exact absurd q one_ne
  · rw [if_neg (by rw [q1]; exact nI_pos (by omega))]
    have hL : rLog P A1 N n blk := by
      obtain ⟨l1, l2, l3⟩ := q2
      refine ⟨l1, fun i h1 h2 => ?_, fun b hb hn j hj => ?_⟩
      · rw [z3]
        exact l2 i h1 h2
      · rw [z3]
        exact l3 b hb hn j hj
    have hon1 : ¬ V1 267 1 = 0 := by rw [v1]; decide
    have e14 : R1 272 14 + 1 = nI (n + 1) := by rw [rt _ (by omega) (by omega) (by omega) (by omega), q1, nI_1]
    unfold rEnded
    rw [e14]
    rcases mHome_n a4 n1 n30 hon1 hL with ⟨V', P', g1, g2, g3, g4⟩ | ⟨V', P', m, g1, g2, g3, g4, g5⟩
    · obtain ⟨R', t1, t2, t3, t4⟩ := rW_ok hlf g2 (by omega)
      rw [g1, t1]
      dsimp only
      rw [if_neg one_ne, if_neg one_ne]
      have eo : ∀ j, j ≠ 10 → j ≠ 11 → j ≠ 14 → v2 R' 272 14 (-1) 272 j = R1 272 j := fun j h1 h2 h3 => by rw [v2_k h3, t4 _ _ (by omega)]
      obtain ⟨p1', p2, p3, p4, p5, p6, p7, p8, p9, p10, p11, p12, p13⟩ := hA1'
      refine ⟨by rw [q1], N, u, by omega, ⟨?_, ?_, p3, p4, ?_, ?_, ?_, ?_, ?_, ?_, ?_, ?_, ?_⟩, fun _ => on_empty ?_ ?_ v2_s (fun i hi => ?_) z7 z5 g3 z4, fun q => ?_⟩
      · rw [g2.at (by omega)]; exact p1'
      · rw [eo _ (by omega) (by omega) (by omega)]; exact p2
      · rw [g2.at (by omega)]; exact p5
      · rw [eo _ (by omega) (by omega) (by omega)]; exact p6
      · rw [v2_k (by omega), t2, g2.1, p7]
      · rw [eo _ (by omega) (by omega) (by omega), g2.at (by omega)]; exact p8
      · rw [eo _ (by omega) (by omega) (by omega), g2.at (by omega)]; exact p9
      · rw [eo _ (by omega) (by omega) (by omega), g2.at (by omega)]; exact p10
      · rw [eo _ (by omega) (by omega) (by omega), g2.on]; exact p11
      · rw [g2.at (by omega)]; exact p12
      · rw [g2.on]; exact p13
      · rw [g2.at (by omega)]; exact h4
      · unfold rLf at t3 ⊢
        rw [v2_k (by omega)]
        exact t3
      · have := he i hi
        unfold eRow at this ⊢
        rw [g2.at (by omega), g2.at (by omega), g2.at (by omega), g2.at (by omega)]
        exact this
      · rw [g2.on] at q
        exact absurd q hon1
    · obtain ⟨R', t1, t2, t3, t4⟩ := rW_no hlf g3 g2 (by omega)
      rw [g1, t1]
      dsimp only
      rw [if_pos rfl, if_pos rfl]
      have eo : ∀ j, j ≠ 8 → j ≠ 10 → j ≠ 11 → v2 R' 272 14 (R' 272 14) 272 j = R1 272 j := fun j h1 h2 h3 => by
        by_cases q : j = 14
        · rw [q, v2_s, t4 _ _ (by omega)]
        · rw [v2_k q, t4 _ _ (by omega)]
      obtain ⟨p1', p2, p3, p4, p5, p6, p7, p8, p9, p10, p11, p12, p13⟩ := hA1'
      refine ⟨rfl, N, u, by omega, ⟨?_, ?_, p3, p4, ?_, ?_, ?_, ?_, ?_, ?_, ?_, ?_, ?_⟩, fun q => ?_, fun _ => ⟨?_, fun i hi => ?_, Or.inr ⟨n, blk, n1, n30, ?_, g4⟩⟩⟩
      · rw [g3.at (by omega)]; exact p1'
      · rw [eo _ (by omega) (by omega) (by omega)]; exact p2
      · rw [g3.at (by omega)]; exact p5
      · rw [eo _ (by omega) (by omega) (by omega)]; exact p6
      · rw [v2_k (by omega), t2, g3.2.2.1, p7]
      · rw [eo _ (by omega) (by omega) (by omega), g3.at (by omega)]; exact p8
      · rw [eo _ (by omega) (by omega) (by omega), g3.at (by omega)]; exact p9
      · rw [eo _ (by omega) (by omega) (by omega), g3.at (by omega)]; exact p10
      · rw [v2_k (by omega), t3, g3.2.2.2.1]
      · rw [g3.at (by omega)]; exact p12
      · rw [g3.2.2.2.1]; exact Or.inl rfl
      · rw [g3.2.2.2.1] at q
        exact absurd q (by decide)
      · rw [g3.at (by omega)]; exact h4
      · have := he i hi
        unfold eRow at this ⊢
        rw [g3.at (by omega), g3.at (by omega), g3.at (by omega), g3.at (by omega)]
        exact this
      · rw [eo _ (by omega) (by omega) (by omega), rt _ (by omega) (by omega) (by omega) (by omega)]; exact q1
theorem sim_count {V P R A : VV} {k : Nat} (h : rel V P R A k) (w : Int32) : mCount V w = rCount R A w := by
  obtain ⟨N, u, hu, hA, h2, h3⟩ := id h
  obtain ⟨a1, a2, a3, a4, a5, a6, a7, a8, a9, a10, a11, a12, a13⟩ := id hA
  have e2 : mCnt V 3 = if V 267 1 = 0 then 0 else rMany (A 275) := by
    by_cases c : V 267 1 = 0
    · rw [if_pos c, mCnt_eq, hR_zero (fun i hi => ((h3 c).2.1 i hi).2.2.1), nI_0]
    · rw [if_neg c, mCnt_eq, rMany_eq, (h2 (on_1 hA c)).2.2.2.1.1]
  have e3 : (if V 266 4 = 0 then -1 else mCnt V 4) = if V 267 1 = 0 ∨ V 266 4 = 0 then -1 else rMany (A 276) := by
    by_cases c : V 267 1 = 0
    · rw [if_pos (h3 c).1, if_pos (Or.inl c)]
    · by_cases c4 : V 266 4 = 0
      · rw [if_pos c4, if_pos (Or.inr c4)]
      · rw [if_neg c4, if_neg (fun q => by rcases q with q | q; exact c q; exact c4 q), mCnt_eq, rMany_eq, (h2 (on_1 hA c)).2.2.2.1.2.1 c4]
  unfold mCount rCount
  rw [a2, a7, a8, a9, a10, a11, a1, e2, e3]
theorem sim_held {V P R A : VV} {k : Nat} (h : rel V P R A k) (b : Int32) : mHeld V b = rHeld R A b := by
  obtain ⟨N, u, hu, hA, h2, h3⟩ := id h
  obtain ⟨a1, a2, a3, a4, a5, a6, a7, a8, a9, a10, a11, a12, a13⟩ := id hA
  have hbl : mIsBlock V b ↔ rIsBlock R b := (mBlk a1 a4 b).trans (rBlk a2 a4 b).symm
  unfold mHeld rHeld
  rw [a11]
  by_cases c0 : V 267 1 = 0
  · rw [if_pos (Or.inl c0), if_pos (Or.inl c0)]
  by_cases c2 : mIsBlock V b
  case neg => rw [if_pos (Or.inr c2), if_pos (Or.inr (Or.inl (fun q => c2 (hbl.mpr q))))]
  rw [if_neg (fun q => by rcases q with q | q; exact c0 q; exact q c2)]
  obtain ⟨bb, hb1, hb2⟩ := (mBlk a1 a4 b).mp c2
  subst hb2
  have hbN := hb1.1
  rw [nI_clamp (by omega)]
  have hrows := (h2 (on_1 hA c0)).2.2.1
  cases hr : mRow V (nI bb) with
  | none =>
    have h0 : A 275 bb = 0 := Decidable.byContradiction fun q => by
      have q2 := (hrows.2.2.2.2.2 bb (by omega)).2.1 q
      obtain ⟨i, hi, hf⟩ := hrows.row a4 (b := bb) (by omega) q2
      exact mRow_none hr hi hf.2.1
    rw [if_pos (Or.inr (Or.inr h0))]
  | some i =>
    obtain ⟨i1, i2⟩ := mRow_some hr
    have hf : V (232 + i) 3 = A 275 bb := by
      rcases hrows.1 i i1 with w | ⟨b', w⟩
      · rw [w.1] at i2
        exact absurd i2 (neg1_ne (by omega))
      · have e := w.2.1
        have hb' := w.1
        rw [i2] at e
        have e2 : bb = b' := (nI_eq (by omega) (by omega)).mp e
        rw [e2]
        exact w.2.2.2.2.1
    simp only
    rw [hf]
    by_cases q : A 275 bb = 0
    · rw [if_pos q, if_pos (Or.inr (Or.inr q))]
    · rw [if_neg q, if_neg (fun w => by
        rcases w with w | w | w
        · exact c0 w
        · exact w (hbl.mp c2)
        · exact q w)]
theorem sim_cached {V P R A : VV} {k : Nat} (h : rel V P R A k) (hk : k < 2 ^ 31) (b : Int32) : mCached V b = rCached R A b := by
  obtain ⟨N, u, hu, hA, h2, h3⟩ := id h
  obtain ⟨a1, a2, a3, a4, a5, a6, a7, a8, a9, a10, a11, a12, a13⟩ := id hA
  have hbl : mIsBlock V b ↔ rIsBlock R b := (mBlk a1 a4 b).trans (rBlk a2 a4 b).symm
  unfold mCached rCached
  rw [a11]
  by_cases c0 : V 267 1 = 0
  · rw [if_pos (Or.inl c0), if_pos (Or.inl c0)]
  by_cases c2 : mIsBlock V b
  case neg => rw [if_pos (Or.inr c2), if_pos (Or.inr (Or.inl (fun q => c2 (hbl.mpr q))))]
  rw [if_neg (fun q => by rcases q with q | q; exact c0 q; exact q c2)]
  obtain ⟨bb, hb1, hb2⟩ := (mBlk a1 a4 b).mp c2
  subst hb2
  have hbN := hb1.1
  rw [nI_clamp (by omega)]
  have hrows := (h2 (on_1 hA c0)).2.2.1
  obtain ⟨x, x1, x2⟩ := hrows.2.2.2.1 bb (by omega)
  have hle : A 277 bb ≤ 0 ↔ A 277 bb = 0 := by
    rw [x2]
    constructor
    · intro q
      rcases Nat.eq_zero_or_pos x with w | w
      · rw [w, nI_0]
      · exact absurd q (nI_nle w (by omega))
    · intro q
      rw [q]
      decide
  cases hr : mRow V (nI bb) with
  | none =>
    have h0 : A 277 bb = 0 := Decidable.byContradiction fun q => by
      obtain ⟨i, hi, hf⟩ := hrows.row a4 (b := bb) (by omega) q
      exact mRow_none hr hi hf.2.1
    rw [if_pos (Or.inr (Or.inr (hle.mpr h0)))]
  | some i =>
    obtain ⟨i1, i2⟩ := mRow_some hr
    have hf : ¬ A 277 bb = 0 := by
      rcases hrows.1 i i1 with w | ⟨b', w⟩
      · rw [w.1] at i2
        exact absurd i2 (neg1_ne (by omega))
      · have e := w.2.1
        have hb' := w.1
        rw [i2] at e
        have e2 : bb = b' := (nI_eq (by omega) (by omega)).mp e
        rw [e2]
        exact w.2.2.2.1
    rw [if_neg (fun w => by
      rcases w with w | w | w
      · exact c0 w
      · exact w (hbl.mp c2)
      · exact hf (hle.mp w))]
