theorem held30 {V A : VV} (h : rCnt V A) : hB (A 275) ≤ 30 := by
  obtain ⟨-, -, -, c4, c5⟩ := h
  by_cases q : V 266 4 = 0
  · have := c4 q
    omega
  · have := c5 q
    omega
theorem sim_get {V P R A : VV} {k : Nat} (h : rel V P R A k) (hk : k + 1 < 2 ^ 31) (b x : Int32) : (mGet V P b x).1 = (rGet R A b x).1 ∧ rel (mGet V P b x).2.1 (mGet V P b x).2.2 (rGet R A b x).2.1 (rGet R A b x).2.2 (k + 1) := by
  obtain ⟨N, u, hu, hA, h2, h3⟩ := id h
  obtain ⟨a1, a2, a3, a4, a5, a6, a7, a8, a9, a10, a11, a12, a13⟩ := id hA
  have hx : ¬ x < 1024 ↔ ¬ x ≤ 1023 := by
    rw [Int32.not_lt, Int32.not_le, Int32.le_iff_toInt_le, Int32.lt_iff_toInt_lt]
    show (1024 : Int) ≤ x.toInt ↔ (1023 : Int) < x.toInt
    omega
  have hbl : mIsBlock V b ↔ rIsBlock R b := (mBlk a1 a4 b).trans (rBlk a2 a4 b).symm
  unfold mGet rGet
  rw [a11]
  by_cases c : V 267 1 = 0 ∨ ¬ mIsBlock V b ∨ x < 0 ∨ ¬ x < 1024
  · have c' : V 267 1 = 0 ∨ ¬ rIsBlock R b ∨ x < 0 ∨ ¬ x ≤ 1023 := by
      rw [← hbl, ← hx]
      exact c
    rw [if_pos c, if_pos c']
    exact ⟨rfl, rel_0 h⟩
  · have c' : ¬ (V 267 1 = 0 ∨ ¬ rIsBlock R b ∨ x < 0 ∨ ¬ x ≤ 1023) := by
      rw [← hbl, ← hx]
      exact c
    rw [if_neg c, if_neg c']
    have hon : V 267 1 = 1 := on_1 hA (fun q => c (Or.inl q))
    have hB : mIsBlock V b := Decidable.byContradiction fun q => c (Or.inr (Or.inl q))
    obtain ⟨bb, hb1, hb2⟩ := (mBlk a1 a4 b).mp hB
    subst hb2
    have hx0 : ¬ x < 0 := fun q => c (Or.inr (Or.inr (Or.inl q)))
    obtain ⟨xx, hx1, hx2⟩ := nI_of hx0
    subst hx2
    have hx3 : xx < 1024 := by
      rcases Nat.lt_or_ge xx 1024 with q | q
      · exact q
      · exact absurd (nI_nlt (a := xx) (b := 1024) q hx1) (fun w => c (Or.inr (Or.inr (Or.inr w))))
    have hO := h2 hon
    have hbb : bb < 80 := by
      have := hb1.1
      omega
    rw [nI_clamp (n := bb) (by omega), nI_clamp (n := xx) hx1]
    obtain ⟨s1, s2, s3, s4, s5, s6, -⟩ := sim_look hA hon hO hb1 (by omega) (held30 hO.2.2.2.1)
    dsimp only
    refine ⟨?_, N, u + 1, by omega, s1, fun _ => s2, fun q => ?_⟩
    · unfold mByte
      rw [if_neg (fun q => by
        rcases q with q | q
        · exact nI_pos hx1 q
        · exact nI_ge (b := 1024) hx3 (by omega) q), nI_clamp hx1, s3.2.2.2.2.2.2.2 xx hx3, s6 274 (by omega)]
    · rw [s4, hon] at q
      exact absurd q one_ne
theorem mRun_at (g : Nat → Int32) (k : Nat) (v : Int32) (n j : Nat) : mRun g k v n j = if k ≤ j ∧ j < k + n then (v + nI (j - k)).toInt8.toInt32 else g j := rfl
/-- the block's bytes change on both sides -/
theorem sim_mark {V P R A : VV} {N u b i k n : Nat} {v : Int32} (hA : rA V R N u) (h : rOn V P R A N u) (hst : V 266 4 = 1) (hb : isB N b) (hi : i < 34) (hf : fRow V P A N i b) (hkn : k + n ≤ 1024) (hlim : A 276 b = 0 → hB (A 276) < 10) :
    rA (mMark V i) R N u ∧ rOn (mMark V i) (p1 P (80 + i) (mRun (P (80 + i)) k v n)) R (rFillP A b k n v) N u := by
  obtain ⟨a1, a2, a3, a4, a5, a6, a7, a8, a9, a10, a11, a12, a13⟩ := hA
  obtain ⟨o1, o2, ⟨b1, b2, b3, b4, b5, b6⟩, ⟨c1, c2, c3, c4, c5⟩, o5, o6⟩ := h
  have hbN := hb.1
  have ev : ∀ t j, ¬ (t = 232 + i ∧ (j = 3 ∨ j = 4)) → mMark V i t j = V t j := fun t j ht => by
    unfold mMark
    rw [v2_n (fun q => ht ⟨q.1, Or.inr q.2⟩), v2_n (fun q => ht ⟨q.1, Or.inl q.2⟩)]
  have m3 : mMark V i (232 + i) 3 = 1 := by
    unfold mMark
    rw [v2_k (by omega), v2_s]
  have m4 : mMark V i (232 + i) 4 = 1 := by
    unfold mMark
    rw [v2_s]
  have vr : ∀ x j, x < 34 → x ≠ i ∨ (j ≠ 3 ∧ j ≠ 4) → mMark V i (232 + x) j = V (232 + x) j := fun x j hx hn => ev _ _ (by omega)
  have e66 : mMark V i 266 4 = V 266 4 := ev _ _ (by omega)
  have f276b : rFillP A b k n v 276 b = 1 := by
    unfold rFillP
    rw [p1_n (by omega), p1_n (by omega), p1_s, pk_us]
  have f276 : ∀ x, x ≠ b → rFillP A b k n v 276 x = A 276 x := fun x hx => by
    unfold rFillP
    rw [p1_n (by omega), p1_n (by omega), p1_s, pk_un hx]
  have f275b : rFillP A b k n v 275 b = 1 := by
    unfold rFillP
    rw [p1_n (by omega), p1_s, pk_us]
  have f275 : ∀ x, x ≠ b → rFillP A b k n v 275 x = A 275 x := fun x hx => by
    unfold rFillP
    rw [p1_n (by omega), p1_s, pk_un hx]
  have f274 : rFillP A b k n v 274 = mRun (A 274) (1024 * b + k) v n := by
    unfold rFillP
    rw [p1_s]
  have fo : ∀ t, t ≠ 274 → t ≠ 275 → t ≠ 276 → rFillP A b k n v t = A t := fun t h1 h2 h3 => by
    unfold rFillP
    rw [p1_n h1, p1_n h2, p1_n h3]
  have n4 : ¬ V 266 4 = 0 := by rw [hst]; decide
  have hrow : ∀ x b', x < 34 → fRow V P A N x b' → fRow (mMark V i) (p1 P (80 + i) (mRun (P (80 + i)) k v n)) (rFillP A b k n v) N x b' := fun x b' hx hw => by
    obtain ⟨w1, w2, w3, w4, w5, w6, w7, w8⟩ := hw
    have hb'N := w1.1
    refine ⟨w1, by rw [vr x 1 hx (by omega)]; exact w2, by rw [vr x 2 hx (by omega), fo 277 (by omega) (by omega) (by omega)]; exact w3, by rw [fo 277 (by omega) (by omega) (by omega)]; exact w4, ?_, fun q => absurd (e66 ▸ q) n4, fun _ => ?_, fun j hj => ?_⟩
    · by_cases ex : x = i
      · subst ex
        have eb : b' = b := by
          have := hf.2.1
          rw [w2] at this
          exact (nI_eq (by omega) (by omega)).mp this
        rw [m3, eb, f275b]
      · have nb : b' ≠ b := fun q => ex (b2 x i b hx hi (by omega) (by rw [← q]; exact w2) hf.2.1)
        rw [vr x 3 hx (by omega), f275 b' nb]
        exact w5
    · by_cases ex : x = i
      · subst ex
        have eb : b' = b := by
          have := hf.2.1
          rw [w2] at this
          exact (nI_eq (by omega) (by omega)).mp this
        rw [m4, eb, f276b]
      · have nb : b' ≠ b := fun q => ex (b2 x i b hx hi (by omega) (by rw [← q]; exact w2) hf.2.1)
        rw [vr x 4 hx (by omega), f276 b' nb]
        exact w7 n4
    · by_cases ex : x = i
      · subst ex
        have eb : b' = b := by
          have := hf.2.1
          rw [w2] at this
          exact (nI_eq (by omega) (by omega)).mp this
        rw [p1_s, f274, eb, mRun_at, mRun_at]
        by_cases c : k ≤ j ∧ j < k + n
        · rw [if_pos c, if_pos (by omega), show 1024 * b + j - (1024 * b + k) = j - k by omega]
        · rw [if_neg c, if_neg (by omega), ← eb]
          exact w8 j hj
      · have nb : b' ≠ b := fun q => ex (b2 x i b hx hi (by omega) (by rw [← q]; exact w2) hf.2.1)
        rw [p1_n (by omega), f274, mRun_at, if_neg (by omega)]
        exact w8 j hj
  have q275 := cU_set (q := nz (A 275)) (q' := nz (rFillP A b k n v 275)) (x := b) 80 0 (by omega) (by omega) (fun j _ _ hj => dn_c (f275 j hj))
  have q276 := cU_set (q := nz (A 276)) (q' := nz (rFillP A b k n v 276)) (x := b) 80 0 (by omega) (by omega) (fun j _ _ hj => dn_c (f276 j hj))
  have qr3 := cU_set (q := nz fun x => V (232 + x) 3) (q' := nz fun x => mMark V i (232 + x) 3) (x := i) 34 0 (by omega) (by omega) (fun j _ h34 hj => dn_c (vr j 3 (by omega) (by omega)))
  have qr4 := cU_set (q := nz fun x => V (232 + x) 4) (q' := nz fun x => mMark V i (232 + x) 4) (x := i) 34 0 (by omega) (by omega) (fun j _ h34 hj => dn_c (vr j 4 (by omega) (by omega)))
  have one1 : (nz (rFillP A b k n v 275) b).toNat = 1 := by simp [nz, f275b]
  have one2 : (nz (rFillP A b k n v 276) b).toNat = 1 := by simp [nz, f276b]
  have one3 : (nz (fun x => mMark V i (232 + x) 3) i).toNat = 1 := by simp [nz, m3]
  have one4 : (nz (fun x => mMark V i (232 + x) 4) i).toNat = 1 := by simp [nz, m4]
  have e3 : (nz (fun x => V (232 + x) 3) i).toNat = (nz (A 275) b).toNat := congrArg Bool.toNat (dn_c (hf.2.2.2.2.1))
  have e4 : (nz (fun x => V (232 + x) 4) i).toNat = (nz (A 276) b).toNat := congrArg Bool.toNat (dn_c (hf.2.2.2.2.2.2.1 n4))
  rw [one1] at q275
  rw [one2] at q276
  rw [one3, e3] at qr3
  rw [one4, e4] at qr4
  have c1' : cU (nz fun x => V (232 + x) 3) 34 0 = cU (nz (A 275)) 80 0 := c1
  have c2' : cU (nz fun x => V (232 + x) 4) 34 0 = cU (nz (A 276)) 80 0 := c2 n4
  have c5' : cU (nz (A 275)) 80 0 ≤ 20 + cU (nz (A 276)) 80 0 ∧ cU (nz (A 276)) 80 0 ≤ 10 := c5 n4
  have hch : A 276 b = 0 ∨ ((nz (A 276) b).toNat = 1 ∧ (nz (A 275) b).toNat = 1) := by
    by_cases q : A 276 b = 0
    · exact Or.inl q
    · right
      have q2 := (b6 b (by omega)).2.2 n4 q
      exact ⟨by simp [nz, q], by simp [nz, q2]⟩
  have hlim' : A 276 b = 0 → cU (nz (A 276)) 80 0 < 10 := hlim
  have hz6 : A 276 b = 0 → (nz (A 276) b).toNat = 0 := fun q => by simp [nz, q]
  refine ⟨⟨?_, a2, a3, a4, ?_, a6, ?_, ?_, ?_, ?_, ?_, ?_, ?_⟩, ?_, o2, ⟨fun x hx => ?_, fun x y b' hx hy hb' e1 e2 => ?_, fun x hx => ?_, fun x hx => ?_, fun x y hx hy => ?_, fun x hx => ?_⟩, ⟨?_, fun _ => ?_, ?_, fun q => absurd (e66 ▸ q) n4, fun _ => ?_⟩, ⟨?_, fun b' hb' j hj => ?_⟩, fun b' hb' h0 j hj => ?_⟩
  · rw [ev _ _ (by omega)]; exact a1
  · rw [ev _ _ (by omega)]; exact a5
  · rw [ev _ _ (by omega)]; exact a7
  · rw [ev _ _ (by omega)]; exact a8
  · rw [ev _ _ (by omega)]; exact a9
  · rw [ev _ _ (by omega)]; exact a10
  · rw [ev _ _ (by omega)]; exact a11
  · rw [ev _ _ (by omega)]; exact a12
  · rw [ev _ _ (by omega)]; exact a13
  · unfold rLf at o1 ⊢
    rw [ev _ _ (by omega)]
    exact o1
  · rcases b1 x hx with w | ⟨b', w⟩
    · left
      have nx : x ≠ i := fun q => by
        have := hf.2.1
        rw [← q, w.1] at this
        exact neg1_ne (by omega) this
      unfold eRow
      rw [vr x 1 hx (by omega), vr x 2 hx (by omega), vr x 3 hx (by omega), vr x 4 hx (by omega)]
      exact w
    · right
      exact ⟨b', hrow x b' hx w⟩
  · rw [vr x 1 hx (by omega)] at e1
    rw [vr y 1 hy (by omega)] at e2
    exact b2 x y b' hx hy hb' e1 e2
  · rw [fo 277 (by omega) (by omega) (by omega)]
    rcases b3 x hx with w | ⟨w, y, hy, e⟩
    · exact Or.inl w
    · exact Or.inr ⟨w, y, hy, by rw [vr y 1 hy (by omega)]; exact e⟩
  · rw [fo 277 (by omega) (by omega) (by omega)]
    exact b4 x hx
  · rw [fo 277 (by omega) (by omega) (by omega)]
    exact b5 x y hx hy
  · rw [fo 277 (by omega) (by omega) (by omega)]
    by_cases ex : x = b
    · rw [ex, f275b]
      exact ⟨Or.inr rfl, fun _ => hf.2.2.2.1, fun _ _ => by decide⟩
    · rw [f275 x ex, f276 x ex, e66]
      exact b6 x hx
  · show cU (nz fun x => mMark V i (232 + x) 3) 34 0 = cU (nz (rFillP A b k n v 275)) 80 0
    omega
  · show cU (nz fun x => mMark V i (232 + x) 4) 34 0 = cU (nz (rFillP A b k n v 276)) 80 0
    omega
  · rw [fo 277 (by omega) (by omega) (by omega), ← c3]
    exact cU_congr 34 0 (fun j _ hj => dn_c (vr j 1 (by omega) (by omega)))
  · show cU (nz (rFillP A b k n v 275)) 80 0 ≤ 20 + cU (nz (rFillP A b k n v 276)) 80 0 ∧ cU (nz (rFillP A b k n v 276)) 80 0 ≤ 10
    have hle5 : (nz (A 275) b).toNat ≤ 1 := Bool.toNat_le _
    rcases hch with q | ⟨q1, q2⟩
    · have := hlim' q
      have := hz6 q
      omega
    · omega
  · rw [p1_n (by omega)]
    exact o5.1
  · rw [p1_n (by omega), fo 273 (by omega) (by omega) (by omega)]
    exact o5.2 b' hb' j hj
  · have nb : b' ≠ b := fun q => by
      rw [q, f275b] at h0
      exact absurd h0 (by decide)
    rw [f275 b' nb] at h0
    rw [f274, mRun_at, if_neg (by omega), fo 273 (by omega) (by omega) (by omega)]
    exact o6 b' hb' h0 j hj
theorem mIsRun_n {k n : Int32} (h : mIsRun k n) : ∃ a b : Nat, k = nI a ∧ n = nI b ∧ 1 ≤ b ∧ a + b ≤ 1024 := by
  obtain ⟨h1, h2, h3, h4⟩ := h
  have hn0 : ¬ n < 0 := fun q => h1 (Int32.lt_iff_toInt_lt.mpr (by
    have := Int32.lt_iff_toInt_lt.mp q
    have e0 : (0 : Int32).toInt = 0 := by decide
    have e1 : (1 : Int32).toInt = 1 := by decide
    omega))
  obtain ⟨a, a1, a2⟩ := nI_of h3
  obtain ⟨b, b1, b2⟩ := nI_of hn0
  subst a2
  subst b2
  have hb : b ≤ 1024 := by
    rcases Nat.lt_or_ge 1024 b with q | q
    · exact absurd (nI_lt (a := 1024) q b1) h2
    · exact q
  have hb1 : 1 ≤ b := by
    rcases Nat.lt_or_ge b 1 with q | q
    · exact absurd (nI_lt (b := 1) q (by omega)) h1
    · exact q
  have e : (1024 : Int32) - nI b = nI (1024 - b) := pk_sub (a := 1024) hb
  rw [e] at h4
  refine ⟨a, b, rfl, rfl, hb1, ?_⟩
  rcases Nat.lt_or_ge (1024 - b) a with q | q
  · exact absurd (nI_lt q a1) h4
  · omega
theorem sim_fill {V P R A : VV} {k : Nat} (h : rel V P R A k) (hk : k + 1 < 2 ^ 31) (b x n v : Int32) : (mFill V P b x n v).1 = (rFill R A b x n v).1 ∧ rel (mFill V P b x n v).2.1 (mFill V P b x n v).2.2 (rFill R A b x n v).2.1 (rFill R A b x n v).2.2 (k + 1) := by
  obtain ⟨N, u, hu, hA, h2, h3⟩ := id h
  obtain ⟨a1, a2, a3, a4, a5, a6, a7, a8, a9, a10, a11, a12, a13⟩ := id hA
  have hbl : mIsBlock V b ↔ rIsBlock R b := (mBlk a1 a4 b).trans (rBlk a2 a4 b).symm
  unfold mFill rFill
  rw [a10, a11]
  by_cases c0 : V 267 1 = 0
  · rw [if_pos (Or.inl c0), if_pos (Or.inl c0)]
    exact ⟨rfl, rel_0 h⟩
  by_cases c1 : V 266 4 = 0
  · rw [if_pos (Or.inr (Or.inl c1)), if_pos (Or.inr (Or.inl c1))]
    exact ⟨rfl, rel_0 h⟩
  by_cases c2 : mIsBlock V b
  case neg =>
    rw [if_pos (Or.inr (Or.inr (Or.inl c2))), if_pos (Or.inr (Or.inr (Or.inl (fun q => c2 (hbl.mpr q)))))]
    exact ⟨rfl, rel_0 h⟩
  by_cases c3 : mIsRun x n
  case neg =>
    rw [if_pos (Or.inr (Or.inr (Or.inr (Or.inl c3)))), if_pos (Or.inr (Or.inr (Or.inr (Or.inl c3))))]
    exact ⟨rfl, rel_0 h⟩
  have hon : V 267 1 = 1 := on_1 hA c0
  have hst : V 266 4 = 1 := st_1 hA c1
  obtain ⟨bb, hb1, hb2⟩ := (mBlk a1 a4 b).mp c2
  subst hb2
  have hO := h2 hon
  have hbN := hb1.1
  have hrows := hO.2.2.1
  have hcn := hO.2.2.2.1
  have hc4 : mCnt V 4 = nI (hB (A 276)) := by rw [mCnt_eq, hcn.2.1 c1]
  have h10 : hB (A 276) ≤ 10 := (hcn.2.2.2.2 c1).2
  have h10' : 10 ≤ mCnt V 4 ↔ rMany (A 276) = 10 := by
    rw [hc4, many_10]
    generalize hB (A 276) = n at h10 ⊢
    exact (le_n (k := 10) (x := 10) rfl (by omega) (by omega)).trans (by omega)
  have htk : mTakes V (nI bb) = 0 ↔ (A 276 bb = 0 ∧ rMany (A 276) = 10) := by
    unfold mTakes
    cases hr : mRow V (nI bb) with
    | none =>
      have h0 : A 276 bb = 0 := Decidable.byContradiction fun q => by
        have q1 := (hrows.2.2.2.2.2 bb (by omega)).2.2 c1 q
        have q2 := (hrows.2.2.2.2.2 bb (by omega)).2.1 q1
        obtain ⟨i, hi, hf⟩ := hrows.row a4 (b := bb) (by omega) q2
        exact mRow_none hr hi hf.2.1
      simp only
      by_cases q : 10 ≤ mCnt V 4
      · rw [if_pos q]
        exact ⟨fun _ => ⟨h0, h10'.mp q⟩, fun _ => rfl⟩
      · rw [if_neg q]
        exact ⟨fun w => absurd w (by decide), fun w => absurd (h10'.mpr w.2) q⟩
    | some i =>
      obtain ⟨i1, i2⟩ := mRow_some hr
      have hf : V (232 + i) 4 = A 276 bb := by
        rcases hrows.1 i i1 with w | ⟨b', w⟩
        · rw [w.1] at i2
          exact absurd i2 (neg1_ne (by omega))
        · have e := w.2.1
          have hb' := w.1
          rw [i2] at e
          have e2 : bb = b' := (nI_eq (by omega) (by omega)).mp e
          rw [e2]
          exact w.2.2.2.2.2.2.1 c1
      simp only
      rw [hf]
      by_cases q0 : A 276 bb = 0
      · rw [if_pos q0]
        by_cases q : 10 ≤ mCnt V 4
        · rw [if_pos q]
          exact ⟨fun _ => ⟨q0, h10'.mp q⟩, fun _ => rfl⟩
        · rw [if_neg q]
          exact ⟨fun w => absurd w (by decide), fun w => absurd (h10'.mpr w.2) q⟩
      · rw [if_neg q0]
        exact ⟨fun w => absurd w (by decide), fun w => absurd w.1 q0⟩
  rw [nI_clamp (n := bb) (by omega)]
  by_cases c4 : mTakes V (nI bb) = 0
  · rw [if_pos (Or.inr (Or.inr (Or.inr (Or.inr c4)))), if_pos (Or.inr (Or.inr (Or.inr (Or.inr (htk.mp c4)))))]
    exact ⟨rfl, rel_0 h⟩
  have c5 : ¬ (A 276 bb = 0 ∧ rMany (A 276) = 10) := fun q => c4 (htk.mpr q)
  rw [if_neg (fun q => by
    rcases q with q | q | q | q | q
    · exact c0 q
    · exact c1 q
    · exact q c2
    · exact q c3
    · exact c4 q), if_neg (fun q => by
    rcases q with q | q | q | q | q
    · exact c0 q
    · exact c1 q
    · exact q (hbl.mp c2)
    · exact q c3
    · exact c5 q)]
  obtain ⟨s1, s2, s3, s4, s5, s6, -⟩ := sim_look hA hon hO hb1 (by omega) (held30 hcn)
  obtain ⟨kk, nn, e1, e2, e3, e4⟩ := mIsRun_n c3
  have hput : ∀ g : Nat → Int32, mPut g x n v = mRun g kk v nn := fun g => by
    unfold mPut
    rw [if_pos c3, e1, e2, nI_clamp (by omega), nI_clamp (by omega)]
  rw [hput, e1, e2, nI_clamp (n := kk) (by omega), nI_clamp (n := nn) (by omega)]
  have hst' : (mLook V P (nI bb)).2.1 266 4 = 1 := by rw [s5]; exact hst
  have key := sim_mark (k := kk) (n := nn) (v := v) s1 s2 hst' hb1 (mLook_lt V P (nI bb)) s3 e4 (fun q => by
    rw [s6 276 (by omega)] at q
    rw [s6 276 (by omega)]
    rcases Nat.lt_or_ge (hB (A 276)) 10 with w | w
    · exact w
    · exact absurd ⟨q, many_10.mpr (by omega)⟩ c5)
  dsimp only
  refine ⟨rfl, N, u + 1, by omega, key.1, fun _ => key.2, fun q => ?_⟩
  have e9 : mMark (mLook V P (nI bb)).2.1 (mLook V P (nI bb)).1 267 1 = 1 := by
    unfold mMark
    have := mLook_lt V P (nI bb)
    rw [v2_t (by omega), v2_t (by omega), s4]
    exact hon
  rw [e9] at q
  exact absurd q one_ne
