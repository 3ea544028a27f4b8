/-! EVERY CALL on both sides, pure -/
theorem touch_at {V : VV} {i t j : Nat} (h1 : t ≠ 268) (h2 : t ≠ 232 + i) : mTouch V i t j = V t j := by
  unfold mTouch
  rw [v2_t h2, v2_t h1]
theorem take_at {V : VV} {g t j : Nat} {b : Int32} (h1 : t ≠ 268) (h2 : t ≠ 232 + g) : mTake V g b t j = V t j := by
  unfold mTake
  rw [v2_t h1, v2_t h2]
theorem fRow.lt {V P A : VV} {N i b : Nat} (h : fRow V P A N i b) : b < N := h.1.1
/-- looking at a block -/
theorem sim_look {V P R A : VV} {N u b : Nat} (hA : rA V R N u) (hon : V 267 1 = 1) (h : rOn V P R A N u) (hb : isB N b) (hu : u + 1 < 2 ^ 31) (h30 : hB (A 275) ≤ 30) :
    rA (mLook V P (nI b)).2.1 (rLook (r0 R) A b).1 N (u + 1) ∧ rOn (mLook V P (nI b)).2.1 (mLook V P (nI b)).2.2 (rLook (r0 R) A b).1 (rLook (r0 R) A b).2 N (u + 1) ∧ fRow (mLook V P (nI b)).2.1 (mLook V P (nI b)).2.2 (rLook (r0 R) A b).2 N (mLook V P (nI b)).1 b ∧
    (mLook V P (nI b)).2.1 267 1 = V 267 1 ∧ (mLook V P (nI b)).2.1 266 4 = V 266 4 ∧ (∀ t, t ≠ 277 → (rLook (r0 R) A b).2 t = A t) ∧
    ((rScan (r0 R) A).1 = 34 → A 277 b = 0 → ∃ x, x < 80 ∧ (rScan (r0 R) A).2 = nI x) := by
  have hN : N ≤ 80 := hA.2.2.2.1
  have hrows := h.2.2.1
  obtain ⟨b1, b2, b3, b4, b5, b6⟩ := id hrows
  by_cases hs : A 277 b = 0
  · have hnone : mRow V (nI b) = none := by
      cases hr : mRow V (nI b) with
      | none => rfl
      | some x =>
        exfalso
        obtain ⟨x1, x2⟩ := mRow_some hr
        rcases b1 x x1 with w | ⟨b', w⟩
        · rw [w.1] at x2
          exact neg1_ne (by omega) x2
        · have e := w.2.1
          have hb' := w.1
          rw [x2] at e
          have e2 : b = b' := (nI_eq (by omega) (by omega)).mp e
          rw [← e2] at w
          exact w.2.2.2.1 hs
    have hl : mLook V P (nI b) = (mGive V, mTouch (mTake V (mGive V) (nI b)) (mGive V), p1 P (80 + mGive V) (P b)) := by
      unfold mLook
      rw [hnone]
      simp only
      rw [mRead_n (by omega)]
    have hlr : rLook (r0 R) A b = (rTick (v2 (r0 R) 272 12 (r0 R 272 12 + 1)), rStamp (r0 R) (rEvict (r0 R) A) b) := by
      unfold rLook
      rw [if_pos hs]
    have hg := mGive_lt V
    have hk := hrows.kOk hN (by omega)
    have hcnt : hR V 3 = hB (A 275) := h.2.2.2.1.1
    have hcnt3 := h.2.2.2.1.2.2.1
    -- a row that isn't held
    have hex : ∃ y, y < 34 ∧ V (232 + y) 3 = 0 := Classical.byContradiction fun q => by
      have : cU (nz fun i => V (232 + i) 3) 34 0 = 34 := by
        have e := cU_congr (q := nz fun i => V (232 + i) 3) (q' := fun _ => true) 34 0 (fun j _ hj => by
          simp only [nz]
          exact decide_eq_true (fun w => q ⟨j, by omega, w⟩))
        rw [e]
        decide
      have e2 : hR V 3 = 34 := this
      omega
    obtain ⟨y, y1, y2⟩ := hex
    have hkg : ∀ z, z < 34 → V (232 + z) 3 = 0 → V (232 + mGive V) 3 = 0 ∧ (V (232 + mGive V) 2).toNatClampNeg ≤ (V (232 + z) 2).toNatClampNeg := fun z hz h3 => by
      have hm := mGive_min hk hz
      obtain ⟨⟨x, x1, x2⟩, -⟩ := hk z hz
      unfold kx at hm
      rw [if_pos h3, x2, nI_clamp x1] at hm
      by_cases g3 : V (232 + mGive V) 3 = 0
      · rw [if_pos g3] at hm
        refine ⟨g3, ?_⟩
        rw [x2, nI_clamp x1]
        omega
      · rw [if_neg g3] at hm
        omega
    have g3 : V (232 + mGive V) 3 = 0 := (hkg y y1 y2).1
    have g4 : V (232 + mGive V) 4 = 0 := by
      rcases b1 _ hg with w | ⟨b', w1, w2, w3, w4, w5, w6, w7, w8⟩
      · exact w.2.2.2
      · by_cases h4 : V 266 4 = 0
        · exact w6 h4
        · rw [w7 h4]
          refine Decidable.byContradiction fun q => ?_
          exact (b6 b' (by omega)).2.2 h4 q (by rw [← w5]; exact g3)
    -- the scan
    have hst : ∀ k, k < 80 → ∃ x, x < 2 ^ 31 ∧ A 277 k = nI x := fun k hk => by
      obtain ⟨x, x1, x2⟩ := b4 k hk
      exact ⟨x, by omega, x2⟩
    have hsc := lkL_spec (st := A 277) (hd := A 275) hst N 0 0 (-1) (by omega) (Or.inl ⟨rfl, fun j hj => by omega⟩)
    have eN : (r0 R 272 1).toNatClampNeg = N := by
      unfold r0
      rw [v2_k (by omega), hA.2.1, nI_clamp (by omega)]
    rw [nI_0, Nat.zero_add, Nat.zero_add, hrows.cntN hN, ← hcnt3] at hsc
    have hscan : rScan (r0 R) A = lkL (A 277) (A 275) N 0 0 (-1) := by
      unfold rScan
      rw [eN]
    rw [← hscan] at hsc
    obtain ⟨s1, s2⟩ := hsc
    have hle34 := cU_le (fun i => decide (¬ V (232 + i) 1 = -1)) 34 0
    by_cases hfull : cU (fun i => decide (¬ V (232 + i) 1 = -1)) 34 0 = 34
    · -- all rows are taken
      have hall : ∀ z, z < 34 → ∃ b', fRow V P A N z b' := fun z hz => by
        rcases b1 z hz with w | w
        · have := cU_full 34 0 hfull z (by omega) (by omega)
          simp [w.1] at this
        · exact w
      obtain ⟨b', w⟩ := hall _ hg
      have hb'0 : A 275 b' = 0 := by rw [← w.2.2.2.2.1]; exact g3
      have hb'N := w.lt
      have s1' : (rScan (r0 R) A).1 = 34 := by rw [s1, hfull]; rfl
      rcases s2 with ⟨-, q⟩ | ⟨x, x1, x2, x3, x4, x5⟩
      · exact absurd hb'0 (q b' hb'N w.2.2.2.1)
      · have hxx : x = b' := by
          obtain ⟨z, hz, wz⟩ := hrows.row hN (b := x) (by omega) x3
          have hz3 : V (232 + z) 3 = 0 := by rw [wz.2.2.2.2.1]; exact x4
          have l1 := (hkg z hz hz3).2
          rw [w.2.2.1, wz.2.2.1] at l1
          have l2 := x5 b' hb'N w.2.2.2.1 hb'0
          obtain ⟨p, p1', p2⟩ := b4 x (by omega)
          obtain ⟨q, q1, q2⟩ := b4 b' (by omega)
          rw [p2, q2, nI_clamp (by omega), nI_clamp (by omega)] at l1
          rw [p2, q2] at l2
          have l3 := (nI_leI (by omega) (by omega)).mp l2
          have e : p = q := by omega
          exact b5 x b' (by omega) (by omega) (by rw [p2, q2, e]) x3
        subst hxx
        have hev : rEvict (r0 R) A = p1 A 277 (upd (A 277) x 0) := by
          unfold rEvict
          rw [if_pos s1', x2, nI_clamp (by omega)]
        have hne : x ≠ b := fun q => x3 (by rw [q]; exact hs)
        have key := sim_look2 (A1 := rEvict (r0 R) A) (old := x) hA h hb hg hu hs g3 g4 hne (fun z hz e => by
          have := w.2.1
          rw [e] at this
          exact (nI_eq (by omega) (by omega)).mp this) (Or.inr ⟨by omega, w⟩) (fun z hz hn => by rw [hev, p1_s, pk_un hn]) (fun _ => by rw [hev, p1_s, pk_us]) (fun t ht => by rw [hev, p1_n ht])
        rw [hl, hlr]
        refine ⟨key.1, key.2.1, key.2.2, ?_, ?_, fun t ht => ?_, fun _ _ => ⟨x, by omega, x2⟩⟩
        · exact (touch_at (by omega) (by omega)).trans (take_at (by omega) (by omega))
        · exact (touch_at (by omega) (by omega)).trans (take_at (by omega) (by omega))
        · show rStamp (r0 R) (rEvict (r0 R) A) b t = A t
          unfold rStamp
          rw [p1_n ht, hev, p1_n ht]
    · -- a row is empty
      have s1' : ¬ (rScan (r0 R) A).1 = 34 := by
        rw [s1]
        intro q
        exact hfull ((nI_eq (b := 34) (by omega) (by omega)).mp q)
      have hemp : ∃ z, z < 34 ∧ eRow V z := Classical.byContradiction fun q => hfull (by
        have e := cU_congr (q := fun i => decide (¬ V (232 + i) 1 = -1)) (q' := fun _ => true) 34 0 (fun j _ hj => by
          rcases b1 j (by omega) with w | ⟨b', w⟩
          · exact absurd ⟨j, by omega, w⟩ q
          · have := w.1
            rw [w.2.1]
            exact decide_eq_true (fun r => neg1_ne (by omega) r.symm))
        rw [e]
        decide)
      obtain ⟨z, hz, wz⟩ := hemp
      have hge : eRow V (mGive V) := by
        rcases b1 _ hg with w | ⟨b', w⟩
        · exact w
        · exfalso
          have l1 := (hkg z hz wz.2.2.1).2
          have hb' := w.lt
          obtain ⟨p, p1', p2⟩ := b4 b' (by omega)
          rw [wz.2.1, w.2.2.1, p2, nI_clamp (by omega)] at l1
          have l2 : (0 : Int32).toNatClampNeg = 0 := by decide
          have p0 : p = 0 := by omega
          rw [p0, nI_0] at p2
          exact w.2.2.2.1 p2
      have hev : rEvict (r0 R) A = A := by
        unfold rEvict
        rw [if_neg s1']
      have key := sim_look2 (A1 := rEvict (r0 R) A) (old := 80) hA h hb hg hu hs g3 g4 (by omega) (fun z hz e => by
        rw [hge.1] at e
        exact absurd e (neg1_ne hz)) (Or.inl ⟨Nat.le_refl 80, hge.1⟩) (fun z hz hn => by rw [hev]) (fun q => absurd q (by omega)) (fun t ht => by rw [hev])
      rw [hl, hlr]
      refine ⟨key.1, key.2.1, key.2.2, ?_, ?_, fun t ht => ?_, fun q => absurd q s1'⟩
      · exact (touch_at (by omega) (by omega)).trans (take_at (by omega) (by omega))
      · exact (touch_at (by omega) (by omega)).trans (take_at (by omega) (by omega))
      · show rStamp (r0 R) (rEvict (r0 R) A) b t = A t
        unfold rStamp
        rw [p1_n ht, hev]
  · obtain ⟨i, hi, hf⟩ := hrows.row hN (b := b) (by omega) hs
    have hsome := mRow_find (b := b) (by omega) hi hf.2.1 (fun x y hx hy => b2 x y b hx hy (by omega))
    have hl : mLook V P (nI b) = (i, mTouch V i, P) := by
      unfold mLook
      rw [hsome]
    have hlr : rLook (r0 R) A b = (rTick (r0 R), rStamp (r0 R) A b) := by
      unfold rLook
      rw [if_neg hs]
    have key := sim_look1 hA h hb hi hf hu
    rw [hl, hlr]
    refine ⟨key.1, key.2.1, key.2.2, ?_, ?_, fun t ht => ?_, fun _ q => absurd q hs⟩
    · exact touch_at (by omega) (by omega)
    · exact touch_at (by omega) (by omega)
    · show rStamp (r0 R) A b t = A t
      unfold rStamp
      rw [p1_n ht]
