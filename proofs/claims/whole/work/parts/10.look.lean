/-! LOOKING AT A BLOCK on both sides, pure -/
/-- in which order rows give way -/
def kx (V : VV) (i : Nat) : Nat := (V (232 + i) 2).toNatClampNeg + (if V (232 + i) 3 = 0 then 0 else 2 ^ 31)
def kOk (V : VV) : Prop := ∀ i, i < 34 → (∃ x, x < 2 ^ 31 ∧ V (232 + i) 2 = nI x) ∧ (V (232 + i) 3 = 0 ∨ V (232 + i) 3 = 1)
theorem mGW_kx {V : VV} (h : kOk V) {i j : Nat} (hi : i < 34) (hj : j < 34) : mGW V i j = 0 ↔ kx V j ≤ kx V i := by
  obtain ⟨⟨x, x1, x2⟩, x3⟩ := h i hi
  obtain ⟨⟨y, y1, y2⟩, y3⟩ := h j hj
  unfold mGW kx
  rw [x2, y2, nI_clamp x1, nI_clamp y1]
  have hle : nI y ≤ nI x ↔ y ≤ x := nI_leI y1 x1
  rcases x3 with x3 | x3 <;> rcases y3 with y3 | y3 <;> rw [x3, y3]
  · rw [if_pos rfl, if_pos rfl]
    by_cases q : y ≤ x
    · rw [if_pos (hle.mpr q)]
      exact ⟨fun _ => by omega, fun _ => rfl⟩
    · rw [if_neg (fun w => q (hle.mp w))]
      exact ⟨fun w => absurd w (by decide), fun w => by omega⟩
  · rw [if_neg (by decide), if_neg (by decide), if_pos rfl]
    exact ⟨fun w => absurd w (by decide), fun w => by omega⟩
  · rw [if_neg (by decide), if_pos rfl, if_neg (by decide)]
    exact ⟨fun _ => by omega, fun _ => rfl⟩
  · rw [if_pos rfl, if_neg (show ¬ (1 : Int32) = 0 by decide)]
    by_cases q : y ≤ x
    · rw [if_pos (hle.mpr q)]
      exact ⟨fun _ => by omega, fun _ => rfl⟩
    · rw [if_neg (fun w => q (hle.mp w))]
      exact ⟨fun w => absurd w (by decide), fun w => by omega⟩
theorem gL_min {V : VV} (h : kOk V) : ∀ (n i f : Nat), f < 34 → i + n ≤ 34 → kx V (gL V n i f) ≤ kx V f ∧ ∀ x, i ≤ x → x < i + n → kx V (gL V n i f) ≤ kx V x
  | 0, i, f, _, _ => ⟨Nat.le_refl _, fun x h1 h2 => by omega⟩
  | n + 1, i, f, hf, hi => by
    simp only [gL]
    by_cases e : mGW V i f = 0
    · rw [if_pos e]
      have e2 := (mGW_kx h (by omega) hf).mp e
      obtain ⟨a1, a2⟩ := gL_min h n (i + 1) f hf (by omega)
      refine ⟨a1, fun x h1 h2 => ?_⟩
      by_cases ex : x = i
      · rw [ex]
        omega
      · exact a2 x (by omega) (by omega)
    · rw [if_neg e]
      have e2 : ¬ kx V f ≤ kx V i := fun q => e ((mGW_kx h (by omega) hf).mpr q)
      obtain ⟨a1, a2⟩ := gL_min h n (i + 1) i (by omega) (by omega)
      refine ⟨by omega, fun x h1 h2 => ?_⟩
      by_cases ex : x = i
      · rw [ex]
        exact a1
      · exact a2 x (by omega) (by omega)
theorem mGive_min {V : VV} (h : kOk V) {x : Nat} (hx : x < 34) : kx V (mGive V) ≤ kx V x := (gL_min h 34 0 0 (by omega) (by omega)).2 x (by omega) (by omega)
theorem cU_split (q : Nat → Bool) : ∀ (a b i : Nat), cU q (a + b) i = cU q a i + cU q b (i + a)
  | 0, b, i => by simp [cU]
  | a + 1, b, i => by
    rw [show a + 1 + b = (a + b) + 1 by omega]
    simp only [cU]
    rw [cU_split q a b (i + 1), show i + 1 + a = i + (a + 1) by omega]
    omega
/-- the reference's scan -/
theorem lkL_spec {st hd : Nat → Int32} (hst : ∀ k, k < 80 → ∃ x, x < 2 ^ 31 ∧ st k = nI x) : ∀ (n k r : Nat) (o : Int32), k + n ≤ 80 →
    ((o = -1 ∧ ∀ j, j < k → ¬ st j = 0 → ¬ hd j = 0) ∨ ∃ x, x < k ∧ o = nI x ∧ ¬ st x = 0 ∧ hd x = 0 ∧ ∀ j, j < k → ¬ st j = 0 → hd j = 0 → st x ≤ st j) →
    (lkL st hd n k (nI r) o).1 = nI (r + cU (nz st) n k) ∧
    (((lkL st hd n k (nI r) o).2 = -1 ∧ ∀ j, j < k + n → ¬ st j = 0 → ¬ hd j = 0) ∨ ∃ x, x < k + n ∧ (lkL st hd n k (nI r) o).2 = nI x ∧ ¬ st x = 0 ∧ hd x = 0 ∧ ∀ j, j < k + n → ¬ st j = 0 → hd j = 0 → st x ≤ st j)
  | 0, k, r, o, _, h => by
    simp only [lkL, cU, Nat.add_zero]
    exact ⟨trivial, h⟩
  | n + 1, k, r, o, hk, h => by
    simp only [lkL, cU]
    obtain ⟨y, y1, y2⟩ := hst k (by omega)
    have hle : st k ≤ 0 ↔ st k = 0 := by
      rw [y2]
      constructor
      · intro q
        rcases Nat.eq_zero_or_pos y with w | w
        · rw [w, nI_0]
        · exact absurd q (nI_nle w y1)
      · intro q
        rw [q]
        decide
    have e1 : (if st k ≤ 0 then nI r + 0 else nI r + 1) = nI (r + (nz st k).toNat) := by
      by_cases q : st k = 0
      · rw [if_pos (hle.mpr q), Int32.add_zero]
        simp [nz, q]
      · rw [if_neg (fun w => q (hle.mp w)), nI_1]
        simp [nz, q]
    rw [e1]
    have key := lkL_spec hst n (k + 1) (r + (nz st k).toNat) (if st k ≤ 0 ∨ ¬ hd k = 0 ∨ (¬ o < 0 ∧ st o.toNatClampNeg ≤ st k) then o else nI k) (by omega) (by
      by_cases c1 : st k = 0
      · rw [if_pos (Or.inl (hle.mpr c1))]
        rcases h with ⟨h1, h2⟩ | ⟨x, h1, h2, h3, h4, h5⟩
        · refine Or.inl ⟨h1, fun j hj hs => ?_⟩
          by_cases ej : j = k
          · rw [ej] at hs
            exact absurd c1 hs
          · exact h2 j (by omega) hs
        · refine Or.inr ⟨x, by omega, h2, h3, h4, fun j hj hs hh => ?_⟩
          by_cases ej : j = k
          · rw [ej] at hs
            exact absurd c1 hs
          · exact h5 j (by omega) hs hh
      · by_cases c2 : hd k = 0
        · rcases h with ⟨h1, h2⟩ | ⟨x, h1, h2, h3, h4, h5⟩
          · rw [if_neg (fun q => by
              rcases q with q | q | q
              · exact c1 (hle.mp q)
              · exact q c2
              · exact q.1 (by rw [h1]; decide))]
            exact Or.inr ⟨k, by omega, rfl, c1, c2, fun j hj hs hh => by
              by_cases ej : j = k
              · rw [ej]
                exact Int32.le_refl _
              · exact absurd hh (h2 j (by omega) hs)⟩
          · have ho : ¬ o < 0 := by rw [h2]; exact nI_pos (by omega)
            have hc : o.toNatClampNeg = x := by rw [h2]; exact nI_clamp (by omega)
            rw [hc]
            by_cases c3 : st x ≤ st k
            · rw [if_pos (Or.inr (Or.inr ⟨ho, c3⟩))]
              refine Or.inr ⟨x, by omega, h2, h3, h4, fun j hj hs hh => ?_⟩
              by_cases ej : j = k
              · rw [ej]
                exact c3
              · exact h5 j (by omega) hs hh
            · rw [if_neg (fun q => by
                rcases q with q | q | q
                · exact c1 (hle.mp q)
                · exact q c2
                · exact c3 q.2)]
              have c4 : st k ≤ st x := Int32.le_of_lt (Int32.not_le.mp c3)
              refine Or.inr ⟨k, by omega, rfl, c1, c2, fun j hj hs hh => ?_⟩
              by_cases ej : j = k
              · rw [ej]
                exact Int32.le_refl _
              · exact Int32.le_trans c4 (h5 j (by omega) hs hh)
        · rw [if_pos (Or.inr (Or.inl c2))]
          rcases h with ⟨h1, h2⟩ | ⟨x, h1, h2, h3, h4, h5⟩
          · refine Or.inl ⟨h1, fun j hj hs => ?_⟩
            by_cases ej : j = k
            · rw [ej]
              exact c2
            · exact h2 j (by omega) hs
          · refine Or.inr ⟨x, by omega, h2, h3, h4, fun j hj hs hh => ?_⟩
            by_cases ej : j = k
            · rw [ej] at hh
              exact absurd hh c2
            · exact h5 j (by omega) hs hh)
    rw [show k + 1 + n = k + (n + 1) by omega] at key
    rw [show r + ((nz st k).toNat + cU (nz st) n (k + 1)) = r + (nz st k).toNat + cU (nz st) n (k + 1) by omega]
    exact key
theorem rRows.kOk {V P A : VV} {N u : Nat} (h : rRows V P A N u) (hN : N ≤ 80) (hu : u < 2 ^ 31) : kOk V := by
  intro i hi
  rcases h.1 i hi with w | ⟨b, w1, w2, w3, w4, w5, -⟩
  · exact ⟨⟨0, by omega, by rw [w.2.1, nI_0]⟩, Or.inl w.2.2.1⟩
  · obtain ⟨x, x1, x2⟩ := h.2.2.2.1 b (by omega)
    refine ⟨⟨x, by omega, by rw [w3, x2]⟩, ?_⟩
    rw [w5]
    exact (h.2.2.2.2.2 b (by omega)).1
/-- how many blocks are stamped, as the scan counts them -/
theorem rRows.cntN {V P A : VV} {N u : Nat} (h : rRows V P A N u) (hN : N ≤ 80) : cU (nz (A 277)) N 0 = hB (A 277) := by
  have e := cU_split (nz (A 277)) N (80 - N) 0
  rw [show N + (80 - N) = 80 by omega] at e
  rw [cU_zero (80 - N) (0 + N) (fun j h1 h2 => by
    rcases h.2.2.1 j (by omega) with w | w
    · simp [nz, w]
    · have := w.1.1
      omega)] at e
  show _ = cU (nz (A 277)) 80 0
  omega
theorem neg1_ne {b : Nat} (h : b < 80) : ¬ (-1 : Int32) = nI b := fun q => by
  have : nI b < 0 := by rw [← q]; decide
  exact nI_pos (by omega) this
theorem mRow_find {V : VV} {b i : Nat} (hb : b < 80) (hi : i < 34) (h : V (232 + i) 1 = nI b) (hd : ∀ i j, i < 34 → j < 34 → V (232 + i) 1 = nI b → V (232 + j) 1 = nI b → i = j) : mRow V (nI b) = some i := by
  cases hr : mRow V (nI b) with
  | none => exact absurd h (mRow_none hr hi)
  | some x =>
    obtain ⟨h1, h2⟩ := mRow_some hr
    rw [hd x i h1 hi h2 h]
theorem nI_lt_ne {x y : Nat} (hx : x < 2 ^ 31) (hy : y < 2 ^ 31) (h : x ≠ y) : ¬ nI x = nI y := fun q => h ((nI_eq hx hy).mp q)
/-- the block is in a row: it is stamped anew -/
theorem sim_look1 {V P R A : VV} {N u b i : Nat} (hA : rA V R N u) (h : rOn V P R A N u) (hb : isB N b) (hi : i < 34) (hf : fRow V P A N i b) (hu : u + 1 < 2 ^ 31) :
    rA (mTouch V i) (rTick (r0 R)) N (u + 1) ∧ rOn (mTouch V i) P (rTick (r0 R)) (rStamp (r0 R) A b) N (u + 1) ∧ fRow (mTouch V i) P (rStamp (r0 R) A b) N i b := by
  obtain ⟨a1, a2, a3, a4, a5, a6, a7, a8, a9, a10, a11, a12, a13⟩ := hA
  obtain ⟨o1, o2, ⟨b1, b2, b3, b4, b5, b6⟩, ⟨c1, c2, c3, c4, c5⟩, o5, o6⟩ := h
  have t1 : V 268 1 + 1 = nI (u + 1) := by rw [a5, nI_1]
  have t2 : r0 R 272 7 + 1 = nI (u + 1) := by rw [r0, v2_k (by omega), a6, nI_1]
  have vt : ∀ t j, ¬ (t = 268 ∧ j = 1) → ¬ (t = 232 + i ∧ j = 2) → mTouch V i t j = V t j := fun t j h1 h2 => by
    unfold mTouch
    rw [v2_n h2, v2_n h1]
  have v68 : mTouch V i 268 1 = nI (u + 1) := by
    unfold mTouch
    rw [v2_t (by omega), v2_s, t1]
  have vi2 : mTouch V i (232 + i) 2 = nI (u + 1) := by
    unfold mTouch
    rw [v2_s, t1]
  have rt : ∀ j, j ≠ 0 → j ≠ 7 → rTick (r0 R) 272 j = R 272 j := fun j h1 h2 => by
    unfold rTick r0
    rw [v2_k h2, v2_k h1]
  have r7 : rTick (r0 R) 272 7 = nI (u + 1) := by
    unfold rTick
    rw [v2_s, t2]
  have s7b : rStamp (r0 R) A b 277 b = nI (u + 1) := by
    unfold rStamp
    rw [p1_s, pk_us, t2]
  have s7 : ∀ x, x ≠ b → rStamp (r0 R) A b 277 x = A 277 x := fun x hx => by
    unfold rStamp
    rw [p1_s, pk_un hx]
  have so : ∀ t, t ≠ 277 → rStamp (r0 R) A b t = A t := fun t ht => by
    unfold rStamp
    rw [p1_n ht]
  have hnz : ¬ nI (u + 1) = 0 := nI_ne0 (by omega) (by omega)
  have vr : ∀ x j, x < 34 → ¬ (x = i ∧ j = 2) → mTouch V i (232 + x) j = V (232 + x) j := fun x j hx hn => vt _ _ (by omega) (by omega)
  have e66 : mTouch V i 266 4 = V 266 4 := vt _ _ (by omega) (by omega)
  have hrow : ∀ x b', x < 34 → fRow V P A N x b' → fRow (mTouch V i) P (rStamp (r0 R) A b) N x b' := fun x b' hx hw => by
    obtain ⟨w1, w2, w3, w4, w5, w6, w7, w8⟩ := hw
    refine ⟨w1, by rw [vr x 1 hx (by omega)]; exact w2, ?_, ?_, ?_, ?_, ?_, ?_⟩
    · by_cases ex : x = i
      · subst ex
        have eb : b' = b := by
          have := hf.2.1
          rw [w2] at this
          exact (nI_eq (by omega) (by omega)).mp this
        rw [vi2, eb, s7b]
      · have nb : b' ≠ b := fun q => ex (b2 x i b hx hi (by omega) (by rw [← q]; exact w2) hf.2.1)
        rw [vr x 2 hx (by omega), s7 b' nb]
        exact w3
    · by_cases eb : b' = b
      · rw [eb, s7b]
        exact hnz
      · rw [s7 b' eb]
        exact w4
    · rw [vr x 3 hx (by omega), so _ (by omega)]
      exact w5
    · rw [e66, vr x 4 hx (by omega)]
      exact w6
    · rw [e66, vr x 4 hx (by omega), so _ (by omega)]
      exact w7
    · rw [so _ (by omega)]
      exact w8
  refine ⟨?_, ?_, hrow i b hi hf⟩
  · refine ⟨?_, ?_, a3, a4, v68, r7, ?_, ?_, ?_, ?_, ?_, ?_, ?_⟩
    · rw [vt _ _ (by omega) (by omega)]; exact a1
    · rw [rt _ (by omega) (by omega)]; exact a2
    · rw [rt _ (by omega) (by omega), vt _ _ (by omega) (by omega)]; exact a7
    · rw [rt _ (by omega) (by omega), vt _ _ (by omega) (by omega)]; exact a8
    · rw [rt _ (by omega) (by omega), vt _ _ (by omega) (by omega)]; exact a9
    · rw [rt _ (by omega) (by omega), vt _ _ (by omega) (by omega)]; exact a10
    · rw [rt _ (by omega) (by omega), vt _ _ (by omega) (by omega)]; exact a11
    · rw [e66]; exact a12
    · rw [vt _ _ (by omega) (by omega)]; exact a13
  · refine ⟨?_, by rw [rt _ (by omega) (by omega)]; exact o2, ⟨fun x hx => ?_, fun x y b' hx hy hb' e1 e2 => ?_, fun x hx => ?_, fun x hx => ?_, fun x y hx hy he hn => ?_, fun x hx => ?_⟩, ⟨?_, ?_, ?_, ?_, ?_⟩, ?_, ?_⟩
    · unfold rLf
      rw [rt _ (by omega) (by omega), vt _ _ (by omega) (by omega)]
      exact o1
    · rcases b1 x hx with w | ⟨b', w⟩
      · left
        have nx : x ≠ i := fun q => by
          have := hf.2.1
          rw [← q, w.1] at this
          exact neg1_ne (by omega) this
        exact ⟨by rw [vr x 1 hx (by omega)]; exact w.1, by rw [vr x 2 hx (by omega)]; exact w.2.1, by rw [vr x 3 hx (by omega)]; exact w.2.2.1, by rw [vr x 4 hx (by omega)]; exact w.2.2.2⟩
      · right
        exact ⟨b', hrow x b' hx w⟩
    · rw [vr x 1 hx (by omega)] at e1
      rw [vr y 1 hy (by omega)] at e2
      exact b2 x y b' hx hy hb' e1 e2
    · by_cases ex : x = b
      · right
        rw [ex]
        exact ⟨hb, i, hi, by rw [vr i 1 hi (by omega)]; exact hf.2.1⟩
      · rw [s7 x ex]
        rcases b3 x hx with w | ⟨w, y, hy, e⟩
        · exact Or.inl w
        · exact Or.inr ⟨w, y, hy, by rw [vr y 1 hy (by omega)]; exact e⟩
    · by_cases ex : x = b
      · exact ⟨u + 1, Nat.le_refl _, by rw [ex]; exact s7b⟩
      · obtain ⟨z, z1, z2⟩ := b4 x hx
        exact ⟨z, by omega, by rw [s7 x ex]; exact z2⟩
    · by_cases ex : x = b
      · by_cases ey : y = b
        · rw [ex, ey]
        · rw [ex, s7b, s7 y ey] at he
          obtain ⟨z, z1, z2⟩ := b4 y hy
          rw [z2] at he
          exact absurd he (nI_lt_ne (by omega) (by omega) (by omega))
      · by_cases ey : y = b
        · rw [ey, s7b, s7 x ex] at he
          obtain ⟨z, z1, z2⟩ := b4 x hx
          rw [z2] at he
          exact absurd he (nI_lt_ne (by omega) (by omega) (by omega))
        · rw [s7 x ex, s7 y ey] at he
          rw [s7 x ex] at hn
          exact b5 x y hx hy he hn
    · rw [so 275 (by omega), so 276 (by omega), e66]
      refine ⟨(b6 x hx).1, fun q => ?_, (b6 x hx).2.2⟩
      by_cases ex : x = b
      · rw [ex, s7b]
        exact hnz
      · rw [s7 x ex]
        exact (b6 x hx).2.1 q
    · rw [so _ (by omega), ← c1]
      exact cU_congr 34 0 (fun j _ hj => dn_c (vr j 3 (by omega) (by omega)))
    · rw [e66, so _ (by omega)]
      intro q
      rw [← c2 q]
      exact cU_congr 34 0 (fun j _ hj => dn_c (vr j 4 (by omega) (by omega)))
    · have e1 : cU (fun i_1 => decide (¬ mTouch V i (232 + i_1) 1 = -1)) 34 0 = cU (fun i => decide (¬ V (232 + i) 1 = -1)) 34 0 := cU_congr 34 0 (fun j _ hj => dn_c (vr j 1 (by omega) (by omega)))
      rw [e1, c3]
      exact cU_congr 80 0 (fun j _ hj => by
        by_cases ej : j = b
        · subst ej
          simp only [nz, s7b, hnz, hf.2.2.2.1]
        · exact (dn_c (s7 j ej)).symm)
    · rw [e66, so _ (by omega)]
      exact c4
    · rw [e66, so _ (by omega), so _ (by omega)]
      exact c5
    · unfold rDisk
      rw [so _ (by omega)]
      exact o5
    · unfold rClean
      rw [so _ (by omega), so _ (by omega), so _ (by omega)]
      exact o6
