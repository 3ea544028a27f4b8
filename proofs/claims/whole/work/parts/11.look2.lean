/-- the block is in no row: row g is given to it; old (80: none) leaves -/
theorem sim_look2 {V P R A A1 : VV} {N u b g old : Nat} (hA : rA V R N u) (h : rOn V P R A N u) (hb : isB N b) (hg : g < 34) (hu : u + 1 < 2 ^ 31) (hst : A 277 b = 0) (g3 : V (232 + g) 3 = 0) (g4 : V (232 + g) 4 = 0) (hob : old ≠ b) (hog : ∀ x, x < 80 → V (232 + g) 1 = nI x → x = old)
    (hcase : (80 ≤ old ∧ V (232 + g) 1 = -1) ∨ (old < 80 ∧ fRow V P A N g old)) (k1 : ∀ x, x < 80 → x ≠ old → A1 277 x = A 277 x) (k2 : old < 80 → A1 277 old = 0) (k3 : ∀ t, t ≠ 277 → A1 t = A t) :
    rA (mTouch (mTake V g (nI b)) g) (rTick (v2 (r0 R) 272 12 (r0 R 272 12 + 1))) N (u + 1) ∧ rOn (mTouch (mTake V g (nI b)) g) (p1 P (80 + g) (P b)) (rTick (v2 (r0 R) 272 12 (r0 R 272 12 + 1))) (rStamp (r0 R) A1 b) N (u + 1) ∧ fRow (mTouch (mTake V g (nI b)) g) (p1 P (80 + g) (P b)) (rStamp (r0 R) A1 b) N g b := by
  obtain ⟨a1, a2, a3, a4, a5, a6, a7, a8, a9, a10, a11, a12, a13⟩ := hA
  obtain ⟨o1, o2, hrows, ⟨c1, c2, c3, c4, c5⟩, o5, o6⟩ := h
  obtain ⟨b1, b2, b3, b4, b5, b6⟩ := id hrows
  generalize hV2 : mTouch (mTake V g (nI b)) g = V2
  generalize hR2 : rTick (v2 (r0 R) 272 12 (r0 R 272 12 + 1)) = R2
  generalize hA2 : rStamp (r0 R) A1 b = A2
  have t2 : r0 R 272 7 + 1 = nI (u + 1) := by rw [r0, v2_k (by omega), a6, nI_1]
  have vt : ∀ t j, ¬ (t = 268 ∧ (j = 1 ∨ j = 2)) → ¬ (t = 232 + g ∧ (j = 1 ∨ j = 2)) → V2 t j = V t j := fun t j h1 h2 => by
    rw [← hV2]
    unfold mTouch mTake
    rw [v2_n (fun q => h2 ⟨q.1, Or.inr q.2⟩), v2_n (fun q => h1 ⟨q.1, Or.inl q.2⟩), v2_n (fun q => h1 ⟨q.1, Or.inr q.2⟩), v2_n (fun q => h2 ⟨q.1, Or.inl q.2⟩)]
  have w1' : mTake V g (nI b) 268 1 = V 268 1 := by
    unfold mTake
    rw [v2_k (by omega), v2_t (by omega)]
  have v681 : V2 268 1 = nI (u + 1) := by
    rw [← hV2]
    unfold mTouch
    rw [v2_t (by omega), v2_s, w1', a5, nI_1]
  have v682 : V2 268 2 = V 268 2 + 1 := by
    rw [← hV2]
    unfold mTouch mTake
    rw [v2_t (by omega), v2_k (by omega), v2_s]
  have vg1 : V2 (232 + g) 1 = nI b := by
    rw [← hV2]
    unfold mTouch mTake
    rw [v2_k (by omega), v2_t (by omega), v2_t (by omega), v2_s]
  have vg2 : V2 (232 + g) 2 = nI (u + 1) := by
    rw [← hV2]
    unfold mTouch
    rw [v2_s, w1', a5, nI_1]
  have rt : ∀ j, j ≠ 0 → j ≠ 7 → j ≠ 12 → R2 272 j = R 272 j := fun j h1 h2 h3 => by
    rw [← hR2]
    unfold rTick r0
    rw [v2_k h2, v2_k h3, v2_k h1]
  have r7 : R2 272 7 = nI (u + 1) := by
    rw [← hR2]
    unfold rTick
    rw [v2_s, v2_k (by omega), t2]
  have r12 : R2 272 12 = R 272 12 + 1 := by
    rw [← hR2]
    unfold rTick r0
    rw [v2_k (by omega), v2_s, v2_k (by omega)]
  have s7b : A2 277 b = nI (u + 1) := by
    rw [← hA2]
    unfold rStamp
    rw [p1_s, pk_us, t2]
  have s7 : ∀ x, x < 80 → x ≠ b → x ≠ old → A2 277 x = A 277 x := fun x hx h1 h2 => by
    rw [← hA2]
    unfold rStamp
    rw [p1_s, pk_un h1, k1 x hx h2]
  have s7o : old < 80 → A2 277 old = 0 := fun ho => by
    rw [← hA2]
    unfold rStamp
    rw [p1_s, pk_un hob, k2 ho]
  have so : ∀ t, t ≠ 277 → A2 t = A t := fun t ht => by
    rw [← hA2]
    unfold rStamp
    rw [p1_n ht, k3 t ht]
  have hnz : ¬ nI (u + 1) = 0 := nI_ne0 (by omega) (by omega)
  have vr : ∀ x j, x < 34 → x ≠ g → V2 (232 + x) j = V (232 + x) j := fun x j hx hn => vt _ _ (by omega) (by omega)
  have vgj : ∀ j, j ≠ 1 → j ≠ 2 → V2 (232 + g) j = V (232 + g) j := fun j h1 h2 => vt _ _ (by omega) (by omega)
  have vrj : ∀ x j, x < 34 → j ≠ 1 → j ≠ 2 → V2 (232 + x) j = V (232 + x) j := fun x j hx h1 h2 => vt _ _ (by omega) (by omega)
  have e66 : V2 266 4 = V 266 4 := vt _ _ (by omega) (by omega)
  have hld : A 275 b = 0 := Decidable.byContradiction fun q => (b6 b (by omega)).2.1 q hst
  have hch : ¬ V 266 4 = 0 → A 276 b = 0 := fun q => Decidable.byContradiction fun w => (b6 b (by omega)).2.2 q w hld
  have nbr : ∀ x, x < 34 → ¬ V (232 + x) 1 = nI b := fun x hx q => by
    rcases b1 x hx with w | ⟨b', w⟩
    · rw [w.1] at q
      exact neg1_ne (by omega) q
    · have e := w.2.1
      have hb' := w.1
      rw [q] at e
      have e2 : b = b' := (nI_eq (by omega) (by omega)).mp e
      rw [← e2] at w
      exact w.2.2.2.1 hst
  have hfg : fRow V2 (p1 P (80 + g) (P b)) A2 N g b := by
    refine ⟨hb, vg1, by rw [vg2, s7b], by rw [s7b]; exact hnz, ?_, fun _ => ?_, fun q => ?_, fun j hj => ?_⟩
    · rw [vgj 3 (by omega) (by omega), g3, so _ (by omega), hld]
    · rw [vgj 4 (by omega) (by omega), g4]
    · rw [vgj 4 (by omega) (by omega), g4, so _ (by omega)]
      rw [e66] at q
      exact (hch q).symm
    · rw [p1_s, so _ (by omega), o5.2 b hb j hj]
      exact (o6 b hb hld j hj).symm
  have hrow : ∀ x b', x < 34 → x ≠ g → fRow V P A N x b' → fRow V2 (p1 P (80 + g) (P b)) A2 N x b' := fun x b' hx hxg hw => by
    obtain ⟨w1, w2, w3, w4, w5, w6, w7, w8⟩ := hw
    have nb : b' ≠ b := fun q => nbr x hx (by rw [← q]; exact w2)
    have no : b' ≠ old := fun q => by
      rcases hcase with ⟨h1, -⟩ | ⟨h1, h2⟩
      · omega
      · exact hxg (b2 x g b' hx hg (by omega) w2 (by rw [q]; exact h2.2.1))
    refine ⟨w1, by rw [vr x 1 hx hxg]; exact w2, ?_, ?_, ?_, ?_, ?_, ?_⟩
    · rw [vr x 2 hx hxg, s7 b' (by omega) nb no]
      exact w3
    · rw [s7 b' (by omega) nb no]
      exact w4
    · rw [vr x 3 hx hxg, so _ (by omega)]
      exact w5
    · rw [e66, vr x 4 hx hxg]
      exact w6
    · rw [e66, vr x 4 hx hxg, so _ (by omega)]
      exact w7
    · rw [so _ (by omega), p1_n (by omega)]
      exact w8
  refine ⟨?_, ?_, hfg⟩
  · refine ⟨?_, ?_, a3, a4, v681, r7, ?_, ?_, ?_, ?_, ?_, ?_, ?_⟩
    · rw [vt _ _ (by omega) (by omega)]; exact a1
    · rw [rt _ (by omega) (by omega) (by omega)]; exact a2
    · rw [rt _ (by omega) (by omega) (by omega), vt _ _ (by omega) (by omega)]; exact a7
    · rw [r12, v682, a8]
    · rw [rt _ (by omega) (by omega) (by omega), vt _ _ (by omega) (by omega)]; exact a9
    · rw [rt _ (by omega) (by omega) (by omega), vt _ _ (by omega) (by omega)]; exact a10
    · rw [rt _ (by omega) (by omega) (by omega), vt _ _ (by omega) (by omega)]; exact a11
    · rw [e66]; exact a12
    · rw [vt _ _ (by omega) (by omega)]; exact a13
  · refine ⟨?_, by rw [rt _ (by omega) (by omega) (by omega)]; exact o2, ⟨fun x hx => ?_, fun x y b' hx hy hb' e1 e2 => ?_, fun x hx => ?_, fun x hx => ?_, fun x y hx hy he hn => ?_, fun x hx => ?_⟩, ⟨?_, ?_, ?_, ?_, ?_⟩, ⟨?_, fun b' hb' j hj => ?_⟩, ?_⟩
    · unfold rLf
      rw [rt _ (by omega) (by omega) (by omega), vt _ _ (by omega) (by omega)]
      exact o1
    · by_cases hxg : x = g
      · right
        rw [hxg]
        exact ⟨b, hfg⟩
      · rcases b1 x hx with w | ⟨b', w⟩
        · left
          exact ⟨by rw [vr x 1 hx hxg]; exact w.1, by rw [vr x 2 hx hxg]; exact w.2.1, by rw [vr x 3 hx hxg]; exact w.2.2.1, by rw [vr x 4 hx hxg]; exact w.2.2.2⟩
        · right
          exact ⟨b', hrow x b' hx hxg w⟩
    · by_cases hxg : x = g
      · by_cases hyg : y = g
        · rw [hxg, hyg]
        · rw [hxg, vg1] at e1
          rw [vr y 1 hy hyg, ← e1] at e2
          exact absurd e2 (nbr y hy)
      · by_cases hyg : y = g
        · rw [hyg, vg1] at e2
          rw [vr x 1 hx hxg, ← e2] at e1
          exact absurd e1 (nbr x hx)
        · rw [vr x 1 hx hxg] at e1
          rw [vr y 1 hy hyg] at e2
          exact b2 x y b' hx hy hb' e1 e2
    · by_cases ex : x = b
      · right
        rw [ex]
        exact ⟨hb, g, hg, vg1⟩
      · by_cases eo : x = old
        · left
          rw [eo]
          exact s7o (by omega)
        · rw [s7 x hx ex eo]
          rcases b3 x hx with w | ⟨w, y, hy, e⟩
          · exact Or.inl w
          · have hyg : y ≠ g := fun q => eo (hog x hx (by rw [← q]; exact e))
            exact Or.inr ⟨w, y, hy, by rw [vr y 1 hy hyg]; exact e⟩
    · by_cases ex : x = b
      · exact ⟨u + 1, Nat.le_refl _, by rw [ex]; exact s7b⟩
      · by_cases eo : x = old
        · exact ⟨0, by omega, by rw [eo, s7o (by omega), nI_0]⟩
        · obtain ⟨z, z1, z2⟩ := b4 x hx
          exact ⟨z, by omega, by rw [s7 x hx ex eo]; exact z2⟩
    · have hle : ∀ z, z < 80 → z ≠ b → ¬ A2 277 z = nI (u + 1) := fun z hz hzb q => by
        by_cases eo : z = old
        · rw [eo, s7o (by omega)] at q
          exact hnz q.symm
        · obtain ⟨y, y1, y2⟩ := b4 z hz
          rw [s7 z hz hzb eo, y2] at q
          exact nI_lt_ne (by omega) (by omega) (by omega) q
      by_cases ex : x = b
      · by_cases ey : y = b
        · rw [ex, ey]
        · rw [ex, s7b] at he
          exact absurd he.symm (hle y hy ey)
      · by_cases ey : y = b
        · rw [ey, s7b] at he
          exact absurd he (hle x hx ex)
        · have exo : x ≠ old := fun q => by
            rw [q, s7o (by omega)] at hn
            exact hn rfl
          have eyo : y ≠ old := fun q => by
            rw [he, q, s7o (by omega)] at hn
            exact hn rfl
          rw [s7 x hx ex exo, s7 y hy ey eyo] at he
          rw [s7 x hx ex exo] at hn
          exact b5 x y hx hy he hn
    · rw [so 275 (by omega), so 276 (by omega), e66]
      refine ⟨(b6 x hx).1, fun q => ?_, (b6 x hx).2.2⟩
      by_cases ex : x = b
      · rw [ex, s7b]
        exact hnz
      · by_cases eo : x = old
        · exfalso
          rcases hcase with ⟨h1, -⟩ | ⟨h1, h2⟩
          · omega
          · rw [eo, ← h2.2.2.2.2.1] at q
            exact q g3
        · rw [s7 x hx ex eo]
          exact (b6 x hx).2.1 q
    · rw [so _ (by omega), ← c1]
      exact cU_congr 34 0 (fun j _ hj => dn_c (vrj j 3 (by omega) (by omega) (by omega)))
    · rw [e66, so _ (by omega)]
      intro q
      rw [← c2 q]
      exact cU_congr 34 0 (fun j _ hj => dn_c (vrj j 4 (by omega) (by omega) (by omega)))
    · have e1 := cU_set (q := fun i => decide (¬ V (232 + i) 1 = -1)) (q' := fun i => decide (¬ V2 (232 + i) 1 = -1)) (x := g) 34 0 (by omega) (by omega) (fun j _ h34 hj => dn_c (vr j 1 (by omega) hj))
      have e2 := cU_set (q := nz (A 277)) (q' := fun j => if j = b then true else nz (A 277) j) (x := b) 80 0 (by omega) (by omega) (fun j _ _ hj => by rw [if_neg hj])
      have e3 : (nz (A 277) b).toNat = 0 := by simp [nz, hst]
      have e4 : (decide (¬ V2 (232 + g) 1 = -1)).toNat = 1 := by
        rw [vg1]
        simp only [decide_eq_true (show ¬ nI b = -1 from fun q => neg1_ne (by omega) q.symm)]
        rfl
      rw [e4] at e1
      rw [if_pos rfl, e3] at e2
      simp only [Bool.toNat_true] at e2
      rcases hcase with ⟨h1, h2⟩ | ⟨h1, h2⟩
      · have e5 : hB (A2 277) = cU (fun j => if j = b then true else nz (A 277) j) 80 0 := cU_congr 80 0 (fun j _ hj => by
          by_cases ej : j = b
          · rw [if_pos ej, ej]
            simp [nz, s7b, hnz]
          · rw [if_neg ej]
            exact dn_c (s7 j (by omega) ej (by omega)))
        have e6 : (decide (¬ V (232 + g) 1 = -1)).toNat = 0 := by simp [h2]
        rw [e6] at e1
        rw [e5]
        have c3' : cU (fun i => decide (¬ V (232 + i) 1 = -1)) 34 0 = cU (nz (A 277)) 80 0 := c3
        omega
      · have e5 := cU_set (q := fun j => if j = b then true else nz (A 277) j) (q' := nz (A2 277)) (x := old) 80 0 (by omega) (by omega) (fun j _ h80 hj => by
          by_cases ej : j = b
          · rw [if_pos ej, ej]
            simp [nz, s7b, hnz]
          · rw [if_neg ej]
            exact dn_c (s7 j (by omega) ej hj))
        have e6 : (decide (¬ V (232 + g) 1 = -1)).toNat = 1 := by
          rw [h2.2.1]
          simp only [decide_eq_true (show ¬ nI old = -1 from fun q => neg1_ne (by omega) q.symm)]
          rfl
        rw [e6] at e1
        rw [if_neg hob] at e5
        have e7 : (nz (A 277) old).toNat = 1 := by simp [nz, h2.2.2.2.1]
        have e8 : (nz (A2 277) old).toNat = 0 := by simp [nz, s7o h1]
        rw [e7, e8] at e5
        have c3' : cU (fun i => decide (¬ V (232 + i) 1 = -1)) 34 0 = cU (nz (A 277)) 80 0 := c3
        show cU (fun i => decide (¬ V2 (232 + i) 1 = -1)) 34 0 = cU (nz (A2 277)) 80 0
        omega
    · rw [e66, so _ (by omega)]
      exact c4
    · rw [e66, so _ (by omega), so _ (by omega)]
      exact c5
    · rw [p1_n (by omega)]
      exact o5.1
    · rw [p1_n (by omega), so _ (by omega)]
      exact o5.2 b' hb' j hj
    · unfold rClean
      rw [so _ (by omega), so _ (by omega), so _ (by omega)]
      exact o6
