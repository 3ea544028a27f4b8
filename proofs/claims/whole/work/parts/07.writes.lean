/-! THE WRITES, pure: k that were made; k that were made and one at which the power went -/
def okW (V V' : VV) (k : Nat) : Prop := V' 267 3 = V 267 3 + nI k ∧ ((V 267 2 < 0 ∧ V' 267 2 = V 267 2) ∨ ∃ m, k ≤ m ∧ m < 2 ^ 31 ∧ V 267 2 = nI m ∧ V' 267 2 = nI (m - k)) ∧ ∀ t j, ¬ (t = 267 ∧ (j = 2 ∨ j = 3)) → V' t j = V t j
def noW (V V' : VV) (k : Nat) : Prop := k < 2 ^ 31 ∧ V 267 2 = nI k ∧ V' 267 3 = V 267 3 + nI k ∧ V' 267 1 = 0 ∧ ∀ t j, ¬ (t = 267 ∧ (j = 1 ∨ j = 2 ∨ j = 3)) → V' t j = V t j
theorem nI_z (x : Int32) : x + nI 0 = x := by rw [nI_0, Int32.add_zero]
theorem okW.rf (V : VV) : okW V V 0 := by
  refine ⟨(nI_z _).symm, ?_, fun _ _ _ => rfl⟩
  by_cases h : V 267 2 < 0
  · exact Or.inl ⟨h, rfl⟩
  · obtain ⟨m, h1, h2⟩ := nI_of h
    exact Or.inr ⟨m, Nat.zero_le _, h1, h2, by rw [Nat.sub_zero]; exact h2⟩
theorem nI_ass (x : Int32) (a b : Nat) : x + nI a + nI b = x + nI (a + b) := by rw [Int32.add_assoc, nI_add]
theorem okW.tr {V V' V'' : VV} {k k' : Nat} (h : okW V V' k) (h' : okW V' V'' k') : okW V V'' (k + k') := by
  obtain ⟨a1, a2, a3⟩ := h
  obtain ⟨b1, b2, b3⟩ := h'
  refine ⟨by rw [b1, a1, nI_ass], ?_, fun t j ht => (b3 t j ht).trans (a3 t j ht)⟩
  rcases a2 with ⟨p1, p2⟩ | ⟨m, p1, p2, p3, p4⟩
  · rcases b2 with ⟨q1, q2⟩ | ⟨m', q1, q2, q3, q4⟩
    · exact Or.inl ⟨p1, q2.trans p2⟩
    · rw [p2] at q3
      rw [q3] at p1
      exact absurd p1 (nI_pos q2)
  · rcases b2 with ⟨q1, q2⟩ | ⟨m', q1, q2, q3, q4⟩
    · rw [p4] at q1
      exact absurd q1 (nI_pos (by omega))
    · rw [p4] at q3
      have e : m - k = m' := (nI_eq (by omega) (by omega)).mp q3
      exact Or.inr ⟨m, by omega, p2, p3, by rw [q4]; congr 1; omega⟩
theorem okW.no {V V' V'' : VV} {k k' : Nat} (h : okW V V' k) (h' : noW V' V'' k') : noW V V'' (k + k') := by
  obtain ⟨a1, a2, a3⟩ := h
  obtain ⟨b0, b1, b2, b3, b4⟩ := h'
  rcases a2 with ⟨p1, p2⟩ | ⟨m, p1, p2, p3, p4⟩
  · rw [p2] at b1
    rw [b1] at p1
    exact absurd p1 (nI_pos b0)
  · rw [p4] at b1
    have e : m - k = k' := (nI_eq (by omega) (by omega)).mp b1
    refine ⟨by omega, by rw [p3]; congr 1; omega, by rw [b2, a1, nI_ass], b3, fun t j ht => (b4 t j ht).trans (a3 t j (fun q => ht ⟨q.1, Or.inr q.2⟩))⟩
theorem okW.on {V V' : VV} {k : Nat} (h : okW V V' k) : V' 267 1 = V 267 1 := h.2.2 267 1 (by omega)
theorem okW.at {V V' : VV} {k t j : Nat} (h : okW V V' k) (ht : t ≠ 267) : V' t j = V t j := h.2.2 t j (fun q => ht q.1)
theorem noW.at {V V' : VV} {k t j : Nat} (h : noW V V' k) (ht : t ≠ 267) : V' t j = V t j := h.2.2.2.2 t j (fun q => ht q.1)
theorem mWrite_on {V P : VV} {b t : Nat} (hon : ¬ V 267 1 = 0) (hb : b < 80) :
    (∃ V', mWrite V P (nI b) t = (1, V', p1 P b (P t)) ∧ okW V V' 1) ∨ (∃ V', mWrite V P (nI b) t = (0, V', P) ∧ noW V V' 0) := by
  have h1 : ¬ (V 267 1 = 0 ∨ nI b < 0 ∨ ¬ nI b < 80) := by
    intro h
    rcases h with h | h | h
    · exact hon h
    · exact nI_pos (by omega) h
    · exact h (nI_lt (b := 80) hb (by omega))
  unfold mWrite
  rw [if_neg h1, nI_clamp (by omega)]
  by_cases h2 : V 267 2 = 0
  · right
    rw [if_pos h2]
    refine ⟨_, rfl, by omega, by rw [h2, nI_0], ?_, v2_s, fun t j ht => v2_n (fun q => ht ⟨q.1, Or.inl q.2⟩)⟩
    rw [v2_k (by omega), nI_z]
  · left
    rw [if_neg h2]
    by_cases h3 : V 267 2 ≤ 0
    · rw [if_pos h3]
      refine ⟨_, rfl, by rw [v2_s]; rfl, Or.inl ⟨?_, v2_k (by omega)⟩, fun t j ht => v2_n (fun q => ht ⟨q.1, Or.inr q.2⟩)⟩
      exact Int32.lt_of_le_of_ne h3 h2
    · rw [if_neg h3]
      have h4 : ¬ V 267 2 < 0 := fun q => h3 (Int32.le_of_lt q)
      obtain ⟨m, hm1, hm2⟩ := nI_of h4
      have hm0 : 1 ≤ m := by
        rcases Nat.eq_zero_or_pos m with q | q
        · rw [q, nI_0] at hm2
          exact absurd hm2 h2
        · exact q
      refine ⟨_, rfl, by rw [v2_s]; rfl, Or.inr ⟨m, hm0, hm1, hm2, ?_⟩, fun t j ht => ?_⟩
      · rw [v2_k (by omega), v2_s, hm2]
        exact pk_sub hm0
      · rw [v2_n (fun q => ht ⟨q.1, Or.inr q.2⟩), v2_n (fun q => ht ⟨q.1, Or.inl q.2⟩)]
/-! bytes -/
theorem by_n : ∀ b, b < 128 → (nI b + nI 0).toInt8.toInt32 = nI b := by decide +kernel
theorem by_m : ∀ b, b < 128 → nI b &&& 255 = nI b := by decide +kernel
theorem mIsRun_1 : ∀ x, x < 1024 → mIsRun (nI x) 1 := by decide +kernel
theorem mPut_s {g : Nat → Int32} {x b : Nat} (hx : x < 1024) (hb : b < 128) : mPut g (nI x) 1 (nI b) x = nI b := by
  unfold mPut
  rw [if_pos (mIsRun_1 x hx), nI_clamp (by omega)]
  unfold mRun
  rw [if_pos ⟨Nat.le_refl x, by show x < x + 1; omega⟩, Nat.sub_self]
  exact by_n b hb
theorem mPut_n {g : Nat → Int32} {x y : Nat} {v : Int32} (hx : x < 1024) (hy : y ≠ x) : mPut g (nI x) 1 v y = g y := by
  unfold mPut
  rw [if_pos (mIsRun_1 x hx), nI_clamp (by omega)]
  unfold mRun
  rw [if_neg]
  show ¬ (x ≤ y ∧ y < x + 1)
  omega
theorem mByte_n {g : Nat → Int32} {x b : Nat} (hx : x < 1024) (hb : b < 128) (hg : g x = nI b) : mByte g (nI x) = nI b := by
  unfold mByte
  rw [if_neg, nI_clamp (by omega), hg]
  · exact by_m b hb
  · intro h
    rcases h with h | h
    · exact nI_pos (by omega) h
    · exact nI_ge (b := 1024) hx (by omega) h
/-! copying what is held to the log -/
theorem chL_spec : ∀ (n i k : Nat) (V P : VV), i + n = 34 → k + cU (nz fun x => V (232 + x) 3) n i ≤ 30 → ¬ V 267 1 = 0 → (∀ x, x < 34 → ¬ V (232 + x) 3 = 0 → ∃ b, b < 80 ∧ V (232 + x) 1 = nI b) →
    (∃ (V' P' : VV) (rw : Nat → Nat), chL n i (nI k) V P = (1, V', P') ∧ okW V V' (cU (nz fun x => V (232 + x) 3) n i) ∧
      (∀ x, k < x → x ≤ k + cU (nz fun x => V (232 + x) 3) n i → rw x < 34 ∧ i ≤ rw x ∧ ¬ V (232 + rw x) 3 = 0 ∧ P' 114 x = V (232 + rw x) 1 ∧ P' (2 + x) = P (80 + rw x)) ∧
      (∀ j, i ≤ j → j < 34 → ¬ V (232 + j) 3 = 0 → ∃ x, k < x ∧ x ≤ k + cU (nz fun x => V (232 + x) 3) n i ∧ rw x = j) ∧
      P' 114 0 = nI (k + cU (nz fun x => V (232 + x) 3) n i) ∧ (∀ x, 1 ≤ x → x ≤ k → P' 114 x = P 114 x) ∧
      (∀ t, t ≠ 114 → ¬ (2 + k < t ∧ t ≤ 2 + k + cU (nz fun x => V (232 + x) 3) n i) → P' t = P t)) ∨
    (∃ (V' P' : VV) (m : Nat), chL n i (nI k) V P = (0, V', P') ∧ m < cU (nz fun x => V (232 + x) 3) n i ∧ noW V V' m ∧ ∀ t, t ≠ 114 → ¬ (2 < t ∧ t ≤ 32) → P' t = P t)
  | 0, i, k, V, P, hi, hk, hon, hby => by
    simp only [cU] at hk
    left
    refine ⟨V, p1 P 114 (mPut (P 114) 0 1 (nI k)), fun _ => 0, rfl, okW.rf V, fun x h1 h2 => ?_, fun j h1 h2 => ?_, ?_, fun x h1 h2 => ?_, fun t h1 h2 => p1_n h1⟩
    · simp only [cU] at h2
      omega
    · omega
    · rw [p1_s]
      simp only [cU, Nat.add_zero]
      have := mPut_s (g := P 114) (x := 0) (b := k) (by omega) (by omega)
      rw [nI_0] at this
      exact this
    · rw [p1_s]
      have := mPut_n (g := P 114) (x := 0) (y := x) (v := nI k) (by omega) (by omega)
      rw [nI_0] at this
      exact this
  | n + 1, i, k, V, P, hi, hk, hon, hby => by
    simp only [cU] at hk ⊢
    simp only [chL]
    by_cases h0 : V (232 + i) 3 = 0
    · rw [if_pos (Or.inl h0)]
      have e0 : (nz (fun x => V (232 + x) 3) i).toNat = 0 := by simp [nz, h0]
      rw [e0, Nat.zero_add] at hk ⊢
      rcases chL_spec n (i + 1) k V P (by omega) hk hon hby with ⟨V', P', rw', q1, q2, q3, q4, q5, q6, q7⟩ | q
      · left
        refine ⟨V', P', rw', q1, q2, fun x h1 h2 => ?_, fun j h1 h2 h3 => ?_, q5, q6, q7⟩
        · obtain ⟨a1, a2, a3⟩ := q3 x h1 h2
          exact ⟨a1, by omega, a3⟩
        · exact q4 j (by
            rcases Nat.lt_or_ge i j with w | w
            · exact w
            · have : j = i := by omega
              rw [this] at h3
              exact absurd h0 h3) h2 h3
      · exact Or.inr q
    · have hc : ¬ (V (232 + i) 3 = 0 ∨ 30 ≤ nI k) := by
        intro h
        rcases h with h | h
        · exact h0 h
        · have e0 : (nz (fun x => V (232 + x) 3) i).toNat = 1 := by simp [nz, h0]
          exact nI_ge (b := 30) (by omega) (by omega) h
      rw [if_neg hc]
      have e0 : (nz (fun x => V (232 + x) 3) i).toNat = 1 := by simp [nz, h0]
      rw [e0] at hk ⊢
      obtain ⟨b, hb1, hb2⟩ := hby i (by omega) h0
      have ek : nI k + 1 = nI (k + 1) := nI_1 k
      have ek2 : 2 + nI (k + 1) = nI (2 + (k + 1)) := nI_add 2 (k + 1)
      rw [ek, ek2, hb2]
      rcases mWrite_on (V := V) (P := p1 P 114 (mPut (P 114) (nI (k + 1)) 1 (nI b))) (b := 2 + (k + 1)) (t := 80 + i) hon (by omega) with ⟨V1, w1, w2⟩ | ⟨V1, w1, w2⟩
      · rw [w1]
        simp only
        rw [if_neg (by decide)]
        rw [p1_n (show 80 + i ≠ 114 by omega)]
        have hr : ∀ x, V1 (232 + x) = V (232 + x) ∨ 35 ≤ x := fun x => by
          rcases Nat.lt_or_ge x 35 with w | w
          · left
            funext j
            exact w2.at (by omega)
          · exact Or.inr w
        have ec : cU (nz fun x => V1 (232 + x) 3) n (i + 1) = cU (nz fun x => V (232 + x) 3) n (i + 1) := cU_congr n (i + 1) (fun j h1 h2 => by
          exact dn_c (w2.at (by omega)))
        generalize hP1 : p1 (p1 P 114 (mPut (P 114) (nI (k + 1)) 1 (nI b))) (2 + (k + 1)) (P (80 + i)) = P1
        have p114 : P1 114 = mPut (P 114) (nI (k + 1)) 1 (nI b) := by rw [← hP1, p1_n (by omega), p1_s]
        have pslot : P1 (2 + (k + 1)) = P (80 + i) := by rw [← hP1, p1_s]
        have pn : ∀ t, t ≠ 114 → t ≠ 2 + (k + 1) → P1 t = P t := fun t h1 h2 => by rw [← hP1, p1_n h2, p1_n h1]
        rcases chL_spec n (i + 1) (k + 1) V1 P1 (by omega) (by rw [ec]; omega) (by rw [w2.on]; exact hon) (fun x hx h => by
          rw [w2.at (by omega)] at h
          rw [w2.at (by omega)]
          exact hby x hx h) with ⟨V', P', rw', q1, q2, q3, q4, q5, q6, q7⟩ | ⟨V', P', m, q1, q2, q3, q4⟩
        · left
          rw [ec] at q2 q3 q4 q5 q7
          refine ⟨V', P', fun x => if x = k + 1 then i else rw' x, q1, w2.tr q2, fun x h1 h2 => ?_, fun j h1 h2 h3 => ?_, ?_, fun x h1 h2 => ?_, fun t h1 h2 => ?_⟩
          · by_cases ex : x = k + 1
            · dsimp only
              rw [if_pos ex, ex]
              refine ⟨by omega, by omega, h0, ?_, ?_⟩
              · rw [q6 (k + 1) (by omega) (by omega), p114, mPut_s (by omega) (by omega), hb2]
              · rw [q7 (2 + (k + 1)) (by omega) (by omega), pslot]
            · dsimp only
              rw [if_neg ex]
              obtain ⟨a1, a2, a3, a4, a5⟩ := q3 x (by omega) (by omega)
              rw [w2.at (by omega)] at a3 a4
              refine ⟨a1, by omega, a3, a4, ?_⟩
              rw [a5, pn _ (by omega) (by omega)]
          · by_cases ej : j = i
            · exact ⟨k + 1, by omega, by omega, by dsimp only; rw [if_pos rfl, ej]⟩
            · obtain ⟨x, a1, a2, a3⟩ := q4 j (by omega) h2 (by rw [w2.at (by omega)]; exact h3)
              exact ⟨x, by omega, by omega, by dsimp only; rw [if_neg (by omega)]; exact a3⟩
          · rw [q5]
            congr 1
            omega
          · rw [q6 x h1 (by omega), p114, mPut_n (by omega) (by omega)]
          · rw [q7 t h1 (by omega), pn t h1 (by omega)]
        · right
          rw [ec] at q2
          refine ⟨V', P', 1 + m, q1, by omega, w2.no q3, fun t h1 h2 => ?_⟩
          rw [q4 t h1 h2, pn t h1 (by omega)]
      · rw [w1]
        simp only
        rw [if_pos trivial]
        right
        exact ⟨V1, _, 0, rfl, by omega, w2, fun t h1 h2 => p1_n h1⟩
