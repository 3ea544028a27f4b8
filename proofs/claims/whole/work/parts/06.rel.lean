/-! THE RELATION between the vault (V, P) and the reference (R, A), pure -/
abbrev isB (N b : Nat) : Prop := b < N ∧ (b < 2 ∨ 32 < b)
/-- a row that holds nothing -/
def eRow (V : VV) (i : Nat) : Prop := V (232 + i) 1 = -1 ∧ V (232 + i) 2 = 0 ∧ V (232 + i) 3 = 0 ∧ V (232 + i) 4 = 0
/-- a row that holds block b -/
def fRow (V P A : VV) (N i b : Nat) : Prop := isB N b ∧ V (232 + i) 1 = nI b ∧ V (232 + i) 2 = A 277 b ∧ ¬ A 277 b = 0 ∧ V (232 + i) 3 = A 275 b ∧ (V 266 4 = 0 → V (232 + i) 4 = 0) ∧ (¬ V 266 4 = 0 → V (232 + i) 4 = A 276 b) ∧ ∀ j, j < 1024 → P (80 + i) j = A 274 (1024 * b + j)
/-- the numbers that both have -/
def rA (V R : VV) (N u : Nat) : Prop := V 266 0 = nI N ∧ R 272 1 = nI N ∧ 40 ≤ N ∧ N ≤ 80 ∧ V 268 1 = nI u ∧ R 272 7 = nI u ∧ R 272 11 = V 267 3 ∧ R 272 12 = V 268 2 ∧ R 272 13 = V 269 2 ∧ R 272 9 = V 266 4 ∧ R 272 8 = V 267 1 ∧ (V 266 4 = 0 ∨ V 266 4 = 1) ∧ (V 267 1 = 0 ∨ V 267 1 = 1)
def rLf (V R : VV) : Prop := (V 267 2 < 0 ∧ R 272 10 = -1) ∨ (¬ V 267 2 < 0 ∧ R 272 10 = V 267 2)
/-- the rows and the reference's marks -/
def rRows (V P A : VV) (N u : Nat) : Prop :=
  (∀ i, i < 34 → eRow V i ∨ ∃ b, fRow V P A N i b) ∧
  (∀ i j b, i < 34 → j < 34 → b < 80 → V (232 + i) 1 = nI b → V (232 + j) 1 = nI b → i = j) ∧
  (∀ b, b < 80 → A 277 b = 0 ∨ (isB N b ∧ ∃ i, i < 34 ∧ V (232 + i) 1 = nI b)) ∧
  (∀ b, b < 80 → ∃ x, x ≤ u ∧ A 277 b = nI x) ∧
  (∀ b b', b < 80 → b' < 80 → A 277 b = A 277 b' → ¬ A 277 b = 0 → b = b') ∧
  (∀ b, b < 80 → (A 275 b = 0 ∨ A 275 b = 1) ∧ (¬ A 275 b = 0 → ¬ A 277 b = 0) ∧ (¬ V 266 4 = 0 → ¬ A 276 b = 0 → ¬ A 275 b = 0))
/-- how many -/
def rCnt (V A : VV) : Prop :=
  hR V 3 = hB (A 275) ∧ (¬ V 266 4 = 0 → hR V 4 = hB (A 276)) ∧ cU (fun i => decide (¬ V (232 + i) 1 = -1)) 34 0 = hB (A 277) ∧
  (V 266 4 = 0 → hB (A 275) ≤ 20) ∧ (¬ V 266 4 = 0 → hB (A 275) ≤ 20 + hB (A 276) ∧ hB (A 276) ≤ 10)
/-- the disk and what the reference keeps safe -/
def rDisk (P A : VV) (N : Nat) : Prop := P 2 0 = 0 ∧ ∀ b, isB N b → ∀ j, j < 1024 → P b j = A 273 (1024 * b + j)
def rClean (A : VV) (N : Nat) : Prop := ∀ b, isB N b → A 275 b = 0 → ∀ j, j < 1024 → A 274 (1024 * b + j) = A 273 (1024 * b + j)
def rOn (V P R A : VV) (N u : Nat) : Prop := rLf V R ∧ R 272 14 = -1 ∧ rRows V P A N u ∧ rCnt V A ∧ rDisk P A N ∧ rClean A N
/-- a commit that counts and was not ended -/
def rLog (P A : VV) (N n : Nat) (blk : Nat → Nat) : Prop := P 2 0 = nI n ∧
  (∀ i, 1 ≤ i → i ≤ n → isB N (blk i) ∧ P 2 i = nI (blk i) ∧ ∀ j, j < 1024 → P (2 + i) j = A 273 (1024 * blk i + j)) ∧
  ∀ b, isB N b → (∀ i, 1 ≤ i → i ≤ n → ¬ blk i = b) → ∀ j, j < 1024 → P b j = A 273 (1024 * b + j)
def rOff (V P R A : VV) (N : Nat) : Prop := V 266 4 = 0 ∧ (∀ i, i < 34 → eRow V i) ∧
  ((R 272 14 = -1 ∧ rDisk P A N) ∨ ∃ n blk, 1 ≤ n ∧ n ≤ 30 ∧ R 272 14 = nI n ∧ rLog P A N n blk)
def rel (V P R A : VV) (k : Nat) : Prop := ∃ N u, u ≤ k ∧ rA V R N u ∧ (V 267 1 = 1 → rOn V P R A N u) ∧ (V 267 1 = 0 → rOff V P R A N)
/-! what each side reads of the state -/
def sameC (V P V' P' : VV) : Prop := (∀ t, t < 272 → V' t = V t) ∧ ∀ t, t < 116 → P' t = P t
def sameR (R A R' A' : VV) : Prop := R' 272 = R 272 ∧ ∀ t, 272 < t → A' t = A t
theorem sameC.rf {V P : VV} : sameC V P V P := ⟨fun _ _ => rfl, fun _ _ => rfl⟩
theorem sameR.rf {V P : VV} : sameR V P V P := ⟨rfl, fun _ _ => rfl⟩
theorem sameC.tr {V P V' P' V'' P'' : VV} (h : sameC V P V' P') (h' : sameC V' P' V'' P'') : sameC V P V'' P'' := ⟨fun t ht => (h'.1 t ht).trans (h.1 t ht), fun t ht => (h'.2 t ht).trans (h.2 t ht)⟩
theorem sameR.tr {V P V' P' V'' P'' : VV} (h : sameR V P V' P') (h' : sameR V' P' V'' P'') : sameR V P V'' P'' := ⟨h'.1.trans h.1, fun t ht => (h'.2 t ht).trans (h.2 t ht)⟩
theorem rel_R {V P R A R' A' : VV} {k : Nat} (h : rel V P R A k) (hs : sameR R A R' A') : rel V P R' A' k := by
  obtain ⟨N, u, hu, h1, h2, h3⟩ := h
  have e3 := hs.2 273 (by omega)
  have e4 := hs.2 274 (by omega)
  have e5 := hs.2 275 (by omega)
  have e6 := hs.2 276 (by omega)
  have e7 := hs.2 277 (by omega)
  refine ⟨N, u, hu, ?_, fun hon => ?_, fun hoff => ?_⟩
  · simp only [rA, hs.1] at h1 ⊢
    exact h1
  · have := h2 hon
    simp only [rOn, rLf, rRows, fRow, rCnt, rDisk, rClean, hs.1, e3, e4, e5, e6, e7] at this ⊢
    exact this
  · have := h3 hoff
    simp only [rOff, rDisk, rLog, hs.1, e3] at this ⊢
    exact this
theorem hR_congr {V V' : VV} (h : ∀ t, t < 272 → V' t = V t) (k : Nat) : hR V' k = hR V k := cU_congr 34 0 (fun j _ hj => dn_c (congrFun (h (232 + j) (by omega)) k))
theorem rel_C {V P R A V' P' : VV} {k : Nat} (h : rel V P R A k) (hs : sameC V P V' P') : rel V' P' R A k := by
  obtain ⟨N, u, hu, h1, h2, h3⟩ := h
  have v266 := hs.1 266 (by omega)
  have v267 := hs.1 267 (by omega)
  have v268 := hs.1 268 (by omega)
  have v269 := hs.1 269 (by omega)
  have vr : ∀ i, i < 34 → V' (232 + i) = V (232 + i) := fun i hi => hs.1 _ (by omega)
  have pr : ∀ i, i < 34 → P' (80 + i) = P (80 + i) := fun i hi => hs.2 _ (by omega)
  have pd : ∀ b, b < 80 → P' b = P b := fun b hb => hs.2 _ (by omega)
  have hN : N ≤ 80 := h1.2.2.2.1
  have hdisk : rDisk P A N → rDisk P' A N := fun hd => ⟨by rw [pd 2 (by omega)]; exact hd.1, fun b hb j hj => by rw [pd b (by omega)]; exact hd.2 b hb j hj⟩
  refine ⟨N, u, hu, ?_, fun hon => ?_, fun hoff => ?_⟩
  · simp only [rA, v266, v267, v268, v269] at h1 ⊢
    exact h1
  · rw [v267] at hon
    obtain ⟨a1, a2, ⟨b1, b2, b3, b4, b5, b6⟩, ⟨c1, c2, c3, c4, c5⟩, a5, a6⟩ := h2 hon
    refine ⟨?_, a2, ⟨fun i hi => ?_, fun i j b hi hj hb e1 e2 => ?_, fun b hb => ?_, b4, b5, fun b hb => ?_⟩, ⟨?_, ?_, ?_, ?_, ?_⟩, hdisk a5, a6⟩
    · simp only [rLf, v267] at a1 ⊢
      exact a1
    · have := b1 i hi
      simp only [eRow, fRow, vr i hi, pr i hi, v266] at this ⊢
      exact this
    · rw [vr i hi] at e1
      rw [vr j hj] at e2
      exact b2 i j b hi hj hb e1 e2
    · rcases b3 b hb with q | ⟨q, i, hi, e⟩
      · exact Or.inl q
      · exact Or.inr ⟨q, i, hi, by rw [vr i hi]; exact e⟩
    · rw [v266]
      exact b6 b hb
    · rw [hR_congr hs.1]
      exact c1
    · rw [hR_congr hs.1, v266]
      exact c2
    · rw [← c3]
      exact cU_congr 34 0 (fun j _ hj => dn_c (congrFun (vr j (by omega)) 1))
    · rw [v266]
      exact c4
    · rw [v266]
      exact c5
  · rw [v267] at hoff
    obtain ⟨a1, a2, a3⟩ := h3 hoff
    refine ⟨by rw [v266]; exact a1, fun i hi => ?_, ?_⟩
    · have := a2 i hi
      simp only [eRow, vr i hi] at this ⊢
      exact this
    · rcases a3 with ⟨q1, q2⟩ | ⟨n, blk, q1, q2, q3, q4, q5, q6⟩
      · exact Or.inl ⟨q1, hdisk q2⟩
      · exact Or.inr ⟨n, blk, q1, q2, q3, by rw [pd 2 (by omega)]; exact q4, fun i h1 h2 => by rw [pd 2 (by omega), pd (2 + i) (by omega)]; exact q5 i h1 h2, fun b hb hn j hj => by rw [pd b (by omega)]; exact q6 b hb hn j hj⟩
theorem zR_at (k : Nat) : ∀ (n i : Nat) (V : VV) (t j : Nat), zR k n i V t j = if 232 + i ≤ t ∧ t < 232 + i + n ∧ j = k then 0 else V t j
  | 0, i, V, t, j => by
    rw [if_neg (by omega)]
    rfl
  | n + 1, i, V, t, j => by
    simp only [zR]
    rw [zR_at k n (i + 1) _ t j]
    by_cases h : 232 + (i + 1) ≤ t ∧ t < 232 + (i + 1) + n ∧ j = k
    · rw [if_pos h, if_pos (by omega)]
    · rw [if_neg h]
      by_cases h2 : t = 232 + i ∧ j = k
      · rw [if_pos (by omega), h2.1, h2.2, v2_s]
      · rw [if_neg (by omega), v2_n h2]
theorem mEmp_at (V : VV) (i t j : Nat) : mEmp V i t j = if t = 232 + i ∧ 1 ≤ j ∧ j ≤ 4 then (if j = 1 then -1 else 0) else V t j := by
  unfold mEmp v2
  by_cases ht : t = 232 + i
  · by_cases h4 : j = 4
    · simp [ht, h4]
    · by_cases h3 : j = 3
      · simp [ht, h3]
      · by_cases h2 : j = 2
        · simp [ht, h2]
        · by_cases h1 : j = 1
          · simp [ht, h1]
          · rw [if_neg (by omega), if_neg (by omega), if_neg (by omega), if_neg (by omega), if_neg (by omega)]
  · rw [if_neg (by omega), if_neg (by omega), if_neg (by omega), if_neg (by omega), if_neg (by omega)]
theorem eR_at : ∀ (n i : Nat) (V : VV) (t j : Nat), eR n i V t j = if 232 + i ≤ t ∧ t < 232 + i + n ∧ 1 ≤ j ∧ j ≤ 4 then (if j = 1 then -1 else 0) else V t j
  | 0, i, V, t, j => by
    rw [if_neg (by omega)]
    rfl
  | n + 1, i, V, t, j => by
    simp only [eR]
    rw [eR_at n (i + 1) _ t j, mEmp_at]
    by_cases h : 232 + (i + 1) ≤ t ∧ t < 232 + (i + 1) + n ∧ 1 ≤ j ∧ j ≤ 4
    · rw [if_pos h, if_pos (show 232 + i ≤ t ∧ t < 232 + i + (n + 1) ∧ 1 ≤ j ∧ j ≤ 4 by omega)]
    · rw [if_neg h]
      by_cases h2 : t = 232 + i ∧ 1 ≤ j ∧ j ≤ 4
      · rw [if_pos h2, if_pos (show 232 + i ≤ t ∧ t < 232 + i + (n + 1) ∧ 1 ≤ j ∧ j ≤ 4 by omega)]
      · rw [if_neg h2, if_neg (show ¬ (232 + i ≤ t ∧ t < 232 + i + (n + 1) ∧ 1 ≤ j ∧ j ≤ 4) by omega)]
