/-! COUNTING, SEARCHING: pure -/
def cU (q : Nat → Bool) : Nat → Nat → Nat
  | 0, _ => 0
  | n + 1, i => (q i).toNat + cU q n (i + 1)
theorem cU_congr {q q' : Nat → Bool} : ∀ (n i : Nat), (∀ j, i ≤ j → j < i + n → q j = q' j) → cU q n i = cU q' n i
  | 0, _, _ => rfl
  | n + 1, i, h => by
    simp only [cU]
    rw [h i (Nat.le_refl i) (by omega), cU_congr n (i + 1) (fun j h1 h2 => h j (by omega) (by omega))]
theorem cU_le (q : Nat → Bool) : ∀ (n i : Nat), cU q n i ≤ n
  | 0, _ => Nat.le_refl _
  | n + 1, i => by
    have := cU_le q n (i + 1)
    have h2 : (q i).toNat ≤ 1 := Bool.toNat_le _
    simp only [cU]
    omega
theorem cU_zero {q : Nat → Bool} : ∀ (n i : Nat), (∀ j, i ≤ j → j < i + n → q j = false) → cU q n i = 0
  | 0, _, _ => rfl
  | n + 1, i, h => by
    simp only [cU]
    rw [h i (Nat.le_refl i) (by omega), cU_zero n (i + 1) (fun j h1 h2 => h j (by omega) (by omega))]
    rfl
theorem cU_zero' {q : Nat → Bool} : ∀ (n i : Nat), cU q n i = 0 → ∀ j, i ≤ j → j < i + n → q j = false
  | 0, i, _, j, h1, h2 => by omega
  | n + 1, i, h, j, h1, h2 => by
    simp only [cU] at h
    by_cases e : j = i
    · subst e
      cases hq : q j with
      | false => rfl
      | true =>
        rw [hq] at h
        simp only [Bool.toNat_true] at h
        omega
    · exact cU_zero' n (i + 1) (by omega) j (by omega) (by omega)
theorem cU_full {q : Nat → Bool} : ∀ (n i : Nat), cU q n i = n → ∀ j, i ≤ j → j < i + n → q j = true
  | 0, i, _, j, h1, h2 => by omega
  | n + 1, i, h, j, h1, h2 => by
    simp only [cU] at h
    have h3 := cU_le q n (i + 1)
    have h4 : (q i).toNat ≤ 1 := Bool.toNat_le _
    by_cases e : j = i
    · subst e
      cases hq : q j with
      | true => rfl
      | false =>
        rw [hq] at h
        simp only [Bool.toNat_false] at h
        omega
    · exact cU_full n (i + 1) (by omega) j (by omega) (by omega)
/-- one place changed -/
theorem cU_set {q q' : Nat → Bool} {x : Nat} : ∀ (n i : Nat), i ≤ x → x < i + n → (∀ j, i ≤ j → j < i + n → j ≠ x → q' j = q j) → cU q' n i + (q x).toNat = cU q n i + (q' x).toNat
  | 0, i, h1, h2, _ => by omega
  | n + 1, i, h1, h2, h => by
    simp only [cU]
    by_cases e : i = x
    · subst e
      rw [cU_congr (q := q') (q' := q) n (i + 1) (fun j h3 h4 => h j (by omega) (by omega) (by omega))]
      omega
    · rw [h i (Nat.le_refl i) (by omega) e]
      have := cU_set (q := q) (q' := q') n (i + 1) (by omega) (by omega) (fun j h3 h4 h5 => h j (by omega) (by omega) h5)
      omega
theorem cU_sub {q q' : Nat → Bool} : ∀ (n i : Nat), (∀ j, i ≤ j → j < i + n → q j = true → q' j = true) → cU q n i ≤ cU q' n i
  | 0, _, _ => Nat.le_refl _
  | n + 1, i, h => by
    simp only [cU]
    have h1 := cU_sub (q := q) (q' := q') n (i + 1) (fun j h1 h2 => h j (by omega) (by omega))
    have h2 : (q i).toNat ≤ (q' i).toNat := by
      cases hq : q i with
      | false => simp
      | true => rw [h i (Nat.le_refl i) (by omega) hq]; exact Nat.le_refl _
    omega
abbrev nz (f : Nat → Int32) : Nat → Bool := fun j => decide (¬ f j = 0)
theorem dn_c {x y z : Int32} (h : x = y) : decide (¬ x = z) = decide (¬ y = z) := by
  subst h
  rfl
abbrev hR (V : VV) (k : Nat) : Nat := cU (nz fun i => V (232 + i) k) 34 0
abbrev hB (f : Nat → Int32) : Nat := cU (nz f) 80 0
theorem cR_eq (V : VV) (k : Nat) : ∀ (n i : Nat) (a : Nat), cR V k n i (nI a) = nI (a + cU (nz fun i => V (232 + i) k) n i)
  | 0, _, a => rfl
  | n + 1, i, a => by
    simp only [cR, cU]
    by_cases h : V (232 + i) k = 0
    · rw [if_pos h, cR_eq V k n (i + 1) a]
      simp [nz, h]
    · rw [if_neg h, nI_1, cR_eq V k n (i + 1) (a + 1)]
      simp only [nz, h, not_false_eq_true, decide_true, Bool.toNat_true]
      congr 1
      omega
theorem mCnt_eq (V : VV) (k : Nat) : mCnt V k = nI (hR V k) := by
  have := cR_eq V k 34 0 0
  rw [nI_0, Nat.zero_add] at this
  exact this
theorem cM_eq (f : Nat → Int32) : ∀ (n i : Nat) (a : Nat), cM f n i (nI a) = nI (a + cU (nz f) n i)
  | 0, _, a => rfl
  | n + 1, i, a => by
    simp only [cM, cU]
    by_cases h : f i = 0
    · rw [if_pos h, Int32.add_zero, cM_eq f n (i + 1) a]
      simp [nz, h]
    · rw [if_neg h, nI_1, cM_eq f n (i + 1) (a + 1)]
      simp only [nz, h, not_false_eq_true, decide_true, Bool.toNat_true]
      congr 1
      omega
theorem rMany_eq (f : Nat → Int32) : rMany f = nI (hB f) := by
  have := cM_eq f 80 0 0
  rw [nI_0, Nat.zero_add] at this
  exact this
/-- the first place -/
theorem fd_some {q : Nat → Bool} : ∀ (n i x : Nat), fd q n i = some x → i ≤ x ∧ x < i + n ∧ q x = true
  | 0, _, _, h => by simp [fd] at h
  | n + 1, i, x, h => by
    simp only [fd] at h
    by_cases e : q i = true
    · rw [if_pos e] at h
      cases h
      exact ⟨Nat.le_refl _, by omega, e⟩
    · rw [if_neg e] at h
      obtain ⟨a, b, c⟩ := fd_some n (i + 1) x h
      exact ⟨by omega, by omega, c⟩
theorem fd_none {q : Nat → Bool} : ∀ (n i : Nat), fd q n i = none → ∀ j, i ≤ j → j < i + n → q j = false
  | 0, i, _, j, h1, h2 => by omega
  | n + 1, i, h, j, h1, h2 => by
    simp only [fd] at h
    by_cases e : q i = true
    · rw [if_pos e] at h
      cases h
    · rw [if_neg e] at h
      by_cases ej : j = i
      · subst ej
        exact Bool.eq_false_iff.mpr e
      · exact fd_none n (i + 1) h j (by omega) (by omega)
theorem mRow_some {V : VV} {b : Int32} {i : Nat} (h : mRow V b = some i) : i < 34 ∧ V (232 + i) 1 = b := by
  obtain ⟨-, h2, h3⟩ := fd_some 34 0 i h
  exact ⟨by omega, by simpa using h3⟩
theorem mRow_none {V : VV} {b : Int32} (h : mRow V b = none) {i : Nat} (hi : i < 34) : ¬ V (232 + i) 1 = b := by
  have := fd_none 34 0 h i (by omega) (by omega)
  simpa using this
theorem gL_lt (V : VV) : ∀ (n i f : Nat), f < 34 → i + n ≤ 34 → gL V n i f < 34
  | 0, _, f, h, _ => h
  | n + 1, i, f, h, h2 => by
    simp only [gL]
    by_cases e : mGW V i f = 0
    · rw [if_pos e]
      exact gL_lt V n (i + 1) f h (by omega)
    · rw [if_neg e]
      exact gL_lt V n (i + 1) i (by omega) (by omega)
theorem mGive_lt (V : VV) : mGive V < 34 := gL_lt V 34 0 0 (by omega) (by omega)
theorem mLook_lt (V P : VV) (b : Int32) : (mLook V P b).1 < 34 := by
  unfold mLook
  split
  · rename_i i h
    exact (mRow_some h).1
  · exact mGive_lt V
