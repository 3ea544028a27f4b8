/-! THE REFERENCE'S METHODS: rows of its arrays, and what its loops make -/
theorem fit_b {v : Int32} (h : fits .byte (.int v) = true) : v.toInt8.toInt32 = v := by
  have h' : (decide ((-128 : Int32) ≤ v) && decide (v ≤ 127)) = true := h
  rw [Bool.and_eq_true, decide_eq_true_eq, decide_eq_true_eq] at h'
  have h1 := Int32.le_iff_toInt_le.mp h'.1
  have h2 := Int32.le_iff_toInt_le.mp h'.2
  have e1 : (-128 : Int32).toInt = -128 := by decide
  have e2 : (127 : Int32).toInt = 127 := by decide
  rw [e1] at h1
  rw [e2] at h2
  apply Int32.toInt_inj.mp
  rw [Int8.toInt_toInt32, Int32.toInt_toInt8]
  rw [Int.bmod_def]
  split <;> omega
theorem p1_p1 {P : VV} {t : Nat} {f g : Nat → Int32} : p1 (p1 P t f) t g = p1 P t g := by
  funext q
  by_cases hq : q = t
  · rw [hq, p1_s, p1_s]
  · rw [p1_n hq, p1_n hq, p1_n hq]
theorem p1_comm {P : VV} {t t' : Nat} {f g : Nat → Int32} (h : t ≠ t') : p1 (p1 P t f) t' g = p1 (p1 P t' g) t f := by
  funext q
  by_cases h1 : q = t
  · subst h1
    rw [p1_n h, p1_s, p1_s]
  · by_cases h2 : q = t'
    · subst h2
      rw [p1_s, p1_n h1, p1_s]
    · rw [p1_n h2, p1_n h1, p1_n h1, p1_n h2]
theorem zF_0 {f : Nat → Int32} : zF f 0 = f := by
  funext j
  unfold zF
  rw [if_neg (by omega)]
theorem zF_s {f : Nat → Int32} {i : Nat} : upd (zF f i) i 0 = zF f (i + 1) := by
  funext j
  by_cases e : j = i
  · rw [e, pk_us]
    unfold zF
    rw [if_pos (by omega)]
  · rw [pk_un e]
    unfold zF
    by_cases h : j < i
    · rw [if_pos h, if_pos (by omega)]
    · rw [if_neg h, if_neg (by omega)]
theorem z_step {P : VV} {t i : Nat} : p1 (p1 P t (zF (P t) i)) t (upd (p1 P t (zF (P t) i) t) i 0) = p1 P t (zF (P t) (i + 1)) := by
  rw [p1_s, p1_p1, zF_s]
theorem rNow_0 {P : VV} : rNow P 0 = P 274 := by
  funext j
  unfold rNow
  rw [if_neg (by omega)]
theorem rNow_s {P : VV} {i : Nat} : upd (rNow P i) i (P 273 i) = rNow P (i + 1) := by
  funext j
  by_cases e : j = i
  · rw [e, pk_us]
    unfold rNow
    rw [if_pos (by omega)]
  · rw [pk_un e]
    unfold rNow
    by_cases h : j < i
    · rw [if_pos h, if_pos (by omega)]
    · rw [if_neg h, if_neg (by omega)]
theorem now_step {P : VV} {i : Nat} : p1 (p1 P 274 (rNow P i)) 274 (upd (p1 P 274 (rNow P i) 274) i (p1 P 274 (rNow P i) 273 i)) = p1 P 274 (rNow P (i + 1)) := by
  rw [p1_s, p1_p1, p1_n (by omega), rNow_s]
theorem mRun_0 {g : Nat → Int32} {k : Nat} {v : Int32} : mRun g k v 0 = g := by
  funext j
  rw [mRun_at, if_neg (by omega)]
theorem mRun_u {g : Nat → Int32} {k i : Nat} {v : Int32} : upd (mRun g k v i) (k + i) (v + nI i).toInt8.toInt32 = mRun g k v (i + 1) := by
  funext j
  by_cases e : j = k + i
  · rw [e, pk_us, mRun_at, if_pos (by omega), show k + i - k = i by omega]
  · rw [pk_un e, mRun_at, mRun_at]
    by_cases c : k ≤ j ∧ j < k + i
    · rw [if_pos c, if_pos (by omega)]
    · rw [if_neg c, if_neg (by omega)]
theorem run_step {P : VV} {k i : Nat} {v : Int32} : p1 (p1 P 274 (mRun (P 274) k v i)) 274 (upd (p1 P 274 (mRun (P 274) k v i) 274) (k + i) (v + nI i).toInt8.toInt32) = p1 P 274 (mRun (P 274) k v (i + 1)) := by
  rw [p1_s, p1_p1, mRun_u]
/-- a block's bytes on their way into safe -/
def cpy (P : VV) (b n : Nat) : Nat → Int32 := fun j => if 1024 * b ≤ j ∧ j < 1024 * b + n then P 274 j else P 273 j
theorem cpy_0 {P : VV} {b : Nat} : cpy P b 0 = P 273 := by
  funext j
  unfold cpy
  rw [if_neg (by omega)]
theorem cpy_s {P : VV} {b i : Nat} : upd (cpy P b i) (1024 * b + i) (P 274 (1024 * b + i)) = cpy P b (i + 1) := by
  funext j
  by_cases e : j = 1024 * b + i
  · rw [e, pk_us]
    unfold cpy
    rw [if_pos (by omega)]
  · rw [pk_un e]
    unfold cpy
    by_cases c : 1024 * b ≤ j ∧ j < 1024 * b + i
    · rw [if_pos c, if_pos (by omega)]
    · rw [if_neg c, if_neg (by omega)]
theorem cpy_step {P : VV} {b i : Nat} : p1 (p1 P 273 (cpy P b i)) 273 (upd (p1 P 273 (cpy P b i) 273) (1024 * b + i) (p1 P 273 (cpy P b i) 274 (1024 * b + i))) = p1 P 273 (cpy P b (i + 1)) := by
  rw [p1_s, p1_p1, p1_n (by omega), cpy_s]
theorem rSafe_0 {P : VV} : rSafe P 0 = P 273 := by
  funext j
  unfold rSafe
  rw [if_neg (by omega)]
theorem rP_0 {P : VV} : rP P 0 = P := by
  unfold rP
  rw [rSafe_0, zF_0, p1_id, p1_id]
theorem rP_t {P : VV} {i : Nat} : rP P i 275 i = P 275 i := by
  unfold rP
  rw [p1_s]
  unfold zF
  rw [if_neg (by omega)]
/-- a block that isn't held -/
theorem rP_no {P : VV} {i : Nat} (h : P 275 i = 0) : p1 (rP P i) 275 (upd (rP P i 275) i 0) = rP P (i + 1) := by
  have e : rSafe P (i + 1) = rSafe P i := by
    funext j
    unfold rSafe
    by_cases c : j < 1024 * i
    · by_cases d : P 275 (j / 1024) = 0
      · rw [if_neg (fun q => q.2 d), if_neg (fun q => q.2 d)]
      · rw [if_pos ⟨by omega, d⟩, if_pos ⟨c, d⟩]
    · by_cases d : j < 1024 * (i + 1)
      · have hj : j / 1024 = i := by omega
        rw [if_neg (fun q => q.2 (by rw [hj]; exact h)), if_neg (fun q => c q.1)]
      · rw [if_neg (fun q => d q.1), if_neg (fun q => c q.1)]
  unfold rP
  rw [p1_s, p1_p1, zF_s, e]
theorem rP_yes {P : VV} {i : Nat} (h : ¬ P 275 i = 0) : p1 (p1 (rP P i) 273 (cpy (rP P i) i 1024)) 275 (upd (p1 (rP P i) 273 (cpy (rP P i) i 1024) 275) i 0) = rP P (i + 1) := by
  have e : cpy (rP P i) i 1024 = rSafe P (i + 1) := by
    funext j
    have e4 : rP P i 274 = P 274 := rP_o P i (by omega) (by omega)
    have e3 : rP P i 273 = rSafe P i := by
      unfold rP
      rw [p1_n (by omega), p1_s]
    unfold cpy
    rw [e4, e3]
    unfold rSafe
    by_cases c : 1024 * i ≤ j ∧ j < 1024 * i + 1024
    · have hj : j / 1024 = i := by omega
      rw [if_pos c, if_pos ⟨by omega, by rw [hj]; exact h⟩]
    · rw [if_neg c]
      by_cases c2 : j < 1024 * i
      · by_cases d : P 275 (j / 1024) = 0
        · rw [if_neg (fun q => q.2 d), if_neg (fun q => q.2 d)]
        · rw [if_pos ⟨c2, d⟩, if_pos ⟨by omega, d⟩]
      · rw [if_neg (fun q => c2 q.1), if_neg (fun q => by have := q.1; omega)]
  rw [e, p1_n (by omega)]
  unfold rP
  rw [p1_s, p1_comm (show (275 : Nat) ≠ 273 by omega), p1_p1, p1_p1, zF_s]
/-- the blocks of the reference -/
theorem rIsBlock_n {V : VV} {b : Int32} {N : Nat} (hN : V 272 1 = nI N) (h80 : N ≤ 80) (h : rIsBlock V b) : ∃ x, x < N ∧ b = nI x := by
  obtain ⟨h1, h2, -⟩ := h
  obtain ⟨x, x1, x2⟩ := nI_of h1
  subst x2
  rw [hN] at h2
  refine ⟨x, ?_, rfl⟩
  rcases Nat.lt_or_ge x N with q | q
  · exact q
  · exact absurd (nI_le q x1) h2
theorem to1023 {k : Int32} (h1 : ¬ k < 0) (h2 : k ≤ 1023) : ∃ x, x < 1024 ∧ k = nI x := by
  obtain ⟨x, x1, x2⟩ := nI_of h1
  subst x2
  refine ⟨x, ?_, rfl⟩
  have := (nI_leI (b := 1023) x1 (by omega)).mp h2
  omega
theorem ix_k (b k : Nat) : (1024 : Int32) * nI b + nI k = nI (1024 * b + k) := by
  rw [show (1024 : Int32) = nI 1024 by decide, pk_mul, nI_add]
theorem ix_0 (b : Nat) : (1024 : Int32) * nI b = nI (1024 * b) := by
  rw [show (1024 : Int32) = nI 1024 by decide, pk_mul]
theorem ix_e (b : Nat) : (1024 : Int32) * nI b + 1024 = nI (1024 * b + 1024) := ix_k b 1024
theorem ge_81920 {i : Nat} (h : i < 81920) : ¬ (81920 : Int32) ≤ nI i := by
  rw [show (81920 : Int32) = nI 81920 by decide]
  exact nI_ge h (by omega)
theorem le_81920 : (81920 : Int32) ≤ nI 81920 := by
  rw [show (81920 : Int32) = nI 81920 by decide]
  exact nI_le (Nat.le_refl _) (by omega)
theorem rWritten_b (V : VV) (n : Int32) : (rWritten V n).1 = 0 ∨ (rWritten V n).1 = 1 := by
  unfold rWritten
  by_cases c : V 272 10 < 0
  · rw [if_pos c]
    exact Or.inr rfl
  · rw [if_neg c]
    by_cases d : V 272 10 < n
    · rw [if_pos d]
      exact Or.inl rfl
    · rw [if_neg d]
      exact Or.inr rfl
theorem nb_1 {r x : Int32} {V1 V2 P1 P2 : VV} (h : (r, V1, P1) = (x, V2, P2)) (hx : x = 0 ∨ x = 1) : narrow .boolean (.int r) = .int r := by
  cases h
  rcases hx with h | h <;> rw [h] <;> rfl
theorem w10 {V : VV} {n : Int32} {t k : Nat} (h : ¬ (t = 272 ∧ (k = 8 ∨ k = 10 ∨ k = 11))) : (rWritten V n).2 t k = V t k := by
  have q : ∀ j, (j = 8 ∨ j = 10 ∨ j = 11) → ¬ (t = 272 ∧ k = j) := fun j hj hh => h ⟨hh.1, by rw [hh.2]; exact hj⟩
  unfold rWritten
  by_cases c : V 272 10 < 0
  · rw [if_pos c]
    dsimp only
    rw [v2_n (q 10 (by omega)), v2_n (q 11 (by omega))]
  · rw [if_neg c]
    by_cases d : V 272 10 < n
    · rw [if_pos d]
      dsimp only
      rw [v2_n (q 8 (by omega)), v2_n (q 10 (by omega)), v2_n (q 11 (by omega))]
    · rw [if_neg d]
      dsimp only
      rw [v2_n (q 10 (by omega)), v2_n (q 11 (by omega))]
section MDR
variable {p : Program} {l : Launch} {e : Env} {R : Room} {s : State} {m : MethodId} {args : Array Value} {below : List Frame} {meth : Method} {c : Code} {H : Heap} {locs : List Loc} {cells slots : Nat} {Q : State → Prop}
variable {cc : ByteArray} {pc : Nat} {ls : Array Slot} {rest : List Value} {D : va_G} {B : Nat} {cA : Nat → ClassId} {sh : Nat → Nat} {V P : VV} {H0 : Heap}
theorem jw_zald (hexec : p.tables.exec = Jvm.exec) (hb : c.code = cc) (hK : va_K D vwCl (tysA cA) s) (hW : JW D B cA sh V P H) {t i : Nat} (hm : mar t = some (80, 3)) {x : Int32} (hx : x = nI i) (hi : i < 80) (hdg : decode cc pc = .ok (.baload, 1))
    (kk : W p l e R s m args below meth c H locs cells slots Q (F0 m (pc + 1) ls (.int (P t i) :: rest))) : W p l e R s m args below meth c H locs cells slots Q (F0 m pc ls (.int x :: .ref (sh t) :: rest)) := by
  subst hx
  refine va_zald hexec hb hK (hW.mar hm) 0 3 rfl rfl (vp_in_nI hi (by omega)) hdg ?_
  rw [nI_clamp (by omega)]
  exact kk
theorem jw_bald (hexec : p.tables.exec = Jvm.exec) (hb : c.code = cc) (hK : va_K D vwCl (tysA cA) s) (hW : JW D B cA sh V P H) {t i : Nat} (hm : mar t = some (81920, 0)) {x : Int32} (hx : x = nI i) (hi : i < 81920) (hdg : decode cc pc = .ok (.baload, 1))
    (kk : (P t i).toInt8.toInt32 = P t i → W p l e R s m args below meth c H locs cells slots Q (F0 m (pc + 1) ls (.int (P t i) :: rest))) : W p l e R s m args below meth c H locs cells slots Q (F0 m pc ls (.int x :: .ref (sh t) :: rest)) := by
  subst hx
  have hf : bfit (P t) 81920 := by
    obtain ⟨h, hP, hJ⟩ := hW
    rcases mar_byte hm with h1 | h1
    · rw [h1]
      exact hJ.2.2.2.2.2.1
    · rw [h1]
      exact hJ.2.2.2.2.2.2
  refine va_bald hexec hb hK (hW.mar hm) 0 0 rfl rfl (vp_in_nI hi (by omega)) hdg ?_
  rw [nI_clamp (by omega)]
  exact kk (fit_b (hf i hi))
theorem jw_iald (hexec : p.tables.exec = Jvm.exec) (hb : c.code = cc) (hK : va_K D vwCl (tysA cA) s) (hW : JW D B cA sh V P H) {i : Nat} {x : Int32} (hx : x = nI i) (hi : i < 80) (hdg : decode cc pc = .ok (.iaload, 1))
    (kk : W p l e R s m args below meth c H locs cells slots Q (F0 m (pc + 1) ls (.int (P 277 i) :: rest))) : W p l e R s m args below meth c H locs cells slots Q (F0 m pc ls (.int x :: .ref (sh 277) :: rest)) := by
  subst hx
  refine va_iald hexec hb hK (hW.mar (t := 277) (n := 80) (k := 4) rfl) 0 4 rfl rfl (vp_in_nI hi (by omega)) hdg ?_
  rw [nI_clamp (by omega)]
  exact kk
theorem jw_ialdI (hexec : p.tables.exec = Jvm.exec) (hb : c.code = cc) (hK : va_K D vwCl (tysA cA) s) (hW : JW D B cA sh V P H) {x : Int32} (hi : vp_in x 80) (hdg : decode cc pc = .ok (.iaload, 1))
    (kk : W p l e R s m args below meth c H locs cells slots Q (F0 m (pc + 1) ls (.int (P 277 x.toNatClampNeg) :: rest))) : W p l e R s m args below meth c H locs cells slots Q (F0 m pc ls (.int x :: .ref (sh 277) :: rest)) :=
  va_iald hexec hb hK (hW.mar (t := 277) (n := 80) (k := 4) rfl) 0 4 rfl rfl hi hdg kk
theorem jw_zastN (hexec : p.tables.exec = Jvm.exec) (hb : c.code = cc) (hK : va_K D vwCl (tysA cA) s) (hW : JW D B cA sh V P H) (hS : va_S (hm_A B) H0 H locs) {t i : Nat} (hm : mar t = some (80, 3)) {x v : Int32} (hx : x = nI i) (hi : i < 80) (hv : vp_nar .boolean v = v) (hdg : decode cc pc = .ok (.bastore, 1))
    (kk : ∀ (H1 : Heap) (locs1 : List Loc), JW D B cA sh V (p1 P t (upd (P t) i v)) H1 → va_S (hm_A B) H0 H1 locs1 → W p l e R s m args below meth c H1 locs1 cells slots Q (F0 m (pc + 1) ls rest)) : W p l e R s m args below meth c H locs cells slots Q (F0 m pc ls (.int v :: .int x :: .ref (sh t) :: rest)) := by
  subst hx
  refine jw_zast hexec hb hK hW hS hm (vp_in_nI hi (by omega)) hdg (fun H1 locs1 hW1 hS1 => kk H1 locs1 ?_ hS1)
  rw [nI_clamp (by omega), hv] at hW1
  exact hW1
theorem jw_bastN (hexec : p.tables.exec = Jvm.exec) (hb : c.code = cc) (hK : va_K D vwCl (tysA cA) s) (hW : JW D B cA sh V P H) (hS : va_S (hm_A B) H0 H locs) {t i : Nat} (hm : mar t = some (81920, 0)) {x v : Int32} (hx : x = nI i) (hi : i < 81920) (hv : v.toInt8.toInt32 = v) (hdg : decode cc pc = .ok (.bastore, 1))
    (kk : ∀ (H1 : Heap) (locs1 : List Loc), JW D B cA sh V (p1 P t (upd (P t) i v)) H1 → va_S (hm_A B) H0 H1 locs1 → W p l e R s m args below meth c H1 locs1 cells slots Q (F0 m (pc + 1) ls rest)) : W p l e R s m args below meth c H locs cells slots Q (F0 m pc ls (.int v :: .int x :: .ref (sh t) :: rest)) := by
  subst hx
  refine jw_bast hexec hb hK hW hS hm (vp_in_nI hi (by omega)) hdg (fun H1 locs1 hW1 hS1 => kk H1 locs1 ?_ hS1)
  rw [nI_clamp (by omega), hv] at hW1
  exact hW1
theorem jw_iastN (hexec : p.tables.exec = Jvm.exec) (hb : c.code = cc) (hK : va_K D vwCl (tysA cA) s) (hW : JW D B cA sh V P H) (hS : va_S (hm_A B) H0 H locs) {i : Nat} {x v : Int32} (hx : x = nI i) (hi : i < 80) (hdg : decode cc pc = .ok (.iastore, 1))
    (kk : ∀ (H1 : Heap) (locs1 : List Loc), JW D B cA sh V (p1 P 277 (upd (P 277) i v)) H1 → va_S (hm_A B) H0 H1 locs1 → W p l e R s m args below meth c H1 locs1 cells slots Q (F0 m (pc + 1) ls rest)) : W p l e R s m args below meth c H locs cells slots Q (F0 m pc ls (.int v :: .int x :: .ref (sh 277) :: rest)) := by
  subst hx
  refine jw_iast hexec hb hK hW hS (vp_in_nI hi (by omega)) hdg (fun H1 locs1 hW1 hS1 => kk H1 locs1 ?_ hS1)
  rw [nI_clamp (by omega)] at hW1
  exact hW1
end MDR
