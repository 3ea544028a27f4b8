/-! THE WORLD: both systems as numbers V (name of an object, number of its field) and rows of numbers P (name of an array or page).
NAMES: 0..79 the disk's pages, 80..113 the rows' pages, 114 the log's head, 115 what it carries; 116 + t the bytes of page t; 232 + i the rows; 266 the vault, 267 its disk, 268 its cache, 269 its log, 270 the disk's array of pages, 271 the cache's array of rows; 272 the reference, 273 .. 277 its arrays (safe, now, held, changed, stamp). sh: where a name's cell lies. -/
abbrev VV : Type := Nat → Nat → Int32
def v2 (V : VV) (t k : Nat) (x : Int32) : VV := fun t' k' => if t' = t ∧ k' = k then x else V t' k'
def p1 (P : VV) (t : Nat) (f : Nat → Int32) : VV := fun t' => if t' = t then f else P t'
theorem v2_s {V : VV} {t k : Nat} {x : Int32} : v2 V t k x t k = x := by simp [v2]
theorem v2_n {V : VV} {t k t' k' : Nat} {x : Int32} (h : ¬ (t' = t ∧ k' = k)) : v2 V t k x t' k' = V t' k' := by simp only [v2, if_neg h]
theorem v2_t {V : VV} {t k t' k' : Nat} {x : Int32} (h : t' ≠ t) : v2 V t k x t' k' = V t' k' := v2_n (fun q => h q.1)
theorem v2_k {V : VV} {t k t' k' : Nat} {x : Int32} (h : k' ≠ k) : v2 V t k x t' k' = V t' k' := v2_n (fun q => h q.2)
theorem p1_s {P : VV} {t : Nat} {f : Nat → Int32} : p1 P t f t = f := by simp [p1]
theorem p1_n {P : VV} {t t' : Nat} {f : Nat → Int32} (h : t' ≠ t) : p1 P t f t' = P t' := by simp only [p1, if_neg h]
/-- an object's number in vwCl, and its fields: a number of its own, or the name that it holds -/
def lay (t : Nat) : Option (Nat × List (Option Nat)) :=
  if t = 266 then some (5, [none, some 267, some 268, some 269, none])
  else if t = 267 then some (1, [some 270, none, none, none])
  else if t = 268 then some (0, [some 271, none, none])
  else if t = 269 then some (2, [some 114, some 115, none])
  else if t = 272 then some (6, [none, none, some 273, some 274, some 275, some 276, some 277, none, none, none, none, none, none, none, none])
  else if 232 ≤ t ∧ t < 266 then some (4, [some (t - 152), none, none, none, none])
  else none
theorem lay_row {i : Nat} (h : i < 34) : lay (232 + i) = some (4, [some (80 + i), none, none, none, none]) := by
  unfold lay
  rw [if_neg (by omega), if_neg (by omega), if_neg (by omega), if_neg (by omega), if_neg (by omega), if_pos (by omega)]
  rw [show 232 + i - 152 = 80 + i by omega]
theorem lay_lo {t : Nat} (h : t < 232) : lay t = none := by
  unfold lay
  rw [if_neg (by omega), if_neg (by omega), if_neg (by omega), if_neg (by omega), if_neg (by omega), if_neg (by omega)]
theorem lay_hi {t : Nat} (h : 272 < t) : lay t = none := by
  unfold lay
  rw [if_neg (by omega), if_neg (by omega), if_neg (by omega), if_neg (by omega), if_neg (by omega), if_neg (by omega)]
theorem lay_270 : lay 270 = none := by decide
theorem lay_271 : lay 271 = none := by decide
def fvals (sh : Nat → Nat) (V : VV) (t : Nat) : Nat → List (Option Nat) → List Value
  | _, [] => []
  | k, none :: r => .int (V t k) :: fvals sh V t (k + 1) r
  | k, some t' :: r => .ref (sh t') :: fvals sh V t (k + 1) r
theorem fvals_len (sh : Nat → Nat) (V : VV) (t : Nat) : ∀ (k : Nat) (l : List (Option Nat)), (fvals sh V t k l).length = l.length
  | _, [] => rfl
  | k, none :: r => by simp [fvals, fvals_len sh V t (k + 1) r]
  | k, some t' :: r => by simp [fvals, fvals_len sh V t (k + 1) r]
theorem fvals_eq {sh : Nat → Nat} {V V' : VV} {t : Nat} : ∀ (k : Nat) (l : List (Option Nat)), (∀ j, k ≤ j → V' t j = V t j) → fvals sh V' t k l = fvals sh V t k l
  | _, [], _ => rfl
  | k, none :: r, h => by simp only [fvals]; rw [h k (Nat.le_refl k), fvals_eq (k + 1) r (fun j hj => h j (by omega))]
  | k, some t' :: r, h => by simp only [fvals]; rw [fvals_eq (k + 1) r (fun j hj => h j (by omega))]
theorem fvals_set {sh : Nat → Nat} {V : VV} {t : Nat} {x : Int32} : ∀ (j k : Nat) (l : List (Option Nat)), l[k]? = some none → (fvals sh V t j l).set k (.int x) = fvals sh (v2 V t (j + k) x) t j l
  | _, k, [], h => by simp at h
  | j, 0, none :: r, _ => by
    simp only [fvals, List.set_cons_zero, Nat.add_zero, v2_s]
    rw [fvals_eq (V := V) (j + 1) r (fun i hi => v2_k (by omega))]
  | j, 0, some t' :: r, h => by simp at h
  | j, k + 1, none :: r, h => by
    simp only [fvals, List.set_cons_succ]
    rw [fvals_set (j + 1) k r (by simpa using h), v2_k (show j ≠ j + (k + 1) by omega), show j + 1 + k = j + (k + 1) by omega]
  | j, k + 1, some t' :: r, h => by
    simp only [fvals, List.set_cons_succ]
    rw [fvals_set (j + 1) k r (by simpa using h), show j + 1 + k = j + (k + 1) by omega]
/-- the reference's arrays: how long, and the number of their kind in tysA -/
def mar (t : Nat) : Option (Nat × Nat) := if t = 273 ∨ t = 274 then some (81920, 0) else if t = 275 ∨ t = 276 then some (80, 3) else if t = 277 then some (80, 4) else none
theorem mar_spec {t n k : Nat} (h : mar t = some (n, k)) : 273 ≤ t ∧ t ≤ 277 := by
  unfold mar at h
  by_cases h1 : t = 273 ∨ t = 274
  · omega
  · rw [if_neg h1] at h
    by_cases h2 : t = 275 ∨ t = 276
    · omega
    · rw [if_neg h2] at h
      by_cases h3 : t = 277
      · omega
      · rw [if_neg h3] at h
        cases h
def bfit (g : Nat → Int32) (n : Nat) : Prop := ∀ k, k < n → fits .byte (.int (g k)) = true
abbrev aRef (cA : ClassId) (n : Nat) (f : Nat → Option Nat) : va_E := .inl (cA, n, .inr (.inr (.inr (.inr f))))
abbrev aInt (cA : ClassId) (n : Nat) (f : Nat → Int32) : va_E := .inl (cA, n, .inl f)
/-- a page: nothing (all 0), or its bytes -/
def pgAt (cA : Nat → ClassId) (sh : Nat → Nat) (h : hm_T) (t : Nat) (g : Nat → Int32) : Prop :=
  (h (sh t) = some (t, .inr (3, [.null])) ∧ (∀ k, k < 1024 → g k = 0) ∧ ∀ (q : Nat) (e : va_E), h q ≠ some (116 + t, e)) ∨
  ∃ (b : Nat) (g0 : Nat → Int32), h (sh t) = some (t, .inr (3, [.ref b])) ∧ h b = some (116 + t, aInt (cA 0) 1024 g0) ∧ (∀ k, k < 1024 → g0 k = g k) ∧ bfit g0 1024
def JH (cA : Nat → ClassId) (sh : Nat → Nat) (V P : VV) (h : hm_T) : Prop :=
  (∀ (t ci : Nat) (fl : List (Option Nat)), lay t = some (ci, fl) → h (sh t) = some (t, .inr (ci, fvals sh V t 0 fl))) ∧
  (∃ f, h (sh 270) = some (270, aRef (cA 1) 80 f) ∧ ∀ i, i < 80 → f i = some (sh i)) ∧
  (∃ f, h (sh 271) = some (271, aRef (cA 2) 34 f) ∧ ∀ i, i < 34 → f i = some (sh (232 + i))) ∧
  (∀ t, t < 116 → pgAt cA sh h t (P t)) ∧
  (∀ (t n k : Nat), mar t = some (n, k) → h (sh t) = some (t, aInt (cA k) n (P t))) ∧
  bfit (P 273) 81920 ∧ bfit (P 274) 81920
theorem pgAt.cell {cA : Nat → ClassId} {sh : Nat → Nat} {h : hm_T} {t : Nat} {g : Nat → Int32} (hp : pgAt cA sh h t g) : ∃ x : Value, h (sh t) = some (t, .inr (3, [x])) := by
  rcases hp with ⟨h1, -⟩ | ⟨b, g0, h1, -⟩
  · exact ⟨_, h1⟩
  · exact ⟨_, h1⟩
/-- a page that other cells' changes leave alone -/
theorem pgAt.kept {cA : Nat → ClassId} {sh : Nat → Nat} {h h' : hm_T} {t : Nat} {g : Nat → Int32} (hp : pgAt cA sh h t g) (h1 : ∀ (q t' : Nat) (e : va_E), (t' = t ∨ t' = 116 + t) → h q = some (t', e) → h' q = some (t', e)) (h2 : ∀ (q : Nat) (e : va_E), h' q = some (116 + t, e) → h q = some (116 + t, e)) : pgAt cA sh h' t g := by
  rcases hp with ⟨a1, a2, a3⟩ | ⟨b, g0, a1, a2, a3, a4⟩
  · exact Or.inl ⟨h1 _ _ _ (Or.inl rfl) a1, a2, fun q e hq => a3 q e (h2 q e hq)⟩
  · exact Or.inr ⟨b, g0, h1 _ _ _ (Or.inl rfl) a1, h1 _ _ _ (Or.inr rfl) a2, a3, a4⟩
/-- one cell's change, whose tag is none of the page's -/
theorem pgAt.up {cA : Nat → ClassId} {sh : Nat → Nat} {h : hm_T} {t : Nat} {g : Nat → Int32} (hp : pgAt cA sh h t g) {a t0 : Nat} {e0 e1 : va_E} (ha : h a = some (t0, e0)) (n1 : t0 ≠ t) (n2 : t0 ≠ 116 + t) : pgAt cA sh (hm_up h a (t0, e1)) t g := by
  refine hp.kept (fun q t' e ht hq => ?_) (fun q e hq => ?_)
  · rw [hm_up_n (hm_ne hq ha (by omega))]
    exact hq
  · by_cases hqa : q = a
    · subst hqa
      rw [hm_up_s] at hq
      cases hq
      exact absurd rfl n2
    · rw [hm_up_n hqa] at hq
      exact hq
theorem JH.put {cA : Nat → ClassId} {sh : Nat → Nat} {V P : VV} {h : hm_T} (hJ : JH cA sh V P h) {t ci k : Nat} {fl : List (Option Nat)} (hl : lay t = some (ci, fl)) (hf : fl[k]? = some none) (x : Int32) :
    JH cA sh (v2 V t k x) P (hm_up h (sh t) (t, .inr (ci, (fvals sh V t 0 fl).set k (.int x)))) := by
  obtain ⟨j1, ⟨f1, j2, j2'⟩, ⟨f2, j3, j3'⟩, j4, j5, j6⟩ := hJ
  have ht := j1 t ci fl hl
  have hlo : 232 ≤ t := by
    rcases Nat.lt_or_ge t 232 with q | q
    · rw [lay_lo q] at hl
      cases hl
    · exact q
  have n270 : (270 : Nat) ≠ t := fun q => by rw [← q, lay_270] at hl; cases hl
  have n271 : (271 : Nat) ≠ t := fun q => by rw [← q, lay_271] at hl; cases hl
  refine ⟨fun t' ci' fl' hl' => ?_, ⟨f1, ?_, j2'⟩, ⟨f2, ?_, j3'⟩, fun t' ht' => ?_, fun t' n k' hm => ?_, j6⟩
  · by_cases e : t' = t
    · subst e
      rw [hl] at hl'
      cases hl'
      rw [hm_up_s, fvals_set 0 k fl hf, Nat.zero_add]
    · rw [hm_up_n (hm_ne (j1 t' ci' fl' hl') ht e), j1 t' ci' fl' hl', fvals_eq (V := V) 0 fl' (fun j _ => v2_t e)]
  · rw [hm_up_n (hm_ne j2 ht n270)]
    exact j2
  · rw [hm_up_n (hm_ne j3 ht n271)]
    exact j3
  · exact (j4 t' ht').up ht (by omega) (by omega)
  · have hr := mar_spec hm
    have hn : t' ≠ t := fun q => by
      rw [q] at hr
      rw [lay_hi (by omega)] at hl
      cases hl
    rw [hm_up_n (hm_ne (j5 t' n k' hm) ht hn)]
    exact j5 t' n k' hm
/-- a page's change: its own two cells alone -/
theorem JH.page {cA : Nat → ClassId} {sh : Nat → Nat} {V P : VV} {h h' : hm_T} (hJ : JH cA sh V P h) {t : Nat} (ht : t < 116) {g : Nat → Int32} (h1 : ∀ (q t' : Nat) (e : va_E), t' ≠ t → t' ≠ 116 + t → h q = some (t', e) → h' q = some (t', e)) (h2 : ∀ (q t' : Nat) (e : va_E), t' ≠ t → t' ≠ 116 + t → h' q = some (t', e) → h q = some (t', e)) (hg : pgAt cA sh h' t g) : JH cA sh V (p1 P t g) h' := by
  obtain ⟨j1, ⟨f1, j2, j2'⟩, ⟨f2, j3, j3'⟩, j4, j5, j6⟩ := hJ
  refine ⟨fun t' ci' fl' hl' => ?_, ⟨f1, h1 _ _ _ (by omega) (by omega) j2, j2'⟩, ⟨f2, h1 _ _ _ (by omega) (by omega) j3, j3'⟩, fun t' ht' => ?_, fun t' n k' hm => ?_, ?_⟩
  · have hlo : 232 ≤ t' := by
      rcases Nat.lt_or_ge t' 232 with q | q
      · rw [lay_lo q] at hl'
        cases hl'
      · exact q
    exact h1 _ _ _ (by omega) (by omega) (j1 t' ci' fl' hl')
  · by_cases e : t' = t
    · subst e
      rw [p1_s]
      exact hg
    · rw [p1_n e]
      exact (j4 t' ht').kept (fun q t'' e'' ho hq => h1 q t'' e'' (by omega) (by omega) hq) (fun q e'' hq => h2 q _ e'' (by omega) (by omega) hq)
  · have hr := mar_spec hm
    rw [p1_n (by omega)]
    exact h1 _ _ _ (by omega) (by omega) (j5 t' n k' hm)
  · rw [p1_n (by omega), p1_n (by omega)]
    exact j6
theorem JH.arr {cA : Nat → ClassId} {sh : Nat → Nat} {V P : VV} {h : hm_T} (hJ : JH cA sh V P h) {t n k : Nat} (hm : mar t = some (n, k)) (g : Nat → Int32) (hb : t = 273 ∨ t = 274 → bfit g 81920) : JH cA sh V (p1 P t g) (hm_up h (sh t) (t, aInt (cA k) n g)) := by
  obtain ⟨j1, ⟨f1, j2, j2'⟩, ⟨f2, j3, j3'⟩, j4, j5, j6⟩ := hJ
  have hr := mar_spec hm
  have ht := j5 t n k hm
  refine ⟨fun t' ci' fl' hl' => ?_, ⟨f1, ?_, j2'⟩, ⟨f2, ?_, j3'⟩, fun t' ht' => ?_, fun t' n' k' hm' => ?_, ?_⟩
  · have hhi : t' ≤ 272 := by
      rcases Nat.lt_or_ge 272 t' with q | q
      · rw [lay_hi q] at hl'
        cases hl'
      · exact q
    rw [hm_up_n (hm_ne (j1 t' ci' fl' hl') ht (by omega))]
    exact j1 t' ci' fl' hl'
  · rw [hm_up_n (hm_ne j2 ht (by omega))]
    exact j2
  · rw [hm_up_n (hm_ne j3 ht (by omega))]
    exact j3
  · rw [p1_n (by omega)]
    exact (j4 t' ht').up ht (by omega) (by omega)
  · by_cases e : t' = t
    · subst e
      rw [hm] at hm'
      cases hm'
      rw [hm_up_s, p1_s]
    · rw [hm_up_n (hm_ne (j5 t' n' k' hm') ht e), p1_n e]
      exact j5 t' n' k' hm'
  · constructor
    · by_cases e : 273 = t
      · subst e
        rw [p1_s]
        exact hb (Or.inl rfl)
      · rw [p1_n e]
        exact j6.1
    · by_cases e : 274 = t
      · subst e
        rw [p1_s]
        exact hb (Or.inr rfl)
      · rw [p1_n e]
        exact j6.2
abbrev tysA (cA : Nat → ClassId) : List (ClassId × FieldType) := [(cA 0, .byte), (cA 1, .object "BlockVault$Page"), (cA 2, .object "BlockVault$Row"), (cA 3, .boolean), (cA 4, .int)]
def JW (D : va_G) (B : Nat) (cA : Nat → ClassId) (sh : Nat → Nat) (V P : VV) (H : Heap) : Prop := ∃ h : hm_T, hm_P D vwCl B h H ∧ JH cA sh V P h
def JC (D : va_G) (B : Nat) (cA : Nat → ClassId) (sh : Nat → Nat) (u : VV × VV) (U : State) : Prop := JW D B cA sh u.1 u.2 U.heap ∧ va_K D vwCl (tysA cA) U ∧ JN U
theorem JW.obj {D : va_G} {B : Nat} {cA : Nat → ClassId} {sh : Nat → Nat} {V P : VV} {H : Heap} (hW : JW D B cA sh V P H) {t ci : Nat} {fl : List (Option Nat)} (hl : lay t = some (ci, fl)) : va_P D vwCl [(sh t, .inr (ci, fvals sh V t 0 fl))] H := by
  obtain ⟨h, hP, hJ⟩ := hW
  exact hP.one (hJ.1 t ci fl hl)
theorem JW.mar {D : va_G} {B : Nat} {cA : Nat → ClassId} {sh : Nat → Nat} {V P : VV} {H : Heap} (hW : JW D B cA sh V P H) {t n k : Nat} (hl : mar t = some (n, k)) : va_P D vwCl [(sh t, aInt (cA k) n (P t))] H := by
  obtain ⟨h, hP, hJ⟩ := hW
  exact hP.one (hJ.2.2.2.2.1 t n k hl)
theorem JW.ge {D : va_G} {B : Nat} {cA : Nat → ClassId} {sh : Nat → Nat} {V P : VV} {H : Heap} (hW : JW D B cA sh V P H) : B ≤ H.size := by
  obtain ⟨h, hP, -⟩ := hW
  exact hP.1
theorem JC.blind {D : va_G} {B : Nat} {cA : Nat → ClassId} {sh : Nat → Nat} {u : VV × VV} {av : List Value} : FrameBlind (va_Pc av (JC D B cA sh u)) := fun a U g mk q =>
  ⟨q.1, q.2.1, va_K.moved (u := U) (U := U.calling g mk a) (Vm.Alike.refl U.vm) q.2.2.1, q.2.2.2.same rfl⟩
theorem jw_preS {D : va_G} {B : Nat} {cA : Nat → ClassId} {sh : Nat → Nat} {V P : VV} {H : Heap} {s : State} {As : List Value} (hW : JW D B cA sh V P H) (hK : va_K D vwCl (tysA cA) s) (hN : JN s) : PreS s H (va_Pc As (JC D B cA sh (V, P))) As :=
  ⟨JC.blind, fun U hU hw => ⟨rfl, by rw [hU]; exact hW, va_K.moved hw.alike hK, hN.warm hw⟩⟩
theorem jw_preV {D : va_G} {B : Nat} {cA : Nat → ClassId} {sh : Nat → Nat} {V P : VV} {H : Heap} {s : State} {t ci : Nat} {fl : List (Option Nat)} {q : vw_C} {As : List Value} (hW : JW D B cA sh V P H) (hK : va_K D vwCl (tysA cA) s) (hN : JN s) (hl : lay t = some (ci, fl)) (hc : vwCl[ci]? = some q) :
    PreV s H q.1 (sh t) (va_Pc (.ref (sh t) :: As) (JC D B cA sh (V, P))) As :=
  ⟨JC.blind, va_recv hK (hW.obj hl) hc (q0 := 0) rfl, fun U hU hw => ⟨rfl, by rw [hU]; exact hW, va_K.moved hw.alike hK, hN.warm hw⟩⟩
theorem jw_preP {D : va_G} {B : Nat} {cA : Nat → ClassId} {sh : Nat → Nat} {V P : VV} {H : Heap} {s : State} {t : Nat} {q : vw_C} {As : List Value} (hW : JW D B cA sh V P H) (hK : va_K D vwCl (tysA cA) s) (hN : JN s) (ht : t < 116) (hc : vwCl[3]? = some q) :
    PreV s H q.1 (sh t) (va_Pc (.ref (sh t) :: As) (JC D B cA sh (V, P))) As := by
  refine ⟨JC.blind, ?_, fun U hU hw => ⟨rfl, by rw [hU]; exact hW, va_K.moved hw.alike hK, hN.warm hw⟩⟩
  obtain ⟨h, hP, hJ⟩ := hW
  obtain ⟨x, hx⟩ := (hJ.2.2.2.1 t ht).cell
  exact va_recv hK (hP.one hx) hc (q0 := 0) rfl
section JWR
variable {p : Program} {l : Launch} {e : Env} {R : Room} {s : State} {m : MethodId} {args : Array Value} {below : List Frame} {meth : Method} {c : Code} {H : Heap} {locs : List Loc} {cells slots : Nat} {Q : State → Prop}
variable {cc : ByteArray} {pc : Nat} {ls : Array Slot} {rest : List Value} {D : va_G} {B : Nat} {cA : Nat → ClassId} {sh : Nat → Nat} {V P : VV} {H0 : Heap}
theorem jw_tight {g : JFrame} (hB : B ≤ s.heap.size) (hW : JW D B cA sh V P H) (kk : W p l e R s m args below meth c H locs 278 295424 Q g) : W p l e R s m args below meth c H locs cells slots Q g := by
  obtain ⟨h, hP, -⟩ := hW
  exact hm_tight hB hP kk
theorem jw_put (hexec : p.tables.exec = Jvm.exec) (hb : c.code = cc) {own ref C : String} {T : u_T} {N ci index : Nat} {Ts : List Cond} (hts : ∀ w ∈ Ts, w.before args s = true) (hin : ∀ w ∈ u_ws C T N, w ∈ Ts) (ty0 : Nat → FieldType) (hty : ∀ k, k < N → parseFieldDescriptor (T k).2.2.1 = some (ty0 k)) (hnm : ∀ a, a < N → ∀ b, b < N → a ≠ b → (T a).2.1 ≠ (T b).2.1) (hown : s.vm.findClass own = some m.cls) (hK : va_K D vwCl (tysA cA) s) (hW : JW D B cA sh V P H) (hS0 : va_S (hm_A B) H0 H locs)
    {t : Nat} {fl : List (Option Nat)} (hl : lay t = some (ci, fl)) (hc : vwCl[ci]? = some (C, T, N)) (k : Nat) (hk : k < N) (hf : fl[k]? = some none) (hlink : (Cond.fieldLink own index ref (T k).2.1 (T k).2.2.1).before args s = true) (hsame : ∀ x, s.fieldFound? (T k).1 (T k).2.1 (T k).2.2.1 = some x → s.fieldFound? ref (T k).2.1 (T k).2.2.1 = some x) (hfin : (T k).2.2.2 = false) {ty : FieldType} {x : Int32} (hd : parseFieldDescriptor (T k).2.2.1 = some ty) (hn : narrow ty (.int x) = .int x) (hfit : fits ty (.int x) = true)
    (hdg : decode cc pc = .ok (.putfield index, 3)) (kk : ∀ (H1 : Heap) (locs1 : List Loc), JW D B cA sh (v2 V t k x) P H1 → va_S (hm_A B) H0 H1 locs1 → W p l e R s m args below meth c H1 locs1 cells slots Q (F0 m (pc + 3) ls rest)) : W p l e R s m args below meth c H locs cells slots Q (F0 m pc ls (.int x :: .ref (sh t) :: rest)) := by
  have hap := va_apart (own := own) hts hin ty0 hty hnm hK hc
  obtain ⟨h, hP, hJ⟩ := hW
  have he := hJ.1 t ci fl hl
  obtain ⟨r, h1, cell, q1, q2, q3, q4⟩ := (hP.2.1 _ _ _ he).2.2
  have hr : r = (C, T, N) := Option.some.inj (h1.symm.trans hc)
  subst hr
  obtain ⟨hS, hfc, kC, hkC, hkind⟩ := hK.1 ci _ hc
  obtain ⟨cf, kf, fi, f, hi, hsl⟩ := hS k hk
  have hlay := hts _ (hin _ (u_in_lay hk))
  unfold u_lay at hlay
  rw [if_neg (by rw [hfin]; decide)] at hlay
  have hst := (u_facts hfc hkC (u_lays hts hin hk) hi).1
  have h6 := u_store hfc hkC hkind hlay hi hd hn hfit
  have hlen : k < (fvals sh V t 0 fl).length := by
    rw [fvals_len]
    exact (List.getElem?_eq_some_iff.mp hf).1
  refine W.putK hexec hb (f := f) ⟨hown, hlink, ⟨_, _, _, hsame _ hi⟩, hst⟩ (by rw [q2]; exact h6) q1 q3 (by rw [hsl]; exact k2_hasslot (q4 k hk)) rfl rfl hdg fun H' e1 e2 e3 => ?_
  rw [hsl] at e1 ⊢
  exact kk H' _ ⟨_, hP.set (e := .inr (ci, (fvals sh V t 0 fl).set k (.int x))) he ⟨_, hc, t_OB.to (V := updV (vp_V (fvals sh V t 0 fl)) k (.int x)) ⟨_, e1, q2, q3, t_set q4 hap hk (.int x)⟩ (fun j _ => vp_updV_set hlen (.int x) j)⟩ e2 e3 (fun c0 c1 g0 g1 => by
    rw [q1] at g0
    rw [e1] at g1
    cases g0
    cases g1
    exact k2_slotsz _ _ _), hJ.put hl hf x⟩ (hS0.put e2 e3 (hP.ge he))
theorem jw_putN (hexec : p.tables.exec = Jvm.exec) (hb : c.code = cc) {own ref C host : String} {T : u_T} {N ci index : Nat} {Ts : List Cond} (hts : ∀ w ∈ Ts, w.before args s = true) (hin : ∀ w ∈ u_ws C T N, w ∈ Ts) (ty0 : Nat → FieldType) (hty : ∀ k, k < N → parseFieldDescriptor (T k).2.2.1 = some (ty0 k)) (hnm : ∀ a, a < N → ∀ b, b < N → a ≠ b → (T a).2.1 ≠ (T b).2.1) (hown : s.vm.findClass own = some m.cls) (hK : va_K D vwCl (tysA cA) s) (hW : JW D B cA sh V P H) (hS0 : va_S (hm_A B) H0 H locs)
    {t : Nat} {fl : List (Option Nat)} (hl : lay t = some (ci, fl)) (hc : vwCl[ci]? = some (C, T, N)) (k : Nat) (hk : k < N) (hf : fl[k]? = some none) (hlink : (Cond.fieldLinkNest own index ref (T k).2.1 (T k).2.2.1 host).before args s = true) (hsame : ∀ x, s.fieldFound? (T k).1 (T k).2.1 (T k).2.2.1 = some x → s.fieldFound? ref (T k).2.1 (T k).2.2.1 = some x) (hfin : (T k).2.2.2 = false) {ty : FieldType} {x : Int32} (hd : parseFieldDescriptor (T k).2.2.1 = some ty) (hn : narrow ty (.int x) = .int x) (hfit : fits ty (.int x) = true)
    (hdg : decode cc pc = .ok (.putfield index, 3)) (kk : ∀ (H1 : Heap) (locs1 : List Loc), JW D B cA sh (v2 V t k x) P H1 → va_S (hm_A B) H0 H1 locs1 → W p l e R s m args below meth c H1 locs1 cells slots Q (F0 m (pc + 3) ls rest)) : W p l e R s m args below meth c H locs cells slots Q (F0 m pc ls (.int x :: .ref (sh t) :: rest)) := by
  have hap := va_apart (own := own) hts hin ty0 hty hnm hK hc
  obtain ⟨h, hP, hJ⟩ := hW
  have he := hJ.1 t ci fl hl
  obtain ⟨r, h1, cell, q1, q2, q3, q4⟩ := (hP.2.1 _ _ _ he).2.2
  have hr : r = (C, T, N) := Option.some.inj (h1.symm.trans hc)
  subst hr
  obtain ⟨hS, hfc, kC, hkC, hkind⟩ := hK.1 ci _ hc
  obtain ⟨cf, kf, fi, f, hi, hsl⟩ := hS k hk
  have hlay := hts _ (hin _ (u_in_lay hk))
  unfold u_lay at hlay
  rw [if_neg (by rw [hfin]; decide)] at hlay
  have hst := (u_facts hfc hkC (u_lays hts hin hk) hi).1
  have h6 := u_store hfc hkC hkind hlay hi hd hn hfit
  have hlen : k < (fvals sh V t 0 fl).length := by
    rw [fvals_len]
    exact (List.getElem?_eq_some_iff.mp hf).1
  refine va_WputK hexec hb (f := f) hown hlink (hsame _ hi) hst (by rw [q2]; exact h6) q1 q3 (by rw [hsl]; exact k2_hasslot (q4 k hk)) rfl rfl hdg fun H' e1 e2 e3 => ?_
  rw [hsl] at e1 ⊢
  exact kk H' _ ⟨_, hP.set (e := .inr (ci, (fvals sh V t 0 fl).set k (.int x))) he ⟨_, hc, t_OB.to (V := updV (vp_V (fvals sh V t 0 fl)) k (.int x)) ⟨_, e1, q2, q3, t_set q4 hap hk (.int x)⟩ (fun j _ => vp_updV_set hlen (.int x) j)⟩ e2 e3 (fun c0 c1 g0 g1 => by
    rw [q1] at g0
    rw [e1] at g1
    cases g0
    cases g1
    exact k2_slotsz _ _ _), hJ.put hl hf x⟩ (hS0.put e2 e3 (hP.ge he))
/-- stores into an array of ints, by the map -/
theorem hm_iast {h : hm_T} {n a t : Nat} {f : Nat → Int32} {c0 : ClassId} (hexec : p.tables.exec = Jvm.exec) (hb : c.code = cc) (hA : ArrOfT s c0 .int) (hP : hm_P D vwCl B h H) (ha : h a = some (t, aInt c0 n f)) (hS : va_S (hm_A B) H0 H locs) {i x : Int32} (hin : vp_in i n) (hdg : decode cc pc = .ok (.iastore, 1))
    (kk : ∀ (H1 : Heap) (locs1 : List Loc), hm_P D vwCl B (hm_up h a (t, aInt c0 n (upd f i.toNatClampNeg x))) H1 → va_S (hm_A B) H0 H1 locs1 → W p l e R s m args below meth c H1 locs1 cells slots Q (F0 m (pc + 1) ls rest)) : W p l e R s m args below meth c H locs cells slots Q (F0 m pc ls (.int x :: .int i :: .ref a :: rest)) := by
  have hc0 : H[a]? = some (vp_cell c0 (n, .inl f)) := (hP.2.1 _ _ _ ha).2.2
  refine W.iast hexec hb hc0 (hA n (fun j => .int (f j))) (fun q => by cases q) (by show ¬ (i < 0 ∨ (arrV _ _ _).slots.size ≤ _); rw [arrV_size]; exact hin) rfl rfl hdg fun H1 e z oq => ?_
  have e' : H1[a]? = some (vp_cell c0 (n, .inl (upd f i.toNatClampNeg x))) := by
    rw [e, vp_cell_i, vp_cell_i, arrV_store]
    congr 2
    funext q
    by_cases hq : q = i.toNatClampNeg
    · subst hq
      simp [updV, upd]
    · simp [updV, upd, hq]
  exact kk H1 _ (hP.set (e := aInt c0 n (upd f i.toNatClampNeg x)) ha e' z oq (fun c0 c1 g0 g1 => by rw [hc0] at g0; rw [e'] at g1; cases g0; cases g1; rw [vp_cell_i, vp_cell_i, arrV_size, arrV_size])) (hS.put z oq (hP.ge ha))
theorem hm_zast {h : hm_T} {n a t : Nat} {f : Nat → Int32} {c0 : ClassId} (hexec : p.tables.exec = Jvm.exec) (hb : c.code = cc) (hA : ArrOfT s c0 .boolean) (hP : hm_P D vwCl B h H) (ha : h a = some (t, aInt c0 n f)) (hS : va_S (hm_A B) H0 H locs) {i x : Int32} (hin : vp_in i n) (hdg : decode cc pc = .ok (.bastore, 1))
    (kk : ∀ (H1 : Heap) (locs1 : List Loc), hm_P D vwCl B (hm_up h a (t, aInt c0 n (upd f i.toNatClampNeg (vp_nar .boolean x)))) H1 → va_S (hm_A B) H0 H1 locs1 → W p l e R s m args below meth c H1 locs1 cells slots Q (F0 m (pc + 1) ls rest)) : W p l e R s m args below meth c H locs cells slots Q (F0 m pc ls (.int x :: .int i :: .ref a :: rest)) := by
  have hc0 : H[a]? = some (vp_cell c0 (n, .inl f)) := (hP.2.1 _ _ _ ha).2.2
  refine W.zast hexec hb hc0 (hA n (fun j => .int (f j))) (fun q => by cases q) (by show ¬ (i < 0 ∨ (arrV _ _ _).slots.size ≤ _); rw [arrV_size]; exact hin) rfl rfl hdg fun H1 e z oq => ?_
  have e' : H1[a]? = some (vp_cell c0 (n, .inl (upd f i.toNatClampNeg (vp_nar .boolean x)))) := by
    rw [e, vp_cell_i, vp_cell_i, arrV_store]
    congr 2
    funext q
    by_cases hq : q = i.toNatClampNeg
    · subst hq
      simp [updV, upd, vp_nar, narrow]
    · simp [updV, upd, hq]
  exact kk H1 _ (hP.set (e := aInt c0 n (upd f i.toNatClampNeg (vp_nar .boolean x))) ha e' z oq (fun c0 c1 g0 g1 => by rw [hc0] at g0; rw [e'] at g1; cases g0; cases g1; rw [vp_cell_i, vp_cell_i, arrV_size, arrV_size])) (hS.put z oq (hP.ge ha))
theorem hm_bast {h : hm_T} {n a t : Nat} {f : Nat → Int32} {c0 : ClassId} (hexec : p.tables.exec = Jvm.exec) (hb : c.code = cc) (hA : ArrOfT s c0 .byte) (hP : hm_P D vwCl B h H) (ha : h a = some (t, aInt c0 n f)) (hS : va_S (hm_A B) H0 H locs) {i x : Int32} (hin : vp_in i n) (hdg : decode cc pc = .ok (.bastore, 1))
    (kk : ∀ (H1 : Heap) (locs1 : List Loc), hm_P D vwCl B (hm_up h a (t, aInt c0 n (upd f i.toNatClampNeg x.toInt8.toInt32))) H1 → va_S (hm_A B) H0 H1 locs1 → W p l e R s m args below meth c H1 locs1 cells slots Q (F0 m (pc + 1) ls rest)) : W p l e R s m args below meth c H locs cells slots Q (F0 m pc ls (.int x :: .int i :: .ref a :: rest)) := by
  have hc0 : H[a]? = some (vp_cell c0 (n, .inl f)) := (hP.2.1 _ _ _ ha).2.2
  refine W.bast hexec hb hc0 (hA n (fun j => .int (f j))) (fun q => by cases q) (by show ¬ (i < 0 ∨ (arrV _ _ _).slots.size ≤ _); rw [arrV_size]; exact hin) rfl rfl hdg fun H1 e z oq => ?_
  have e' : H1[a]? = some (vp_cell c0 (n, .inl (upd f i.toNatClampNeg x.toInt8.toInt32))) := by
    rw [e, vp_cell_i, vp_cell_i, arrV_store]
    congr 2
    funext q
    by_cases hq : q = i.toNatClampNeg
    · subst hq
      simp [updV, upd, narrow]
    · simp [updV, upd, hq]
  exact kk H1 _ (hP.set (e := aInt c0 n (upd f i.toNatClampNeg x.toInt8.toInt32)) ha e' z oq (fun c0 c1 g0 g1 => by rw [hc0] at g0; rw [e'] at g1; cases g0; cases g1; rw [vp_cell_i, vp_cell_i, arrV_size, arrV_size])) (hS.put z oq (hP.ge ha))
/-- the disk's array of pages, the cache's of rows -/
theorem jw_aldP (hexec : p.tables.exec = Jvm.exec) (hb : c.code = cc) (hK : va_K D vwCl (tysA cA) s) (hW : JW D B cA sh V P H) {i : Nat} {x : Int32} (hx : x = nI i) (hi : i < 80) (hdg : decode cc pc = .ok (.aaload, 1))
    (kk : W p l e R s m args below meth c H locs cells slots Q (F0 m (pc + 1) ls (.ref (sh i) :: rest))) : W p l e R s m args below meth c H locs cells slots Q (F0 m pc ls (.int x :: .ref (sh 270) :: rest)) := by
  obtain ⟨h, hP, hJ⟩ := hW
  obtain ⟨f, h1, h2⟩ := hJ.2.1
  subst hx
  refine va_aldq hexec hb hK (hP.one h1) 0 1 rfl rfl (vp_in_nI hi (by omega)) hdg ?_
  rw [nI_clamp (by omega), h2 i hi]
  exact kk
theorem jw_aldR (hexec : p.tables.exec = Jvm.exec) (hb : c.code = cc) (hK : va_K D vwCl (tysA cA) s) (hW : JW D B cA sh V P H) {i : Nat} {x : Int32} (hx : x = nI i) (hi : i < 34) (hdg : decode cc pc = .ok (.aaload, 1))
    (kk : W p l e R s m args below meth c H locs cells slots Q (F0 m (pc + 1) ls (.ref (sh (232 + i)) :: rest))) : W p l e R s m args below meth c H locs cells slots Q (F0 m pc ls (.int x :: .ref (sh 271) :: rest)) := by
  obtain ⟨h, hP, hJ⟩ := hW
  obtain ⟨f, h1, h2⟩ := hJ.2.2.1
  subst hx
  refine va_aldq hexec hb hK (hP.one h1) 0 2 rfl rfl (vp_in_nI hi (by omega)) hdg ?_
  rw [nI_clamp (by omega), h2 i hi]
  exact kk
theorem jw_alenP (hexec : p.tables.exec = Jvm.exec) (hb : c.code = cc) (hK : va_K D vwCl (tysA cA) s) (hW : JW D B cA sh V P H) (hdg : decode cc pc = .ok (.arraylength, 1))
    (kk : W p l e R s m args below meth c H locs cells slots Q (F0 m (pc + 1) ls (.int 80 :: rest))) : W p l e R s m args below meth c H locs cells slots Q (F0 m pc ls (.ref (sh 270) :: rest)) := by
  obtain ⟨h, hP, hJ⟩ := hW
  obtain ⟨f, h1, h2⟩ := hJ.2.1
  exact va_alen hexec hb hK (hP.one h1) 0 1 rfl rfl (v := 80) rfl hdg kk
theorem jw_alenR (hexec : p.tables.exec = Jvm.exec) (hb : c.code = cc) (hK : va_K D vwCl (tysA cA) s) (hW : JW D B cA sh V P H) (hdg : decode cc pc = .ok (.arraylength, 1))
    (kk : W p l e R s m args below meth c H locs cells slots Q (F0 m (pc + 1) ls (.int 34 :: rest))) : W p l e R s m args below meth c H locs cells slots Q (F0 m pc ls (.ref (sh 271) :: rest)) := by
  obtain ⟨h, hP, hJ⟩ := hW
  obtain ⟨f, h1, h2⟩ := hJ.2.2.1
  exact va_alen hexec hb hK (hP.one h1) 0 2 rfl rfl (v := 34) rfl hdg kk
/-- stores into the reference's arrays -/
theorem jw_iast (hexec : p.tables.exec = Jvm.exec) (hb : c.code = cc) (hK : va_K D vwCl (tysA cA) s) (hW : JW D B cA sh V P H) (hS : va_S (hm_A B) H0 H locs) {i x : Int32} (hin : vp_in i 80) (hdg : decode cc pc = .ok (.iastore, 1))
    (kk : ∀ (H1 : Heap) (locs1 : List Loc), JW D B cA sh V (p1 P 277 (upd (P 277) i.toNatClampNeg x)) H1 → va_S (hm_A B) H0 H1 locs1 → W p l e R s m args below meth c H1 locs1 cells slots Q (F0 m (pc + 1) ls rest)) : W p l e R s m args below meth c H locs cells slots Q (F0 m pc ls (.int x :: .int i :: .ref (sh 277) :: rest)) := by
  obtain ⟨h, hP, hJ⟩ := hW
  exact hm_iast hexec hb (hK.2 4 (cA 4, .int) rfl).1 hP (hJ.2.2.2.2.1 277 80 4 rfl) hS hin hdg (fun H1 locs1 hP1 hS1 => kk H1 locs1 ⟨_, hP1, hJ.arr rfl _ (fun h => by omega)⟩ hS1)
theorem jw_zast (hexec : p.tables.exec = Jvm.exec) (hb : c.code = cc) (hK : va_K D vwCl (tysA cA) s) (hW : JW D B cA sh V P H) (hS : va_S (hm_A B) H0 H locs) {t : Nat} (hm : mar t = some (80, 3)) {i x : Int32} (hin : vp_in i 80) (hdg : decode cc pc = .ok (.bastore, 1))
    (kk : ∀ (H1 : Heap) (locs1 : List Loc), JW D B cA sh V (p1 P t (upd (P t) i.toNatClampNeg (vp_nar .boolean x))) H1 → va_S (hm_A B) H0 H1 locs1 → W p l e R s m args below meth c H1 locs1 cells slots Q (F0 m (pc + 1) ls rest)) : W p l e R s m args below meth c H locs cells slots Q (F0 m pc ls (.int x :: .int i :: .ref (sh t) :: rest)) := by
  obtain ⟨h, hP, hJ⟩ := hW
  exact hm_zast hexec hb (hK.2 3 (cA 3, .boolean) rfl).1 hP (hJ.2.2.2.2.1 t 80 3 hm) hS hin hdg (fun H1 locs1 hP1 hS1 => kk H1 locs1 ⟨_, hP1, hJ.arr hm _ (fun h => by rcases h with h | h <;> (rw [h] at hm; exact absurd hm (by decide)))⟩ hS1)
theorem mar_byte {t : Nat} (hm : mar t = some (81920, 0)) : t = 273 ∨ t = 274 := by
  have hr := mar_spec hm
  by_cases h5 : t = 275
  · rw [h5] at hm
    exact absurd hm (by decide)
  · by_cases h6 : t = 276
    · rw [h6] at hm
      exact absurd hm (by decide)
    · by_cases h7 : t = 277
      · rw [h7] at hm
        exact absurd hm (by decide)
      · omega
theorem jw_bast (hexec : p.tables.exec = Jvm.exec) (hb : c.code = cc) (hK : va_K D vwCl (tysA cA) s) (hW : JW D B cA sh V P H) (hS : va_S (hm_A B) H0 H locs) {t : Nat} (hm : mar t = some (81920, 0)) {i x : Int32} (hin : vp_in i 81920) (hdg : decode cc pc = .ok (.bastore, 1))
    (kk : ∀ (H1 : Heap) (locs1 : List Loc), JW D B cA sh V (p1 P t (upd (P t) i.toNatClampNeg x.toInt8.toInt32)) H1 → va_S (hm_A B) H0 H1 locs1 → W p l e R s m args below meth c H1 locs1 cells slots Q (F0 m (pc + 1) ls rest)) : W p l e R s m args below meth c H locs cells slots Q (F0 m pc ls (.int x :: .int i :: .ref (sh t) :: rest)) := by
  obtain ⟨h, hP, hJ⟩ := hW
  have hold : bfit (P t) 81920 := by
    rcases mar_byte hm with h1 | h1
    · rw [h1]
      exact hJ.2.2.2.2.2.1
    · rw [h1]
      exact hJ.2.2.2.2.2.2
  exact hm_bast hexec hb (hK.2 0 (cA 0, .byte) rfl).1 hP (hJ.2.2.2.2.1 t 81920 0 hm) hS hin hdg (fun H1 locs1 hP1 hS1 => kk H1 locs1 ⟨_, hP1, hJ.arr hm _ (fun _ k hk => by
    by_cases hq : k = i.toNatClampNeg
    · subst hq
      rw [pk_us]
      exact pk_fb x
    · rw [pk_un hq]
      exact hold k hk)⟩ hS1)
/-- behind a call -/
theorem jw_calli {post : Int32 → VV × VV → Prop} {st0 : List Value} {a : Array Value} {mc ms : Nat} (hr : va_Run p l e R s m args below meth c H locs cells slots mc ms (F0 m pc ls st0) rest (va_Qi post (JC D B cA sh) (hm_A B) a) (hm_A B)) (hS : va_S (hm_A B) H0 H locs)
    (kk : ∀ (r : Int32) (V1 P1 : VV) (H1 : Heap) (locs1 : List Loc), post r (V1, P1) → JW D B cA sh V1 P1 H1 → va_S (hm_A B) H0 H1 locs1 → W p l e R s m args below meth c H1 locs1 (cells + mc) (slots + ms) Q (F0 m (pc + 3) ls (.int r :: rest))) : W p l e R s m args below meth c H locs cells slots Q (F0 m pc ls st0) :=
  va_calli hr hS (fun _ _ h => h) (fun _ h => h) (fun r u t H1 locs1 ht _ hw hB _ _ hS1 => kk r u.1 u.2 H1 locs1 hw (by rw [← ht]; exact hB.1) hS1)
theorem jw_callv {post : VV × VV → Prop} {st0 : List Value} {a : Array Value} {mc ms : Nat} (hr : va_Run p l e R s m args below meth c H locs cells slots mc ms (F0 m pc ls st0) rest (va_Qv post (JC D B cA sh) (hm_A B) a) (hm_A B)) (hS : va_S (hm_A B) H0 H locs)
    (kk : ∀ (V1 P1 : VV) (H1 : Heap) (locs1 : List Loc), post (V1, P1) → JW D B cA sh V1 P1 H1 → va_S (hm_A B) H0 H1 locs1 → W p l e R s m args below meth c H1 locs1 (cells + mc) (slots + ms) Q (F0 m (pc + 3) ls rest)) : W p l e R s m args below meth c H locs cells slots Q (F0 m pc ls st0) :=
  va_callv hr hS (fun _ _ h => h) (fun _ h => h) (fun u t H1 locs1 ht _ hw hB _ _ hS1 => kk u.1 u.2 H1 locs1 hw (by rw [← ht]; exact hB.1) hS1)
theorem jw_callq {post : Option Nat → VV × VV → Prop} {st0 : List Value} {a : Array Value} {mc ms : Nat} (hr : va_Run p l e R s m args below meth c H locs cells slots mc ms (F0 m pc ls st0) rest (va_Qq post (JC D B cA sh) (hm_A B) a) (hm_A B)) (hS : va_S (hm_A B) H0 H locs)
    (kk : ∀ (r : Option Nat) (V1 P1 : VV) (H1 : Heap) (locs1 : List Loc), post r (V1, P1) → JW D B cA sh V1 P1 H1 → va_S (hm_A B) H0 H1 locs1 → W p l e R s m args below meth c H1 locs1 (cells + mc) (slots + ms) Q (F0 m (pc + 3) ls (va_rf r :: rest))) : W p l e R s m args below meth c H locs cells slots Q (F0 m pc ls st0) :=
  va_callq hr hS (fun _ _ h => h) (fun _ h => h) (fun r u t H1 locs1 ht _ hw hB _ _ hS1 => kk r u.1 u.2 H1 locs1 hw (by rw [← ht]; exact hB.1) hS1)
end JWR
