/-! MAPS OF CELLS: the heap since the base B as a map from addresses to (tag, cell); tags are apart, every cell since B is in the map -/
abbrev hm_T : Type := Nat → Option (Nat × va_E)
def hm_up (h : hm_T) (a : Nat) (x : Nat × va_E) : hm_T := fun q => if q = a then some x else h q
theorem hm_up_s {h : hm_T} {a : Nat} {x : Nat × va_E} : hm_up h a x a = some x := by simp [hm_up]
theorem hm_up_n {h : hm_T} {a q : Nat} {x : Nat × va_E} (n : q ≠ a) : hm_up h a x q = h q := by simp [hm_up, n]
/-- how many slots a cell of a tag may have -/
def hm_mx (t : Nat) : Nat := if t < 116 then 80 else if t < 232 then 1024 else if t = 273 ∨ t = 274 then 81920 else 80
def hm_A (B : Nat) : Nat → Prop := fun q => B ≤ q
def hm_P (D : va_G) (cl : List vw_C) (B : Nat) (h : hm_T) (H : Heap) : Prop :=
  B ≤ H.size ∧
  (∀ (a t : Nat) (e : va_E), h a = some (t, e) → B ≤ a ∧ t < 278 ∧ va_at D cl (a, e) H) ∧
  (∀ q : Nat, B ≤ q → q < H.size → ∃ (cell : Cell) (t : Nat) (e : va_E), H[q]? = some cell ∧ h q = some (t, e) ∧ cell.slots.size ≤ hm_mx t) ∧
  (∀ (q q' t : Nat) (e e' : va_E), h q = some (t, e) → h q' = some (t, e') → q = q')
theorem hm_P.one {D : va_G} {cl : List vw_C} {B : Nat} {h : hm_T} {H : Heap} (hP : hm_P D cl B h H) {a t : Nat} {e : va_E} (ha : h a = some (t, e)) : va_P D cl [(a, e)] H := by
  intro k q hq
  have hz : k < 1 := (List.getElem?_eq_some_iff.mp hq).1
  rw [show k = 0 by omega] at hq
  cases hq
  exact (hP.2.1 a t e ha).2.2
theorem hm_P.ge {D : va_G} {cl : List vw_C} {B : Nat} {h : hm_T} {H : Heap} (hP : hm_P D cl B h H) {a t : Nat} {e : va_E} (ha : h a = some (t, e)) : hm_A B a := (hP.2.1 a t e ha).1
theorem hm_P.fresh {D : va_G} {cl : List vw_C} {B : Nat} {h : hm_T} {H : Heap} (hP : hm_P D cl B h H) : h H.size = none := by
  cases hh : h H.size with
  | none => rfl
  | some x =>
    obtain ⟨t, e⟩ := x
    have := (hP.2.1 _ _ _ hh).2.2.lt
    exact absurd this (Nat.lt_irrefl _)
theorem hm_ne {h : hm_T} {a b t t' : Nat} {e e' : va_E} (ha : h a = some (t, e)) (hb : h b = some (t', e')) (hn : t ≠ t') : a ≠ b := by
  intro hab
  subst hab
  rw [ha] at hb
  cases hb
  exact hn rfl
theorem hm_nn {h : hm_T} {a b t : Nat} {e : va_E} (ha : h a = some (t, e)) (hb : h b = none) : a ≠ b := by
  intro hab
  subst hab
  rw [ha] at hb
  cases hb
theorem hm_P.set {D : va_G} {cl : List vw_C} {B : Nat} {h : hm_T} {H H1 : Heap} (hP : hm_P D cl B h H) {a t : Nat} {e0 e : va_E} (ha : h a = some (t, e0)) (hat : va_at D cl (a, e) H1) (hz : H1.size = H.size) (ho : ∀ q : Nat, q ≠ a → H1[q]? = H[q]?)
    (hc : ∀ c0 c1 : Cell, H[a]? = some c0 → H1[a]? = some c1 → c1.slots.size = c0.slots.size) : hm_P D cl B (hm_up h a (t, e)) H1 := by
  refine ⟨by rw [hz]; exact hP.1, fun q t' e' hq => ?_, fun q h1 h2 => ?_, fun q q' t' e1 e2 h1 h2 => ?_⟩
  · by_cases hqa : q = a
    · subst hqa
      rw [hm_up_s] at hq
      cases hq
      exact ⟨(hP.2.1 _ _ _ ha).1, (hP.2.1 _ _ _ ha).2.1, hat⟩
    · rw [hm_up_n hqa] at hq
      obtain ⟨x1, x2, x3⟩ := hP.2.1 _ _ _ hq
      exact ⟨x1, x2, x3.kept (ho q hqa)⟩
  · obtain ⟨c0, t', e', g1, g2, g3⟩ := hP.2.2.1 q h1 (by rw [← hz]; exact h2)
    by_cases hqa : q = a
    · subst hqa
      rw [ha] at g2
      cases g2
      have hc1 : H1[q]? = some H1[q] := Array.getElem?_eq_getElem h2
      exact ⟨_, t, e, hc1, hm_up_s, by rw [hc _ _ g1 hc1]; exact g3⟩
    · exact ⟨c0, t', e', by rw [ho q hqa]; exact g1, by rw [hm_up_n hqa]; exact g2, g3⟩
  · by_cases hqa : q = a
    · by_cases hqa' : q' = a
      · rw [hqa, hqa']
      · subst hqa
        rw [hm_up_s] at h1
        rw [hm_up_n hqa'] at h2
        cases h1
        exact hP.2.2.2 _ _ _ _ _ ha h2
    · by_cases hqa' : q' = a
      · subst hqa'
        rw [hm_up_s] at h2
        rw [hm_up_n hqa] at h1
        cases h2
        exact hP.2.2.2 _ _ _ _ _ h1 ha
      · rw [hm_up_n hqa] at h1
        rw [hm_up_n hqa'] at h2
        exact hP.2.2.2 _ _ _ _ _ h1 h2
theorem hm_P.push {D : va_G} {cl : List vw_C} {B : Nat} {h : hm_T} {H H1 : Heap} (hP : hm_P D cl B h H) {t : Nat} {e : va_E} {cell : Cell} (hat : va_at D cl (H.size, e) H1) (hc : H1[H.size]? = some cell) (hm : cell.slots.size ≤ hm_mx t) (ht : t < 278)
    (hfr : ∀ (q : Nat) (e' : va_E), h q ≠ some (t, e')) (hz : H1.size = H.size + 1) (ho : ∀ q : Nat, q < H.size → H1[q]? = H[q]?) : hm_P D cl B (hm_up h H.size (t, e)) H1 := by
  have hB := hP.1
  refine ⟨by omega, fun q t' e' hq => ?_, fun q h1 h2 => ?_, fun q q' t' e1 e2 h1 h2 => ?_⟩
  · by_cases hqa : q = H.size
    · subst hqa
      rw [hm_up_s] at hq
      cases hq
      exact ⟨hB, ht, hat⟩
    · rw [hm_up_n hqa] at hq
      obtain ⟨x1, x2, x3⟩ := hP.2.1 _ _ _ hq
      exact ⟨x1, x2, x3.kept (ho q x3.lt)⟩
  · by_cases hqa : q = H.size
    · subst hqa
      exact ⟨cell, t, e, hc, hm_up_s, hm⟩
    · have hq : q < H.size := by omega
      obtain ⟨c0, t', e', g1, g2, g3⟩ := hP.2.2.1 q h1 hq
      exact ⟨c0, t', e', by rw [ho q hq]; exact g1, by rw [hm_up_n hqa]; exact g2, g3⟩
  · by_cases hqa : q = H.size
    · by_cases hqa' : q' = H.size
      · rw [hqa, hqa']
      · subst hqa
        rw [hm_up_s] at h1
        rw [hm_up_n hqa'] at h2
        cases h1
        exact absurd h2 (hfr _ _)
    · by_cases hqa' : q' = H.size
      · subst hqa'
        rw [hm_up_s] at h2
        rw [hm_up_n hqa] at h1
        cases h2
        exact absurd h1 (hfr _ _)
      · rw [hm_up_n hqa] at h1
        rw [hm_up_n hqa'] at h2
        exact hP.2.2.2 _ _ _ _ _ h1 h2
/-! how many cells and slots there can be: the tags are apart and below 278 -/
theorem hm_cut (mx : Nat → Nat) (T : Nat) : ∀ l : List Nat, l.Nodup → (l.map mx).sum ≤ ((l.filter (fun x => !(x == T))).map mx).sum + mx T
  | [], _ => by simp
  | a :: l, h => by
    have h' := List.nodup_cons.mp h
    by_cases e : a = T
    · subst e
      have hf : l.filter (fun x => !(x == a)) = l := List.filter_eq_self.mpr (fun x hx => by
        have : x ≠ a := fun hxa => h'.1 (hxa ▸ hx)
        simp [this])
      simp [hf]
      omega
    · have ih := hm_cut mx T l h'.2
      simp [e]
      omega
theorem hm_tot (mx : Nat → Nat) : ∀ (T : Nat) (l : List Nat), l.Nodup → (∀ x ∈ l, x < T) → (l.map mx).sum ≤ ((List.range T).map mx).sum
  | 0, l, _, h => by
    cases l with
    | nil => simp
    | cons a l => exact absurd (h a List.mem_cons_self) (Nat.not_lt_zero _)
  | T + 1, l, hn, h => by
    have h1 := hm_cut mx T l hn
    have h2 := hm_tot mx T (l.filter (fun x => !(x == T))) (List.Pairwise.filter _ hn) (fun x hx => by
      have hx' := List.mem_filter.mp hx
      have hlt := h x hx'.1
      have hne : x ≠ T := by
        have := hx'.2
        simp at this
        exact this
      omega)
    rw [List.range_succ, List.map_append, List.sum_append_nat]
    simp only [List.map_cons, List.map_nil, List.sum_cons, List.sum_nil]
    omega
theorem hm_le {α : Type} (sz : α → Nat) : ∀ (L : List α) (f : Nat → Nat), (∀ (i : Nat) (x : α), L[i]? = some x → sz x ≤ f i) → (L.map sz).sum ≤ ((List.range L.length).map f).sum
  | [], f, _ => by simp
  | a :: L, f, h => by
    have ih := hm_le sz L (fun i => f (i + 1)) (fun i x hx => h (i + 1) x (by simpa using hx))
    have h0 := h 0 a rfl
    rw [List.length_cons, List.range_succ_eq_map, List.map_cons, List.map_cons, List.sum_cons, List.sum_cons, List.map_map]
    have e : (f ∘ Nat.succ) = fun i => f (i + 1) := rfl
    rw [e]
    omega
theorem hm_drop : ∀ (k : Nat) (L : List Nat), (L.drop k).sum ≤ L.sum
  | 0, L => by simp
  | k + 1, [] => by simp
  | k + 1, a :: L => by
    have := hm_drop k L
    simp only [List.drop_succ_cons, List.sum_cons]
    omega
def hm_tag (h : hm_T) (q : Nat) : Nat := match h q with
  | some x => x.1
  | none => 0
theorem hm_P.tags {D : va_G} {cl : List vw_C} {B : Nat} {h : hm_T} {H : Heap} (hP : hm_P D cl B h H) (mx : Nat → Nat) : ((List.range (H.size - B)).map (fun i => mx (hm_tag h (B + i)))).sum ≤ ((List.range 278).map mx).sum := by
  have hk : ∀ i, i < H.size - B → ∃ (t : Nat) (e : va_E), h (B + i) = some (t, e) := fun i hi => by
    obtain ⟨c0, t, e, -, g2, -⟩ := hP.2.2.1 (B + i) (by omega) (by omega)
    exact ⟨t, e, g2⟩
  have h1 := hm_tot mx 278 ((List.range (H.size - B)).map (fun i => hm_tag h (B + i))) ?_ ?_
  · rw [List.map_map] at h1
    exact h1
  · refine List.pairwise_map.mpr (List.Pairwise.imp_of_mem ?_ List.nodup_range)
    intro a b ha hb hab heq
    obtain ⟨t, e, g⟩ := hk a (List.mem_range.mp ha)
    obtain ⟨t', e', g'⟩ := hk b (List.mem_range.mp hb)
    simp only [hm_tag, g, g'] at heq
    subst heq
    have := hP.2.2.2 _ _ _ _ _ g g'
    exact hab (by omega)
  · intro x hx
    obtain ⟨i, hi, rfl⟩ := List.mem_map.mp hx
    obtain ⟨t, e, g⟩ := hk i (List.mem_range.mp hi)
    simp only [hm_tag, g]
    exact (hP.2.1 _ _ _ g).2.1
theorem hm_P.small {D : va_G} {cl : List vw_C} {B : Nat} {h : hm_T} {H : Heap} (hP : hm_P D cl B h H) : H.size ≤ B + 278 ∧ ((H.toList.drop B).map (fun c : Cell => c.slots.size)).sum ≤ 295424 := by
  constructor
  · have h1 := hP.tags (fun _ => 1)
    rw [List.map_const', List.map_const', List.sum_replicate_nat, List.sum_replicate_nat, List.length_range, List.length_range] at h1
    omega
  · have h1 := hP.tags hm_mx
    have hc : ((List.range 278).map hm_mx).sum = 295424 := by decide +kernel
    rw [hc] at h1
    have hlen : (H.toList.drop B).length = H.size - B := by simp
    have h2 := hm_le (fun c : Cell => c.slots.size) (H.toList.drop B) (fun i => hm_mx (hm_tag h (B + i))) (fun i x hx => by
      have hi : i < (H.toList.drop B).length := (List.getElem?_eq_some_iff.mp hx).1
      rw [hlen] at hi
      obtain ⟨c0, t, e, g1, g2, g3⟩ := hP.2.2.1 (B + i) (by omega) (by omega)
      rw [List.getElem?_drop, Array.getElem?_toList, g1] at hx
      cases hx
      simp only [hm_tag, g2]
      exact g3)
    rw [hlen] at h2
    omega
section HMW
variable {p : Program} {l : Launch} {e : Env} {R : Room} {s : State} {m : MethodId} {args : Array Value} {below : List Frame} {meth : Method} {c : Code} {H : Heap} {locs : List Loc} {cells slots : Nat} {Q : State → Prop}
/-- the room is counted afresh off the map -/
theorem hm_tight {D : va_G} {cl : List vw_C} {B : Nat} {h : hm_T} {g : JFrame} (hB : B ≤ s.heap.size) (hP : hm_P D cl B h H) (kk : W p l e R s m args below meth c H locs 278 295424 Q g) : W p l e R s m args below meth c H locs cells slots Q g := by
  intro T hT X
  obtain ⟨h1, h2⟩ := hP.small
  refine kk T hT { X with same := ?_ }
  obtain ⟨a1, a2, a3, a4, a5, a6⟩ := X.same
  refine ⟨a1, a2, ?_, a4, ?_, a6⟩
  · show T.heap.size ≤ _
    rw [hT]
    omega
  · show ((T.heap.toList.drop s.heap.size).map (fun c : Cell => c.slots.size)).sum ≤ _
    rw [hT]
    have e1 : H.toList.drop s.heap.size = (H.toList.drop B).drop (s.heap.size - B) := by
      rw [List.drop_drop]
      congr 1
      omega
    rw [e1, List.map_drop]
    exact Nat.le_trans (hm_drop _ _) h2
end HMW
