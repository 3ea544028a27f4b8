theorem t3 {r a : Int32} {V1 V P1 P : VV} (h : (r, V1, P1) = (a, V, P)) : a = r ∧ V = V1 ∧ P = P1 := by
  cases h
  exact ⟨rfl, rfl, rfl⟩
theorem tq {V1 V P1 P : VV} (h : (V1, P1) = (V, P)) : V = V1 ∧ P = P1 := by
  cases h
  exact ⟨rfl, rfl⟩

set_option maxHeartbeats 4000000 in
set_option maxRecDepth 100000 in
theorem m_C_heldRows (l : Launch) (D : va_G) (B : Nat) (cA : Nat → ClassId) (sh : Nat → Nat) (V P : VV) : Met l y_C_heldRows w_C_heldRows ({ frames := 0, cells := 0, slots := 0, locals := 0 } : Room) (va_Pc [.ref (sh 268)] (JC D B cA sh (V, P))) (va_Qi (fun (r : Int32) (u : VV × VV) => (r, u.1, u.2) = (mCnt V 3, V, P)) (JC D B cA sh) (hm_A B)) 0 0 (hm_A B) := by
  refine Met.ofW (cc := c_C_heldRows) (maxL := 6) (ret := (some FieldType.int)) (by decide) rfl ?_
  intro p e s m args below meth c s₁ Bd hml hv
  obtain ⟨rfl, hW, hK, hN⟩ := hv
  have hx := Bd.exec
  have hb := Bd.bytes
  have hr := Bd.returns
  have hts := atoms_spec (ws := w_C_heldRows) Bd.pre
  have hT : ∀ w ∈ WG, w.before ([.ref (sh 268)] : List Value).toArray s = true := fun w h => hts w (List.mem_cons_of_mem _ h)
  have hown : s.vm.findClass "BlockVault$Cache" = some m.cls := findClass_of_methodNamed Bd.named
  have hlocks := Bd.notSynchronized
  have hW : JW D B cA sh V P s.heap := hW
  have hBs : B ≤ s.heap.size := hW.ge
  have hS : va_S (hm_A B) s.heap s.heap [] := va_S.rf
  have hl := lv_entry ([.ref (sh 268)]) (n := 6) (Nat.le_of_ble_eq_true rfl)
  rw [lg_entry_eq]
  generalize (lg_sl ([.ref (sh 268)]) ++ List.replicate (6 - (lg_sl ([.ref (sh 268)])).length) Slot.unset).toArray = ls at hl ⊢
  have hl : lv_has ls 6 [(0, .ref (sh 268))] := hl
  refine lv_iconst (v := 0) hx hb d_C_heldRows_0 (by decide) ?_
  refine lv_istore_n (lv' := [(1, .int 0), (0, .ref (sh 268))]) hx hb d_C_heldRows_1 rfl hl (by decide) rfl (fun ls hl => ?_)
  refine lv_aload_n hx hb d_C_heldRows_2 rfl (lv_at hl 1 rfl) ?_
  refine va_get (D := D) (ci := 0) (v := .ref (sh 271)) (C := "BlockVault$Cache") (T := T_C) (N := 3) hx hb hT in_C hown hK (hW.obj rfl) 0 rfl rfl 0 (by decide) (hT _ k97) (fun _ h9 => h9) rfl d_C_heldRows_3 ?_
  refine lv_astore_n (lv' := [(2, .ref (sh 271)), (1, .int 0), (0, .ref (sh 268))]) hx hb d_C_heldRows_6 rfl hl (by decide) rfl (fun ls hl => ?_)
  refine lv_aload_n hx hb d_C_heldRows_7 rfl (lv_at hl 0 rfl) ?_
  refine jw_alenR hx hb hK hW d_C_heldRows_8 ?_
  refine lv_istore_n (lv' := [(3, .int 34), (2, .ref (sh 271)), (1, .int 0), (0, .ref (sh 268))]) hx hb d_C_heldRows_9 rfl hl (by decide) rfl (fun ls hl => ?_)
  refine lv_iconst (v := 0) hx hb d_C_heldRows_10 (by decide) ?_
  refine lv_istore (lv' := [(4, .int 0), (3, .int 34), (2, .ref (sh 271)), (1, .int 0), (0, .ref (sh 268))]) hx hb d_C_heldRows_11 hl (by decide) rfl (fun ls hl => ?_)
  have loop : ∀ (n i : Nat) (a : Int32) (H : Heap) (locs : List Loc) (ls : Array Slot), i + n = 34 → (cR V 3 n i a = mCnt V 3) → JW D B cA sh V P H → va_S (hm_A B) s.heap H locs → lv_has ls 6 [(4, .int (nI i)), (3, .int 34), (2, .ref (sh 271)), (1, .int a), (0, .ref (sh 268))] → W p l e (headSpec w_C_heldRows ({ frames := 0, cells := 0, slots := 0, locals := 0 } : Room)).room s m ([.ref (sh 268)] : List Value).toArray below meth c H locs 0 0 (MQ below (va_Qi (fun (r : Int32) (u : VV × VV) => (r, u.1, u.2) = (mCnt V 3, V, P)) (JC D B cA sh) (hm_A B)) ([.ref (sh 268)] : List Value).toArray s 0 0 (hm_A B)) (F0 m 13 ls []) := by
    intro n
    induction n with
    | zero =>
      intro i a H locs ls hin hinv hW hS hl
      obtain rfl : i = 34 := by omega
      refine lv_iload hx hb d_C_heldRows_13 (lv_at hl 0 rfl) ?_
      refine lv_iload_n hx hb d_C_heldRows_15 rfl (lv_at hl 1 rfl) ?_
      refine lv_icmp_ge (tgt := 42) hx hb d_C_heldRows_16 (by decide) (fun c1 => ?_) (fun c1 => ?_)
      · refine lv_iload_n hx hb d_C_heldRows_42 rfl (lv_at hl 3 rfl) ?_
        refine W.widen (k := 0) (n := 0) (by omega) (by omega) ?_
        exact W.iret (v := a) hx hb hr (fun t9 ht9 hwz => ⟨⟨a, (V, P), rfl, (by rw [← hinv]; rfl), by rw [ht9]; exact hW, va_K.moved hwz.alike hK, hN.warm hwz⟩, hS.F ht9⟩) hS.2.2 d_C_heldRows_43
      · exact absurd (by decide) c1
    | succ n ih =>
      intro i a H locs ls hin hinv hW hS hl
      have hi : i < 34 := by omega
      refine lv_iload hx hb d_C_heldRows_13 (lv_at hl 0 rfl) ?_
      refine lv_iload_n hx hb d_C_heldRows_15 rfl (lv_at hl 1 rfl) ?_
      refine lv_icmp_ge (tgt := 42) hx hb d_C_heldRows_16 (by decide) (fun c2 => ?_) (fun c2 => ?_)
      · exact absurd c2 (nI_ge (b := 34) (by omega) (by omega))
      · refine lv_aload_n hx hb d_C_heldRows_19 rfl (lv_at hl 2 rfl) ?_
        refine lv_iload hx hb d_C_heldRows_20 (lv_at hl 0 rfl) ?_
        refine jw_aldR (i := i) hx hb hK hW rfl (by omega) d_C_heldRows_22 ?_
        refine lv_astore (lv' := [(5, .ref (sh (232 + i))), (4, .int (nI i)), (3, .int 34), (2, .ref (sh 271)), (1, .int a), (0, .ref (sh 268))]) hx hb d_C_heldRows_23 hl (by decide) rfl (fun ls hl => ?_)
        refine lv_aload hx hb d_C_heldRows_25 (lv_at hl 0 rfl) ?_
        refine va_getN (D := D) (ci := 4) (v := .int (V (232 + i) 3)) (C := "BlockVault$Row") (T := T_R) (N := 5) hx hb hT in_R hown hK (hW.obj (lay_row hi)) 0 rfl rfl 3 (by decide) (nf7 hN) (fun _ h9 => h9) rfl d_C_heldRows_27 ?_
        refine lv_if_eq (tgt := 36) hx hb d_C_heldRows_30 (by decide) (fun c3 => ?_) (fun c3 => ?_)
        · refine lv_iinc (v := ((nI i) + 1)) (lv' := [(4, .int ((nI i) + 1)), (5, .ref (sh (232 + i))), (3, .int 34), (2, .ref (sh 271)), (1, .int a), (0, .ref (sh 268))]) hx hb d_C_heldRows_36 hl (k := 1) rfl rfl (by decide) rfl (fun ls hl => ?_)
          refine lv_goto (tgt := 13) hx hb d_C_heldRows_39 (by decide) ?_
          exact ih (i + 1) a H locs ls (by omega) (by rw [← hinv]; simp [cR, c3]) hW hS (by rw [← nI_1]; exact lv_sub hl [0, 2, 3, 4, 5] rfl)
        · refine lv_iinc (v := (a + 1)) (lv' := [(1, .int (a + 1)), (5, .ref (sh (232 + i))), (4, .int (nI i)), (3, .int 34), (2, .ref (sh 271)), (0, .ref (sh 268))]) hx hb d_C_heldRows_33 hl (k := 4) rfl rfl (by decide) rfl (fun ls hl => ?_)
          refine lv_iinc (v := ((nI i) + 1)) (lv' := [(4, .int ((nI i) + 1)), (1, .int (a + 1)), (5, .ref (sh (232 + i))), (3, .int 34), (2, .ref (sh 271)), (0, .ref (sh 268))]) hx hb d_C_heldRows_36 hl (k := 2) rfl rfl (by decide) rfl (fun ls hl => ?_)
          refine lv_goto (tgt := 13) hx hb d_C_heldRows_39 (by decide) ?_
          exact ih (i + 1) (a + 1) H locs ls (by omega) (by rw [← hinv]; simp [cR, c3]) hW hS (by rw [← nI_1]; exact lv_sub hl [0, 3, 4, 1, 5] rfl)
  exact loop 34 0 0 _ _ ls (by omega) (rfl) hW hS (lv_sub hl [0, 1, 2, 3, 4] rfl)

set_option maxHeartbeats 4000000 in
set_option maxRecDepth 100000 in
theorem m_C_stepRows (l : Launch) (D : va_G) (B : Nat) (cA : Nat → ClassId) (sh : Nat → Nat) (V P : VV) : Met l y_C_stepRows w_C_stepRows ({ frames := 0, cells := 0, slots := 0, locals := 0 } : Room) (va_Pc [.ref (sh 268)] (JC D B cA sh (V, P))) (va_Qi (fun (r : Int32) (u : VV × VV) => (r, u.1, u.2) = (mCnt V 4, V, P)) (JC D B cA sh) (hm_A B)) 0 0 (hm_A B) := by
  refine Met.ofW (cc := c_C_stepRows) (maxL := 6) (ret := (some FieldType.int)) (by decide) rfl ?_
  intro p e s m args below meth c s₁ Bd hml hv
  obtain ⟨rfl, hW, hK, hN⟩ := hv
  have hx := Bd.exec
  have hb := Bd.bytes
  have hr := Bd.returns
  have hts := atoms_spec (ws := w_C_stepRows) Bd.pre
  have hT : ∀ w ∈ WG, w.before ([.ref (sh 268)] : List Value).toArray s = true := fun w h => hts w (List.mem_cons_of_mem _ h)
  have hown : s.vm.findClass "BlockVault$Cache" = some m.cls := findClass_of_methodNamed Bd.named
  have hlocks := Bd.notSynchronized
  have hW : JW D B cA sh V P s.heap := hW
  have hBs : B ≤ s.heap.size := hW.ge
  have hS : va_S (hm_A B) s.heap s.heap [] := va_S.rf
  have hl := lv_entry ([.ref (sh 268)]) (n := 6) (Nat.le_of_ble_eq_true rfl)
  rw [lg_entry_eq]
  generalize (lg_sl ([.ref (sh 268)]) ++ List.replicate (6 - (lg_sl ([.ref (sh 268)])).length) Slot.unset).toArray = ls at hl ⊢
  have hl : lv_has ls 6 [(0, .ref (sh 268))] := hl
  refine lv_iconst (v := 0) hx hb d_C_stepRows_0 (by decide) ?_
  refine lv_istore_n (lv' := [(1, .int 0), (0, .ref (sh 268))]) hx hb d_C_stepRows_1 rfl hl (by decide) rfl (fun ls hl => ?_)
  refine lv_aload_n hx hb d_C_stepRows_2 rfl (lv_at hl 1 rfl) ?_
  refine va_get (D := D) (ci := 0) (v := .ref (sh 271)) (C := "BlockVault$Cache") (T := T_C) (N := 3) hx hb hT in_C hown hK (hW.obj rfl) 0 rfl rfl 0 (by decide) (hT _ k97) (fun _ h9 => h9) rfl d_C_stepRows_3 ?_
  refine lv_astore_n (lv' := [(2, .ref (sh 271)), (1, .int 0), (0, .ref (sh 268))]) hx hb d_C_stepRows_6 rfl hl (by decide) rfl (fun ls hl => ?_)
  refine lv_aload_n hx hb d_C_stepRows_7 rfl (lv_at hl 0 rfl) ?_
  refine jw_alenR hx hb hK hW d_C_stepRows_8 ?_
  refine lv_istore_n (lv' := [(3, .int 34), (2, .ref (sh 271)), (1, .int 0), (0, .ref (sh 268))]) hx hb d_C_stepRows_9 rfl hl (by decide) rfl (fun ls hl => ?_)
  refine lv_iconst (v := 0) hx hb d_C_stepRows_10 (by decide) ?_
  refine lv_istore (lv' := [(4, .int 0), (3, .int 34), (2, .ref (sh 271)), (1, .int 0), (0, .ref (sh 268))]) hx hb d_C_stepRows_11 hl (by decide) rfl (fun ls hl => ?_)
  have loop : ∀ (n i : Nat) (a : Int32) (H : Heap) (locs : List Loc) (ls : Array Slot), i + n = 34 → (cR V 4 n i a = mCnt V 4) → JW D B cA sh V P H → va_S (hm_A B) s.heap H locs → lv_has ls 6 [(4, .int (nI i)), (3, .int 34), (2, .ref (sh 271)), (1, .int a), (0, .ref (sh 268))] → W p l e (headSpec w_C_stepRows ({ frames := 0, cells := 0, slots := 0, locals := 0 } : Room)).room s m ([.ref (sh 268)] : List Value).toArray below meth c H locs 0 0 (MQ below (va_Qi (fun (r : Int32) (u : VV × VV) => (r, u.1, u.2) = (mCnt V 4, V, P)) (JC D B cA sh) (hm_A B)) ([.ref (sh 268)] : List Value).toArray s 0 0 (hm_A B)) (F0 m 13 ls []) := by
    intro n
    induction n with
    | zero =>
      intro i a H locs ls hin hinv hW hS hl
      obtain rfl : i = 34 := by omega
      refine lv_iload hx hb d_C_stepRows_13 (lv_at hl 0 rfl) ?_
      refine lv_iload_n hx hb d_C_stepRows_15 rfl (lv_at hl 1 rfl) ?_
      refine lv_icmp_ge (tgt := 42) hx hb d_C_stepRows_16 (by decide) (fun c1 => ?_) (fun c1 => ?_)
      · refine lv_iload_n hx hb d_C_stepRows_42 rfl (lv_at hl 3 rfl) ?_
        refine W.widen (k := 0) (n := 0) (by omega) (by omega) ?_
        exact W.iret (v := a) hx hb hr (fun t9 ht9 hwz => ⟨⟨a, (V, P), rfl, (by rw [← hinv]; rfl), by rw [ht9]; exact hW, va_K.moved hwz.alike hK, hN.warm hwz⟩, hS.F ht9⟩) hS.2.2 d_C_stepRows_43
      · exact absurd (by decide) c1
    | succ n ih =>
      intro i a H locs ls hin hinv hW hS hl
      have hi : i < 34 := by omega
      refine lv_iload hx hb d_C_stepRows_13 (lv_at hl 0 rfl) ?_
      refine lv_iload_n hx hb d_C_stepRows_15 rfl (lv_at hl 1 rfl) ?_
      refine lv_icmp_ge (tgt := 42) hx hb d_C_stepRows_16 (by decide) (fun c2 => ?_) (fun c2 => ?_)
      · exact absurd c2 (nI_ge (b := 34) (by omega) (by omega))
      · refine lv_aload_n hx hb d_C_stepRows_19 rfl (lv_at hl 2 rfl) ?_
        refine lv_iload hx hb d_C_stepRows_20 (lv_at hl 0 rfl) ?_
        refine jw_aldR (i := i) hx hb hK hW rfl (by omega) d_C_stepRows_22 ?_
        refine lv_astore (lv' := [(5, .ref (sh (232 + i))), (4, .int (nI i)), (3, .int 34), (2, .ref (sh 271)), (1, .int a), (0, .ref (sh 268))]) hx hb d_C_stepRows_23 hl (by decide) rfl (fun ls hl => ?_)
        refine lv_aload hx hb d_C_stepRows_25 (lv_at hl 0 rfl) ?_
        refine va_getN (D := D) (ci := 4) (v := .int (V (232 + i) 4)) (C := "BlockVault$Row") (T := T_R) (N := 5) hx hb hT in_R hown hK (hW.obj (lay_row hi)) 0 rfl rfl 4 (by decide) (nf10 hN) (fun _ h9 => h9) rfl d_C_stepRows_27 ?_
        refine lv_if_eq (tgt := 36) hx hb d_C_stepRows_30 (by decide) (fun c3 => ?_) (fun c3 => ?_)
        · refine lv_iinc (v := ((nI i) + 1)) (lv' := [(4, .int ((nI i) + 1)), (5, .ref (sh (232 + i))), (3, .int 34), (2, .ref (sh 271)), (1, .int a), (0, .ref (sh 268))]) hx hb d_C_stepRows_36 hl (k := 1) rfl rfl (by decide) rfl (fun ls hl => ?_)
          refine lv_goto (tgt := 13) hx hb d_C_stepRows_39 (by decide) ?_
          exact ih (i + 1) a H locs ls (by omega) (by rw [← hinv]; simp [cR, c3]) hW hS (by rw [← nI_1]; exact lv_sub hl [0, 2, 3, 4, 5] rfl)
        · refine lv_iinc (v := (a + 1)) (lv' := [(1, .int (a + 1)), (5, .ref (sh (232 + i))), (4, .int (nI i)), (3, .int 34), (2, .ref (sh 271)), (0, .ref (sh 268))]) hx hb d_C_stepRows_33 hl (k := 4) rfl rfl (by decide) rfl (fun ls hl => ?_)
          refine lv_iinc (v := ((nI i) + 1)) (lv' := [(4, .int ((nI i) + 1)), (1, .int (a + 1)), (5, .ref (sh (232 + i))), (3, .int 34), (2, .ref (sh 271)), (0, .ref (sh 268))]) hx hb d_C_stepRows_36 hl (k := 2) rfl rfl (by decide) rfl (fun ls hl => ?_)
          refine lv_goto (tgt := 13) hx hb d_C_stepRows_39 (by decide) ?_
          exact ih (i + 1) (a + 1) H locs ls (by omega) (by rw [← hinv]; simp [cR, c3]) hW hS (by rw [← nI_1]; exact lv_sub hl [0, 3, 4, 1, 5] rfl)
  exact loop 34 0 0 _ _ ls (by omega) (rfl) hW hS (lv_sub hl [0, 1, 2, 3, 4] rfl)

set_option maxHeartbeats 4000000 in
set_option maxRecDepth 100000 in
theorem m_C_closeStep (l : Launch) (D : va_G) (B : Nat) (cA : Nat → ClassId) (sh : Nat → Nat) (V P : VV) : Met l y_C_closeStep w_C_closeStep ({ frames := 0, cells := 0, slots := 0, locals := 0 } : Room) (va_Pc [.ref (sh 268)] (JC D B cA sh (V, P))) (va_Qv (fun (u : VV × VV) => u = (zR 4 34 0 V, P)) (JC D B cA sh) (hm_A B)) 0 0 (hm_A B) := by
  refine Met.ofW (cc := c_C_closeStep) (maxL := 5) (ret := none) (by decide) rfl ?_
  intro p e s m args below meth c s₁ Bd hml hv
  obtain ⟨rfl, hW, hK, hN⟩ := hv
  have hx := Bd.exec
  have hb := Bd.bytes
  have hr := Bd.returns
  have hts := atoms_spec (ws := w_C_closeStep) Bd.pre
  have hT : ∀ w ∈ WG, w.before ([.ref (sh 268)] : List Value).toArray s = true := fun w h => hts w (List.mem_cons_of_mem _ h)
  have hown : s.vm.findClass "BlockVault$Cache" = some m.cls := findClass_of_methodNamed Bd.named
  have hlocks := Bd.notSynchronized
  have hW : JW D B cA sh V P s.heap := hW
  have hBs : B ≤ s.heap.size := hW.ge
  have hS : va_S (hm_A B) s.heap s.heap [] := va_S.rf
  have hl := lv_entry ([.ref (sh 268)]) (n := 5) (Nat.le_of_ble_eq_true rfl)
  rw [lg_entry_eq]
  generalize (lg_sl ([.ref (sh 268)]) ++ List.replicate (5 - (lg_sl ([.ref (sh 268)])).length) Slot.unset).toArray = ls at hl ⊢
  have hl : lv_has ls 5 [(0, .ref (sh 268))] := hl
  refine lv_aload_n hx hb d_C_closeStep_0 rfl (lv_at hl 0 rfl) ?_
  refine va_get (D := D) (ci := 0) (v := .ref (sh 271)) (C := "BlockVault$Cache") (T := T_C) (N := 3) hx hb hT in_C hown hK (hW.obj rfl) 0 rfl rfl 0 (by decide) (hT _ k97) (fun _ h9 => h9) rfl d_C_closeStep_1 ?_
  refine lv_astore_n (lv' := [(1, .ref (sh 271)), (0, .ref (sh 268))]) hx hb d_C_closeStep_4 rfl hl (by decide) rfl (fun ls hl => ?_)
  refine lv_aload_n hx hb d_C_closeStep_5 rfl (lv_at hl 0 rfl) ?_
  refine jw_alenR hx hb hK hW d_C_closeStep_6 ?_
  refine lv_istore_n (lv' := [(2, .int 34), (1, .ref (sh 271)), (0, .ref (sh 268))]) hx hb d_C_closeStep_7 rfl hl (by decide) rfl (fun ls hl => ?_)
  refine lv_iconst (v := 0) hx hb d_C_closeStep_8 (by decide) ?_
  refine lv_istore_n (lv' := [(3, .int 0), (2, .int 34), (1, .ref (sh 271)), (0, .ref (sh 268))]) hx hb d_C_closeStep_9 rfl hl (by decide) rfl (fun ls hl => ?_)
  have loop : ∀ (n i : Nat) (Va Pa : VV) (H : Heap) (locs : List Loc) (ls : Array Slot), i + n = 34 → ((zR 4 n i Va, Pa) = (zR 4 34 0 V, P)) → JW D B cA sh Va Pa H → va_S (hm_A B) s.heap H locs → lv_has ls 5 [(3, .int (nI i)), (2, .int 34), (1, .ref (sh 271)), (0, .ref (sh 268))] → W p l e (headSpec w_C_closeStep ({ frames := 0, cells := 0, slots := 0, locals := 0 } : Room)).room s m ([.ref (sh 268)] : List Value).toArray below meth c H locs 0 0 (MQ below (va_Qv (fun (u : VV × VV) => u = (zR 4 34 0 V, P)) (JC D B cA sh) (hm_A B)) ([.ref (sh 268)] : List Value).toArray s 0 0 (hm_A B)) (F0 m 10 ls []) := by
    intro n
    induction n with
    | zero =>
      intro i Va Pa H locs ls hin hinv hW hS hl
      obtain rfl : i = 34 := by omega
      refine lv_iload_n hx hb d_C_closeStep_10 rfl (lv_at hl 0 rfl) ?_
      refine lv_iload_n hx hb d_C_closeStep_11 rfl (lv_at hl 1 rfl) ?_
      refine lv_icmp_ge (tgt := 32) hx hb d_C_closeStep_12 (by decide) (fun c1 => ?_) (fun c1 => ?_)
      · refine W.widen (k := 0) (n := 0) (by omega) (by omega) ?_
        exact W.vret hx hb hr (fun t9 ht9 hwz => ⟨⟨(Va, Pa), rfl, (by rw [← hinv]; rfl), by rw [ht9]; exact hW, va_K.moved hwz.alike hK, hN.warm hwz⟩, hS.F ht9⟩) hS.2.2 d_C_closeStep_32
      · exact absurd (by decide) c1
    | succ n ih =>
      intro i Va Pa H locs ls hin hinv hW hS hl
      have hi : i < 34 := by omega
      refine lv_iload_n hx hb d_C_closeStep_10 rfl (lv_at hl 0 rfl) ?_
      refine lv_iload_n hx hb d_C_closeStep_11 rfl (lv_at hl 1 rfl) ?_
      refine lv_icmp_ge (tgt := 32) hx hb d_C_closeStep_12 (by decide) (fun c2 => ?_) (fun c2 => ?_)
      · exact absurd c2 (nI_ge (b := 34) (by omega) (by omega))
      · refine lv_aload_n hx hb d_C_closeStep_15 rfl (lv_at hl 2 rfl) ?_
        refine lv_iload_n hx hb d_C_closeStep_16 rfl (lv_at hl 0 rfl) ?_
        refine jw_aldR (i := i) hx hb hK hW rfl (by omega) d_C_closeStep_17 ?_
        refine lv_astore (lv' := [(4, .ref (sh (232 + i))), (3, .int (nI i)), (2, .int 34), (1, .ref (sh 271)), (0, .ref (sh 268))]) hx hb d_C_closeStep_18 hl (by decide) rfl (fun ls hl => ?_)
        refine lv_aload hx hb d_C_closeStep_20 (lv_at hl 0 rfl) ?_
        refine lv_iconst (v := 0) hx hb d_C_closeStep_22 (by decide) ?_
        refine jw_putN (ci := 4) (x := 0) (ty := .boolean) (C := "BlockVault$Row") (T := T_R) (N := 5) hx hb hT in_R t_R t_R_ok n_R hown hK hW hS (lay_row hi) rfl 4 (by decide) rfl (nf10 hN) (fun _ h9 => h9) rfl (by decide +kernel) rfl rfl d_C_closeStep_23 (fun H locs hW hS => ?_)
        refine lv_iinc (v := ((nI i) + 1)) (lv' := [(3, .int ((nI i) + 1)), (4, .ref (sh (232 + i))), (2, .int 34), (1, .ref (sh 271)), (0, .ref (sh 268))]) hx hb d_C_closeStep_26 hl (k := 1) rfl rfl (by decide) rfl (fun ls hl => ?_)
        refine lv_goto (tgt := 10) hx hb d_C_closeStep_29 (by decide) ?_
        exact ih (i + 1) (v2 Va (232 + i) 4 0) Pa H locs ls (by omega) (by rw [← hinv]; rfl) hW hS (by rw [← nI_1]; exact lv_sub hl [0, 2, 3, 4] rfl)
  exact loop 34 0 V P _ _ ls (by omega) (rfl) hW hS (lv_sub hl [0, 1, 2, 3] rfl)

set_option maxHeartbeats 4000000 in
set_option maxRecDepth 100000 in
theorem m_C_releaseHeld (l : Launch) (D : va_G) (B : Nat) (cA : Nat → ClassId) (sh : Nat → Nat) (V P : VV) : Met l y_C_releaseHeld w_C_releaseHeld ({ frames := 0, cells := 0, slots := 0, locals := 0 } : Room) (va_Pc [.ref (sh 268)] (JC D B cA sh (V, P))) (va_Qv (fun (u : VV × VV) => u = (zR 3 34 0 V, P)) (JC D B cA sh) (hm_A B)) 0 0 (hm_A B) := by
  refine Met.ofW (cc := c_C_releaseHeld) (maxL := 5) (ret := none) (by decide) rfl ?_
  intro p e s m args below meth c s₁ Bd hml hv
  obtain ⟨rfl, hW, hK, hN⟩ := hv
  have hx := Bd.exec
  have hb := Bd.bytes
  have hr := Bd.returns
  have hts := atoms_spec (ws := w_C_releaseHeld) Bd.pre
  have hT : ∀ w ∈ WG, w.before ([.ref (sh 268)] : List Value).toArray s = true := fun w h => hts w (List.mem_cons_of_mem _ h)
  have hown : s.vm.findClass "BlockVault$Cache" = some m.cls := findClass_of_methodNamed Bd.named
  have hlocks := Bd.notSynchronized
  have hW : JW D B cA sh V P s.heap := hW
  have hBs : B ≤ s.heap.size := hW.ge
  have hS : va_S (hm_A B) s.heap s.heap [] := va_S.rf
  have hl := lv_entry ([.ref (sh 268)]) (n := 5) (Nat.le_of_ble_eq_true rfl)
  rw [lg_entry_eq]
  generalize (lg_sl ([.ref (sh 268)]) ++ List.replicate (5 - (lg_sl ([.ref (sh 268)])).length) Slot.unset).toArray = ls at hl ⊢
  have hl : lv_has ls 5 [(0, .ref (sh 268))] := hl
  refine lv_aload_n hx hb d_C_releaseHeld_0 rfl (lv_at hl 0 rfl) ?_
  refine va_get (D := D) (ci := 0) (v := .ref (sh 271)) (C := "BlockVault$Cache") (T := T_C) (N := 3) hx hb hT in_C hown hK (hW.obj rfl) 0 rfl rfl 0 (by decide) (hT _ k97) (fun _ h9 => h9) rfl d_C_releaseHeld_1 ?_
  refine lv_astore_n (lv' := [(1, .ref (sh 271)), (0, .ref (sh 268))]) hx hb d_C_releaseHeld_4 rfl hl (by decide) rfl (fun ls hl => ?_)
  refine lv_aload_n hx hb d_C_releaseHeld_5 rfl (lv_at hl 0 rfl) ?_
  refine jw_alenR hx hb hK hW d_C_releaseHeld_6 ?_
  refine lv_istore_n (lv' := [(2, .int 34), (1, .ref (sh 271)), (0, .ref (sh 268))]) hx hb d_C_releaseHeld_7 rfl hl (by decide) rfl (fun ls hl => ?_)
  refine lv_iconst (v := 0) hx hb d_C_releaseHeld_8 (by decide) ?_
  refine lv_istore_n (lv' := [(3, .int 0), (2, .int 34), (1, .ref (sh 271)), (0, .ref (sh 268))]) hx hb d_C_releaseHeld_9 rfl hl (by decide) rfl (fun ls hl => ?_)
  have loop : ∀ (n i : Nat) (Va Pa : VV) (H : Heap) (locs : List Loc) (ls : Array Slot), i + n = 34 → ((zR 3 n i Va, Pa) = (zR 3 34 0 V, P)) → JW D B cA sh Va Pa H → va_S (hm_A B) s.heap H locs → lv_has ls 5 [(3, .int (nI i)), (2, .int 34), (1, .ref (sh 271)), (0, .ref (sh 268))] → W p l e (headSpec w_C_releaseHeld ({ frames := 0, cells := 0, slots := 0, locals := 0 } : Room)).room s m ([.ref (sh 268)] : List Value).toArray below meth c H locs 0 0 (MQ below (va_Qv (fun (u : VV × VV) => u = (zR 3 34 0 V, P)) (JC D B cA sh) (hm_A B)) ([.ref (sh 268)] : List Value).toArray s 0 0 (hm_A B)) (F0 m 10 ls []) := by
    intro n
    induction n with
    | zero =>
      intro i Va Pa H locs ls hin hinv hW hS hl
      obtain rfl : i = 34 := by omega
      refine lv_iload_n hx hb d_C_releaseHeld_10 rfl (lv_at hl 0 rfl) ?_
      refine lv_iload_n hx hb d_C_releaseHeld_11 rfl (lv_at hl 1 rfl) ?_
      refine lv_icmp_ge (tgt := 32) hx hb d_C_releaseHeld_12 (by decide) (fun c1 => ?_) (fun c1 => ?_)
      · refine W.widen (k := 0) (n := 0) (by omega) (by omega) ?_
        exact W.vret hx hb hr (fun t9 ht9 hwz => ⟨⟨(Va, Pa), rfl, (by rw [← hinv]; rfl), by rw [ht9]; exact hW, va_K.moved hwz.alike hK, hN.warm hwz⟩, hS.F ht9⟩) hS.2.2 d_C_releaseHeld_32
      · exact absurd (by decide) c1
    | succ n ih =>
      intro i Va Pa H locs ls hin hinv hW hS hl
      have hi : i < 34 := by omega
      refine lv_iload_n hx hb d_C_releaseHeld_10 rfl (lv_at hl 0 rfl) ?_
      refine lv_iload_n hx hb d_C_releaseHeld_11 rfl (lv_at hl 1 rfl) ?_
      refine lv_icmp_ge (tgt := 32) hx hb d_C_releaseHeld_12 (by decide) (fun c2 => ?_) (fun c2 => ?_)
      · exact absurd c2 (nI_ge (b := 34) (by omega) (by omega))
      · refine lv_aload_n hx hb d_C_releaseHeld_15 rfl (lv_at hl 2 rfl) ?_
        refine lv_iload_n hx hb d_C_releaseHeld_16 rfl (lv_at hl 0 rfl) ?_
        refine jw_aldR (i := i) hx hb hK hW rfl (by omega) d_C_releaseHeld_17 ?_
        refine lv_astore (lv' := [(4, .ref (sh (232 + i))), (3, .int (nI i)), (2, .int 34), (1, .ref (sh 271)), (0, .ref (sh 268))]) hx hb d_C_releaseHeld_18 hl (by decide) rfl (fun ls hl => ?_)
        refine lv_aload hx hb d_C_releaseHeld_20 (lv_at hl 0 rfl) ?_
        refine lv_iconst (v := 0) hx hb d_C_releaseHeld_22 (by decide) ?_
        refine jw_putN (ci := 4) (x := 0) (ty := .boolean) (C := "BlockVault$Row") (T := T_R) (N := 5) hx hb hT in_R t_R t_R_ok n_R hown hK hW hS (lay_row hi) rfl 3 (by decide) rfl (nf7 hN) (fun _ h9 => h9) rfl (by decide +kernel) rfl rfl d_C_releaseHeld_23 (fun H locs hW hS => ?_)
        refine lv_iinc (v := ((nI i) + 1)) (lv' := [(3, .int ((nI i) + 1)), (4, .ref (sh (232 + i))), (2, .int 34), (1, .ref (sh 271)), (0, .ref (sh 268))]) hx hb d_C_releaseHeld_26 hl (k := 1) rfl rfl (by decide) rfl (fun ls hl => ?_)
        refine lv_goto (tgt := 10) hx hb d_C_releaseHeld_29 (by decide) ?_
        exact ih (i + 1) (v2 Va (232 + i) 3 0) Pa H locs ls (by omega) (by rw [← hinv]; rfl) hW hS (by rw [← nI_1]; exact lv_sub hl [0, 2, 3, 4] rfl)
  exact loop 34 0 V P _ _ ls (by omega) (rfl) hW hS (lv_sub hl [0, 1, 2, 3] rfl)

set_option maxHeartbeats 4000000 in
set_option maxRecDepth 100000 in
theorem m_C_makeEmpty (l : Launch) (D : va_G) (B : Nat) (cA : Nat → ClassId) (sh : Nat → Nat) (V P : VV) : Met l y_C_makeEmpty w_C_makeEmpty ({ frames := 1, cells := 0, slots := 0, locals := 20 } : Room) (va_Pc [.ref (sh 268)] (JC D B cA sh (V, P))) (va_Qv (fun (u : VV × VV) => u = (eR 34 0 V, P)) (JC D B cA sh) (hm_A B)) 0 0 (hm_A B) := by
  refine Met.ofW (cc := c_C_makeEmpty) (maxL := 5) (ret := none) (by decide) rfl ?_
  intro p e s m args below meth c s₁ Bd hml hv
  obtain ⟨rfl, hW, hK, hN⟩ := hv
  have hx := Bd.exec
  have hb := Bd.bytes
  have hr := Bd.returns
  have hts := atoms_spec (ws := w_C_makeEmpty) Bd.pre
  have hT : ∀ w ∈ WG, w.before ([.ref (sh 268)] : List Value).toArray s = true := fun w h => hts w (List.mem_cons_of_mem _ h)
  have hown : s.vm.findClass "BlockVault$Cache" = some m.cls := findClass_of_methodNamed Bd.named
  have hlocks := Bd.notSynchronized
  have hW : JW D B cA sh V P s.heap := hW
  have hBs : B ≤ s.heap.size := hW.ge
  have hS : va_S (hm_A B) s.heap s.heap [] := va_S.rf
  have hl := lv_entry ([.ref (sh 268)]) (n := 5) (Nat.le_of_ble_eq_true rfl)
  rw [lg_entry_eq]
  generalize (lg_sl ([.ref (sh 268)]) ++ List.replicate (5 - (lg_sl ([.ref (sh 268)])).length) Slot.unset).toArray = ls at hl ⊢
  have hl : lv_has ls 5 [(0, .ref (sh 268))] := hl
  refine lv_aload_n hx hb d_C_makeEmpty_0 rfl (lv_at hl 0 rfl) ?_
  refine va_get (D := D) (ci := 0) (v := .ref (sh 271)) (C := "BlockVault$Cache") (T := T_C) (N := 3) hx hb hT in_C hown hK (hW.obj rfl) 0 rfl rfl 0 (by decide) (hT _ k97) (fun _ h9 => h9) rfl d_C_makeEmpty_1 ?_
  refine lv_astore_n (lv' := [(1, .ref (sh 271)), (0, .ref (sh 268))]) hx hb d_C_makeEmpty_4 rfl hl (by decide) rfl (fun ls hl => ?_)
  refine lv_aload_n hx hb d_C_makeEmpty_5 rfl (lv_at hl 0 rfl) ?_
  refine jw_alenR hx hb hK hW d_C_makeEmpty_6 ?_
  refine lv_istore_n (lv' := [(2, .int 34), (1, .ref (sh 271)), (0, .ref (sh 268))]) hx hb d_C_makeEmpty_7 rfl hl (by decide) rfl (fun ls hl => ?_)
  refine lv_iconst (v := 0) hx hb d_C_makeEmpty_8 (by decide) ?_
  refine lv_istore_n (lv' := [(3, .int 0), (2, .int 34), (1, .ref (sh 271)), (0, .ref (sh 268))]) hx hb d_C_makeEmpty_9 rfl hl (by decide) rfl (fun ls hl => ?_)
  have loop : ∀ (n i : Nat) (Va Pa : VV) (H : Heap) (locs : List Loc) (ls : Array Slot), i + n = 34 → ((eR n i Va, Pa) = (eR 34 0 V, P)) → JW D B cA sh Va Pa H → va_S (hm_A B) s.heap H locs → lv_has ls 5 [(3, .int (nI i)), (2, .int 34), (1, .ref (sh 271)), (0, .ref (sh 268))] → W p l e (headSpec w_C_makeEmpty ({ frames := 1, cells := 0, slots := 0, locals := 20 } : Room)).room s m ([.ref (sh 268)] : List Value).toArray below meth c H locs 0 0 (MQ below (va_Qv (fun (u : VV × VV) => u = (eR 34 0 V, P)) (JC D B cA sh) (hm_A B)) ([.ref (sh 268)] : List Value).toArray s 0 0 (hm_A B)) (F0 m 10 ls []) := by
    intro n
    induction n with
    | zero =>
      intro i Va Pa H locs ls hin hinv hW hS hl
      obtain rfl : i = 34 := by omega
      refine lv_iload_n hx hb d_C_makeEmpty_10 rfl (lv_at hl 0 rfl) ?_
      refine lv_iload_n hx hb d_C_makeEmpty_11 rfl (lv_at hl 1 rfl) ?_
      refine lv_icmp_ge (tgt := 31) hx hb d_C_makeEmpty_12 (by decide) (fun c1 => ?_) (fun c1 => ?_)
      · refine W.widen (k := 0) (n := 0) (by omega) (by omega) ?_
        exact W.vret hx hb hr (fun t9 ht9 hwz => ⟨⟨(Va, Pa), rfl, (by rw [← hinv]; rfl), by rw [ht9]; exact hW, va_K.moved hwz.alike hK, hN.warm hwz⟩, hS.F ht9⟩) hS.2.2 d_C_makeEmpty_31
      · exact absurd (by decide) c1
    | succ n ih =>
      intro i Va Pa H locs ls hin hinv hW hS hl
      have hi : i < 34 := by omega
      refine lv_iload_n hx hb d_C_makeEmpty_10 rfl (lv_at hl 0 rfl) ?_
      refine lv_iload_n hx hb d_C_makeEmpty_11 rfl (lv_at hl 1 rfl) ?_
      refine lv_icmp_ge (tgt := 31) hx hb d_C_makeEmpty_12 (by decide) (fun c2 => ?_) (fun c2 => ?_)
      · exact absurd c2 (nI_ge (b := 34) (by omega) (by omega))
      · refine lv_aload_n hx hb d_C_makeEmpty_15 rfl (lv_at hl 2 rfl) ?_
        refine lv_iload_n hx hb d_C_makeEmpty_16 rfl (lv_at hl 0 rfl) ?_
        refine jw_aldR (i := i) hx hb hK hW rfl (by omega) d_C_makeEmpty_17 ?_
        refine lv_astore (lv' := [(4, .ref (sh (232 + i))), (3, .int (nI i)), (2, .int 34), (1, .ref (sh 271)), (0, .ref (sh 268))]) hx hb d_C_makeEmpty_18 hl (by decide) rfl (fun ls hl => ?_)
        refine lv_aload hx hb d_C_makeEmpty_20 (lv_at hl 0 rfl) ?_
        refine jw_callv (va_runV (As := []) (rest := []) ⟨hx, hb, hml, hown, hT⟩ (m_R_makeEmpty l D B cA sh Va Pa i hi) (cwV 0 hT (gV k220 k221 k222 k6 kc_R_makeEmpty) rfl rfl rfl (by decide +kernel) ⟨Nat.le_of_ble_eq_true rfl, Nat.le_of_ble_eq_true rfl⟩) (jw_preV (q := ("BlockVault$Row", T_R, 5)) hW hK hN (lay_row hi) rfl) rfl rfl hl.1 rfl (lv_room (Nat.le_of_ble_eq_true rfl)) d_C_makeEmpty_22 ⟨Nat.le_of_ble_eq_true rfl, Nat.le_of_ble_eq_true rfl⟩) hS (fun V4 P5 H locs hw6 hW hS => ?_)
        cases hw6
        refine lv_iinc (v := ((nI i) + 1)) (lv' := [(3, .int ((nI i) + 1)), (4, .ref (sh (232 + i))), (2, .int 34), (1, .ref (sh 271)), (0, .ref (sh 268))]) hx hb d_C_makeEmpty_25 hl (k := 1) rfl rfl (by decide) rfl (fun ls hl => ?_)
        refine lv_goto (tgt := 10) hx hb d_C_makeEmpty_28 (by decide) ?_
        exact ih (i + 1) (mEmp Va i) Pa H locs ls (by omega) (by rw [← hinv]; rfl) hW hS (by rw [← nI_1]; exact lv_sub hl [0, 2, 3, 4] rfl)
  exact loop 34 0 V P _ _ ls (by omega) (rfl) hW hS (lv_sub hl [0, 1, 2, 3] rfl)

set_option maxHeartbeats 4000000 in
set_option maxRecDepth 100000 in
theorem m_C_rowOf (l : Launch) (D : va_G) (B : Nat) (cA : Nat → ClassId) (sh : Nat → Nat) (V P : VV) (b : Int32) : Met l y_C_rowOf w_C_rowOf ({ frames := 0, cells := 0, slots := 0, locals := 0 } : Room) (va_Pc [.ref (sh 268), .int b] (JC D B cA sh (V, P))) (va_Qq (fun (r : Option Nat) (u : VV × VV) => r = (mRow V b).map (fun x => sh (232 + x)) ∧ u = (V, P)) (JC D B cA sh) (hm_A B)) 0 0 (hm_A B) := by
  refine Met.ofW (cc := c_C_rowOf) (maxL := 6) (ret := (some (FieldType.object "BlockVault$Row"))) (by decide) rfl ?_
  intro p e s m args below meth c s₁ Bd hml hv
  obtain ⟨rfl, hW, hK, hN⟩ := hv
  have hx := Bd.exec
  have hb := Bd.bytes
  have hr := Bd.returns
  have hts := atoms_spec (ws := w_C_rowOf) Bd.pre
  have hT : ∀ w ∈ WG, w.before ([.ref (sh 268), .int b] : List Value).toArray s = true := fun w h => hts w (List.mem_cons_of_mem _ h)
  have hown : s.vm.findClass "BlockVault$Cache" = some m.cls := findClass_of_methodNamed Bd.named
  have hlocks := Bd.notSynchronized
  have hW : JW D B cA sh V P s.heap := hW
  have hBs : B ≤ s.heap.size := hW.ge
  have hS : va_S (hm_A B) s.heap s.heap [] := va_S.rf
  have hl := lv_entry ([.ref (sh 268), .int b]) (n := 6) (Nat.le_of_ble_eq_true rfl)
  rw [lg_entry_eq]
  generalize (lg_sl ([.ref (sh 268), .int b]) ++ List.replicate (6 - (lg_sl ([.ref (sh 268), .int b])).length) Slot.unset).toArray = ls at hl ⊢
  have hl : lv_has ls 6 [(0, .ref (sh 268)), (1, .int b)] := hl
  refine lv_aload_n hx hb d_C_rowOf_0 rfl (lv_at hl 0 rfl) ?_
  refine va_get (D := D) (ci := 0) (v := .ref (sh 271)) (C := "BlockVault$Cache") (T := T_C) (N := 3) hx hb hT in_C hown hK (hW.obj rfl) 0 rfl rfl 0 (by decide) (hT _ k97) (fun _ h9 => h9) rfl d_C_rowOf_1 ?_
  refine lv_astore_n (lv' := [(2, .ref (sh 271)), (0, .ref (sh 268)), (1, .int b)]) hx hb d_C_rowOf_4 rfl hl (by decide) rfl (fun ls hl => ?_)
  refine lv_aload_n hx hb d_C_rowOf_5 rfl (lv_at hl 0 rfl) ?_
  refine jw_alenR hx hb hK hW d_C_rowOf_6 ?_
  refine lv_istore_n (lv' := [(3, .int 34), (2, .ref (sh 271)), (0, .ref (sh 268)), (1, .int b)]) hx hb d_C_rowOf_7 rfl hl (by decide) rfl (fun ls hl => ?_)
  refine lv_iconst (v := 0) hx hb d_C_rowOf_8 (by decide) ?_
  refine lv_istore (lv' := [(4, .int 0), (3, .int 34), (2, .ref (sh 271)), (0, .ref (sh 268)), (1, .int b)]) hx hb d_C_rowOf_9 hl (by decide) rfl (fun ls hl => ?_)
  have loop : ∀ (n i : Nat) (H : Heap) (locs : List Loc) (ls : Array Slot), i + n = 34 → (fd (fun x => decide (V (232 + x) 1 = b)) n i = mRow V b) → JW D B cA sh V P H → va_S (hm_A B) s.heap H locs → lv_has ls 6 [(4, .int (nI i)), (3, .int 34), (2, .ref (sh 271)), (0, .ref (sh 268)), (1, .int b)] → W p l e (headSpec w_C_rowOf ({ frames := 0, cells := 0, slots := 0, locals := 0 } : Room)).room s m ([.ref (sh 268), .int b] : List Value).toArray below meth c H locs 0 0 (MQ below (va_Qq (fun (r : Option Nat) (u : VV × VV) => r = (mRow V b).map (fun x => sh (232 + x)) ∧ u = (V, P)) (JC D B cA sh) (hm_A B)) ([.ref (sh 268), .int b] : List Value).toArray s 0 0 (hm_A B)) (F0 m 11 ls []) := by
    intro n
    induction n with
    | zero =>
      intro i H locs ls hin hinv hW hS hl
      obtain rfl : i = 34 := by omega
      refine lv_iload hx hb d_C_rowOf_11 (lv_at hl 0 rfl) ?_
      refine lv_iload_n hx hb d_C_rowOf_13 rfl (lv_at hl 1 rfl) ?_
      refine lv_icmp_ge (tgt := 41) hx hb d_C_rowOf_14 (by decide) (fun c1 => ?_) (fun c1 => ?_)
      · refine lv_null hx hb d_C_rowOf_41 ?_
        refine W.widen (k := 0) (n := 0) (by omega) (by omega) ?_
        exact W.aret (v := va_rf none) hx hb hr (Or.inl ⟨_, rfl⟩) (va_rf_or _) (fun t9 ht9 hwz => ⟨⟨none, (V, P), rfl, ⟨by rw [← hinv]; simp [fd], rfl⟩, by rw [ht9]; exact hW, va_K.moved hwz.alike hK, hN.warm hwz⟩, hS.F ht9⟩) hS.2.2 d_C_rowOf_42
      · exact absurd (by decide) c1
    | succ n ih =>
      intro i H locs ls hin hinv hW hS hl
      have hi : i < 34 := by omega
      refine lv_iload hx hb d_C_rowOf_11 (lv_at hl 0 rfl) ?_
      refine lv_iload_n hx hb d_C_rowOf_13 rfl (lv_at hl 1 rfl) ?_
      refine lv_icmp_ge (tgt := 41) hx hb d_C_rowOf_14 (by decide) (fun c2 => ?_) (fun c2 => ?_)
      · exact absurd c2 (nI_ge (b := 34) (by omega) (by omega))
      · refine lv_aload_n hx hb d_C_rowOf_17 rfl (lv_at hl 2 rfl) ?_
        refine lv_iload hx hb d_C_rowOf_18 (lv_at hl 0 rfl) ?_
        refine jw_aldR (i := i) hx hb hK hW rfl (by omega) d_C_rowOf_20 ?_
        refine lv_astore (lv' := [(5, .ref (sh (232 + i))), (4, .int (nI i)), (3, .int 34), (2, .ref (sh 271)), (0, .ref (sh 268)), (1, .int b)]) hx hb d_C_rowOf_21 hl (by decide) rfl (fun ls hl => ?_)
        refine lv_aload hx hb d_C_rowOf_23 (lv_at hl 0 rfl) ?_
        refine va_getN (D := D) (ci := 4) (v := .int (V (232 + i) 1)) (C := "BlockVault$Row") (T := T_R) (N := 5) hx hb hT in_R hown hK (hW.obj (lay_row hi)) 0 rfl rfl 1 (by decide) (nf3 hN) (fun _ h9 => h9) rfl d_C_rowOf_25 ?_
        refine lv_iload_n hx hb d_C_rowOf_28 rfl (lv_at hl 5 rfl) ?_
        refine lv_icmp_ne (tgt := 35) hx hb d_C_rowOf_29 (by decide) (fun c3 => ?_) (fun c3 => ?_)
        · refine lv_iinc (v := ((nI i) + 1)) (lv' := [(4, .int ((nI i) + 1)), (5, .ref (sh (232 + i))), (3, .int 34), (2, .ref (sh 271)), (0, .ref (sh 268)), (1, .int b)]) hx hb d_C_rowOf_35 hl (k := 1) rfl rfl (by decide) rfl (fun ls hl => ?_)
          refine lv_goto (tgt := 11) hx hb d_C_rowOf_38 (by decide) ?_
          exact ih (i + 1) H locs ls (by omega) (by rw [← hinv]; simp [fd, c3]) hW hS (by rw [← nI_1]; exact lv_sub hl [0, 2, 3, 4, 5] rfl)
        · refine lv_aload hx hb d_C_rowOf_32 (lv_at hl 0 rfl) ?_
          refine W.widen (k := 0) (n := 0) (by omega) (by omega) ?_
          exact W.aret (v := va_rf (some (sh (232 + i)))) hx hb hr (Or.inl ⟨_, rfl⟩) (va_rf_or _) (fun t9 ht9 hwz => ⟨⟨(some (sh (232 + i))), (V, P), rfl, ⟨by rw [← hinv]; simp [fd, c3], rfl⟩, by rw [ht9]; exact hW, va_K.moved hwz.alike hK, hN.warm hwz⟩, hS.F ht9⟩) hS.2.2 d_C_rowOf_34
  exact loop 34 0 _ _ ls (by omega) (rfl) hW hS (lv_sub hl [0, 1, 2, 3, 4] rfl)

set_option maxHeartbeats 4000000 in
set_option maxRecDepth 100000 in
theorem m_C_rowToGive (l : Launch) (D : va_G) (B : Nat) (cA : Nat → ClassId) (sh : Nat → Nat) (V P : VV) (h3 : ∀ i, i < 34 → V (232 + i) 3 = 0 ∨ V (232 + i) 3 = 1) : Met l y_C_rowToGive w_C_rowToGive ({ frames := 1, cells := 0, slots := 0, locals := 21 } : Room) (va_Pc [.ref (sh 268)] (JC D B cA sh (V, P))) (va_Qq (fun (r : Option Nat) (u : VV × VV) => r = some (sh (232 + mGive V)) ∧ u = (V, P)) (JC D B cA sh) (hm_A B)) 0 0 (hm_A B) := by
  refine Met.ofW (cc := c_C_rowToGive) (maxL := 6) (ret := (some (FieldType.object "BlockVault$Row"))) (by decide) rfl ?_
  intro p e s m args below meth c s₁ Bd hml hv
  obtain ⟨rfl, hW, hK, hN⟩ := hv
  have hx := Bd.exec
  have hb := Bd.bytes
  have hr := Bd.returns
  have hts := atoms_spec (ws := w_C_rowToGive) Bd.pre
  have hT : ∀ w ∈ WG, w.before ([.ref (sh 268)] : List Value).toArray s = true := fun w h => hts w (List.mem_cons_of_mem _ h)
  have hown : s.vm.findClass "BlockVault$Cache" = some m.cls := findClass_of_methodNamed Bd.named
  have hlocks := Bd.notSynchronized
  have hW : JW D B cA sh V P s.heap := hW
  have hBs : B ≤ s.heap.size := hW.ge
  have hS : va_S (hm_A B) s.heap s.heap [] := va_S.rf
  have hl := lv_entry ([.ref (sh 268)]) (n := 6) (Nat.le_of_ble_eq_true rfl)
  rw [lg_entry_eq]
  generalize (lg_sl ([.ref (sh 268)]) ++ List.replicate (6 - (lg_sl ([.ref (sh 268)])).length) Slot.unset).toArray = ls at hl ⊢
  have hl : lv_has ls 6 [(0, .ref (sh 268))] := hl
  refine lv_aload_n hx hb d_C_rowToGive_0 rfl (lv_at hl 0 rfl) ?_
  refine va_get (D := D) (ci := 0) (v := .ref (sh 271)) (C := "BlockVault$Cache") (T := T_C) (N := 3) hx hb hT in_C hown hK (hW.obj rfl) 0 rfl rfl 0 (by decide) (hT _ k97) (fun _ h9 => h9) rfl d_C_rowToGive_1 ?_
  refine lv_iconst (v := 0) hx hb d_C_rowToGive_4 (by decide) ?_
  refine jw_aldR (i := 0) hx hb hK hW rfl (by omega) d_C_rowToGive_5 ?_
  refine lv_astore_n (lv' := [(1, .ref (sh (232 + 0))), (0, .ref (sh 268))]) hx hb d_C_rowToGive_6 rfl hl (by decide) rfl (fun ls hl => ?_)
  refine lv_aload_n hx hb d_C_rowToGive_7 rfl (lv_at hl 1 rfl) ?_
  refine va_get (D := D) (ci := 0) (v := .ref (sh 271)) (C := "BlockVault$Cache") (T := T_C) (N := 3) hx hb hT in_C hown hK (hW.obj rfl) 0 rfl rfl 0 (by decide) (hT _ k97) (fun _ h9 => h9) rfl d_C_rowToGive_8 ?_
  refine lv_astore_n (lv' := [(2, .ref (sh 271)), (1, .ref (sh (232 + 0))), (0, .ref (sh 268))]) hx hb d_C_rowToGive_11 rfl hl (by decide) rfl (fun ls hl => ?_)
  refine lv_aload_n hx hb d_C_rowToGive_12 rfl (lv_at hl 0 rfl) ?_
  refine jw_alenR hx hb hK hW d_C_rowToGive_13 ?_
  refine lv_istore_n (lv' := [(3, .int 34), (2, .ref (sh 271)), (1, .ref (sh (232 + 0))), (0, .ref (sh 268))]) hx hb d_C_rowToGive_14 rfl hl (by decide) rfl (fun ls hl => ?_)
  refine lv_iconst (v := 0) hx hb d_C_rowToGive_15 (by decide) ?_
  refine lv_istore (lv' := [(4, .int 0), (3, .int 34), (2, .ref (sh 271)), (1, .ref (sh (232 + 0))), (0, .ref (sh 268))]) hx hb d_C_rowToGive_16 hl (by decide) rfl (fun ls hl => ?_)
  have loop : ∀ (n i : Nat) (f : Nat) (H : Heap) (locs : List Loc) (ls : Array Slot), i + n = 34 → (f < 34 ∧ gL V n i f = mGive V) → JW D B cA sh V P H → va_S (hm_A B) s.heap H locs → lv_has ls 6 [(4, .int (nI i)), (3, .int 34), (2, .ref (sh 271)), (1, .ref (sh (232 + f))), (0, .ref (sh 268))] → W p l e (headSpec w_C_rowToGive ({ frames := 1, cells := 0, slots := 0, locals := 21 } : Room)).room s m ([.ref (sh 268)] : List Value).toArray below meth c H locs 0 0 (MQ below (va_Qq (fun (r : Option Nat) (u : VV × VV) => r = some (sh (232 + mGive V)) ∧ u = (V, P)) (JC D B cA sh) (hm_A B)) ([.ref (sh 268)] : List Value).toArray s 0 0 (hm_A B)) (F0 m 18 ls []) := by
    intro n
    induction n with
    | zero =>
      intro i f H locs ls hin hinv hW hS hl
      obtain rfl : i = 34 := by omega
      refine lv_iload hx hb d_C_rowToGive_18 (lv_at hl 0 rfl) ?_
      refine lv_iload_n hx hb d_C_rowToGive_20 rfl (lv_at hl 1 rfl) ?_
      refine lv_icmp_ge (tgt := 48) hx hb d_C_rowToGive_21 (by decide) (fun c1 => ?_) (fun c1 => ?_)
      · refine lv_aload_n hx hb d_C_rowToGive_48 rfl (lv_at hl 3 rfl) ?_
        refine W.widen (k := 0) (n := 0) (by omega) (by omega) ?_
        exact W.aret (v := va_rf (some (sh (232 + f)))) hx hb hr (Or.inl ⟨_, rfl⟩) (va_rf_or _) (fun t9 ht9 hwz => ⟨⟨(some (sh (232 + f))), (V, P), rfl, ⟨by rw [← hinv.2]; rfl, rfl⟩, by rw [ht9]; exact hW, va_K.moved hwz.alike hK, hN.warm hwz⟩, hS.F ht9⟩) hS.2.2 d_C_rowToGive_49
      · exact absurd (by decide) c1
    | succ n ih =>
      intro i f H locs ls hin hinv hW hS hl
      have hi : i < 34 := by omega
      refine lv_iload hx hb d_C_rowToGive_18 (lv_at hl 0 rfl) ?_
      refine lv_iload_n hx hb d_C_rowToGive_20 rfl (lv_at hl 1 rfl) ?_
      refine lv_icmp_ge (tgt := 48) hx hb d_C_rowToGive_21 (by decide) (fun c2 => ?_) (fun c2 => ?_)
      · exact absurd c2 (nI_ge (b := 34) (by omega) (by omega))
      · refine lv_aload_n hx hb d_C_rowToGive_24 rfl (lv_at hl 2 rfl) ?_
        refine lv_iload hx hb d_C_rowToGive_25 (lv_at hl 0 rfl) ?_
        refine jw_aldR (i := i) hx hb hK hW rfl (by omega) d_C_rowToGive_27 ?_
        refine lv_astore (lv' := [(5, .ref (sh (232 + i))), (4, .int (nI i)), (3, .int 34), (2, .ref (sh 271)), (1, .ref (sh (232 + f))), (0, .ref (sh 268))]) hx hb d_C_rowToGive_28 hl (by decide) rfl (fun ls hl => ?_)
        refine lv_aload hx hb d_C_rowToGive_30 (lv_at hl 0 rfl) ?_
        refine lv_aload_n hx hb d_C_rowToGive_32 rfl (lv_at hl 4 rfl) ?_
        refine jw_calli (va_runV (As := [.ref (sh (232 + f))]) (rest := []) ⟨hx, hb, hml, hown, hT⟩ (m_R_givesWayBefore l D B cA sh V P i f hi hinv.1 (h3 f hinv.1)) (cwV 1 hT (gV k249 k250 k251 k6 kc_R_givesWayBefore) rfl rfl rfl (by decide +kernel) ⟨Nat.le_of_ble_eq_true rfl, Nat.le_of_ble_eq_true rfl⟩) (jw_preV (q := ("BlockVault$Row", T_R, 5)) hW hK hN (lay_row hi) rfl) rfl rfl hl.1 rfl (lv_room (Nat.le_of_ble_eq_true rfl)) d_C_rowToGive_33 ⟨Nat.le_of_ble_eq_true rfl, Nat.le_of_ble_eq_true rfl⟩) hS (fun r3 V4 P5 H locs hw6 hW hS => ?_)
        obtain ⟨hr7, rfl, rfl⟩ := t3 hw6
        refine lv_if_eq (tgt := 42) hx hb d_C_rowToGive_36 (by decide) (fun c8 => ?_) (fun c8 => ?_)
        · refine lv_iinc (v := ((nI i) + 1)) (lv' := [(4, .int ((nI i) + 1)), (5, .ref (sh (232 + i))), (3, .int 34), (2, .ref (sh 271)), (1, .ref (sh (232 + f))), (0, .ref (sh 268))]) hx hb d_C_rowToGive_42 hl (k := 1) rfl rfl (by decide) rfl (fun ls hl => ?_)
          refine lv_goto (tgt := 18) hx hb d_C_rowToGive_45 (by decide) ?_
          exact ih (i + 1) f H locs ls (by omega) (⟨by omega, by rw [← hinv.2]; simp [gL, hr7, c8]⟩) hW hS (by rw [← nI_1]; exact lv_sub hl [0, 2, 3, 4, 5] rfl)
        · refine lv_aload hx hb d_C_rowToGive_39 (lv_at hl 0 rfl) ?_
          refine lv_astore_n (lv' := [(1, .ref (sh (232 + i))), (5, .ref (sh (232 + i))), (4, .int (nI i)), (3, .int 34), (2, .ref (sh 271)), (0, .ref (sh 268))]) hx hb d_C_rowToGive_41 rfl hl (by decide) rfl (fun ls hl => ?_)
          refine lv_iinc (v := ((nI i) + 1)) (lv' := [(4, .int ((nI i) + 1)), (1, .ref (sh (232 + i))), (5, .ref (sh (232 + i))), (3, .int 34), (2, .ref (sh 271)), (0, .ref (sh 268))]) hx hb d_C_rowToGive_42 hl (k := 2) rfl rfl (by decide) rfl (fun ls hl => ?_)
          refine lv_goto (tgt := 18) hx hb d_C_rowToGive_45 (by decide) ?_
          exact ih (i + 1) i H locs ls (by omega) (⟨by omega, by rw [← hinv.2]; simp [gL, hr7, c8]⟩) hW hS (by rw [← nI_1]; exact lv_sub hl [0, 3, 4, 1, 5] rfl)
  exact loop 34 0 0 _ _ ls (by omega) (⟨by omega, rfl⟩) hW hS (lv_sub hl [0, 1, 2, 3, 4] rfl)
