set_option maxHeartbeats 4000000 in
set_option maxRecDepth 100000 in
theorem m_D_isOn (l : Launch) (D : va_G) (B : Nat) (cA : Nat → ClassId) (sh : Nat → Nat) (V P : VV) (hon : V 267 1 = 0 ∨ V 267 1 = 1) : Met l y_D_isOn w_D_isOn ({ frames := 0, cells := 0, slots := 0, locals := 0 } : Room) (va_Pc [.ref (sh 267)] (JC D B cA sh (V, P))) (va_Qi (fun (r : Int32) (u : VV × VV) => (r, u.1, u.2) = (V 267 1, V, P)) (JC D B cA sh) (hm_A B)) 0 0 (hm_A B) := by
  refine Met.ofW (cc := c_D_isOn) (maxL := 1) (ret := (some FieldType.boolean)) (by decide) rfl ?_
  intro p e s m args below meth c s₁ Bd hml hv
  obtain ⟨rfl, hW, hK, hN⟩ := hv
  have hx := Bd.exec
  have hb := Bd.bytes
  have hr := Bd.returns
  have hts := atoms_spec (ws := w_D_isOn) Bd.pre
  have hT : ∀ w ∈ WG, w.before ([.ref (sh 267)] : List Value).toArray s = true := fun w h => hts w (List.mem_cons_of_mem _ h)
  have hown : s.vm.findClass "BlockVault$Disk" = some m.cls := findClass_of_methodNamed Bd.named
  have hlocks := Bd.notSynchronized
  have hW : JW D B cA sh V P s.heap := hW
  have hBs : B ≤ s.heap.size := hW.ge
  have hS : va_S (hm_A B) s.heap s.heap [] := va_S.rf
  have hl := lv_entry ([.ref (sh 267)]) (n := 1) (Nat.le_of_ble_eq_true rfl)
  rw [lg_entry_eq]
  generalize (lg_sl ([.ref (sh 267)]) ++ List.replicate (1 - (lg_sl ([.ref (sh 267)])).length) Slot.unset).toArray = ls at hl ⊢
  have hl : lv_has ls 1 [(0, .ref (sh 267))] := hl
  refine lv_aload_n hx hb d_D_isOn_0 rfl (lv_at hl 0 rfl) ?_
  refine va_get (D := D) (ci := 1) (v := .int (V 267 1)) (C := "BlockVault$Disk") (T := T_D) (N := 4) hx hb hT in_D hown hK (hW.obj rfl) 0 rfl rfl 1 (by decide) (hT _ k43) (fun _ h9 => h9) rfl d_D_isOn_1 ?_
  refine W.widen (k := 0) (n := 0) (by omega) (by omega) ?_
  exact W.zret (ty := .boolean) (v := (V 267 1)) hx hb hr (by rcases hon with h | h <;> rw [h] <;> rfl) (fun t9 ht9 hwz => ⟨⟨(V 267 1), (V, P), rfl, rfl, by rw [ht9]; exact hW, va_K.moved hwz.alike hK, hN.warm hwz⟩, hS.F ht9⟩) hS.2.2 d_D_isOn_4

set_option maxHeartbeats 4000000 in
set_option maxRecDepth 100000 in
theorem m_D_comeBack (l : Launch) (D : va_G) (B : Nat) (cA : Nat → ClassId) (sh : Nat → Nat) (V P : VV) : Met l y_D_comeBack w_D_comeBack ({ frames := 0, cells := 0, slots := 0, locals := 0 } : Room) (va_Pc [.ref (sh 267)] (JC D B cA sh (V, P))) (va_Qv (fun (u : VV × VV) => u = (v2 V 267 1 1, P)) (JC D B cA sh) (hm_A B)) 0 0 (hm_A B) := by
  refine Met.ofW (cc := c_D_comeBack) (maxL := 1) (ret := none) (by decide) rfl ?_
  intro p e s m args below meth c s₁ Bd hml hv
  obtain ⟨rfl, hW, hK, hN⟩ := hv
  have hx := Bd.exec
  have hb := Bd.bytes
  have hr := Bd.returns
  have hts := atoms_spec (ws := w_D_comeBack) Bd.pre
  have hT : ∀ w ∈ WG, w.before ([.ref (sh 267)] : List Value).toArray s = true := fun w h => hts w (List.mem_cons_of_mem _ h)
  have hown : s.vm.findClass "BlockVault$Disk" = some m.cls := findClass_of_methodNamed Bd.named
  have hlocks := Bd.notSynchronized
  have hW : JW D B cA sh V P s.heap := hW
  have hBs : B ≤ s.heap.size := hW.ge
  have hS : va_S (hm_A B) s.heap s.heap [] := va_S.rf
  have hl := lv_entry ([.ref (sh 267)]) (n := 1) (Nat.le_of_ble_eq_true rfl)
  rw [lg_entry_eq]
  generalize (lg_sl ([.ref (sh 267)]) ++ List.replicate (1 - (lg_sl ([.ref (sh 267)])).length) Slot.unset).toArray = ls at hl ⊢
  have hl : lv_has ls 1 [(0, .ref (sh 267))] := hl
  refine lv_aload_n hx hb d_D_comeBack_0 rfl (lv_at hl 0 rfl) ?_
  refine lv_iconst (v := 1) hx hb d_D_comeBack_1 (by decide) ?_
  refine jw_put (ci := 1) (x := 1) (ty := .boolean) (C := "BlockVault$Disk") (T := T_D) (N := 4) hx hb hT in_D t_D t_D_ok n_D hown hK hW hS rfl rfl 1 (by decide) rfl (hT _ k43) (fun _ h9 => h9) rfl (by decide +kernel) rfl rfl d_D_comeBack_2 (fun H locs hW hS => ?_)
  refine W.widen (k := 0) (n := 0) (by omega) (by omega) ?_
  exact W.vret hx hb hr (fun t9 ht9 hwz => ⟨⟨((v2 V 267 1 1), P), rfl, rfl, by rw [ht9]; exact hW, va_K.moved hwz.alike hK, hN.warm hwz⟩, hS.F ht9⟩) hS.2.2 d_D_comeBack_5

set_option maxHeartbeats 4000000 in
set_option maxRecDepth 100000 in
theorem m_D_goAfter (l : Launch) (D : va_G) (B : Nat) (cA : Nat → ClassId) (sh : Nat → Nat) (V P : VV) (k : Int32) : Met l y_D_goAfter w_D_goAfter ({ frames := 0, cells := 0, slots := 0, locals := 0 } : Room) (va_Pc [.ref (sh 267), .int k] (JC D B cA sh (V, P))) (va_Qv (fun (u : VV × VV) => u = (v2 V 267 2 k, P)) (JC D B cA sh) (hm_A B)) 0 0 (hm_A B) := by
  refine Met.ofW (cc := c_D_goAfter) (maxL := 2) (ret := none) (by decide) rfl ?_
  intro p e s m args below meth c s₁ Bd hml hv
  obtain ⟨rfl, hW, hK, hN⟩ := hv
  have hx := Bd.exec
  have hb := Bd.bytes
  have hr := Bd.returns
  have hts := atoms_spec (ws := w_D_goAfter) Bd.pre
  have hT : ∀ w ∈ WG, w.before ([.ref (sh 267), .int k] : List Value).toArray s = true := fun w h => hts w (List.mem_cons_of_mem _ h)
  have hown : s.vm.findClass "BlockVault$Disk" = some m.cls := findClass_of_methodNamed Bd.named
  have hlocks := Bd.notSynchronized
  have hW : JW D B cA sh V P s.heap := hW
  have hBs : B ≤ s.heap.size := hW.ge
  have hS : va_S (hm_A B) s.heap s.heap [] := va_S.rf
  have hl := lv_entry ([.ref (sh 267), .int k]) (n := 2) (Nat.le_of_ble_eq_true rfl)
  rw [lg_entry_eq]
  generalize (lg_sl ([.ref (sh 267), .int k]) ++ List.replicate (2 - (lg_sl ([.ref (sh 267), .int k])).length) Slot.unset).toArray = ls at hl ⊢
  have hl : lv_has ls 2 [(0, .ref (sh 267)), (1, .int k)] := hl
  refine lv_aload_n hx hb d_D_goAfter_0 rfl (lv_at hl 0 rfl) ?_
  refine lv_iload_n hx hb d_D_goAfter_1 rfl (lv_at hl 1 rfl) ?_
  refine jw_put (ci := 1) (x := k) (ty := .int) (C := "BlockVault$Disk") (T := T_D) (N := 4) hx hb hT in_D t_D t_D_ok n_D hown hK hW hS rfl rfl 2 (by decide) rfl (hT _ k44) (fun _ h9 => h9) rfl (by decide +kernel) rfl rfl d_D_goAfter_2 (fun H locs hW hS => ?_)
  refine W.widen (k := 0) (n := 0) (by omega) (by omega) ?_
  exact W.vret hx hb hr (fun t9 ht9 hwz => ⟨⟨((v2 V 267 2 k), P), rfl, rfl, by rw [ht9]; exact hW, va_K.moved hwz.alike hK, hN.warm hwz⟩, hS.F ht9⟩) hS.2.2 d_D_goAfter_5

set_option maxHeartbeats 4000000 in
set_option maxRecDepth 100000 in
theorem m_D_writesMade (l : Launch) (D : va_G) (B : Nat) (cA : Nat → ClassId) (sh : Nat → Nat) (V P : VV) : Met l y_D_writesMade w_D_writesMade ({ frames := 0, cells := 0, slots := 0, locals := 0 } : Room) (va_Pc [.ref (sh 267)] (JC D B cA sh (V, P))) (va_Qi (fun (r : Int32) (u : VV × VV) => (r, u.1, u.2) = (V 267 3, V, P)) (JC D B cA sh) (hm_A B)) 0 0 (hm_A B) := by
  refine Met.ofW (cc := c_D_writesMade) (maxL := 1) (ret := (some FieldType.int)) (by decide) rfl ?_
  intro p e s m args below meth c s₁ Bd hml hv
  obtain ⟨rfl, hW, hK, hN⟩ := hv
  have hx := Bd.exec
  have hb := Bd.bytes
  have hr := Bd.returns
  have hts := atoms_spec (ws := w_D_writesMade) Bd.pre
  have hT : ∀ w ∈ WG, w.before ([.ref (sh 267)] : List Value).toArray s = true := fun w h => hts w (List.mem_cons_of_mem _ h)
  have hown : s.vm.findClass "BlockVault$Disk" = some m.cls := findClass_of_methodNamed Bd.named
  have hlocks := Bd.notSynchronized
  have hW : JW D B cA sh V P s.heap := hW
  have hBs : B ≤ s.heap.size := hW.ge
  have hS : va_S (hm_A B) s.heap s.heap [] := va_S.rf
  have hl := lv_entry ([.ref (sh 267)]) (n := 1) (Nat.le_of_ble_eq_true rfl)
  rw [lg_entry_eq]
  generalize (lg_sl ([.ref (sh 267)]) ++ List.replicate (1 - (lg_sl ([.ref (sh 267)])).length) Slot.unset).toArray = ls at hl ⊢
  have hl : lv_has ls 1 [(0, .ref (sh 267))] := hl
  refine lv_aload_n hx hb d_D_writesMade_0 rfl (lv_at hl 0 rfl) ?_
  refine va_get (D := D) (ci := 1) (v := .int (V 267 3)) (C := "BlockVault$Disk") (T := T_D) (N := 4) hx hb hT in_D hown hK (hW.obj rfl) 0 rfl rfl 3 (by decide) (hT _ k45) (fun _ h9 => h9) rfl d_D_writesMade_1 ?_
  refine W.widen (k := 0) (n := 0) (by omega) (by omega) ?_
  exact W.iret (v := (V 267 3)) hx hb hr (fun t9 ht9 hwz => ⟨⟨(V 267 3), (V, P), rfl, rfl, by rw [ht9]; exact hW, va_K.moved hwz.alike hK, hN.warm hwz⟩, hS.F ht9⟩) hS.2.2 d_D_writesMade_4

set_option maxHeartbeats 4000000 in
set_option maxRecDepth 100000 in
theorem m_C_readsMade (l : Launch) (D : va_G) (B : Nat) (cA : Nat → ClassId) (sh : Nat → Nat) (V P : VV) : Met l y_C_readsMade w_C_readsMade ({ frames := 0, cells := 0, slots := 0, locals := 0 } : Room) (va_Pc [.ref (sh 268)] (JC D B cA sh (V, P))) (va_Qi (fun (r : Int32) (u : VV × VV) => (r, u.1, u.2) = (V 268 2, V, P)) (JC D B cA sh) (hm_A B)) 0 0 (hm_A B) := by
  refine Met.ofW (cc := c_C_readsMade) (maxL := 1) (ret := (some FieldType.int)) (by decide) rfl ?_
  intro p e s m args below meth c s₁ Bd hml hv
  obtain ⟨rfl, hW, hK, hN⟩ := hv
  have hx := Bd.exec
  have hb := Bd.bytes
  have hr := Bd.returns
  have hts := atoms_spec (ws := w_C_readsMade) Bd.pre
  have hT : ∀ w ∈ WG, w.before ([.ref (sh 268)] : List Value).toArray s = true := fun w h => hts w (List.mem_cons_of_mem _ h)
  have hown : s.vm.findClass "BlockVault$Cache" = some m.cls := findClass_of_methodNamed Bd.named
  have hlocks := Bd.notSynchronized
  have hW : JW D B cA sh V P s.heap := hW
  have hBs : B ≤ s.heap.size := hW.ge
  have hS : va_S (hm_A B) s.heap s.heap [] := va_S.rf
  have hl := lv_entry ([.ref (sh 268)]) (n := 1) (Nat.le_of_ble_eq_true rfl)
  rw [lg_entry_eq]
  generalize (lg_sl ([.ref (sh 268)]) ++ List.replicate (1 - (lg_sl ([.ref (sh 268)])).length) Slot.unset).toArray = ls at hl ⊢
  have hl : lv_has ls 1 [(0, .ref (sh 268))] := hl
  refine lv_aload_n hx hb d_C_readsMade_0 rfl (lv_at hl 0 rfl) ?_
  refine va_get (D := D) (ci := 0) (v := .int (V 268 2)) (C := "BlockVault$Cache") (T := T_C) (N := 3) hx hb hT in_C hown hK (hW.obj rfl) 0 rfl rfl 2 (by decide) (hT _ k100) (fun _ h9 => h9) rfl d_C_readsMade_1 ?_
  refine W.widen (k := 0) (n := 0) (by omega) (by omega) ?_
  exact W.iret (v := (V 268 2)) hx hb hr (fun t9 ht9 hwz => ⟨⟨(V 268 2), (V, P), rfl, rfl, by rw [ht9]; exact hW, va_K.moved hwz.alike hK, hN.warm hwz⟩, hS.F ht9⟩) hS.2.2 d_C_readsMade_4

set_option maxHeartbeats 4000000 in
set_option maxRecDepth 100000 in
theorem m_L_commitsCounted (l : Launch) (D : va_G) (B : Nat) (cA : Nat → ClassId) (sh : Nat → Nat) (V P : VV) : Met l y_L_commitsCounted w_L_commitsCounted ({ frames := 0, cells := 0, slots := 0, locals := 0 } : Room) (va_Pc [.ref (sh 269)] (JC D B cA sh (V, P))) (va_Qi (fun (r : Int32) (u : VV × VV) => (r, u.1, u.2) = (V 269 2, V, P)) (JC D B cA sh) (hm_A B)) 0 0 (hm_A B) := by
  refine Met.ofW (cc := c_L_commitsCounted) (maxL := 1) (ret := (some FieldType.int)) (by decide) rfl ?_
  intro p e s m args below meth c s₁ Bd hml hv
  obtain ⟨rfl, hW, hK, hN⟩ := hv
  have hx := Bd.exec
  have hb := Bd.bytes
  have hr := Bd.returns
  have hts := atoms_spec (ws := w_L_commitsCounted) Bd.pre
  have hT : ∀ w ∈ WG, w.before ([.ref (sh 269)] : List Value).toArray s = true := fun w h => hts w (List.mem_cons_of_mem _ h)
  have hown : s.vm.findClass "BlockVault$Log" = some m.cls := findClass_of_methodNamed Bd.named
  have hlocks := Bd.notSynchronized
  have hW : JW D B cA sh V P s.heap := hW
  have hBs : B ≤ s.heap.size := hW.ge
  have hS : va_S (hm_A B) s.heap s.heap [] := va_S.rf
  have hl := lv_entry ([.ref (sh 269)]) (n := 1) (Nat.le_of_ble_eq_true rfl)
  rw [lg_entry_eq]
  generalize (lg_sl ([.ref (sh 269)]) ++ List.replicate (1 - (lg_sl ([.ref (sh 269)])).length) Slot.unset).toArray = ls at hl ⊢
  have hl : lv_has ls 1 [(0, .ref (sh 269))] := hl
  refine lv_aload_n hx hb d_L_commitsCounted_0 rfl (lv_at hl 0 rfl) ?_
  refine va_get (D := D) (ci := 2) (v := .int (V 269 2)) (C := "BlockVault$Log") (T := T_L) (N := 3) hx hb hT in_L hown hK (hW.obj rfl) 0 rfl rfl 2 (by decide) (hT _ k118) (fun _ h9 => h9) rfl d_L_commitsCounted_1 ?_
  refine W.widen (k := 0) (n := 0) (by omega) (by omega) ?_
  exact W.iret (v := (V 269 2)) hx hb hr (fun t9 ht9 hwz => ⟨⟨(V 269 2), (V, P), rfl, rfl, by rw [ht9]; exact hW, va_K.moved hwz.alike hK, hN.warm hwz⟩, hS.F ht9⟩) hS.2.2 d_L_commitsCounted_4

set_option maxHeartbeats 4000000 in
set_option maxRecDepth 100000 in
theorem m_R_makeEmpty (l : Launch) (D : va_G) (B : Nat) (cA : Nat → ClassId) (sh : Nat → Nat) (V P : VV) (i : Nat) (hi : i < 34) : Met l y_R_makeEmpty w_R_makeEmpty ({ frames := 0, cells := 0, slots := 0, locals := 0 } : Room) (va_Pc [.ref (sh (232 + i))] (JC D B cA sh (V, P))) (va_Qv (fun (u : VV × VV) => u = (mEmp V i, P)) (JC D B cA sh) (hm_A B)) 0 0 (hm_A B) := by
  refine Met.ofW (cc := c_R_makeEmpty) (maxL := 1) (ret := none) (by decide) rfl ?_
  intro p e s m args below meth c s₁ Bd hml hv
  obtain ⟨rfl, hW, hK, hN⟩ := hv
  have hx := Bd.exec
  have hb := Bd.bytes
  have hr := Bd.returns
  have hts := atoms_spec (ws := w_R_makeEmpty) Bd.pre
  have hT : ∀ w ∈ WG, w.before ([.ref (sh (232 + i))] : List Value).toArray s = true := fun w h => hts w (List.mem_cons_of_mem _ h)
  have hown : s.vm.findClass "BlockVault$Row" = some m.cls := findClass_of_methodNamed Bd.named
  have hlocks := Bd.notSynchronized
  have hW : JW D B cA sh V P s.heap := hW
  have hBs : B ≤ s.heap.size := hW.ge
  have hS : va_S (hm_A B) s.heap s.heap [] := va_S.rf
  have hl := lv_entry ([.ref (sh (232 + i))]) (n := 1) (Nat.le_of_ble_eq_true rfl)
  rw [lg_entry_eq]
  generalize (lg_sl ([.ref (sh (232 + i))]) ++ List.replicate (1 - (lg_sl ([.ref (sh (232 + i))])).length) Slot.unset).toArray = ls at hl ⊢
  have hl : lv_has ls 1 [(0, .ref (sh (232 + i)))] := hl
  refine lv_aload_n hx hb d_R_makeEmpty_0 rfl (lv_at hl 0 rfl) ?_
  refine lv_iconst (v := (-1)) hx hb d_R_makeEmpty_1 (by decide) ?_
  refine jw_put (ci := 4) (x := (-1)) (ty := .int) (C := "BlockVault$Row") (T := T_R) (N := 5) hx hb hT in_R t_R t_R_ok n_R hown hK hW hS (lay_row hi) rfl 1 (by decide) rfl (hT _ k74) (fun _ h9 => h9) rfl (by decide +kernel) rfl rfl d_R_makeEmpty_2 (fun H locs hW hS => ?_)
  refine lv_aload_n hx hb d_R_makeEmpty_5 rfl (lv_at hl 0 rfl) ?_
  refine lv_iconst (v := 0) hx hb d_R_makeEmpty_6 (by decide) ?_
  refine jw_put (ci := 4) (x := 0) (ty := .int) (C := "BlockVault$Row") (T := T_R) (N := 5) hx hb hT in_R t_R t_R_ok n_R hown hK hW hS (lay_row hi) rfl 2 (by decide) rfl (hT _ k77) (fun _ h9 => h9) rfl (by decide +kernel) rfl rfl d_R_makeEmpty_7 (fun H locs hW hS => ?_)
  refine lv_aload_n hx hb d_R_makeEmpty_10 rfl (lv_at hl 0 rfl) ?_
  refine lv_iconst (v := 0) hx hb d_R_makeEmpty_11 (by decide) ?_
  refine jw_put (ci := 4) (x := 0) (ty := .boolean) (C := "BlockVault$Row") (T := T_R) (N := 5) hx hb hT in_R t_R t_R_ok n_R hown hK hW hS (lay_row hi) rfl 3 (by decide) rfl (hT _ k79) (fun _ h9 => h9) rfl (by decide +kernel) rfl rfl d_R_makeEmpty_12 (fun H locs hW hS => ?_)
  refine lv_aload_n hx hb d_R_makeEmpty_15 rfl (lv_at hl 0 rfl) ?_
  refine lv_iconst (v := 0) hx hb d_R_makeEmpty_16 (by decide) ?_
  refine jw_put (ci := 4) (x := 0) (ty := .boolean) (C := "BlockVault$Row") (T := T_R) (N := 5) hx hb hT in_R t_R t_R_ok n_R hown hK hW hS (lay_row hi) rfl 4 (by decide) rfl (hT _ k83) (fun _ h9 => h9) rfl (by decide +kernel) rfl rfl d_R_makeEmpty_17 (fun H locs hW hS => ?_)
  refine W.widen (k := 0) (n := 0) (by omega) (by omega) ?_
  exact W.vret hx hb hr (fun t9 ht9 hwz => ⟨⟨((v2 (v2 (v2 (v2 V (232 + i) 1 (-1)) (232 + i) 2 0) (232 + i) 3 0) (232 + i) 4 0), P), rfl, rfl, by rw [ht9]; exact hW, va_K.moved hwz.alike hK, hN.warm hwz⟩, hS.F ht9⟩) hS.2.2 d_R_makeEmpty_20

set_option maxHeartbeats 4000000 in
set_option maxRecDepth 100000 in
theorem m_R_givesWayBefore (l : Launch) (D : va_G) (B : Nat) (cA : Nat → ClassId) (sh : Nat → Nat) (V P : VV) (i j : Nat) (hi : i < 34) (hj : j < 34) (h3 : V (232 + j) 3 = 0 ∨ V (232 + j) 3 = 1) : Met l y_R_givesWayBefore w_R_givesWayBefore ({ frames := 0, cells := 0, slots := 0, locals := 0 } : Room) (va_Pc [.ref (sh (232 + i)), .ref (sh (232 + j))] (JC D B cA sh (V, P))) (va_Qi (fun (r : Int32) (u : VV × VV) => (r, u.1, u.2) = (mGW V i j, V, P)) (JC D B cA sh) (hm_A B)) 0 0 (hm_A B) := by
  refine Met.ofW (cc := c_R_givesWayBefore) (maxL := 2) (ret := (some FieldType.boolean)) (by decide) rfl ?_
  intro p e s m args below meth c s₁ Bd hml hv
  obtain ⟨rfl, hW, hK, hN⟩ := hv
  have hx := Bd.exec
  have hb := Bd.bytes
  have hr := Bd.returns
  have hts := atoms_spec (ws := w_R_givesWayBefore) Bd.pre
  have hT : ∀ w ∈ WG, w.before ([.ref (sh (232 + i)), .ref (sh (232 + j))] : List Value).toArray s = true := fun w h => hts w (List.mem_cons_of_mem _ h)
  have hown : s.vm.findClass "BlockVault$Row" = some m.cls := findClass_of_methodNamed Bd.named
  have hlocks := Bd.notSynchronized
  have hW : JW D B cA sh V P s.heap := hW
  have hBs : B ≤ s.heap.size := hW.ge
  have hS : va_S (hm_A B) s.heap s.heap [] := va_S.rf
  have hl := lv_entry ([.ref (sh (232 + i)), .ref (sh (232 + j))]) (n := 2) (Nat.le_of_ble_eq_true rfl)
  rw [lg_entry_eq]
  generalize (lg_sl ([.ref (sh (232 + i)), .ref (sh (232 + j))]) ++ List.replicate (2 - (lg_sl ([.ref (sh (232 + i)), .ref (sh (232 + j))])).length) Slot.unset).toArray = ls at hl ⊢
  have hl : lv_has ls 2 [(0, .ref (sh (232 + i))), (1, .ref (sh (232 + j)))] := hl
  refine lv_aload_n hx hb d_R_givesWayBefore_0 rfl (lv_at hl 0 rfl) ?_
  refine va_get (D := D) (ci := 4) (v := .int (V (232 + i) 3)) (C := "BlockVault$Row") (T := T_R) (N := 5) hx hb hT in_R hown hK (hW.obj (lay_row hi)) 0 rfl rfl 3 (by decide) (hT _ k79) (fun _ h9 => h9) rfl d_R_givesWayBefore_1 ?_
  refine lv_aload_n hx hb d_R_givesWayBefore_4 rfl (lv_at hl 1 rfl) ?_
  refine va_get (D := D) (ci := 4) (v := .int (V (232 + j) 3)) (C := "BlockVault$Row") (T := T_R) (N := 5) hx hb hT in_R hown hK (hW.obj (lay_row hj)) 0 rfl rfl 3 (by decide) (hT _ k79) (fun _ h9 => h9) rfl d_R_givesWayBefore_5 ?_
  refine lv_icmp_eq (tgt := 16) hx hb d_R_givesWayBefore_8 (by decide) (fun c1 => ?_) (fun c1 => ?_)
  · refine lv_aload_n hx hb d_R_givesWayBefore_16 rfl (lv_at hl 0 rfl) ?_
    refine va_get (D := D) (ci := 4) (v := .int (V (232 + i) 2)) (C := "BlockVault$Row") (T := T_R) (N := 5) hx hb hT in_R hown hK (hW.obj (lay_row hi)) 0 rfl rfl 2 (by decide) (hT _ k77) (fun _ h9 => h9) rfl d_R_givesWayBefore_17 ?_
    refine lv_aload_n hx hb d_R_givesWayBefore_20 rfl (lv_at hl 1 rfl) ?_
    refine va_get (D := D) (ci := 4) (v := .int (V (232 + j) 2)) (C := "BlockVault$Row") (T := T_R) (N := 5) hx hb hT in_R hown hK (hW.obj (lay_row hj)) 0 rfl rfl 2 (by decide) (hT _ k77) (fun _ h9 => h9) rfl d_R_givesWayBefore_21 ?_
    refine lv_icmp_ge (tgt := 31) hx hb d_R_givesWayBefore_24 (by decide) (fun c2 => ?_) (fun c2 => ?_)
    · refine lv_iconst (v := 0) hx hb d_R_givesWayBefore_31 (by decide) ?_
      refine W.widen (k := 0) (n := 0) (by omega) (by omega) ?_
      exact W.zret (ty := .boolean) (v := 0) hx hb hr rfl (fun t9 ht9 hwz => ⟨⟨0, (V, P), rfl, (by simp [mGW, c1, c2]), by rw [ht9]; exact hW, va_K.moved hwz.alike hK, hN.warm hwz⟩, hS.F ht9⟩) hS.2.2 d_R_givesWayBefore_32
    · refine lv_iconst (v := 1) hx hb d_R_givesWayBefore_27 (by decide) ?_
      refine lv_goto (tgt := 32) hx hb d_R_givesWayBefore_28 (by decide) ?_
      refine W.widen (k := 0) (n := 0) (by omega) (by omega) ?_
      exact W.zret (ty := .boolean) (v := 1) hx hb hr rfl (fun t9 ht9 hwz => ⟨⟨1, (V, P), rfl, (by simp [mGW, c1, c2]), by rw [ht9]; exact hW, va_K.moved hwz.alike hK, hN.warm hwz⟩, hS.F ht9⟩) hS.2.2 d_R_givesWayBefore_32
  · refine lv_aload_n hx hb d_R_givesWayBefore_11 rfl (lv_at hl 1 rfl) ?_
    refine va_get (D := D) (ci := 4) (v := .int (V (232 + j) 3)) (C := "BlockVault$Row") (T := T_R) (N := 5) hx hb hT in_R hown hK (hW.obj (lay_row hj)) 0 rfl rfl 3 (by decide) (hT _ k79) (fun _ h9 => h9) rfl d_R_givesWayBefore_12 ?_
    refine W.widen (k := 0) (n := 0) (by omega) (by omega) ?_
    exact W.zret (ty := .boolean) (v := (V (232 + j) 3)) hx hb hr (by rcases h3 with h | h <;> rw [h] <;> rfl) (fun t9 ht9 hwz => ⟨⟨(V (232 + j) 3), (V, P), rfl, (by simp [mGW, c1]), by rw [ht9]; exact hW, va_K.moved hwz.alike hK, hN.warm hwz⟩, hS.F ht9⟩) hS.2.2 d_R_givesWayBefore_15

set_option maxHeartbeats 4000000 in
set_option maxRecDepth 100000 in
theorem m_V_isBlock (l : Launch) (D : va_G) (B : Nat) (cA : Nat → ClassId) (sh : Nat → Nat) (V P : VV) (b : Int32) : Met l y_V_isBlock w_V_isBlock ({ frames := 0, cells := 0, slots := 0, locals := 0 } : Room) (va_Pc [.ref (sh 266), .int b] (JC D B cA sh (V, P))) (va_Qi (fun (r : Int32) (u : VV × VV) => (r, u.1, u.2) = (if mIsBlock V b then 1 else 0, V, P)) (JC D B cA sh) (hm_A B)) 0 0 (hm_A B) := by
  refine Met.ofW (cc := c_V_isBlock) (maxL := 3) (ret := (some FieldType.boolean)) (by decide) rfl ?_
  intro p e s m args below meth c s₁ Bd hml hv
  obtain ⟨rfl, hW, hK, hN⟩ := hv
  have hx := Bd.exec
  have hb := Bd.bytes
  have hr := Bd.returns
  have hts := atoms_spec (ws := w_V_isBlock) Bd.pre
  have hT : ∀ w ∈ WG, w.before ([.ref (sh 266), .int b] : List Value).toArray s = true := fun w h => hts w (List.mem_cons_of_mem _ h)
  have hown : s.vm.findClass "BlockVault" = some m.cls := findClass_of_methodNamed Bd.named
  have hlocks := Bd.notSynchronized
  have hW : JW D B cA sh V P s.heap := hW
  have hBs : B ≤ s.heap.size := hW.ge
  have hS : va_S (hm_A B) s.heap s.heap [] := va_S.rf
  have hl := lv_entry ([.ref (sh 266), .int b]) (n := 3) (Nat.le_of_ble_eq_true rfl)
  rw [lg_entry_eq]
  generalize (lg_sl ([.ref (sh 266), .int b]) ++ List.replicate (3 - (lg_sl ([.ref (sh 266), .int b])).length) Slot.unset).toArray = ls at hl ⊢
  have hl : lv_has ls 3 [(0, .ref (sh 266)), (1, .int b)] := hl
  refine lv_iload_n hx hb d_V_isBlock_0 rfl (lv_at hl 1 rfl) ?_
  refine lv_iconst (v := 2) hx hb d_V_isBlock_1 (by decide) ?_
  refine lv_icmp_lt (tgt := 15) hx hb d_V_isBlock_2 (by decide) (fun c1 => ?_) (fun c1 => ?_)
  · refine lv_iconst (v := 0) hx hb d_V_isBlock_15 (by decide) ?_
    refine lv_istore_n (lv' := [(2, .int 0), (0, .ref (sh 266)), (1, .int b)]) hx hb d_V_isBlock_16 rfl hl (by decide) rfl (fun ls hl => ?_)
    refine lv_iload_n hx hb d_V_isBlock_17 rfl (lv_at hl 2 rfl) ?_
    refine lv_if_lt (tgt := 37) hx hb d_V_isBlock_18 (by decide) (fun c2 => ?_) (fun c2 => ?_)
    · refine lv_iconst (v := 0) hx hb d_V_isBlock_37 (by decide) ?_
      refine W.widen (k := 0) (n := 0) (by omega) (by omega) ?_
      exact W.zret (ty := .boolean) (v := 0) hx hb hr rfl (fun t9 ht9 hwz => ⟨⟨0, (V, P), rfl, (by simp [mIsBlock, c1, c2]), by rw [ht9]; exact hW, va_K.moved hwz.alike hK, hN.warm hwz⟩, hS.F ht9⟩) hS.2.2 d_V_isBlock_38
    · refine lv_iload_n hx hb d_V_isBlock_21 rfl (lv_at hl 2 rfl) ?_
      refine lv_aload_n hx hb d_V_isBlock_22 rfl (lv_at hl 1 rfl) ?_
      refine va_get (D := D) (ci := 5) (v := .int (V 266 0)) (C := "BlockVault") (T := T_V) (N := 5) hx hb hT in_V hown hK (hW.obj rfl) 0 rfl rfl 0 (by decide) (hT _ k126) (fun _ h9 => h9) rfl d_V_isBlock_23 ?_
      refine lv_icmp_ge (tgt := 37) hx hb d_V_isBlock_26 (by decide) (fun c3 => ?_) (fun c3 => ?_)
      · refine lv_iconst (v := 0) hx hb d_V_isBlock_37 (by decide) ?_
        refine W.widen (k := 0) (n := 0) (by omega) (by omega) ?_
        exact W.zret (ty := .boolean) (v := 0) hx hb hr rfl (fun t9 ht9 hwz => ⟨⟨0, (V, P), rfl, (by simp [mIsBlock, c1, c2, c3]), by rw [ht9]; exact hW, va_K.moved hwz.alike hK, hN.warm hwz⟩, hS.F ht9⟩) hS.2.2 d_V_isBlock_38
      · refine lv_iload_n hx hb d_V_isBlock_29 rfl (lv_at hl 0 rfl) ?_
        refine lv_if_ne (tgt := 37) hx hb d_V_isBlock_30 (by decide) (fun c4 => ?_) (fun c4 => ?_)
        · exact absurd rfl c4
        · refine lv_iconst (v := 1) hx hb d_V_isBlock_33 (by decide) ?_
          refine lv_goto (tgt := 38) hx hb d_V_isBlock_34 (by decide) ?_
          refine W.widen (k := 0) (n := 0) (by omega) (by omega) ?_
          exact W.zret (ty := .boolean) (v := 1) hx hb hr rfl (fun t9 ht9 hwz => ⟨⟨1, (V, P), rfl, (by simp [mIsBlock, c1, c2, c3, c4]), by rw [ht9]; exact hW, va_K.moved hwz.alike hK, hN.warm hwz⟩, hS.F ht9⟩) hS.2.2 d_V_isBlock_38
  · refine lv_iload_n hx hb d_V_isBlock_5 rfl (lv_at hl 1 rfl) ?_
    refine lv_bipush (v := 32) hx hb d_V_isBlock_6 (by decide) ?_
    refine lv_icmp_gt (tgt := 15) hx hb d_V_isBlock_8 (by decide) (fun c5 => ?_) (fun c5 => ?_)
    · refine lv_iconst (v := 0) hx hb d_V_isBlock_15 (by decide) ?_
      refine lv_istore_n (lv' := [(2, .int 0), (0, .ref (sh 266)), (1, .int b)]) hx hb d_V_isBlock_16 rfl hl (by decide) rfl (fun ls hl => ?_)
      refine lv_iload_n hx hb d_V_isBlock_17 rfl (lv_at hl 2 rfl) ?_
      refine lv_if_lt (tgt := 37) hx hb d_V_isBlock_18 (by decide) (fun c6 => ?_) (fun c6 => ?_)
      · refine lv_iconst (v := 0) hx hb d_V_isBlock_37 (by decide) ?_
        refine W.widen (k := 0) (n := 0) (by omega) (by omega) ?_
        exact W.zret (ty := .boolean) (v := 0) hx hb hr rfl (fun t9 ht9 hwz => ⟨⟨0, (V, P), rfl, (by simp [mIsBlock, c1, c5, c6]), by rw [ht9]; exact hW, va_K.moved hwz.alike hK, hN.warm hwz⟩, hS.F ht9⟩) hS.2.2 d_V_isBlock_38
      · refine lv_iload_n hx hb d_V_isBlock_21 rfl (lv_at hl 2 rfl) ?_
        refine lv_aload_n hx hb d_V_isBlock_22 rfl (lv_at hl 1 rfl) ?_
        refine va_get (D := D) (ci := 5) (v := .int (V 266 0)) (C := "BlockVault") (T := T_V) (N := 5) hx hb hT in_V hown hK (hW.obj rfl) 0 rfl rfl 0 (by decide) (hT _ k126) (fun _ h9 => h9) rfl d_V_isBlock_23 ?_
        refine lv_icmp_ge (tgt := 37) hx hb d_V_isBlock_26 (by decide) (fun c7 => ?_) (fun c7 => ?_)
        · refine lv_iconst (v := 0) hx hb d_V_isBlock_37 (by decide) ?_
          refine W.widen (k := 0) (n := 0) (by omega) (by omega) ?_
          exact W.zret (ty := .boolean) (v := 0) hx hb hr rfl (fun t9 ht9 hwz => ⟨⟨0, (V, P), rfl, (by simp [mIsBlock, c1, c5, c6, c7]), by rw [ht9]; exact hW, va_K.moved hwz.alike hK, hN.warm hwz⟩, hS.F ht9⟩) hS.2.2 d_V_isBlock_38
        · refine lv_iload_n hx hb d_V_isBlock_29 rfl (lv_at hl 0 rfl) ?_
          refine lv_if_ne (tgt := 37) hx hb d_V_isBlock_30 (by decide) (fun c8 => ?_) (fun c8 => ?_)
          · exact absurd rfl c8
          · refine lv_iconst (v := 1) hx hb d_V_isBlock_33 (by decide) ?_
            refine lv_goto (tgt := 38) hx hb d_V_isBlock_34 (by decide) ?_
            refine W.widen (k := 0) (n := 0) (by omega) (by omega) ?_
            exact W.zret (ty := .boolean) (v := 1) hx hb hr rfl (fun t9 ht9 hwz => ⟨⟨1, (V, P), rfl, (by simp [mIsBlock, c1, c5, c6, c7, c8]), by rw [ht9]; exact hW, va_K.moved hwz.alike hK, hN.warm hwz⟩, hS.F ht9⟩) hS.2.2 d_V_isBlock_38
    · refine lv_iconst (v := 1) hx hb d_V_isBlock_11 (by decide) ?_
      refine lv_goto (tgt := 16) hx hb d_V_isBlock_12 (by decide) ?_
      refine lv_istore_n (lv' := [(2, .int 1), (0, .ref (sh 266)), (1, .int b)]) hx hb d_V_isBlock_16 rfl hl (by decide) rfl (fun ls hl => ?_)
      refine lv_iload_n hx hb d_V_isBlock_17 rfl (lv_at hl 2 rfl) ?_
      refine lv_if_lt (tgt := 37) hx hb d_V_isBlock_18 (by decide) (fun c9 => ?_) (fun c9 => ?_)
      · refine lv_iconst (v := 0) hx hb d_V_isBlock_37 (by decide) ?_
        refine W.widen (k := 0) (n := 0) (by omega) (by omega) ?_
        exact W.zret (ty := .boolean) (v := 0) hx hb hr rfl (fun t9 ht9 hwz => ⟨⟨0, (V, P), rfl, (by simp [mIsBlock, c1, c5, c9]), by rw [ht9]; exact hW, va_K.moved hwz.alike hK, hN.warm hwz⟩, hS.F ht9⟩) hS.2.2 d_V_isBlock_38
      · refine lv_iload_n hx hb d_V_isBlock_21 rfl (lv_at hl 2 rfl) ?_
        refine lv_aload_n hx hb d_V_isBlock_22 rfl (lv_at hl 1 rfl) ?_
        refine va_get (D := D) (ci := 5) (v := .int (V 266 0)) (C := "BlockVault") (T := T_V) (N := 5) hx hb hT in_V hown hK (hW.obj rfl) 0 rfl rfl 0 (by decide) (hT _ k126) (fun _ h9 => h9) rfl d_V_isBlock_23 ?_
        refine lv_icmp_ge (tgt := 37) hx hb d_V_isBlock_26 (by decide) (fun c10 => ?_) (fun c10 => ?_)
        · refine lv_iconst (v := 0) hx hb d_V_isBlock_37 (by decide) ?_
          refine W.widen (k := 0) (n := 0) (by omega) (by omega) ?_
          exact W.zret (ty := .boolean) (v := 0) hx hb hr rfl (fun t9 ht9 hwz => ⟨⟨0, (V, P), rfl, (by simp [mIsBlock, c1, c5, c9, c10]), by rw [ht9]; exact hW, va_K.moved hwz.alike hK, hN.warm hwz⟩, hS.F ht9⟩) hS.2.2 d_V_isBlock_38
        · refine lv_iload_n hx hb d_V_isBlock_29 rfl (lv_at hl 0 rfl) ?_
          refine lv_if_ne (tgt := 37) hx hb d_V_isBlock_30 (by decide) (fun c11 => ?_) (fun c11 => ?_)
          · refine lv_iconst (v := 0) hx hb d_V_isBlock_37 (by decide) ?_
            refine W.widen (k := 0) (n := 0) (by omega) (by omega) ?_
            exact W.zret (ty := .boolean) (v := 0) hx hb hr rfl (fun t9 ht9 hwz => ⟨⟨0, (V, P), rfl, (by simp [mIsBlock, c1, c5, c9, c10, c11]), by rw [ht9]; exact hW, va_K.moved hwz.alike hK, hN.warm hwz⟩, hS.F ht9⟩) hS.2.2 d_V_isBlock_38
          · exact absurd c11 (by decide)

set_option maxHeartbeats 4000000 in
set_option maxRecDepth 100000 in
theorem m_V_isRun (l : Launch) (D : va_G) (B : Nat) (cA : Nat → ClassId) (sh : Nat → Nat) (V P : VV) (k n : Int32) : Met l y_V_isRun w_V_isRun ({ frames := 0, cells := 0, slots := 0, locals := 0 } : Room) (va_Pc [.int k, .int n] (JC D B cA sh (V, P))) (va_Qi (fun (r : Int32) (u : VV × VV) => (r, u.1, u.2) = (if mIsRun k n then 1 else 0, V, P)) (JC D B cA sh) (hm_A B)) 0 0 (hm_A B) := by
  refine Met.ofW (cc := c_V_isRun) (maxL := 2) (ret := (some FieldType.boolean)) (by decide) rfl ?_
  intro p e s m args below meth c s₁ Bd hml hv
  obtain ⟨rfl, hW, hK, hN⟩ := hv
  have hx := Bd.exec
  have hb := Bd.bytes
  have hr := Bd.returns
  have hts := atoms_spec (ws := w_V_isRun) Bd.pre
  have hT : ∀ w ∈ WG, w.before ([.int k, .int n] : List Value).toArray s = true := fun w h => hts w (List.mem_cons_of_mem _ h)
  have hown : s.vm.findClass "BlockVault" = some m.cls := findClass_of_methodNamed Bd.named
  have hlocks := Bd.notSynchronized
  have hW : JW D B cA sh V P s.heap := hW
  have hBs : B ≤ s.heap.size := hW.ge
  have hS : va_S (hm_A B) s.heap s.heap [] := va_S.rf
  have hl := lv_entry ([.int k, .int n]) (n := 2) (Nat.le_of_ble_eq_true rfl)
  rw [lg_entry_eq]
  generalize (lg_sl ([.int k, .int n]) ++ List.replicate (2 - (lg_sl ([.int k, .int n])).length) Slot.unset).toArray = ls at hl ⊢
  have hl : lv_has ls 2 [(0, .int k), (1, .int n)] := hl
  refine lv_iload_n hx hb d_V_isRun_0 rfl (lv_at hl 1 rfl) ?_
  refine lv_iconst (v := 1) hx hb d_V_isRun_1 (by decide) ?_
  refine lv_icmp_lt (tgt := 29) hx hb d_V_isRun_2 (by decide) (fun c1 => ?_) (fun c1 => ?_)
  · refine lv_iconst (v := 0) hx hb d_V_isRun_29 (by decide) ?_
    refine W.widen (k := 0) (n := 0) (by omega) (by omega) ?_
    exact W.zret (ty := .boolean) (v := 0) hx hb hr rfl (fun t9 ht9 hwz => ⟨⟨0, (V, P), rfl, (by simp [mIsRun, c1]), by rw [ht9]; exact hW, va_K.moved hwz.alike hK, hN.warm hwz⟩, hS.F ht9⟩) hS.2.2 d_V_isRun_30
  · refine lv_iload_n hx hb d_V_isRun_5 rfl (lv_at hl 1 rfl) ?_
    refine lv_sipush (v := 1024) hx hb d_V_isRun_6 (by decide) ?_
    refine lv_icmp_gt (tgt := 29) hx hb d_V_isRun_9 (by decide) (fun c2 => ?_) (fun c2 => ?_)
    · refine lv_iconst (v := 0) hx hb d_V_isRun_29 (by decide) ?_
      refine W.widen (k := 0) (n := 0) (by omega) (by omega) ?_
      exact W.zret (ty := .boolean) (v := 0) hx hb hr rfl (fun t9 ht9 hwz => ⟨⟨0, (V, P), rfl, (by simp [mIsRun, c1, c2]), by rw [ht9]; exact hW, va_K.moved hwz.alike hK, hN.warm hwz⟩, hS.F ht9⟩) hS.2.2 d_V_isRun_30
    · refine lv_iload_n hx hb d_V_isRun_12 rfl (lv_at hl 0 rfl) ?_
      refine lv_if_lt (tgt := 29) hx hb d_V_isRun_13 (by decide) (fun c3 => ?_) (fun c3 => ?_)
      · refine lv_iconst (v := 0) hx hb d_V_isRun_29 (by decide) ?_
        refine W.widen (k := 0) (n := 0) (by omega) (by omega) ?_
        exact W.zret (ty := .boolean) (v := 0) hx hb hr rfl (fun t9 ht9 hwz => ⟨⟨0, (V, P), rfl, (by simp [mIsRun, c1, c2, c3]), by rw [ht9]; exact hW, va_K.moved hwz.alike hK, hN.warm hwz⟩, hS.F ht9⟩) hS.2.2 d_V_isRun_30
      · refine lv_iload_n hx hb d_V_isRun_16 rfl (lv_at hl 0 rfl) ?_
        refine lv_sipush (v := 1024) hx hb d_V_isRun_17 (by decide) ?_
        refine lv_iload_n hx hb d_V_isRun_20 rfl (lv_at hl 1 rfl) ?_
        refine lv_isub hx hb d_V_isRun_21 ?_
        refine lv_icmp_gt (tgt := 29) hx hb d_V_isRun_22 (by decide) (fun c4 => ?_) (fun c4 => ?_)
        · refine lv_iconst (v := 0) hx hb d_V_isRun_29 (by decide) ?_
          refine W.widen (k := 0) (n := 0) (by omega) (by omega) ?_
          exact W.zret (ty := .boolean) (v := 0) hx hb hr rfl (fun t9 ht9 hwz => ⟨⟨0, (V, P), rfl, (by simp [mIsRun, c1, c2, c3, c4]), by rw [ht9]; exact hW, va_K.moved hwz.alike hK, hN.warm hwz⟩, hS.F ht9⟩) hS.2.2 d_V_isRun_30
        · refine lv_iconst (v := 1) hx hb d_V_isRun_25 (by decide) ?_
          refine lv_goto (tgt := 30) hx hb d_V_isRun_26 (by decide) ?_
          refine W.widen (k := 0) (n := 0) (by omega) (by omega) ?_
          exact W.zret (ty := .boolean) (v := 1) hx hb hr rfl (fun t9 ht9 hwz => ⟨⟨1, (V, P), rfl, (by simp [mIsRun, c1, c2, c3, c4]), by rw [ht9]; exact hW, va_K.moved hwz.alike hK, hN.warm hwz⟩, hS.F ht9⟩) hS.2.2 d_V_isRun_30
