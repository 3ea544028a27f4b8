set_option maxHeartbeats 4000000 in
set_option maxRecDepth 100000 in
theorem m_M_isBlock (l : Launch) (D : va_G) (B : Nat) (cA : Nat → ClassId) (sh : Nat → Nat) (V P : VV) (b : Int32) : Met l y_M_isBlock w_M_isBlock ({ frames := 0, cells := 0, slots := 0, locals := 0 } : Room) (va_Pc [.ref (sh 272), .int b] (JC D B cA sh (V, P))) (va_Qi (fun (r : Int32) (u : VV × VV) => (r, u.1, u.2) = (if rIsBlock V b then 1 else 0, V, P)) (JC D B cA sh) (hm_A B)) 0 0 (hm_A B) := by
  refine Met.ofW (cc := c_M_isBlock) (maxL := 2) (ret := (some FieldType.boolean)) (by decide) rfl ?_
  intro p e s m args below meth c s₁ Bd hml hv
  obtain ⟨rfl, hW, hK, hN⟩ := hv
  have hx := Bd.exec
  have hb := Bd.bytes
  have hr := Bd.returns
  have hts := atoms_spec (ws := w_M_isBlock) Bd.pre
  have hT : ∀ w ∈ WG, w.before ([.ref (sh 272), .int b] : List Value).toArray s = true := fun w h => hts w (List.mem_cons_of_mem _ h)
  have hown : s.vm.findClass "BlockVaultModel" = some m.cls := findClass_of_methodNamed Bd.named
  have hlocks := Bd.notSynchronized
  have hW : JW D B cA sh V P s.heap := hW
  have hBs : B ≤ s.heap.size := hW.ge
  have hS : va_S (hm_A B) s.heap s.heap [] := va_S.rf
  have hl := lv_entry ([.ref (sh 272), .int b]) (n := 2) (Nat.le_of_ble_eq_true rfl)
  rw [lg_entry_eq]
  generalize (lg_sl ([.ref (sh 272), .int b]) ++ List.replicate (2 - (lg_sl ([.ref (sh 272), .int b])).length) Slot.unset).toArray = ls at hl ⊢
  have hl : lv_has ls 2 [(0, .ref (sh 272)), (1, .int b)] := hl
  refine lv_iload_n hx hb d_M_isBlock_0 rfl (lv_at hl 1 rfl) ?_
  refine lv_if_lt (tgt := 27) hx hb d_M_isBlock_1 (by decide) (fun c1 => ?_) (fun c1 => ?_)
  · refine lv_iconst (v := 0) hx hb d_M_isBlock_27 (by decide) ?_
    refine W.widen (k := 0) (n := 0) (by omega) (by omega) ?_
    exact W.zret (ty := .boolean) (v := 0) hx hb hr rfl (fun t9 ht9 hwz => ⟨⟨0, (V, P), rfl, (by simp [rIsBlock, c1]), by rw [ht9]; exact hW, va_K.moved hwz.alike hK, hN.warm hwz⟩, hS.F ht9⟩) hS.2.2 d_M_isBlock_28
  · refine lv_iload_n hx hb d_M_isBlock_4 rfl (lv_at hl 1 rfl) ?_
    refine lv_aload_n hx hb d_M_isBlock_5 rfl (lv_at hl 0 rfl) ?_
    refine va_get (D := D) (ci := 6) (v := .int (V 272 1)) (C := "BlockVaultModel") (T := T_M) (N := 15) hx hb hT in_M hown hK (hW.obj rfl) 0 rfl rfl 1 (by decide) (hT _ k322) (fun _ h9 => h9) rfl d_M_isBlock_6 ?_
    refine lv_icmp_ge (tgt := 27) hx hb d_M_isBlock_9 (by decide) (fun c2 => ?_) (fun c2 => ?_)
    · refine lv_iconst (v := 0) hx hb d_M_isBlock_27 (by decide) ?_
      refine W.widen (k := 0) (n := 0) (by omega) (by omega) ?_
      exact W.zret (ty := .boolean) (v := 0) hx hb hr rfl (fun t9 ht9 hwz => ⟨⟨0, (V, P), rfl, (by simp [rIsBlock, c1, c2]), by rw [ht9]; exact hW, va_K.moved hwz.alike hK, hN.warm hwz⟩, hS.F ht9⟩) hS.2.2 d_M_isBlock_28
    · refine lv_iload_n hx hb d_M_isBlock_12 rfl (lv_at hl 1 rfl) ?_
      refine lv_iconst (v := 2) hx hb d_M_isBlock_13 (by decide) ?_
      refine lv_icmp_lt (tgt := 23) hx hb d_M_isBlock_14 (by decide) (fun c3 => ?_) (fun c3 => ?_)
      · refine lv_iconst (v := 1) hx hb d_M_isBlock_23 (by decide) ?_
        refine lv_goto (tgt := 28) hx hb d_M_isBlock_24 (by decide) ?_
        refine W.widen (k := 0) (n := 0) (by omega) (by omega) ?_
        exact W.zret (ty := .boolean) (v := 1) hx hb hr rfl (fun t9 ht9 hwz => ⟨⟨1, (V, P), rfl, (by simp [rIsBlock, c1, c2, c3]), by rw [ht9]; exact hW, va_K.moved hwz.alike hK, hN.warm hwz⟩, hS.F ht9⟩) hS.2.2 d_M_isBlock_28
      · refine lv_iload_n hx hb d_M_isBlock_17 rfl (lv_at hl 1 rfl) ?_
        refine lv_bipush (v := 32) hx hb d_M_isBlock_18 (by decide) ?_
        refine lv_icmp_le (tgt := 27) hx hb d_M_isBlock_20 (by decide) (fun c4 => ?_) (fun c4 => ?_)
        · refine lv_iconst (v := 0) hx hb d_M_isBlock_27 (by decide) ?_
          refine W.widen (k := 0) (n := 0) (by omega) (by omega) ?_
          exact W.zret (ty := .boolean) (v := 0) hx hb hr rfl (fun t9 ht9 hwz => ⟨⟨0, (V, P), rfl, (by simp [rIsBlock, c1, c2, c3, c4]), by rw [ht9]; exact hW, va_K.moved hwz.alike hK, hN.warm hwz⟩, hS.F ht9⟩) hS.2.2 d_M_isBlock_28
        · refine lv_iconst (v := 1) hx hb d_M_isBlock_23 (by decide) ?_
          refine lv_goto (tgt := 28) hx hb d_M_isBlock_24 (by decide) ?_
          refine W.widen (k := 0) (n := 0) (by omega) (by omega) ?_
          exact W.zret (ty := .boolean) (v := 1) hx hb hr rfl (fun t9 ht9 hwz => ⟨⟨1, (V, P), rfl, (by simp [rIsBlock, c1, c2, c3, c4]), by rw [ht9]; exact hW, va_K.moved hwz.alike hK, hN.warm hwz⟩, hS.F ht9⟩) hS.2.2 d_M_isBlock_28

set_option maxHeartbeats 4000000 in
set_option maxRecDepth 100000 in
theorem m_M_many (l : Launch) (D : va_G) (B : Nat) (cA : Nat → ClassId) (sh : Nat → Nat) (V P : VV) (t : Nat) (hm : mar t = some (80, 3)) : Met l y_M_many w_M_many ({ frames := 0, cells := 0, slots := 0, locals := 0 } : Room) (va_Pc [.ref (sh t)] (JC D B cA sh (V, P))) (va_Qi (fun (r : Int32) (u : VV × VV) => (r, u.1, u.2) = (rMany (P t), V, P)) (JC D B cA sh) (hm_A B)) 0 0 (hm_A B) := by
  refine Met.ofW (cc := c_M_many) (maxL := 3) (ret := (some FieldType.int)) (by decide) rfl ?_
  intro p e s m args below meth c s₁ Bd hml hv
  obtain ⟨rfl, hW, hK, hN⟩ := hv
  have hx := Bd.exec
  have hb := Bd.bytes
  have hr := Bd.returns
  have hts := atoms_spec (ws := w_M_many) Bd.pre
  have hT : ∀ w ∈ WG, w.before ([.ref (sh t)] : List Value).toArray s = true := fun w h => hts w (List.mem_cons_of_mem _ h)
  have hown : s.vm.findClass "BlockVaultModel" = some m.cls := findClass_of_methodNamed Bd.named
  have hlocks := Bd.notSynchronized
  have hW : JW D B cA sh V P s.heap := hW
  have hBs : B ≤ s.heap.size := hW.ge
  have hS : va_S (hm_A B) s.heap s.heap [] := va_S.rf
  have hl := lv_entry ([.ref (sh t)]) (n := 3) (Nat.le_of_ble_eq_true rfl)
  rw [lg_entry_eq]
  generalize (lg_sl ([.ref (sh t)]) ++ List.replicate (3 - (lg_sl ([.ref (sh t)])).length) Slot.unset).toArray = ls at hl ⊢
  have hl : lv_has ls 3 [(0, .ref (sh t))] := hl
  refine lv_iconst (v := 0) hx hb d_M_many_0 (by decide) ?_
  refine lv_istore_n (lv' := [(1, .int 0), (0, .ref (sh t))]) hx hb d_M_many_1 rfl hl (by decide) rfl (fun ls hl => ?_)
  refine lv_iconst (v := 0) hx hb d_M_many_2 (by decide) ?_
  refine lv_istore_n (lv' := [(2, .int 0), (1, .int 0), (0, .ref (sh t))]) hx hb d_M_many_3 rfl hl (by decide) rfl (fun ls hl => ?_)
  have loop : ∀ (n i : Nat) (a : Int32) (H : Heap) (locs : List Loc) (ls : Array Slot), i + n = 80 → (cM (P t) n i a = rMany (P t)) → JW D B cA sh V P H → va_S (hm_A B) s.heap H locs → lv_has ls 3 [(2, .int (nI i)), (1, .int a), (0, .ref (sh t))] → W p l e (headSpec w_M_many ({ frames := 0, cells := 0, slots := 0, locals := 0 } : Room)).room s m ([.ref (sh t)] : List Value).toArray below meth c H locs 0 0 (MQ below (va_Qi (fun (r : Int32) (u : VV × VV) => (r, u.1, u.2) = (rMany (P t), V, P)) (JC D B cA sh) (hm_A B)) ([.ref (sh t)] : List Value).toArray s 0 0 (hm_A B)) (F0 m 4 ls []) := by
    intro n
    induction n with
    | zero =>
      intro i a H locs ls hin hinv hW hS hl
      obtain rfl : i = 80 := by omega
      refine lv_iload_n hx hb d_M_many_4 rfl (lv_at hl 0 rfl) ?_
      refine lv_bipush (v := 80) hx hb d_M_many_5 (by decide) ?_
      refine lv_icmp_ge (tgt := 30) hx hb d_M_many_7 (by decide) (fun c1 => ?_) (fun c1 => ?_)
      · refine lv_iload_n hx hb d_M_many_30 rfl (lv_at hl 1 rfl) ?_
        refine W.widen (k := 0) (n := 0) (by omega) (by omega) ?_
        exact W.iret (v := a) hx hb hr (fun t9 ht9 hwz => ⟨⟨a, (V, P), rfl, (by rw [← hinv]; rfl), by rw [ht9]; exact hW, va_K.moved hwz.alike hK, hN.warm hwz⟩, hS.F ht9⟩) hS.2.2 d_M_many_31
      · exact absurd (by decide) c1
    | succ n ih =>
      intro i a H locs ls hin hinv hW hS hl
      have hi : i < 80 := by omega
      refine lv_iload_n hx hb d_M_many_4 rfl (lv_at hl 0 rfl) ?_
      refine lv_bipush (v := 80) hx hb d_M_many_5 (by decide) ?_
      refine lv_icmp_ge (tgt := 30) hx hb d_M_many_7 (by decide) (fun c2 => ?_) (fun c2 => ?_)
      · exact absurd c2 (nI_ge (b := 80) (by omega) (by omega))
      · refine lv_iload_n hx hb d_M_many_10 rfl (lv_at hl 1 rfl) ?_
        refine lv_aload_n hx hb d_M_many_11 rfl (lv_at hl 2 rfl) ?_
        refine lv_iload_n hx hb d_M_many_12 rfl (lv_at hl 0 rfl) ?_
        refine jw_zald (t := t) (i := i) hx hb hK hW hm rfl (by omega) d_M_many_13 ?_
        refine lv_if_eq (tgt := 21) hx hb d_M_many_14 (by decide) (fun c3 => ?_) (fun c3 => ?_)
        · refine lv_iconst (v := 0) hx hb d_M_many_21 (by decide) ?_
          refine lv_iadd hx hb d_M_many_22 ?_
          refine lv_istore_n (lv' := [(1, .int (a + 0)), (2, .int (nI i)), (0, .ref (sh t))]) hx hb d_M_many_23 rfl hl (by decide) rfl (fun ls hl => ?_)
          refine lv_iinc (v := ((nI i) + 1)) (lv' := [(2, .int ((nI i) + 1)), (1, .int (a + 0)), (0, .ref (sh t))]) hx hb d_M_many_24 hl (k := 1) rfl rfl (by decide) rfl (fun ls hl => ?_)
          refine lv_goto (tgt := 4) hx hb d_M_many_27 (by decide) ?_
          exact ih (i + 1) (a + 0) H locs ls (by omega) (by rw [← hinv]; simp only [cM]; rw [if_pos c3]) hW hS (by rw [← nI_1]; exact lv_sub hl [0, 1, 2] rfl)
        · refine lv_iconst (v := 1) hx hb d_M_many_17 (by decide) ?_
          refine lv_goto (tgt := 22) hx hb d_M_many_18 (by decide) ?_
          refine lv_iadd hx hb d_M_many_22 ?_
          refine lv_istore_n (lv' := [(1, .int (a + 1)), (2, .int (nI i)), (0, .ref (sh t))]) hx hb d_M_many_23 rfl hl (by decide) rfl (fun ls hl => ?_)
          refine lv_iinc (v := ((nI i) + 1)) (lv' := [(2, .int ((nI i) + 1)), (1, .int (a + 1)), (0, .ref (sh t))]) hx hb d_M_many_24 hl (k := 1) rfl rfl (by decide) rfl (fun ls hl => ?_)
          refine lv_goto (tgt := 4) hx hb d_M_many_27 (by decide) ?_
          exact ih (i + 1) (a + 1) H locs ls (by omega) (by rw [← hinv]; simp only [cM]; rw [if_neg c3]) hW hS (by rw [← nI_1]; exact lv_sub hl [0, 1, 2] rfl)
  exact loop 80 0 0 _ _ ls (by omega) (rfl) hW hS (lv_sub hl [0, 1, 2] rfl)

set_option maxHeartbeats 4000000 in
set_option maxRecDepth 100000 in
theorem m_M_begin (l : Launch) (D : va_G) (B : Nat) (cA : Nat → ClassId) (sh : Nat → Nat) (V P : VV) : Met l y_M_begin w_M_begin ({ frames := 0, cells := 0, slots := 0, locals := 0 } : Room) (va_Pc [.ref (sh 272)] (JC D B cA sh (V, P))) (va_Qi (fun (r : Int32) (u : VV × VV) => (r, u.1, u.2) = rBegin V P) (JC D B cA sh) (hm_A B)) 0 0 (hm_A B) := by
  refine Met.ofW (cc := c_M_begin) (maxL := 2) (ret := (some FieldType.boolean)) (by decide) rfl ?_
  intro p e s m args below meth c s₁ Bd hml hv
  obtain ⟨rfl, hW, hK, hN⟩ := hv
  have hx := Bd.exec
  have hb := Bd.bytes
  have hr := Bd.returns
  have hts := atoms_spec (ws := w_M_begin) Bd.pre
  have hT : ∀ w ∈ WG, w.before ([.ref (sh 272)] : List Value).toArray s = true := fun w h => hts w (List.mem_cons_of_mem _ h)
  have hown : s.vm.findClass "BlockVaultModel" = some m.cls := findClass_of_methodNamed Bd.named
  have hlocks := Bd.notSynchronized
  have hW : JW D B cA sh V P s.heap := hW
  have hBs : B ≤ s.heap.size := hW.ge
  have hS : va_S (hm_A B) s.heap s.heap [] := va_S.rf
  have hl := lv_entry ([.ref (sh 272)]) (n := 2) (Nat.le_of_ble_eq_true rfl)
  rw [lg_entry_eq]
  generalize (lg_sl ([.ref (sh 272)]) ++ List.replicate (2 - (lg_sl ([.ref (sh 272)])).length) Slot.unset).toArray = ls at hl ⊢
  have hl : lv_has ls 2 [(0, .ref (sh 272))] := hl
  refine lv_aload_n hx hb d_M_begin_0 rfl (lv_at hl 0 rfl) ?_
  refine lv_iconst (v := 0) hx hb d_M_begin_1 (by decide) ?_
  refine jw_put (ci := 6) (x := 0) (ty := .int) (C := "BlockVaultModel") (T := T_M) (N := 15) hx hb hT in_M t_M t_M_ok n_M hown hK hW hS rfl rfl 0 (by decide) rfl (hT _ k321) (fun _ h9 => h9) rfl (by decide +kernel) rfl rfl d_M_begin_2 (fun H locs hW hS => ?_)
  refine lv_aload_n hx hb d_M_begin_5 rfl (lv_at hl 0 rfl) ?_
  refine va_get (D := D) (ci := 6) (v := .int (V 272 8)) (C := "BlockVaultModel") (T := T_M) (N := 15) hx hb hT in_M hown hK (hW.obj rfl) 0 rfl rfl 8 (by decide) (hT _ k329) (fun _ h9 => h9) rfl d_M_begin_6 ?_
  refine lv_if_eq (tgt := 19) hx hb d_M_begin_9 (by decide) (fun c1 => ?_) (fun c1 => ?_)
  · refine lv_iconst (v := 0) hx hb d_M_begin_19 (by decide) ?_
    refine W.widen (k := 0) (n := 0) (by omega) (by omega) ?_
    exact W.zret (ty := .boolean) (v := 0) hx hb hr rfl (fun t9 ht9 hwz => ⟨⟨0, ((v2 V 272 0 0), P), rfl, (by unfold rBegin; rw [if_pos (Or.inl c1)]; rfl), by rw [ht9]; exact hW, va_K.moved hwz.alike hK, hN.warm hwz⟩, hS.F ht9⟩) hS.2.2 d_M_begin_20
  · refine lv_aload_n hx hb d_M_begin_12 rfl (lv_at hl 0 rfl) ?_
    refine va_get (D := D) (ci := 6) (v := .int (V 272 9)) (C := "BlockVaultModel") (T := T_M) (N := 15) hx hb hT in_M hown hK (hW.obj rfl) 0 rfl rfl 9 (by decide) (hT _ k330) (fun _ h9 => h9) rfl d_M_begin_13 ?_
    refine lv_if_eq (tgt := 21) hx hb d_M_begin_16 (by decide) (fun c2 => ?_) (fun c2 => ?_)
    · refine lv_aload_n hx hb d_M_begin_21 rfl (lv_at hl 0 rfl) ?_
      refine lv_iconst (v := 1) hx hb d_M_begin_22 (by decide) ?_
      refine jw_put (ci := 6) (x := 1) (ty := .boolean) (C := "BlockVaultModel") (T := T_M) (N := 15) hx hb hT in_M t_M t_M_ok n_M hown hK hW hS rfl rfl 9 (by decide) rfl (hT _ k330) (fun _ h9 => h9) rfl (by decide +kernel) rfl rfl d_M_begin_23 (fun H locs hW hS => ?_)
      refine lv_iconst (v := 0) hx hb d_M_begin_26 (by decide) ?_
      refine lv_istore_n (lv' := [(1, .int 0), (0, .ref (sh 272))]) hx hb d_M_begin_27 rfl hl (by decide) rfl (fun ls hl => ?_)
      have loop : ∀ (n i : Nat) (Va Pa : VV) (H : Heap) (locs : List Loc) (ls : Array Slot), i + n = 80 → (Va = (v2 (v2 V 272 0 0) 272 9 1) ∧ Pa = p1 P 276 (zF (P 276) i)) → JW D B cA sh Va Pa H → va_S (hm_A B) s.heap H locs → lv_has ls 2 [(1, .int (nI i)), (0, .ref (sh 272))] → W p l e (headSpec w_M_begin ({ frames := 0, cells := 0, slots := 0, locals := 0 } : Room)).room s m ([.ref (sh 272)] : List Value).toArray below meth c H locs 0 0 (MQ below (va_Qi (fun (r : Int32) (u : VV × VV) => (r, u.1, u.2) = rBegin V P) (JC D B cA sh) (hm_A B)) ([.ref (sh 272)] : List Value).toArray s 0 0 (hm_A B)) (F0 m 28 ls []) := by
        intro n
        induction n with
        | zero =>
          intro i Va Pa H locs ls hin hinv hW hS hl
          obtain rfl : i = 80 := by omega
          refine lv_iload_n hx hb d_M_begin_28 rfl (lv_at hl 0 rfl) ?_
          refine lv_bipush (v := 80) hx hb d_M_begin_29 (by decide) ?_
          refine lv_icmp_ge (tgt := 47) hx hb d_M_begin_31 (by decide) (fun c3 => ?_) (fun c3 => ?_)
          · refine lv_iconst (v := 1) hx hb d_M_begin_47 (by decide) ?_
            refine W.widen (k := 0) (n := 0) (by omega) (by omega) ?_
            exact W.zret (ty := .boolean) (v := 1) hx hb hr rfl (fun t9 ht9 hwz => ⟨⟨1, (Va, Pa), rfl, (by rw [hinv.1, hinv.2]; unfold rBegin; rw [if_neg (fun q => q.elim c1 (fun z => z c2))]; rfl), by rw [ht9]; exact hW, va_K.moved hwz.alike hK, hN.warm hwz⟩, hS.F ht9⟩) hS.2.2 d_M_begin_48
          · exact absurd (by decide) c3
        | succ n ih =>
          intro i Va Pa H locs ls hin hinv hW hS hl
          have hi : i < 80 := by omega
          refine lv_iload_n hx hb d_M_begin_28 rfl (lv_at hl 0 rfl) ?_
          refine lv_bipush (v := 80) hx hb d_M_begin_29 (by decide) ?_
          refine lv_icmp_ge (tgt := 47) hx hb d_M_begin_31 (by decide) (fun c4 => ?_) (fun c4 => ?_)
          · exact absurd c4 (nI_ge (b := 80) (by omega) (by omega))
          · refine lv_aload_n hx hb d_M_begin_34 rfl (lv_at hl 1 rfl) ?_
            refine va_get (D := D) (ci := 6) (v := .ref (sh 276)) (C := "BlockVaultModel") (T := T_M) (N := 15) hx hb hT in_M hown hK (hW.obj rfl) 0 rfl rfl 5 (by decide) (hT _ k326) (fun _ h9 => h9) rfl d_M_begin_35 ?_
            refine lv_iload_n hx hb d_M_begin_38 rfl (lv_at hl 0 rfl) ?_
            refine lv_iconst (v := 0) hx hb d_M_begin_39 (by decide) ?_
            refine jw_zastN (t := 276) (i := i) hx hb hK hW hS rfl rfl (by omega) rfl d_M_begin_40 (fun H locs hW hS => ?_)
            refine lv_iinc (v := ((nI i) + 1)) (lv' := [(1, .int ((nI i) + 1)), (0, .ref (sh 272))]) hx hb d_M_begin_41 hl (k := 0) rfl rfl (by decide) rfl (fun ls hl => ?_)
            refine lv_goto (tgt := 28) hx hb d_M_begin_44 (by decide) ?_
            exact ih (i + 1) Va (p1 Pa 276 (upd (Pa 276) i 0)) H locs ls (by omega) (⟨hinv.1, by rw [hinv.2]; exact z_step⟩) hW hS (by rw [← nI_1]; exact lv_sub hl [0, 1] rfl)
      exact loop 80 0 (v2 (v2 V 272 0 0) 272 9 1) P _ _ ls (by omega) (⟨rfl, by rw [zF_0, p1_id]⟩) hW hS (lv_sub hl [0, 1] rfl)
    · refine lv_iconst (v := 0) hx hb d_M_begin_19 (by decide) ?_
      refine W.widen (k := 0) (n := 0) (by omega) (by omega) ?_
      exact W.zret (ty := .boolean) (v := 0) hx hb hr rfl (fun t9 ht9 hwz => ⟨⟨0, ((v2 V 272 0 0), P), rfl, (by unfold rBegin; rw [if_pos (Or.inr c2)]; rfl), by rw [ht9]; exact hW, va_K.moved hwz.alike hK, hN.warm hwz⟩, hS.F ht9⟩) hS.2.2 d_M_begin_20

set_option maxHeartbeats 4000000 in
set_option maxRecDepth 100000 in
theorem m_M_written (l : Launch) (D : va_G) (B : Nat) (cA : Nat → ClassId) (sh : Nat → Nat) (V P : VV) (n : Int32) : Met l y_M_written w_M_written ({ frames := 0, cells := 0, slots := 0, locals := 0 } : Room) (va_Pc [.ref (sh 272), .int n] (JC D B cA sh (V, P))) (va_Qi (fun (r : Int32) (u : VV × VV) => (r, u.1, u.2) = ((rWritten V n).1, (rWritten V n).2, P)) (JC D B cA sh) (hm_A B)) 0 0 (hm_A B) := by
  refine Met.ofW (cc := c_M_written) (maxL := 2) (ret := (some FieldType.boolean)) (by decide) rfl ?_
  intro p e s m args below meth c s₁ Bd hml hv
  obtain ⟨rfl, hW, hK, hN⟩ := hv
  have hx := Bd.exec
  have hb := Bd.bytes
  have hr := Bd.returns
  have hts := atoms_spec (ws := w_M_written) Bd.pre
  have hT : ∀ w ∈ WG, w.before ([.ref (sh 272), .int n] : List Value).toArray s = true := fun w h => hts w (List.mem_cons_of_mem _ h)
  have hown : s.vm.findClass "BlockVaultModel" = some m.cls := findClass_of_methodNamed Bd.named
  have hlocks := Bd.notSynchronized
  have hW : JW D B cA sh V P s.heap := hW
  have hBs : B ≤ s.heap.size := hW.ge
  have hS : va_S (hm_A B) s.heap s.heap [] := va_S.rf
  have hl := lv_entry ([.ref (sh 272), .int n]) (n := 2) (Nat.le_of_ble_eq_true rfl)
  rw [lg_entry_eq]
  generalize (lg_sl ([.ref (sh 272), .int n]) ++ List.replicate (2 - (lg_sl ([.ref (sh 272), .int n])).length) Slot.unset).toArray = ls at hl ⊢
  have hl : lv_has ls 2 [(0, .ref (sh 272)), (1, .int n)] := hl
  refine lv_aload_n hx hb d_M_written_0 rfl (lv_at hl 0 rfl) ?_
  refine va_get (D := D) (ci := 6) (v := .int (V 272 10)) (C := "BlockVaultModel") (T := T_M) (N := 15) hx hb hT in_M hown hK (hW.obj rfl) 0 rfl rfl 10 (by decide) (hT _ k331) (fun _ h9 => h9) rfl d_M_written_1 ?_
  refine lv_if_lt (tgt := 15) hx hb d_M_written_4 (by decide) (fun c1 => ?_) (fun c1 => ?_)
  · refine lv_aload_n hx hb d_M_written_15 rfl (lv_at hl 0 rfl) ?_
    refine lv_dup hx hb d_M_written_16 rfl ?_
    refine va_get (D := D) (ci := 6) (v := .int (V 272 11)) (C := "BlockVaultModel") (T := T_M) (N := 15) hx hb hT in_M hown hK (hW.obj rfl) 0 rfl rfl 11 (by decide) (hT _ k332) (fun _ h9 => h9) rfl d_M_written_17 ?_
    refine lv_iload_n hx hb d_M_written_20 rfl (lv_at hl 1 rfl) ?_
    refine lv_iadd hx hb d_M_written_21 ?_
    refine jw_put (ci := 6) (x := ((V 272 11) + n)) (ty := .int) (C := "BlockVaultModel") (T := T_M) (N := 15) hx hb hT in_M t_M t_M_ok n_M hown hK hW hS rfl rfl 11 (by decide) rfl (hT _ k332) (fun _ h9 => h9) rfl (by decide +kernel) rfl rfl d_M_written_22 (fun H locs hW hS => ?_)
    refine lv_aload_n hx hb d_M_written_25 rfl (lv_at hl 0 rfl) ?_
    refine lv_aload_n hx hb d_M_written_26 rfl (lv_at hl 0 rfl) ?_
    refine va_get (D := D) (ci := 6) (v := .int (V 272 10)) (C := "BlockVaultModel") (T := T_M) (N := 15) hx hb hT in_M hown hK (hW.obj rfl) 0 rfl rfl 10 (by decide) (hT _ k331) (fun _ h9 => h9) rfl d_M_written_27 ?_
    refine lv_if_ge (tgt := 40) hx hb d_M_written_30 (by decide) (fun c2 => ?_) (fun c2 => ?_)
    · exact absurd c2 (Int32.not_le.mpr c1)
    · refine lv_aload_n hx hb d_M_written_33 rfl (lv_at hl 0 rfl) ?_
      refine va_get (D := D) (ci := 6) (v := .int (V 272 10)) (C := "BlockVaultModel") (T := T_M) (N := 15) hx hb hT in_M hown hK (hW.obj rfl) 0 rfl rfl 10 (by decide) (hT _ k331) (fun _ h9 => h9) rfl d_M_written_34 ?_
      refine lv_goto (tgt := 46) hx hb d_M_written_37 (by decide) ?_
      refine jw_put (ci := 6) (x := (V 272 10)) (ty := .int) (C := "BlockVaultModel") (T := T_M) (N := 15) hx hb hT in_M t_M t_M_ok n_M hown hK hW hS rfl rfl 10 (by decide) rfl (hT _ k331) (fun _ h9 => h9) rfl (by decide +kernel) rfl rfl d_M_written_46 (fun H locs hW hS => ?_)
      refine lv_iconst (v := 1) hx hb d_M_written_49 (by decide) ?_
      refine W.widen (k := 0) (n := 0) (by omega) (by omega) ?_
      exact W.zret (ty := .boolean) (v := 1) hx hb hr rfl (fun t9 ht9 hwz => ⟨⟨1, ((v2 (v2 V 272 11 ((V 272 11) + n)) 272 10 (V 272 10)), P), rfl, (by unfold rWritten; rw [if_pos c1]), by rw [ht9]; exact hW, va_K.moved hwz.alike hK, hN.warm hwz⟩, hS.F ht9⟩) hS.2.2 d_M_written_50
  · refine lv_aload_n hx hb d_M_written_7 rfl (lv_at hl 0 rfl) ?_
    refine va_get (D := D) (ci := 6) (v := .int (V 272 10)) (C := "BlockVaultModel") (T := T_M) (N := 15) hx hb hT in_M hown hK (hW.obj rfl) 0 rfl rfl 10 (by decide) (hT _ k331) (fun _ h9 => h9) rfl d_M_written_8 ?_
    refine lv_iload_n hx hb d_M_written_11 rfl (lv_at hl 1 rfl) ?_
    refine lv_icmp_lt (tgt := 51) hx hb d_M_written_12 (by decide) (fun c3 => ?_) (fun c3 => ?_)
    · refine lv_aload_n hx hb d_M_written_51 rfl (lv_at hl 0 rfl) ?_
      refine lv_dup hx hb d_M_written_52 rfl ?_
      refine va_get (D := D) (ci := 6) (v := .int (V 272 11)) (C := "BlockVaultModel") (T := T_M) (N := 15) hx hb hT in_M hown hK (hW.obj rfl) 0 rfl rfl 11 (by decide) (hT _ k332) (fun _ h9 => h9) rfl d_M_written_53 ?_
      refine lv_aload_n hx hb d_M_written_56 rfl (lv_at hl 0 rfl) ?_
      refine va_get (D := D) (ci := 6) (v := .int (V 272 10)) (C := "BlockVaultModel") (T := T_M) (N := 15) hx hb hT in_M hown hK (hW.obj rfl) 0 rfl rfl 10 (by decide) (hT _ k331) (fun _ h9 => h9) rfl d_M_written_57 ?_
      refine lv_iadd hx hb d_M_written_60 ?_
      refine jw_put (ci := 6) (x := ((V 272 11) + (V 272 10))) (ty := .int) (C := "BlockVaultModel") (T := T_M) (N := 15) hx hb hT in_M t_M t_M_ok n_M hown hK hW hS rfl rfl 11 (by decide) rfl (hT _ k332) (fun _ h9 => h9) rfl (by decide +kernel) rfl rfl d_M_written_61 (fun H locs hW hS => ?_)
      refine lv_aload_n hx hb d_M_written_64 rfl (lv_at hl 0 rfl) ?_
      refine lv_iconst (v := (-1)) hx hb d_M_written_65 (by decide) ?_
      refine jw_put (ci := 6) (x := (-1)) (ty := .int) (C := "BlockVaultModel") (T := T_M) (N := 15) hx hb hT in_M t_M t_M_ok n_M hown hK hW hS rfl rfl 10 (by decide) rfl (hT _ k331) (fun _ h9 => h9) rfl (by decide +kernel) rfl rfl d_M_written_66 (fun H locs hW hS => ?_)
      refine lv_aload_n hx hb d_M_written_69 rfl (lv_at hl 0 rfl) ?_
      refine lv_iconst (v := 0) hx hb d_M_written_70 (by decide) ?_
      refine jw_put (ci := 6) (x := 0) (ty := .boolean) (C := "BlockVaultModel") (T := T_M) (N := 15) hx hb hT in_M t_M t_M_ok n_M hown hK hW hS rfl rfl 8 (by decide) rfl (hT _ k329) (fun _ h9 => h9) rfl (by decide +kernel) rfl rfl d_M_written_71 (fun H locs hW hS => ?_)
      refine lv_iconst (v := 0) hx hb d_M_written_74 (by decide) ?_
      refine W.widen (k := 0) (n := 0) (by omega) (by omega) ?_
      exact W.zret (ty := .boolean) (v := 0) hx hb hr rfl (fun t9 ht9 hwz => ⟨⟨0, ((v2 (v2 (v2 V 272 11 ((V 272 11) + (V 272 10))) 272 10 (-1)) 272 8 0), P), rfl, (by unfold rWritten; rw [if_neg c1, if_pos c3]), by rw [ht9]; exact hW, va_K.moved hwz.alike hK, hN.warm hwz⟩, hS.F ht9⟩) hS.2.2 d_M_written_75
    · refine lv_aload_n hx hb d_M_written_15 rfl (lv_at hl 0 rfl) ?_
      refine lv_dup hx hb d_M_written_16 rfl ?_
      refine va_get (D := D) (ci := 6) (v := .int (V 272 11)) (C := "BlockVaultModel") (T := T_M) (N := 15) hx hb hT in_M hown hK (hW.obj rfl) 0 rfl rfl 11 (by decide) (hT _ k332) (fun _ h9 => h9) rfl d_M_written_17 ?_
      refine lv_iload_n hx hb d_M_written_20 rfl (lv_at hl 1 rfl) ?_
      refine lv_iadd hx hb d_M_written_21 ?_
      refine jw_put (ci := 6) (x := ((V 272 11) + n)) (ty := .int) (C := "BlockVaultModel") (T := T_M) (N := 15) hx hb hT in_M t_M t_M_ok n_M hown hK hW hS rfl rfl 11 (by decide) rfl (hT _ k332) (fun _ h9 => h9) rfl (by decide +kernel) rfl rfl d_M_written_22 (fun H locs hW hS => ?_)
      refine lv_aload_n hx hb d_M_written_25 rfl (lv_at hl 0 rfl) ?_
      refine lv_aload_n hx hb d_M_written_26 rfl (lv_at hl 0 rfl) ?_
      refine va_get (D := D) (ci := 6) (v := .int (V 272 10)) (C := "BlockVaultModel") (T := T_M) (N := 15) hx hb hT in_M hown hK (hW.obj rfl) 0 rfl rfl 10 (by decide) (hT _ k331) (fun _ h9 => h9) rfl d_M_written_27 ?_
      refine lv_if_ge (tgt := 40) hx hb d_M_written_30 (by decide) (fun c4 => ?_) (fun c4 => ?_)
      · refine lv_aload_n hx hb d_M_written_40 rfl (lv_at hl 0 rfl) ?_
        refine va_get (D := D) (ci := 6) (v := .int (V 272 10)) (C := "BlockVaultModel") (T := T_M) (N := 15) hx hb hT in_M hown hK (hW.obj rfl) 0 rfl rfl 10 (by decide) (hT _ k331) (fun _ h9 => h9) rfl d_M_written_41 ?_
        refine lv_iload_n hx hb d_M_written_44 rfl (lv_at hl 1 rfl) ?_
        refine lv_isub hx hb d_M_written_45 ?_
        refine jw_put (ci := 6) (x := ((V 272 10) - n)) (ty := .int) (C := "BlockVaultModel") (T := T_M) (N := 15) hx hb hT in_M t_M t_M_ok n_M hown hK hW hS rfl rfl 10 (by decide) rfl (hT _ k331) (fun _ h9 => h9) rfl (by decide +kernel) rfl rfl d_M_written_46 (fun H locs hW hS => ?_)
        refine lv_iconst (v := 1) hx hb d_M_written_49 (by decide) ?_
        refine W.widen (k := 0) (n := 0) (by omega) (by omega) ?_
        exact W.zret (ty := .boolean) (v := 1) hx hb hr rfl (fun t9 ht9 hwz => ⟨⟨1, ((v2 (v2 V 272 11 ((V 272 11) + n)) 272 10 ((V 272 10) - n)), P), rfl, (by unfold rWritten; rw [if_neg c1, if_neg c3]), by rw [ht9]; exact hW, va_K.moved hwz.alike hK, hN.warm hwz⟩, hS.F ht9⟩) hS.2.2 d_M_written_50
      · exact absurd (Int32.not_lt.mp c1) c4

set_option maxHeartbeats 4000000 in
set_option maxRecDepth 100000 in
theorem m_M_ended (l : Launch) (D : va_G) (B : Nat) (cA : Nat → ClassId) (sh : Nat → Nat) (V P : VV) : Met l y_M_ended w_M_ended ({ frames := 1, cells := 0, slots := 0, locals := 30 } : Room) (va_Pc [.ref (sh 272)] (JC D B cA sh (V, P))) (va_Qi (fun (r : Int32) (u : VV × VV) => (r, u.1, u.2) = ((rEnded V).1, (rEnded V).2, P)) (JC D B cA sh) (hm_A B)) 0 0 (hm_A B) := by
  refine Met.ofW (cc := c_M_ended) (maxL := 2) (ret := (some FieldType.boolean)) (by decide) rfl ?_
  intro p e s m args below meth c s₁ Bd hml hv
  obtain ⟨rfl, hW, hK, hN⟩ := hv
  have hx := Bd.exec
  have hb := Bd.bytes
  have hr := Bd.returns
  have hts := atoms_spec (ws := w_M_ended) Bd.pre
  have hT : ∀ w ∈ WG, w.before ([.ref (sh 272)] : List Value).toArray s = true := fun w h => hts w (List.mem_cons_of_mem _ h)
  have hown : s.vm.findClass "BlockVaultModel" = some m.cls := findClass_of_methodNamed Bd.named
  have hlocks := Bd.notSynchronized
  have hW : JW D B cA sh V P s.heap := hW
  have hBs : B ≤ s.heap.size := hW.ge
  have hS : va_S (hm_A B) s.heap s.heap [] := va_S.rf
  have hl := lv_entry ([.ref (sh 272)]) (n := 2) (Nat.le_of_ble_eq_true rfl)
  rw [lg_entry_eq]
  generalize (lg_sl ([.ref (sh 272)]) ++ List.replicate (2 - (lg_sl ([.ref (sh 272)])).length) Slot.unset).toArray = ls at hl ⊢
  have hl : lv_has ls 2 [(0, .ref (sh 272))] := hl
  refine lv_aload_n hx hb d_M_ended_0 rfl (lv_at hl 0 rfl) ?_
  refine lv_aload_n hx hb d_M_ended_1 rfl (lv_at hl 0 rfl) ?_
  refine va_get (D := D) (ci := 6) (v := .int (V 272 14)) (C := "BlockVaultModel") (T := T_M) (N := 15) hx hb hT in_M hown hK (hW.obj rfl) 0 rfl rfl 14 (by decide) (hT _ k335) (fun _ h9 => h9) rfl d_M_ended_2 ?_
  refine lv_iconst (v := 1) hx hb d_M_ended_5 (by decide) ?_
  refine lv_iadd hx hb d_M_ended_6 ?_
  refine jw_calli (va_runV (As := [.int ((V 272 14) + 1)]) (rest := []) ⟨hx, hb, hml, hown, hT⟩ (m_M_written l D B cA sh V P ((V 272 14) + 1)) (cwV 1 hT (gV k384 k386 ks6 k8 kc_M_written) rfl rfl rfl (by decide +kernel) ⟨Nat.le_of_ble_eq_true rfl, Nat.le_of_ble_eq_true rfl⟩) (jw_preV (q := ("BlockVaultModel", T_M, 15)) hW hK hN rfl rfl) rfl rfl hl.1 rfl (lv_room (Nat.le_of_ble_eq_true rfl)) d_M_ended_7 ⟨Nat.le_of_ble_eq_true rfl, Nat.le_of_ble_eq_true rfl⟩) hS (fun r1 V2 P3 H locs hw4 hW hS => ?_)
  have hwb := nb_1 hw4 (rWritten_b V ((V 272 14) + 1))
  refine lv_istore_n (lv' := [(1, .int r1), (0, .ref (sh 272))]) hx hb d_M_ended_10 rfl hl (by decide) rfl (fun ls hl => ?_)
  refine lv_aload_n hx hb d_M_ended_11 rfl (lv_at hl 1 rfl) ?_
  refine lv_iload_n hx hb d_M_ended_12 rfl (lv_at hl 0 rfl) ?_
  refine lv_if_eq (tgt := 20) hx hb d_M_ended_13 (by decide) (fun c5 => ?_) (fun c5 => ?_)
  · refine lv_aload_n hx hb d_M_ended_20 rfl (lv_at hl 1 rfl) ?_
    refine va_get (D := D) (ci := 6) (v := .int (V2 272 14)) (C := "BlockVaultModel") (T := T_M) (N := 15) hx hb hT in_M hown hK (hW.obj rfl) 0 rfl rfl 14 (by decide) (hT _ k335) (fun _ h9 => h9) rfl d_M_ended_21 ?_
    refine jw_put (ci := 6) (x := (V2 272 14)) (ty := .int) (C := "BlockVaultModel") (T := T_M) (N := 15) hx hb hT in_M t_M t_M_ok n_M hown hK hW hS rfl rfl 14 (by decide) rfl (hT _ k335) (fun _ h9 => h9) rfl (by decide +kernel) rfl rfl d_M_ended_24 (fun H locs hW hS => ?_)
    refine lv_iload_n hx hb d_M_ended_27 rfl (lv_at hl 0 rfl) ?_
    refine W.widen (k := 0) (n := 0) (by omega) (by omega) ?_
    exact W.zret (ty := .boolean) (v := r1) hx hb hr hwb (fun t9 ht9 hwz => ⟨⟨r1, ((v2 V2 272 14 (V2 272 14)), P3), rfl, (by obtain ⟨e1, e2, e3⟩ := t3 hw4; unfold rEnded; rw [e1, e2, e3, if_pos c5]), by rw [ht9]; exact hW, va_K.moved hwz.alike hK, hN.warm hwz⟩, hS.F ht9⟩) hS.2.2 d_M_ended_28
  · refine lv_iconst (v := (-1)) hx hb d_M_ended_16 (by decide) ?_
    refine lv_goto (tgt := 24) hx hb d_M_ended_17 (by decide) ?_
    refine jw_put (ci := 6) (x := (-1)) (ty := .int) (C := "BlockVaultModel") (T := T_M) (N := 15) hx hb hT in_M t_M t_M_ok n_M hown hK hW hS rfl rfl 14 (by decide) rfl (hT _ k335) (fun _ h9 => h9) rfl (by decide +kernel) rfl rfl d_M_ended_24 (fun H locs hW hS => ?_)
    refine lv_iload_n hx hb d_M_ended_27 rfl (lv_at hl 0 rfl) ?_
    refine W.widen (k := 0) (n := 0) (by omega) (by omega) ?_
    exact W.zret (ty := .boolean) (v := r1) hx hb hr hwb (fun t9 ht9 hwz => ⟨⟨r1, ((v2 V2 272 14 (-1)), P3), rfl, (by obtain ⟨e1, e2, e3⟩ := t3 hw4; unfold rEnded; rw [e1, e2, e3, if_neg c5]), by rw [ht9]; exact hW, va_K.moved hwz.alike hK, hN.warm hwz⟩, hS.F ht9⟩) hS.2.2 d_M_ended_28

set_option maxHeartbeats 4000000 in
set_option maxRecDepth 100000 in
theorem m_M_commit (l : Launch) (D : va_G) (B : Nat) (cA : Nat → ClassId) (sh : Nat → Nat) (V P : VV) (N : Nat) (hN0 : V 272 1 = nI N) (h80 : N ≤ 80) : Met l y_M_commit w_M_commit ({ frames := 2, cells := 0, slots := 0, locals := 60 } : Room) (va_Pc [.ref (sh 272)] (JC D B cA sh (V, P))) (va_Qi (fun (r : Int32) (u : VV × VV) => (r, u.1, u.2) = rCommit V P) (JC D B cA sh) (hm_A B)) 0 0 (hm_A B) := by
  refine Met.ofW (cc := c_M_commit) (maxL := 4) (ret := (some FieldType.boolean)) (by decide) rfl ?_
  intro p e s m args below meth c s₁ Bd hml hv
  obtain ⟨rfl, hW, hK, hN⟩ := hv
  have hx := Bd.exec
  have hb := Bd.bytes
  have hr := Bd.returns
  have hts := atoms_spec (ws := w_M_commit) Bd.pre
  have hT : ∀ w ∈ WG, w.before ([.ref (sh 272)] : List Value).toArray s = true := fun w h => hts w (List.mem_cons_of_mem _ h)
  have hown : s.vm.findClass "BlockVaultModel" = some m.cls := findClass_of_methodNamed Bd.named
  have hlocks := Bd.notSynchronized
  have hW : JW D B cA sh V P s.heap := hW
  have hBs : B ≤ s.heap.size := hW.ge
  have hS : va_S (hm_A B) s.heap s.heap [] := va_S.rf
  have hl := lv_entry ([.ref (sh 272)]) (n := 4) (Nat.le_of_ble_eq_true rfl)
  rw [lg_entry_eq]
  generalize (lg_sl ([.ref (sh 272)]) ++ List.replicate (4 - (lg_sl ([.ref (sh 272)])).length) Slot.unset).toArray = ls at hl ⊢
  have hl : lv_has ls 4 [(0, .ref (sh 272))] := hl
  refine lv_aload_n hx hb d_M_commit_0 rfl (lv_at hl 0 rfl) ?_
  refine va_get (D := D) (ci := 6) (v := .ref (sh 275)) (C := "BlockVaultModel") (T := T_M) (N := 15) hx hb hT in_M hown hK (hW.obj rfl) 0 rfl rfl 4 (by decide) (hT _ k325) (fun _ h9 => h9) rfl d_M_commit_1 ?_
  refine jw_calli (va_runS (As := [.ref (sh 275)]) (rest := []) ⟨hx, hb, hml, hown, hT⟩ (m_M_many l D B cA sh V P 275 rfl) (va_cwS 1 hT (gS k377 k378 k8 kc_M_many) rfl rfl rfl (by decide +kernel) ⟨Nat.le_of_ble_eq_true rfl, Nat.le_of_ble_eq_true rfl⟩) (jw_preS hW hK hN) rfl rfl hl.1 rfl (lv_room (Nat.le_of_ble_eq_true rfl)) d_M_commit_4 ⟨Nat.le_of_ble_eq_true rfl, Nat.le_of_ble_eq_true rfl⟩) hS (fun r1 V2 P3 H locs hw4 hW hS => ?_)
  obtain ⟨rfl, rfl, rfl⟩ := t3 hw4
  refine lv_istore_n (lv' := [(1, .int (rMany (P 275))), (0, .ref (sh 272))]) hx hb d_M_commit_7 rfl hl (by decide) rfl (fun ls hl => ?_)
  refine lv_aload_n hx hb d_M_commit_8 rfl (lv_at hl 1 rfl) ?_
  refine lv_iload_n hx hb d_M_commit_9 rfl (lv_at hl 0 rfl) ?_
  refine lv_iconst (v := 1) hx hb d_M_commit_10 (by decide) ?_
  refine lv_iadd hx hb d_M_commit_11 ?_
  refine jw_calli (va_runV (As := [.int ((rMany (P 275)) + 1)]) (rest := []) ⟨hx, hb, hml, hown, hT⟩ (m_M_written l D B cA sh V P ((rMany (P 275)) + 1)) (cwV 1 hT (gV k384 k386 ks6 k8 kc_M_written) rfl rfl rfl (by decide +kernel) ⟨Nat.le_of_ble_eq_true rfl, Nat.le_of_ble_eq_true rfl⟩) (jw_preV (q := ("BlockVaultModel", T_M, 15)) hW hK hN rfl rfl) rfl rfl hl.1 rfl (lv_room (Nat.le_of_ble_eq_true rfl)) d_M_commit_12 ⟨Nat.le_of_ble_eq_true rfl, Nat.le_of_ble_eq_true rfl⟩) hS (fun r5 V6 P7 H locs hw8 hW hS => ?_)
  have hwb := nb_1 hw8 (rWritten_b V ((rMany (P 275)) + 1))
  refine lv_if_ne (tgt := 20) hx hb d_M_commit_15 (by decide) (fun c9 => ?_) (fun c9 => ?_)
  · refine lv_aload_n hx hb d_M_commit_20 rfl (lv_at hl 1 rfl) ?_
    refine lv_dup hx hb d_M_commit_21 rfl ?_
    refine va_get (D := D) (ci := 6) (v := .int (V6 272 13)) (C := "BlockVaultModel") (T := T_M) (N := 15) hx hb hT in_M hown hK (hW.obj rfl) 0 rfl rfl 13 (by decide) (hT _ k334) (fun _ h9 => h9) rfl d_M_commit_22 ?_
    refine lv_iconst (v := 1) hx hb d_M_commit_25 (by decide) ?_
    refine lv_iadd hx hb d_M_commit_26 ?_
    refine jw_put (ci := 6) (x := ((V6 272 13) + 1)) (ty := .int) (C := "BlockVaultModel") (T := T_M) (N := 15) hx hb hT in_M t_M t_M_ok n_M hown hK hW hS rfl rfl 13 (by decide) rfl (hT _ k334) (fun _ h9 => h9) rfl (by decide +kernel) rfl rfl d_M_commit_27 (fun H locs hW hS => ?_)
    refine lv_iconst (v := 0) hx hb d_M_commit_30 (by decide) ?_
    refine lv_istore_n (lv' := [(2, .int 0), (1, .int (rMany (P 275))), (0, .ref (sh 272))]) hx hb d_M_commit_31 rfl hl (by decide) rfl (fun ls hl => ?_)
    obtain ⟨e1, e2, e3⟩ := t3 hw8
    subst e3
    have hcm : rCommit V P = rCommit2 V6 P (rMany (P 275)) := by unfold rCommit; rw [e1, e2, if_neg c9]
    have hN1 : V6 272 1 = nI N := by have q := congrFun (congrFun e2 272) 1; rw [w10 (by omega)] at q; exact q.symm.trans hN0
    have loop : ∀ (n i : Nat) (Va Pa : VV) (H : Heap) (locs : List Loc) (ls : Array Slot), i + n = N → (Va = (v2 V6 272 13 ((V6 272 13) + 1)) ∧ Pa = rP P i) → JW D B cA sh Va Pa H → va_S (hm_A B) s.heap H locs → lv_has ls 4 [(2, .int (nI i)), (1, .int (rMany (P 275))), (0, .ref (sh 272))] → W p l e (headSpec w_M_commit ({ frames := 2, cells := 0, slots := 0, locals := 60 } : Room)).room s m ([.ref (sh 272)] : List Value).toArray below meth c H locs 0 0 (MQ below (va_Qi (fun (r : Int32) (u : VV × VV) => (r, u.1, u.2) = rCommit V P) (JC D B cA sh) (hm_A B)) ([.ref (sh 272)] : List Value).toArray s 0 0 (hm_A B)) (F0 m 32 ls []) := by
      intro n
      induction n with
      | zero =>
        intro i Va Pa H locs ls hin hinv hW hS hl
        obtain rfl : N = i := by omega
        refine lv_iload_n hx hb d_M_commit_32 rfl (lv_at hl 0 rfl) ?_
        refine lv_aload_n hx hb d_M_commit_33 rfl (lv_at hl 2 rfl) ?_
        refine va_get (D := D) (ci := 6) (v := .int (Va 272 1)) (C := "BlockVaultModel") (T := T_M) (N := 15) hx hb hT in_M hown hK (hW.obj rfl) 0 rfl rfl 1 (by decide) (hT _ k322) (fun _ h9 => h9) rfl d_M_commit_34 ?_
        refine lv_icmp_ge (tgt := 99) hx hb d_M_commit_37 (by decide) (fun c10 => ?_) (fun c10 => ?_)
        · refine lv_aload_n hx hb d_M_commit_99 rfl (lv_at hl 2 rfl) ?_
          refine lv_iload_n hx hb d_M_commit_100 rfl (lv_at hl 1 rfl) ?_
          refine jw_put (ci := 6) (x := (rMany (P 275))) (ty := .int) (C := "BlockVaultModel") (T := T_M) (N := 15) hx hb hT in_M t_M t_M_ok n_M hown hK hW hS rfl rfl 14 (by decide) rfl (hT _ k335) (fun _ h9 => h9) rfl (by decide +kernel) rfl rfl d_M_commit_101 (fun H locs hW hS => ?_)
          refine lv_aload_n hx hb d_M_commit_104 rfl (lv_at hl 2 rfl) ?_
          refine jw_calli (va_runV (As := []) (rest := []) ⟨hx, hb, hml, hown, hT⟩ (m_M_ended l D B cA sh (v2 Va 272 14 (rMany (P 275))) Pa) (cwV 0 hT (gV k388 k390 ks7 k8 kc_M_ended) rfl rfl rfl (by decide +kernel) ⟨Nat.le_of_ble_eq_true rfl, Nat.le_of_ble_eq_true rfl⟩) (jw_preV (q := ("BlockVaultModel", T_M, 15)) hW hK hN rfl rfl) rfl rfl hl.1 rfl (lv_room (Nat.le_of_ble_eq_true rfl)) d_M_commit_105 ⟨Nat.le_of_ble_eq_true rfl, Nat.le_of_ble_eq_true rfl⟩) hS (fun r11 V12 P13 H locs hw14 hW hS => ?_)
          refine W.widen (k := 0) (n := 0) (by omega) (by omega) ?_
          exact W.zret (ty := .boolean) (v := r11) hx hb hr (nb_1 hw14 (rWritten_b _ _)) (fun t9 ht9 hwz => ⟨⟨r11, (V12, P13), rfl, (by show (r11, V12, P13) = rCommit V P; rw [hcm]; unfold rCommit2; rw [hw14, hinv.1, hinv.2, hN1, nI_clamp (by omega)]), by rw [ht9]; exact hW, va_K.moved hwz.alike hK, hN.warm hwz⟩, hS.F ht9⟩) hS.2.2 d_M_commit_108
        · exact absurd (by rw [hinv.1]; exact (by rw [show ((v2 V6 272 13 ((V6 272 13) + 1))) 272 1 = V6 272 1 from rfl, hN1]; exact Int32.le_refl _)) c10
      | succ n ih =>
        intro i Va Pa H locs ls hin hinv hW hS hl
        have hi : i < N := by omega
        refine lv_iload_n hx hb d_M_commit_32 rfl (lv_at hl 0 rfl) ?_
        refine lv_aload_n hx hb d_M_commit_33 rfl (lv_at hl 2 rfl) ?_
        refine va_get (D := D) (ci := 6) (v := .int (Va 272 1)) (C := "BlockVaultModel") (T := T_M) (N := 15) hx hb hT in_M hown hK (hW.obj rfl) 0 rfl rfl 1 (by decide) (hT _ k322) (fun _ h9 => h9) rfl d_M_commit_34 ?_
        refine lv_icmp_ge (tgt := 99) hx hb d_M_commit_37 (by decide) (fun c15 => ?_) (fun c15 => ?_)
        · exact absurd c15 (by rw [hinv.1]; exact (by rw [show ((v2 V6 272 13 ((V6 272 13) + 1))) 272 1 = V6 272 1 from rfl, hN1]; exact nI_ge (by omega) (by omega)))
        · refine lv_sipush (v := 1024) hx hb d_M_commit_40 (by decide) ?_
          refine lv_iload_n hx hb d_M_commit_43 rfl (lv_at hl 0 rfl) ?_
          refine lv_imul hx hb d_M_commit_44 ?_
          refine lv_istore_n (lv' := [(3, .int (1024 * (nI i))), (2, .int (nI i)), (1, .int (rMany (P 275))), (0, .ref (sh 272))]) hx hb d_M_commit_45 rfl hl (by decide) rfl (fun ls hl => ?_)
          have e5 : Pa 275 i = P 275 i := by rw [hinv.2]; exact rP_t
          have hl : lv_has ls 4 [(3, .int (nI (1024 * i + 0))), (2, .int (nI i)), (1, .int (rMany (P 275))), (0, .ref (sh 272))] := by rw [Nat.add_zero, ← ix_0 i]; exact hl
          have loop2 : ∀ (n2 i2 : Nat) (Va2 Pa2 : VV) (H : Heap) (locs : List Loc) (ls : Array Slot), i2 + n2 = 1024 → (Pa2 = p1 Pa 273 (cpy Pa i i2) ∧ Va2 = Va ∧ (i2 = 0 ∨ ¬ P 275 i = 0)) → JW D B cA sh Va2 Pa2 H → va_S (hm_A B) s.heap H locs → lv_has ls 4 [(3, .int (nI (1024 * i + i2))), (2, .int (nI i)), (1, .int (rMany (P 275))), (0, .ref (sh 272))] → W p l e (headSpec w_M_commit ({ frames := 2, cells := 0, slots := 0, locals := 60 } : Room)).room s m ([.ref (sh 272)] : List Value).toArray below meth c H locs 0 0 (MQ below (va_Qi (fun (r : Int32) (u : VV × VV) => (r, u.1, u.2) = rCommit V P) (JC D B cA sh) (hm_A B)) ([.ref (sh 272)] : List Value).toArray s 0 0 (hm_A B)) (F0 m 46 ls []) := by
            intro n2
            induction n2 with
            | zero =>
              intro i2 Va2 Pa2 H locs ls hin2 hinv2 hW hS hl
              obtain rfl : i2 = 1024 := by omega
              refine lv_iload_n hx hb d_M_commit_46 rfl (lv_at hl 0 rfl) ?_
              refine lv_sipush (v := 1024) hx hb d_M_commit_47 (by decide) ?_
              refine lv_iload_n hx hb d_M_commit_50 rfl (lv_at hl 1 rfl) ?_
              refine lv_imul hx hb d_M_commit_51 ?_
              refine lv_sipush (v := 1024) hx hb d_M_commit_52 (by decide) ?_
              refine lv_iadd hx hb d_M_commit_55 ?_
              refine lv_icmp_ge (tgt := 86) hx hb d_M_commit_56 (by decide) (fun c16 => ?_) (fun c16 => ?_)
              · refine lv_aload_n hx hb d_M_commit_86 rfl (lv_at hl 3 rfl) ?_
                refine va_get (D := D) (ci := 6) (v := .ref (sh 275)) (C := "BlockVaultModel") (T := T_M) (N := 15) hx hb hT in_M hown hK (hW.obj rfl) 0 rfl rfl 4 (by decide) (hT _ k325) (fun _ h9 => h9) rfl d_M_commit_87 ?_
                refine lv_iload_n hx hb d_M_commit_90 rfl (lv_at hl 1 rfl) ?_
                refine lv_iconst (v := 0) hx hb d_M_commit_91 (by decide) ?_
                refine jw_zastN (t := 275) (i := i) hx hb hK hW hS rfl rfl (by omega) rfl d_M_commit_92 (fun H locs hW hS => ?_)
                refine lv_iinc (v := ((nI i) + 1)) (lv' := [(2, .int ((nI i) + 1)), (3, .int (nI (1024 * i + 1024))), (1, .int (rMany (P 275))), (0, .ref (sh 272))]) hx hb d_M_commit_93 hl (k := 1) rfl rfl (by decide) rfl (fun ls hl => ?_)
                refine lv_goto (tgt := 32) hx hb d_M_commit_96 (by decide) ?_
                exact ih (i + 1) Va2 (p1 Pa2 275 (upd (Pa2 275) i 0)) H locs ls (by omega) (⟨by rw [hinv2.2.1]; exact hinv.1, by rw [hinv2.1, hinv.2]; exact rP_yes (hinv2.2.2.resolve_left (by omega))⟩) hW hS (by rw [← nI_1]; exact lv_sub hl [0, 2, 3] rfl)
              · exact absurd (by rw [ix_e i]; exact Int32.le_refl _) c16
            | succ n2 ih2 =>
              intro i2 Va2 Pa2 H locs ls hin2 hinv2 hW hS hl
              have hi2 : i2 < 1024 := by omega
              refine lv_iload_n hx hb d_M_commit_46 rfl (lv_at hl 0 rfl) ?_
              refine lv_sipush (v := 1024) hx hb d_M_commit_47 (by decide) ?_
              refine lv_iload_n hx hb d_M_commit_50 rfl (lv_at hl 1 rfl) ?_
              refine lv_imul hx hb d_M_commit_51 ?_
              refine lv_sipush (v := 1024) hx hb d_M_commit_52 (by decide) ?_
              refine lv_iadd hx hb d_M_commit_55 ?_
              refine lv_icmp_ge (tgt := 86) hx hb d_M_commit_56 (by decide) (fun c17 => ?_) (fun c17 => ?_)
              · exact absurd c17 (by rw [ix_e i]; exact nI_ge (by omega) (by omega))
              · refine lv_aload_n hx hb d_M_commit_59 rfl (lv_at hl 3 rfl) ?_
                refine va_get (D := D) (ci := 6) (v := .ref (sh 275)) (C := "BlockVaultModel") (T := T_M) (N := 15) hx hb hT in_M hown hK (hW.obj rfl) 0 rfl rfl 4 (by decide) (hT _ k325) (fun _ h9 => h9) rfl d_M_commit_60 ?_
                refine lv_iload_n hx hb d_M_commit_63 rfl (lv_at hl 1 rfl) ?_
                refine jw_zald (t := 275) (i := i) hx hb hK hW rfl rfl (by omega) d_M_commit_64 ?_
                refine lv_if_eq (tgt := 86) hx hb d_M_commit_65 (by decide) (fun c18 => ?_) (fun c18 => ?_)
                · refine lv_aload_n hx hb d_M_commit_86 rfl (lv_at hl 3 rfl) ?_
                  refine va_get (D := D) (ci := 6) (v := .ref (sh 275)) (C := "BlockVaultModel") (T := T_M) (N := 15) hx hb hT in_M hown hK (hW.obj rfl) 0 rfl rfl 4 (by decide) (hT _ k325) (fun _ h9 => h9) rfl d_M_commit_87 ?_
                  refine lv_iload_n hx hb d_M_commit_90 rfl (lv_at hl 1 rfl) ?_
                  refine lv_iconst (v := 0) hx hb d_M_commit_91 (by decide) ?_
                  refine jw_zastN (t := 275) (i := i) hx hb hK hW hS rfl rfl (by omega) rfl d_M_commit_92 (fun H locs hW hS => ?_)
                  refine lv_iinc (v := ((nI i) + 1)) (lv' := [(2, .int ((nI i) + 1)), (3, .int (nI (1024 * i + i2))), (1, .int (rMany (P 275))), (0, .ref (sh 272))]) hx hb d_M_commit_93 hl (k := 1) rfl rfl (by decide) rfl (fun ls hl => ?_)
                  refine lv_goto (tgt := 32) hx hb d_M_commit_96 (by decide) ?_
                  exact ih (i + 1) Va2 (p1 Pa2 275 (upd (Pa2 275) i 0)) H locs ls (by omega) (⟨by rw [hinv2.2.1]; exact hinv.1, by have z : P 275 i = 0 := (by have q := c18; rw [hinv2.1, p1_n (by omega), e5] at q; exact q); exact hinv2.2.2.elim (fun q => by rw [hinv2.1, q, cpy_0, p1_id, hinv.2]; exact rP_no z) (fun q => absurd z q)⟩) hW hS (by rw [← nI_1]; exact lv_sub hl [0, 2, 3] rfl)
                · refine lv_aload_n hx hb d_M_commit_68 rfl (lv_at hl 3 rfl) ?_
                  refine va_get (D := D) (ci := 6) (v := .ref (sh 273)) (C := "BlockVaultModel") (T := T_M) (N := 15) hx hb hT in_M hown hK (hW.obj rfl) 0 rfl rfl 2 (by decide) (hT _ k323) (fun _ h9 => h9) rfl d_M_commit_69 ?_
                  refine lv_iload_n hx hb d_M_commit_72 rfl (lv_at hl 0 rfl) ?_
                  refine lv_aload_n hx hb d_M_commit_73 rfl (lv_at hl 3 rfl) ?_
                  refine va_get (D := D) (ci := 6) (v := .ref (sh 274)) (C := "BlockVaultModel") (T := T_M) (N := 15) hx hb hT in_M hown hK (hW.obj rfl) 0 rfl rfl 3 (by decide) (hT _ k324) (fun _ h9 => h9) rfl d_M_commit_74 ?_
                  refine lv_iload_n hx hb d_M_commit_77 rfl (lv_at hl 0 rfl) ?_
                  refine jw_bald (t := 274) (i := (1024 * i + i2)) hx hb hK hW rfl rfl (by omega) d_M_commit_78 (fun hbf => ?_)
                  refine jw_bastN (t := 273) (i := (1024 * i + i2)) hx hb hK hW hS rfl rfl (by omega) hbf d_M_commit_79 (fun H locs hW hS => ?_)
                  refine lv_iinc (v := ((nI (1024 * i + i2)) + 1)) (lv' := [(3, .int ((nI (1024 * i + i2)) + 1)), (2, .int (nI i)), (1, .int (rMany (P 275))), (0, .ref (sh 272))]) hx hb d_M_commit_80 hl (k := 0) rfl rfl (by decide) rfl (fun ls hl => ?_)
                  refine lv_goto (tgt := 46) hx hb d_M_commit_83 (by decide) ?_
                  exact ih2 (i2 + 1) Va2 (p1 Pa2 273 (upd (Pa2 273) (1024 * i + i2) (Pa2 274 (1024 * i + i2)))) H locs ls (by omega) (⟨by rw [hinv2.1]; exact cpy_step, hinv2.2.1, Or.inr (fun z => c18 (by rw [hinv2.1, p1_n (by omega), e5]; exact z))⟩) hW hS (by rw [← Nat.add_assoc, ← nI_1]; exact lv_sub hl [0, 1, 2, 3] rfl)
          exact loop2 1024 0 Va Pa _ _ ls (by omega) (⟨by rw [cpy_0, p1_id], rfl, Or.inl rfl⟩) hW hS (lv_sub hl [0, 1, 2, 3] rfl)
    exact loop N 0 (v2 V6 272 13 ((V6 272 13) + 1)) P _ _ ls (by omega) (⟨rfl, rP_0.symm⟩) hW hS (lv_sub hl [0, 1, 2] rfl)
  · refine lv_iconst (v := 0) hx hb d_M_commit_18 (by decide) ?_
    refine W.widen (k := 0) (n := 0) (by omega) (by omega) ?_
    exact W.zret (ty := .boolean) (v := 0) hx hb hr rfl (fun t9 ht9 hwz => ⟨⟨0, (V6, P7), rfl, (by obtain ⟨e1, e2, e3⟩ := t3 hw8; unfold rCommit; rw [e1, e2, if_pos c9, e3]), by rw [ht9]; exact hW, va_K.moved hwz.alike hK, hN.warm hwz⟩, hS.F ht9⟩) hS.2.2 d_M_commit_19

set_option maxHeartbeats 4000000 in
set_option maxRecDepth 100000 in
theorem m_M_end (l : Launch) (D : va_G) (B : Nat) (cA : Nat → ClassId) (sh : Nat → Nat) (V P : VV) (N : Nat) (hN0 : V 272 1 = nI N) (h80 : N ≤ 80) : Met l y_M_end w_M_end ({ frames := 3, cells := 0, slots := 0, locals := 90 } : Room) (va_Pc [.ref (sh 272)] (JC D B cA sh (V, P))) (va_Qi (fun (r : Int32) (u : VV × VV) => (r, u.1, u.2) = rEnd V P) (JC D B cA sh) (hm_A B)) 0 0 (hm_A B) := by
  refine Met.ofW (cc := c_M_end) (maxL := 2) (ret := (some FieldType.int)) (by decide) rfl ?_
  intro p e s m args below meth c s₁ Bd hml hv
  obtain ⟨rfl, hW, hK, hN⟩ := hv
  have hx := Bd.exec
  have hb := Bd.bytes
  have hr := Bd.returns
  have hts := atoms_spec (ws := w_M_end) Bd.pre
  have hT : ∀ w ∈ WG, w.before ([.ref (sh 272)] : List Value).toArray s = true := fun w h => hts w (List.mem_cons_of_mem _ h)
  have hown : s.vm.findClass "BlockVaultModel" = some m.cls := findClass_of_methodNamed Bd.named
  have hlocks := Bd.notSynchronized
  have hW : JW D B cA sh V P s.heap := hW
  have hBs : B ≤ s.heap.size := hW.ge
  have hS : va_S (hm_A B) s.heap s.heap [] := va_S.rf
  have hl := lv_entry ([.ref (sh 272)]) (n := 2) (Nat.le_of_ble_eq_true rfl)
  rw [lg_entry_eq]
  generalize (lg_sl ([.ref (sh 272)]) ++ List.replicate (2 - (lg_sl ([.ref (sh 272)])).length) Slot.unset).toArray = ls at hl ⊢
  have hl : lv_has ls 2 [(0, .ref (sh 272))] := hl
  refine lv_aload_n hx hb d_M_end_0 rfl (lv_at hl 0 rfl) ?_
  refine lv_iconst (v := 0) hx hb d_M_end_1 (by decide) ?_
  refine jw_put (ci := 6) (x := 0) (ty := .int) (C := "BlockVaultModel") (T := T_M) (N := 15) hx hb hT in_M t_M t_M_ok n_M hown hK hW hS rfl rfl 0 (by decide) rfl (hT _ k321) (fun _ h9 => h9) rfl (by decide +kernel) rfl rfl d_M_end_2 (fun H locs hW hS => ?_)
  refine lv_aload_n hx hb d_M_end_5 rfl (lv_at hl 0 rfl) ?_
  refine va_get (D := D) (ci := 6) (v := .int (V 272 8)) (C := "BlockVaultModel") (T := T_M) (N := 15) hx hb hT in_M hown hK (hW.obj rfl) 0 rfl rfl 8 (by decide) (hT _ k329) (fun _ h9 => h9) rfl d_M_end_6 ?_
  refine lv_if_eq (tgt := 19) hx hb d_M_end_9 (by decide) (fun c1 => ?_) (fun c1 => ?_)
  · refine lv_iconst (v := (-1)) hx hb d_M_end_19 (by decide) ?_
    refine W.widen (k := 0) (n := 0) (by omega) (by omega) ?_
    exact W.iret (v := (-1)) hx hb hr (fun t9 ht9 hwz => ⟨⟨(-1), ((v2 V 272 0 0), P), rfl, (by unfold rEnd; rw [if_pos (Or.inl c1)]; rfl), by rw [ht9]; exact hW, va_K.moved hwz.alike hK, hN.warm hwz⟩, hS.F ht9⟩) hS.2.2 d_M_end_20
  · refine lv_aload_n hx hb d_M_end_12 rfl (lv_at hl 0 rfl) ?_
    refine va_get (D := D) (ci := 6) (v := .int (V 272 9)) (C := "BlockVaultModel") (T := T_M) (N := 15) hx hb hT in_M hown hK (hW.obj rfl) 0 rfl rfl 9 (by decide) (hT _ k330) (fun _ h9 => h9) rfl d_M_end_13 ?_
    refine lv_if_ne (tgt := 21) hx hb d_M_end_16 (by decide) (fun c2 => ?_) (fun c2 => ?_)
    · refine lv_aload_n hx hb d_M_end_21 rfl (lv_at hl 0 rfl) ?_
      refine lv_iconst (v := 0) hx hb d_M_end_22 (by decide) ?_
      refine jw_put (ci := 6) (x := 0) (ty := .boolean) (C := "BlockVaultModel") (T := T_M) (N := 15) hx hb hT in_M t_M t_M_ok n_M hown hK hW hS rfl rfl 9 (by decide) rfl (hT _ k330) (fun _ h9 => h9) rfl (by decide +kernel) rfl rfl d_M_end_23 (fun H locs hW hS => ?_)
      refine lv_aload_n hx hb d_M_end_26 rfl (lv_at hl 0 rfl) ?_
      refine va_get (D := D) (ci := 6) (v := .ref (sh 275)) (C := "BlockVaultModel") (T := T_M) (N := 15) hx hb hT in_M hown hK (hW.obj rfl) 0 rfl rfl 4 (by decide) (hT _ k325) (fun _ h9 => h9) rfl d_M_end_27 ?_
      refine jw_calli (va_runS (As := [.ref (sh 275)]) (rest := []) ⟨hx, hb, hml, hown, hT⟩ (m_M_many l D B cA sh (v2 (v2 V 272 0 0) 272 9 0) P 275 rfl) (va_cwS 1 hT (gS k377 k378 k8 kc_M_many) rfl rfl rfl (by decide +kernel) ⟨Nat.le_of_ble_eq_true rfl, Nat.le_of_ble_eq_true rfl⟩) (jw_preS hW hK hN) rfl rfl hl.1 rfl (lv_room (Nat.le_of_ble_eq_true rfl)) d_M_end_30 ⟨Nat.le_of_ble_eq_true rfl, Nat.le_of_ble_eq_true rfl⟩) hS (fun r3 V4 P5 H locs hw6 hW hS => ?_)
      obtain ⟨rfl, rfl, rfl⟩ := t3 hw6
      refine lv_istore_n (lv' := [(1, .int (rMany (P 275))), (0, .ref (sh 272))]) hx hb d_M_end_33 rfl hl (by decide) rfl (fun ls hl => ?_)
      refine lv_iload_n hx hb d_M_end_34 rfl (lv_at hl 0 rfl) ?_
      refine lv_bipush (v := 20) hx hb d_M_end_35 (by decide) ?_
      refine lv_icmp_gt (tgt := 42) hx hb d_M_end_37 (by decide) (fun c7 => ?_) (fun c7 => ?_)
      · refine lv_aload_n hx hb d_M_end_42 rfl (lv_at hl 1 rfl) ?_
        refine jw_calli (va_runV (As := []) (rest := []) ⟨hx, hb, hml, hown, hT⟩ (m_M_commit l D B cA sh (v2 (v2 V 272 0 0) 272 9 0) P N hN0 h80) (cwV 0 hT (gV k380 k382 ks5 k8 kc_M_commit) rfl rfl rfl (by decide +kernel) ⟨Nat.le_of_ble_eq_true rfl, Nat.le_of_ble_eq_true rfl⟩) (jw_preV (q := ("BlockVaultModel", T_M, 15)) hW hK hN rfl rfl) rfl rfl hl.1 rfl (lv_room (Nat.le_of_ble_eq_true rfl)) d_M_end_43 ⟨Nat.le_of_ble_eq_true rfl, Nat.le_of_ble_eq_true rfl⟩) hS (fun r8 V9 P10 H locs hw11 hW hS => ?_)
        refine lv_if_eq (tgt := 53) hx hb d_M_end_46 (by decide) (fun c12 => ?_) (fun c12 => ?_)
        · refine lv_iconst (v := (-1)) hx hb d_M_end_53 (by decide) ?_
          refine W.widen (k := 0) (n := 0) (by omega) (by omega) ?_
          exact W.iret (v := (-1)) hx hb hr (fun t9 ht9 hwz => ⟨⟨(-1), (V9, P10), rfl, (by unfold rEnd; rw [if_neg (fun q => q.elim c1 c2), if_pos c7, show rShut V = v2 (v2 V 272 0 0) 272 9 0 from rfl, ← hw11]; dsimp only; rw [if_pos c12]), by rw [ht9]; exact hW, va_K.moved hwz.alike hK, hN.warm hwz⟩, hS.F ht9⟩) hS.2.2 d_M_end_54
        · refine lv_iconst (v := 0) hx hb d_M_end_49 (by decide) ?_
          refine lv_goto (tgt := 54) hx hb d_M_end_50 (by decide) ?_
          refine W.widen (k := 0) (n := 0) (by omega) (by omega) ?_
          exact W.iret (v := 0) hx hb hr (fun t9 ht9 hwz => ⟨⟨0, (V9, P10), rfl, (by unfold rEnd; rw [if_neg (fun q => q.elim c1 c2), if_pos c7, show rShut V = v2 (v2 V 272 0 0) 272 9 0 from rfl, ← hw11]; dsimp only; rw [if_neg c12]), by rw [ht9]; exact hW, va_K.moved hwz.alike hK, hN.warm hwz⟩, hS.F ht9⟩) hS.2.2 d_M_end_54
      · refine lv_iload_n hx hb d_M_end_40 rfl (lv_at hl 0 rfl) ?_
        refine W.widen (k := 0) (n := 0) (by omega) (by omega) ?_
        exact W.iret (v := (rMany (P 275))) hx hb hr (fun t9 ht9 hwz => ⟨⟨(rMany (P 275)), ((v2 (v2 V 272 0 0) 272 9 0), P), rfl, (by unfold rEnd; rw [if_neg (fun q => q.elim c1 c2), if_neg c7]; rfl), by rw [ht9]; exact hW, va_K.moved hwz.alike hK, hN.warm hwz⟩, hS.F ht9⟩) hS.2.2 d_M_end_41
    · refine lv_iconst (v := (-1)) hx hb d_M_end_19 (by decide) ?_
      refine W.widen (k := 0) (n := 0) (by omega) (by omega) ?_
      exact W.iret (v := (-1)) hx hb hr (fun t9 ht9 hwz => ⟨⟨(-1), ((v2 V 272 0 0), P), rfl, (by unfold rEnd; rw [if_pos (Or.inr c2)]; rfl), by rw [ht9]; exact hW, va_K.moved hwz.alike hK, hN.warm hwz⟩, hS.F ht9⟩) hS.2.2 d_M_end_20

set_option maxHeartbeats 4000000 in
set_option maxRecDepth 100000 in
theorem m_M_flush (l : Launch) (D : va_G) (B : Nat) (cA : Nat → ClassId) (sh : Nat → Nat) (V P : VV) (N : Nat) (hN0 : V 272 1 = nI N) (h80 : N ≤ 80) : Met l y_M_flush w_M_flush ({ frames := 3, cells := 0, slots := 0, locals := 90 } : Room) (va_Pc [.ref (sh 272)] (JC D B cA sh (V, P))) (va_Qi (fun (r : Int32) (u : VV × VV) => (r, u.1, u.2) = rFlush V P) (JC D B cA sh) (hm_A B)) 0 0 (hm_A B) := by
  refine Met.ofW (cc := c_M_flush) (maxL := 2) (ret := (some FieldType.int)) (by decide) rfl ?_
  intro p e s m args below meth c s₁ Bd hml hv
  obtain ⟨rfl, hW, hK, hN⟩ := hv
  have hx := Bd.exec
  have hb := Bd.bytes
  have hr := Bd.returns
  have hts := atoms_spec (ws := w_M_flush) Bd.pre
  have hT : ∀ w ∈ WG, w.before ([.ref (sh 272)] : List Value).toArray s = true := fun w h => hts w (List.mem_cons_of_mem _ h)
  have hown : s.vm.findClass "BlockVaultModel" = some m.cls := findClass_of_methodNamed Bd.named
  have hlocks := Bd.notSynchronized
  have hW : JW D B cA sh V P s.heap := hW
  have hBs : B ≤ s.heap.size := hW.ge
  have hS : va_S (hm_A B) s.heap s.heap [] := va_S.rf
  have hl := lv_entry ([.ref (sh 272)]) (n := 2) (Nat.le_of_ble_eq_true rfl)
  rw [lg_entry_eq]
  generalize (lg_sl ([.ref (sh 272)]) ++ List.replicate (2 - (lg_sl ([.ref (sh 272)])).length) Slot.unset).toArray = ls at hl ⊢
  have hl : lv_has ls 2 [(0, .ref (sh 272))] := hl
  refine lv_aload_n hx hb d_M_flush_0 rfl (lv_at hl 0 rfl) ?_
  refine lv_iconst (v := 0) hx hb d_M_flush_1 (by decide) ?_
  refine jw_put (ci := 6) (x := 0) (ty := .int) (C := "BlockVaultModel") (T := T_M) (N := 15) hx hb hT in_M t_M t_M_ok n_M hown hK hW hS rfl rfl 0 (by decide) rfl (hT _ k321) (fun _ h9 => h9) rfl (by decide +kernel) rfl rfl d_M_flush_2 (fun H locs hW hS => ?_)
  refine lv_aload_n hx hb d_M_flush_5 rfl (lv_at hl 0 rfl) ?_
  refine va_get (D := D) (ci := 6) (v := .int (V 272 8)) (C := "BlockVaultModel") (T := T_M) (N := 15) hx hb hT in_M hown hK (hW.obj rfl) 0 rfl rfl 8 (by decide) (hT _ k329) (fun _ h9 => h9) rfl d_M_flush_6 ?_
  refine lv_if_eq (tgt := 19) hx hb d_M_flush_9 (by decide) (fun c1 => ?_) (fun c1 => ?_)
  · refine lv_iconst (v := (-1)) hx hb d_M_flush_19 (by decide) ?_
    refine W.widen (k := 0) (n := 0) (by omega) (by omega) ?_
    exact W.iret (v := (-1)) hx hb hr (fun t9 ht9 hwz => ⟨⟨(-1), ((v2 V 272 0 0), P), rfl, (by unfold rFlush; rw [if_pos (Or.inl c1)]; rfl), by rw [ht9]; exact hW, va_K.moved hwz.alike hK, hN.warm hwz⟩, hS.F ht9⟩) hS.2.2 d_M_flush_20
  · refine lv_aload_n hx hb d_M_flush_12 rfl (lv_at hl 0 rfl) ?_
    refine va_get (D := D) (ci := 6) (v := .int (V 272 9)) (C := "BlockVaultModel") (T := T_M) (N := 15) hx hb hT in_M hown hK (hW.obj rfl) 0 rfl rfl 9 (by decide) (hT _ k330) (fun _ h9 => h9) rfl d_M_flush_13 ?_
    refine lv_if_eq (tgt := 21) hx hb d_M_flush_16 (by decide) (fun c2 => ?_) (fun c2 => ?_)
    · refine lv_aload_n hx hb d_M_flush_21 rfl (lv_at hl 0 rfl) ?_
      refine va_get (D := D) (ci := 6) (v := .ref (sh 275)) (C := "BlockVaultModel") (T := T_M) (N := 15) hx hb hT in_M hown hK (hW.obj rfl) 0 rfl rfl 4 (by decide) (hT _ k325) (fun _ h9 => h9) rfl d_M_flush_22 ?_
      refine jw_calli (va_runS (As := [.ref (sh 275)]) (rest := []) ⟨hx, hb, hml, hown, hT⟩ (m_M_many l D B cA sh (v2 V 272 0 0) P 275 rfl) (va_cwS 1 hT (gS k377 k378 k8 kc_M_many) rfl rfl rfl (by decide +kernel) ⟨Nat.le_of_ble_eq_true rfl, Nat.le_of_ble_eq_true rfl⟩) (jw_preS hW hK hN) rfl rfl hl.1 rfl (lv_room (Nat.le_of_ble_eq_true rfl)) d_M_flush_25 ⟨Nat.le_of_ble_eq_true rfl, Nat.le_of_ble_eq_true rfl⟩) hS (fun r3 V4 P5 H locs hw6 hW hS => ?_)
      obtain ⟨rfl, rfl, rfl⟩ := t3 hw6
      refine lv_istore_n (lv' := [(1, .int (rMany (P 275))), (0, .ref (sh 272))]) hx hb d_M_flush_28 rfl hl (by decide) rfl (fun ls hl => ?_)
      refine lv_iload_n hx hb d_M_flush_29 rfl (lv_at hl 0 rfl) ?_
      refine lv_if_eq (tgt := 40) hx hb d_M_flush_30 (by decide) (fun c7 => ?_) (fun c7 => ?_)
      · refine lv_iload_n hx hb d_M_flush_40 rfl (lv_at hl 0 rfl) ?_
        refine lv_goto (tgt := 45) hx hb d_M_flush_41 (by decide) ?_
        refine W.widen (k := 0) (n := 0) (by omega) (by omega) ?_
        exact W.iret (v := (rMany (P 275))) hx hb hr (fun t9 ht9 hwz => ⟨⟨(rMany (P 275)), ((v2 V 272 0 0), P), rfl, (by unfold rFlush; rw [if_neg (fun q => q.elim c1 (fun z => z c2)), if_pos c7]; rfl), by rw [ht9]; exact hW, va_K.moved hwz.alike hK, hN.warm hwz⟩, hS.F ht9⟩) hS.2.2 d_M_flush_45
      · refine lv_aload_n hx hb d_M_flush_33 rfl (lv_at hl 1 rfl) ?_
        refine jw_calli (va_runV (As := []) (rest := []) ⟨hx, hb, hml, hown, hT⟩ (m_M_commit l D B cA sh (v2 V 272 0 0) P N hN0 h80) (cwV 0 hT (gV k380 k382 ks5 k8 kc_M_commit) rfl rfl rfl (by decide +kernel) ⟨Nat.le_of_ble_eq_true rfl, Nat.le_of_ble_eq_true rfl⟩) (jw_preV (q := ("BlockVaultModel", T_M, 15)) hW hK hN rfl rfl) rfl rfl hl.1 rfl (lv_room (Nat.le_of_ble_eq_true rfl)) d_M_flush_34 ⟨Nat.le_of_ble_eq_true rfl, Nat.le_of_ble_eq_true rfl⟩) hS (fun r8 V9 P10 H locs hw11 hW hS => ?_)
        refine lv_if_eq (tgt := 44) hx hb d_M_flush_37 (by decide) (fun c12 => ?_) (fun c12 => ?_)
        · refine lv_iconst (v := (-1)) hx hb d_M_flush_44 (by decide) ?_
          refine W.widen (k := 0) (n := 0) (by omega) (by omega) ?_
          exact W.iret (v := (-1)) hx hb hr (fun t9 ht9 hwz => ⟨⟨(-1), (V9, P10), rfl, (by unfold rFlush; rw [if_neg (fun q => q.elim c1 (fun z => z c2)), if_neg c7, show r0 V = v2 V 272 0 0 from rfl, ← hw11]; dsimp only; rw [if_pos c12]), by rw [ht9]; exact hW, va_K.moved hwz.alike hK, hN.warm hwz⟩, hS.F ht9⟩) hS.2.2 d_M_flush_45
        · refine lv_iload_n hx hb d_M_flush_40 rfl (lv_at hl 0 rfl) ?_
          refine lv_goto (tgt := 45) hx hb d_M_flush_41 (by decide) ?_
          refine W.widen (k := 0) (n := 0) (by omega) (by omega) ?_
          exact W.iret (v := (rMany (P 275))) hx hb hr (fun t9 ht9 hwz => ⟨⟨(rMany (P 275)), (V9, P10), rfl, (by unfold rFlush; rw [if_neg (fun q => q.elim c1 (fun z => z c2)), if_neg c7, show r0 V = v2 V 272 0 0 from rfl, ← hw11]; dsimp only; rw [if_neg c12]), by rw [ht9]; exact hW, va_K.moved hwz.alike hK, hN.warm hwz⟩, hS.F ht9⟩) hS.2.2 d_M_flush_45
    · refine lv_iconst (v := (-1)) hx hb d_M_flush_19 (by decide) ?_
      refine W.widen (k := 0) (n := 0) (by omega) (by omega) ?_
      exact W.iret (v := (-1)) hx hb hr (fun t9 ht9 hwz => ⟨⟨(-1), ((v2 V 272 0 0), P), rfl, (by unfold rFlush; rw [if_pos (Or.inr c2)]; rfl), by rw [ht9]; exact hW, va_K.moved hwz.alike hK, hN.warm hwz⟩, hS.F ht9⟩) hS.2.2 d_M_flush_20

set_option maxHeartbeats 4000000 in
set_option maxRecDepth 100000 in
theorem m_M_look (l : Launch) (D : va_G) (B : Nat) (cA : Nat → ClassId) (sh : Nat → Nat) (V P : VV) (N : Nat) (hN0 : V 272 1 = nI N) (h80 : N ≤ 80) (b : Nat) (hb80 : b < 80) (hsc : P 277 b = 0 → (rScan V P).1 = 34 → ¬ (rScan V P).2 < 0) : Met l y_M_look w_M_look ({ frames := 0, cells := 0, slots := 0, locals := 0 } : Room) (va_Pc [.ref (sh 272), .int (nI b)] (JC D B cA sh (V, P))) (va_Qv (fun (u : VV × VV) => u = rLook V P b) (JC D B cA sh) (hm_A B)) 0 0 (hm_A B) := by
  refine Met.ofW (cc := c_M_look) (maxL := 5) (ret := none) (by decide) rfl ?_
  intro p e s m args below meth c s₁ Bd hml hv
  obtain ⟨rfl, hW, hK, hN⟩ := hv
  have hx := Bd.exec
  have hb := Bd.bytes
  have hr := Bd.returns
  have hts := atoms_spec (ws := w_M_look) Bd.pre
  have hT : ∀ w ∈ WG, w.before ([.ref (sh 272), .int (nI b)] : List Value).toArray s = true := fun w h => hts w (List.mem_cons_of_mem _ h)
  have hown : s.vm.findClass "BlockVaultModel" = some m.cls := findClass_of_methodNamed Bd.named
  have hlocks := Bd.notSynchronized
  have hW : JW D B cA sh V P s.heap := hW
  have hBs : B ≤ s.heap.size := hW.ge
  have hS : va_S (hm_A B) s.heap s.heap [] := va_S.rf
  have hl := lv_entry ([.ref (sh 272), .int (nI b)]) (n := 5) (Nat.le_of_ble_eq_true rfl)
  rw [lg_entry_eq]
  generalize (lg_sl ([.ref (sh 272), .int (nI b)]) ++ List.replicate (5 - (lg_sl ([.ref (sh 272), .int (nI b)])).length) Slot.unset).toArray = ls at hl ⊢
  have hl : lv_has ls 5 [(0, .ref (sh 272)), (1, .int (nI b))] := hl
  refine lv_aload_n hx hb d_M_look_0 rfl (lv_at hl 0 rfl) ?_
  refine va_get (D := D) (ci := 6) (v := .ref (sh 277)) (C := "BlockVaultModel") (T := T_M) (N := 15) hx hb hT in_M hown hK (hW.obj rfl) 0 rfl rfl 6 (by decide) (hT _ k327) (fun _ h9 => h9) rfl d_M_look_1 ?_
  refine lv_iload_n hx hb d_M_look_4 rfl (lv_at hl 1 rfl) ?_
  refine jw_iald (i := b) hx hb hK hW rfl (by omega) d_M_look_5 ?_
  refine lv_if_ne (tgt := 115) hx hb d_M_look_6 (by decide) (fun c1 => ?_) (fun c1 => ?_)
  · refine lv_aload_n hx hb d_M_look_115 rfl (lv_at hl 0 rfl) ?_
    refine lv_dup hx hb d_M_look_116 rfl ?_
    refine va_get (D := D) (ci := 6) (v := .int (V 272 7)) (C := "BlockVaultModel") (T := T_M) (N := 15) hx hb hT in_M hown hK (hW.obj rfl) 0 rfl rfl 7 (by decide) (hT _ k328) (fun _ h9 => h9) rfl d_M_look_117 ?_
    refine lv_iconst (v := 1) hx hb d_M_look_120 (by decide) ?_
    refine lv_iadd hx hb d_M_look_121 ?_
    refine jw_put (ci := 6) (x := ((V 272 7) + 1)) (ty := .int) (C := "BlockVaultModel") (T := T_M) (N := 15) hx hb hT in_M t_M t_M_ok n_M hown hK hW hS rfl rfl 7 (by decide) rfl (hT _ k328) (fun _ h9 => h9) rfl (by decide +kernel) rfl rfl d_M_look_122 (fun H locs hW hS => ?_)
    refine lv_aload_n hx hb d_M_look_125 rfl (lv_at hl 0 rfl) ?_
    refine va_get (D := D) (ci := 6) (v := .ref (sh 277)) (C := "BlockVaultModel") (T := T_M) (N := 15) hx hb hT in_M hown hK (hW.obj rfl) 0 rfl rfl 6 (by decide) (hT _ k327) (fun _ h9 => h9) rfl d_M_look_126 ?_
    refine lv_iload_n hx hb d_M_look_129 rfl (lv_at hl 1 rfl) ?_
    refine lv_aload_n hx hb d_M_look_130 rfl (lv_at hl 0 rfl) ?_
    refine va_get (D := D) (ci := 6) (v := .int ((V 272 7) + 1)) (C := "BlockVaultModel") (T := T_M) (N := 15) hx hb hT in_M hown hK (hW.obj rfl) 0 rfl rfl 7 (by decide) (hT _ k328) (fun _ h9 => h9) rfl d_M_look_131 ?_
    refine jw_iastN (i := b) hx hb hK hW hS rfl (by omega) d_M_look_134 (fun H locs hW hS => ?_)
    refine W.widen (k := 0) (n := 0) (by omega) (by omega) ?_
    exact W.vret hx hb hr (fun t9 ht9 hwz => ⟨⟨((v2 V 272 7 ((V 272 7) + 1)), (p1 P 277 (upd (P 277) b ((V 272 7) + 1)))), rfl, (by unfold rLook; rw [if_neg c1]; rfl), by rw [ht9]; exact hW, va_K.moved hwz.alike hK, hN.warm hwz⟩, hS.F ht9⟩) hS.2.2 d_M_look_135
  · refine lv_aload_n hx hb d_M_look_9 rfl (lv_at hl 0 rfl) ?_
    refine lv_dup hx hb d_M_look_10 rfl ?_
    refine va_get (D := D) (ci := 6) (v := .int (V 272 12)) (C := "BlockVaultModel") (T := T_M) (N := 15) hx hb hT in_M hown hK (hW.obj rfl) 0 rfl rfl 12 (by decide) (hT _ k333) (fun _ h9 => h9) rfl d_M_look_11 ?_
    refine lv_iconst (v := 1) hx hb d_M_look_14 (by decide) ?_
    refine lv_iadd hx hb d_M_look_15 ?_
    refine jw_put (ci := 6) (x := ((V 272 12) + 1)) (ty := .int) (C := "BlockVaultModel") (T := T_M) (N := 15) hx hb hT in_M t_M t_M_ok n_M hown hK hW hS rfl rfl 12 (by decide) rfl (hT _ k333) (fun _ h9 => h9) rfl (by decide +kernel) rfl rfl d_M_look_16 (fun H locs hW hS => ?_)
    refine lv_iconst (v := 0) hx hb d_M_look_19 (by decide) ?_
    refine lv_istore_n (lv' := [(2, .int 0), (0, .ref (sh 272)), (1, .int (nI b))]) hx hb d_M_look_20 rfl hl (by decide) rfl (fun ls hl => ?_)
    refine lv_iconst (v := (-1)) hx hb d_M_look_21 (by decide) ?_
    refine lv_istore_n (lv' := [(3, .int (-1)), (2, .int 0), (0, .ref (sh 272)), (1, .int (nI b))]) hx hb d_M_look_22 rfl hl (by decide) rfl (fun ls hl => ?_)
    refine lv_iconst (v := 0) hx hb d_M_look_23 (by decide) ?_
    refine lv_istore (lv' := [(4, .int 0), (3, .int (-1)), (2, .int 0), (0, .ref (sh 272)), (1, .int (nI b))]) hx hb d_M_look_24 hl (by decide) rfl (fun ls hl => ?_)
    have loop : ∀ (n i : Nat) (r : Int32) (o : Int32) (H : Heap) (locs : List Loc) (ls : Array Slot), i + n = N → ((¬ o < 0 → vp_in o 80) ∧ lkL (P 277) (P 275) n i r o = rScan V P) → JW D B cA sh (v2 V 272 12 ((V 272 12) + 1)) P H → va_S (hm_A B) s.heap H locs → lv_has ls 5 [(4, .int (nI i)), (3, .int o), (2, .int r), (0, .ref (sh 272)), (1, .int (nI b))] → W p l e (headSpec w_M_look ({ frames := 0, cells := 0, slots := 0, locals := 0 } : Room)).room s m ([.ref (sh 272), .int (nI b)] : List Value).toArray below meth c H locs 0 0 (MQ below (va_Qv (fun (u : VV × VV) => u = rLook V P b) (JC D B cA sh) (hm_A B)) ([.ref (sh 272), .int (nI b)] : List Value).toArray s 0 0 (hm_A B)) (F0 m 26 ls []) := by
      intro n
      induction n with
      | zero =>
        intro i r o H locs ls hin hinv hW hS hl
        obtain rfl : N = i := by omega
        refine lv_iload hx hb d_M_look_26 (lv_at hl 0 rfl) ?_
        refine lv_aload_n hx hb d_M_look_28 rfl (lv_at hl 3 rfl) ?_
        refine va_get (D := D) (ci := 6) (v := .int (V 272 1)) (C := "BlockVaultModel") (T := T_M) (N := 15) hx hb hT in_M hown hK (hW.obj rfl) 0 rfl rfl 1 (by decide) (hT _ k322) (fun _ h9 => h9) rfl d_M_look_29 ?_
        refine lv_icmp_ge (tgt := 102) hx hb d_M_look_32 (by decide) (fun c2 => ?_) (fun c2 => ?_)
        · refine lv_iload_n hx hb d_M_look_102 rfl (lv_at hl 2 rfl) ?_
          refine lv_bipush (v := 34) hx hb d_M_look_103 (by decide) ?_
          refine lv_icmp_ne (tgt := 115) hx hb d_M_look_105 (by decide) (fun c3 => ?_) (fun c3 => ?_)
          · refine lv_aload_n hx hb d_M_look_115 rfl (lv_at hl 3 rfl) ?_
            refine lv_dup hx hb d_M_look_116 rfl ?_
            refine va_get (D := D) (ci := 6) (v := .int (V 272 7)) (C := "BlockVaultModel") (T := T_M) (N := 15) hx hb hT in_M hown hK (hW.obj rfl) 0 rfl rfl 7 (by decide) (hT _ k328) (fun _ h9 => h9) rfl d_M_look_117 ?_
            refine lv_iconst (v := 1) hx hb d_M_look_120 (by decide) ?_
            refine lv_iadd hx hb d_M_look_121 ?_
            refine jw_put (ci := 6) (x := ((V 272 7) + 1)) (ty := .int) (C := "BlockVaultModel") (T := T_M) (N := 15) hx hb hT in_M t_M t_M_ok n_M hown hK hW hS rfl rfl 7 (by decide) rfl (hT _ k328) (fun _ h9 => h9) rfl (by decide +kernel) rfl rfl d_M_look_122 (fun H locs hW hS => ?_)
            refine lv_aload_n hx hb d_M_look_125 rfl (lv_at hl 3 rfl) ?_
            refine va_get (D := D) (ci := 6) (v := .ref (sh 277)) (C := "BlockVaultModel") (T := T_M) (N := 15) hx hb hT in_M hown hK (hW.obj rfl) 0 rfl rfl 6 (by decide) (hT _ k327) (fun _ h9 => h9) rfl d_M_look_126 ?_
            refine lv_iload_n hx hb d_M_look_129 rfl (lv_at hl 4 rfl) ?_
            refine lv_aload_n hx hb d_M_look_130 rfl (lv_at hl 3 rfl) ?_
            refine va_get (D := D) (ci := 6) (v := .int ((V 272 7) + 1)) (C := "BlockVaultModel") (T := T_M) (N := 15) hx hb hT in_M hown hK (hW.obj rfl) 0 rfl rfl 7 (by decide) (hT _ k328) (fun _ h9 => h9) rfl d_M_look_131 ?_
            refine jw_iastN (i := b) hx hb hK hW hS rfl (by omega) d_M_look_134 (fun H locs hW hS => ?_)
            refine W.widen (k := 0) (n := 0) (by omega) (by omega) ?_
            exact W.vret hx hb hr (fun t9 ht9 hwz => ⟨⟨((v2 (v2 V 272 12 ((V 272 12) + 1)) 272 7 ((V 272 7) + 1)), (p1 P 277 (upd (P 277) b ((V 272 7) + 1)))), rfl, (by unfold rLook rEvict; rw [if_pos c1, show rScan V P = (r, o) from hinv.2.symm]; dsimp only; rw [if_neg c3]; rfl), by rw [ht9]; exact hW, va_K.moved hwz.alike hK, hN.warm hwz⟩, hS.F ht9⟩) hS.2.2 d_M_look_135
          · refine lv_aload_n hx hb d_M_look_108 rfl (lv_at hl 3 rfl) ?_
            refine va_get (D := D) (ci := 6) (v := .ref (sh 277)) (C := "BlockVaultModel") (T := T_M) (N := 15) hx hb hT in_M hown hK (hW.obj rfl) 0 rfl rfl 6 (by decide) (hT _ k327) (fun _ h9 => h9) rfl d_M_look_109 ?_
            refine lv_iload_n hx hb d_M_look_112 rfl (lv_at hl 1 rfl) ?_
            refine lv_iconst (v := 0) hx hb d_M_look_113 (by decide) ?_
            have hno : ¬ o < 0 := by have q := hsc c1 (by rw [show rScan V P = (r, o) from hinv.2.symm]; exact c3); rw [show rScan V P = (r, o) from hinv.2.symm] at q; exact q
            refine jw_iast hx hb hK hW hS (hinv.1 hno) d_M_look_114 (fun H locs hW hS => ?_)
            refine lv_aload_n hx hb d_M_look_115 rfl (lv_at hl 3 rfl) ?_
            refine lv_dup hx hb d_M_look_116 rfl ?_
            refine va_get (D := D) (ci := 6) (v := .int (V 272 7)) (C := "BlockVaultModel") (T := T_M) (N := 15) hx hb hT in_M hown hK (hW.obj rfl) 0 rfl rfl 7 (by decide) (hT _ k328) (fun _ h9 => h9) rfl d_M_look_117 ?_
            refine lv_iconst (v := 1) hx hb d_M_look_120 (by decide) ?_
            refine lv_iadd hx hb d_M_look_121 ?_
            refine jw_put (ci := 6) (x := ((V 272 7) + 1)) (ty := .int) (C := "BlockVaultModel") (T := T_M) (N := 15) hx hb hT in_M t_M t_M_ok n_M hown hK hW hS rfl rfl 7 (by decide) rfl (hT _ k328) (fun _ h9 => h9) rfl (by decide +kernel) rfl rfl d_M_look_122 (fun H locs hW hS => ?_)
            refine lv_aload_n hx hb d_M_look_125 rfl (lv_at hl 3 rfl) ?_
            refine va_get (D := D) (ci := 6) (v := .ref (sh 277)) (C := "BlockVaultModel") (T := T_M) (N := 15) hx hb hT in_M hown hK (hW.obj rfl) 0 rfl rfl 6 (by decide) (hT _ k327) (fun _ h9 => h9) rfl d_M_look_126 ?_
            refine lv_iload_n hx hb d_M_look_129 rfl (lv_at hl 4 rfl) ?_
            refine lv_aload_n hx hb d_M_look_130 rfl (lv_at hl 3 rfl) ?_
            refine va_get (D := D) (ci := 6) (v := .int ((V 272 7) + 1)) (C := "BlockVaultModel") (T := T_M) (N := 15) hx hb hT in_M hown hK (hW.obj rfl) 0 rfl rfl 7 (by decide) (hT _ k328) (fun _ h9 => h9) rfl d_M_look_131 ?_
            refine jw_iastN (i := b) hx hb hK hW hS rfl (by omega) d_M_look_134 (fun H locs hW hS => ?_)
            refine W.widen (k := 0) (n := 0) (by omega) (by omega) ?_
            exact W.vret hx hb hr (fun t9 ht9 hwz => ⟨⟨((v2 (v2 V 272 12 ((V 272 12) + 1)) 272 7 ((V 272 7) + 1)), (p1 (p1 P 277 (upd (P 277) o.toNatClampNeg 0)) 277 (upd ((p1 P 277 (upd (P 277) o.toNatClampNeg 0)) 277) b ((V 272 7) + 1)))), rfl, (by unfold rLook rEvict; rw [if_pos c1, show rScan V P = (r, o) from hinv.2.symm]; dsimp only; rw [if_pos c3]; rfl), by rw [ht9]; exact hW, va_K.moved hwz.alike hK, hN.warm hwz⟩, hS.F ht9⟩) hS.2.2 d_M_look_135
        · exact absurd (by rw [hN0]; exact Int32.le_refl _) c2
      | succ n ih =>
        intro i r o H locs ls hin hinv hW hS hl
        have hi : i < N := by omega
        refine lv_iload hx hb d_M_look_26 (lv_at hl 0 rfl) ?_
        refine lv_aload_n hx hb d_M_look_28 rfl (lv_at hl 3 rfl) ?_
        refine va_get (D := D) (ci := 6) (v := .int (V 272 1)) (C := "BlockVaultModel") (T := T_M) (N := 15) hx hb hT in_M hown hK (hW.obj rfl) 0 rfl rfl 1 (by decide) (hT _ k322) (fun _ h9 => h9) rfl d_M_look_29 ?_
        refine lv_icmp_ge (tgt := 102) hx hb d_M_look_32 (by decide) (fun c4 => ?_) (fun c4 => ?_)
        · exact absurd c4 (by rw [hN0]; exact nI_ge (by omega) (by omega))
        · refine lv_iload_n hx hb d_M_look_35 rfl (lv_at hl 2 rfl) ?_
          refine lv_aload_n hx hb d_M_look_36 rfl (lv_at hl 3 rfl) ?_
          refine va_get (D := D) (ci := 6) (v := .ref (sh 277)) (C := "BlockVaultModel") (T := T_M) (N := 15) hx hb hT in_M hown hK (hW.obj rfl) 0 rfl rfl 6 (by decide) (hT _ k327) (fun _ h9 => h9) rfl d_M_look_37 ?_
          refine lv_iload hx hb d_M_look_40 (lv_at hl 0 rfl) ?_
          refine jw_iald (i := i) hx hb hK hW rfl (by omega) d_M_look_42 ?_
          refine lv_if_le (tgt := 50) hx hb d_M_look_43 (by decide) (fun c5 => ?_) (fun c5 => ?_)
          · refine lv_iconst (v := 0) hx hb d_M_look_50 (by decide) ?_
            refine lv_iadd hx hb d_M_look_51 ?_
            refine lv_istore_n (lv' := [(2, .int (r + 0)), (4, .int (nI i)), (3, .int o), (0, .ref (sh 272)), (1, .int (nI b))]) hx hb d_M_look_52 rfl hl (by decide) rfl (fun ls hl => ?_)
            refine lv_aload_n hx hb d_M_look_53 rfl (lv_at hl 3 rfl) ?_
            refine va_get (D := D) (ci := 6) (v := .ref (sh 277)) (C := "BlockVaultModel") (T := T_M) (N := 15) hx hb hT in_M hown hK (hW.obj rfl) 0 rfl rfl 6 (by decide) (hT _ k327) (fun _ h9 => h9) rfl d_M_look_54 ?_
            refine lv_iload hx hb d_M_look_57 (lv_at hl 1 rfl) ?_
            refine jw_iald (i := i) hx hb hK hW rfl (by omega) d_M_look_59 ?_
            refine lv_if_le (tgt := 96) hx hb d_M_look_60 (by decide) (fun c6 => ?_) (fun c6 => ?_)
            · refine lv_iinc (v := ((nI i) + 1)) (lv' := [(4, .int ((nI i) + 1)), (2, .int (r + 0)), (3, .int o), (0, .ref (sh 272)), (1, .int (nI b))]) hx hb d_M_look_96 hl (k := 1) rfl rfl (by decide) rfl (fun ls hl => ?_)
              refine lv_goto (tgt := 26) hx hb d_M_look_99 (by decide) ?_
              exact ih (i + 1) (r + 0) o H locs ls (by omega) (⟨hinv.1, by rw [← hinv.2]; simp only [lkL]; rw [if_pos c5, if_pos (Or.inl c5)]⟩) hW hS (by rw [← nI_1]; exact lv_sub hl [0, 2, 1, 3, 4] rfl)
            · exact absurd c5 c6
          · refine lv_iconst (v := 1) hx hb d_M_look_46 (by decide) ?_
            refine lv_goto (tgt := 51) hx hb d_M_look_47 (by decide) ?_
            refine lv_iadd hx hb d_M_look_51 ?_
            refine lv_istore_n (lv' := [(2, .int (r + 1)), (4, .int (nI i)), (3, .int o), (0, .ref (sh 272)), (1, .int (nI b))]) hx hb d_M_look_52 rfl hl (by decide) rfl (fun ls hl => ?_)
            refine lv_aload_n hx hb d_M_look_53 rfl (lv_at hl 3 rfl) ?_
            refine va_get (D := D) (ci := 6) (v := .ref (sh 277)) (C := "BlockVaultModel") (T := T_M) (N := 15) hx hb hT in_M hown hK (hW.obj rfl) 0 rfl rfl 6 (by decide) (hT _ k327) (fun _ h9 => h9) rfl d_M_look_54 ?_
            refine lv_iload hx hb d_M_look_57 (lv_at hl 1 rfl) ?_
            refine jw_iald (i := i) hx hb hK hW rfl (by omega) d_M_look_59 ?_
            refine lv_if_le (tgt := 96) hx hb d_M_look_60 (by decide) (fun c7 => ?_) (fun c7 => ?_)
            · exact absurd c7 c5
            · refine lv_aload_n hx hb d_M_look_63 rfl (lv_at hl 3 rfl) ?_
              refine va_get (D := D) (ci := 6) (v := .ref (sh 275)) (C := "BlockVaultModel") (T := T_M) (N := 15) hx hb hT in_M hown hK (hW.obj rfl) 0 rfl rfl 4 (by decide) (hT _ k325) (fun _ h9 => h9) rfl d_M_look_64 ?_
              refine lv_iload hx hb d_M_look_67 (lv_at hl 1 rfl) ?_
              refine jw_zald (t := 275) (i := i) hx hb hK hW rfl rfl (by omega) d_M_look_69 ?_
              refine lv_if_ne (tgt := 96) hx hb d_M_look_70 (by decide) (fun c8 => ?_) (fun c8 => ?_)
              · refine lv_iinc (v := ((nI i) + 1)) (lv' := [(4, .int ((nI i) + 1)), (2, .int (r + 1)), (3, .int o), (0, .ref (sh 272)), (1, .int (nI b))]) hx hb d_M_look_96 hl (k := 1) rfl rfl (by decide) rfl (fun ls hl => ?_)
                refine lv_goto (tgt := 26) hx hb d_M_look_99 (by decide) ?_
                exact ih (i + 1) (r + 1) o H locs ls (by omega) (⟨hinv.1, by rw [← hinv.2]; simp only [lkL]; rw [if_neg c5, if_pos (Or.inr (Or.inl c8))]⟩) hW hS (by rw [← nI_1]; exact lv_sub hl [0, 2, 1, 3, 4] rfl)
              · refine lv_iload_n hx hb d_M_look_73 rfl (lv_at hl 2 rfl) ?_
                refine lv_if_lt (tgt := 93) hx hb d_M_look_74 (by decide) (fun c9 => ?_) (fun c9 => ?_)
                · refine lv_iload hx hb d_M_look_93 (lv_at hl 1 rfl) ?_
                  refine lv_istore_n (lv' := [(3, .int (nI i)), (2, .int (r + 1)), (4, .int (nI i)), (0, .ref (sh 272)), (1, .int (nI b))]) hx hb d_M_look_95 rfl hl (by decide) rfl (fun ls hl => ?_)
                  refine lv_iinc (v := ((nI i) + 1)) (lv' := [(4, .int ((nI i) + 1)), (3, .int (nI i)), (2, .int (r + 1)), (0, .ref (sh 272)), (1, .int (nI b))]) hx hb d_M_look_96 hl (k := 2) rfl rfl (by decide) rfl (fun ls hl => ?_)
                  refine lv_goto (tgt := 26) hx hb d_M_look_99 (by decide) ?_
                  exact ih (i + 1) (r + 1) (nI i) H locs ls (by omega) (⟨fun _ => vp_in_nI (by omega) (by omega), by rw [← hinv.2]; simp only [lkL]; rw [if_neg c5, if_neg (fun q => q.elim c5 (fun q => q.elim (fun z => z c8) (fun q => q.1 c9)))]⟩) hW hS (by rw [← nI_1]; exact lv_sub hl [0, 1, 2, 3, 4] rfl)
                · refine lv_aload_n hx hb d_M_look_77 rfl (lv_at hl 3 rfl) ?_
                  refine va_get (D := D) (ci := 6) (v := .ref (sh 277)) (C := "BlockVaultModel") (T := T_M) (N := 15) hx hb hT in_M hown hK (hW.obj rfl) 0 rfl rfl 6 (by decide) (hT _ k327) (fun _ h9 => h9) rfl d_M_look_78 ?_
                  refine lv_iload hx hb d_M_look_81 (lv_at hl 1 rfl) ?_
                  refine jw_iald (i := i) hx hb hK hW rfl (by omega) d_M_look_83 ?_
                  refine lv_aload_n hx hb d_M_look_84 rfl (lv_at hl 3 rfl) ?_
                  refine va_get (D := D) (ci := 6) (v := .ref (sh 277)) (C := "BlockVaultModel") (T := T_M) (N := 15) hx hb hT in_M hown hK (hW.obj rfl) 0 rfl rfl 6 (by decide) (hT _ k327) (fun _ h9 => h9) rfl d_M_look_85 ?_
                  refine lv_iload_n hx hb d_M_look_88 rfl (lv_at hl 2 rfl) ?_
                  refine jw_ialdI hx hb hK hW (hinv.1 c9) d_M_look_89 ?_
                  refine lv_icmp_ge (tgt := 96) hx hb d_M_look_90 (by decide) (fun c10 => ?_) (fun c10 => ?_)
                  · refine lv_iinc (v := ((nI i) + 1)) (lv' := [(4, .int ((nI i) + 1)), (2, .int (r + 1)), (3, .int o), (0, .ref (sh 272)), (1, .int (nI b))]) hx hb d_M_look_96 hl (k := 1) rfl rfl (by decide) rfl (fun ls hl => ?_)
                    refine lv_goto (tgt := 26) hx hb d_M_look_99 (by decide) ?_
                    exact ih (i + 1) (r + 1) o H locs ls (by omega) (⟨hinv.1, by rw [← hinv.2]; simp only [lkL]; rw [if_neg c5, if_pos (Or.inr (Or.inr ⟨c9, c10⟩))]⟩) hW hS (by rw [← nI_1]; exact lv_sub hl [0, 2, 1, 3, 4] rfl)
                  · refine lv_iload hx hb d_M_look_93 (lv_at hl 1 rfl) ?_
                    refine lv_istore_n (lv' := [(3, .int (nI i)), (2, .int (r + 1)), (4, .int (nI i)), (0, .ref (sh 272)), (1, .int (nI b))]) hx hb d_M_look_95 rfl hl (by decide) rfl (fun ls hl => ?_)
                    refine lv_iinc (v := ((nI i) + 1)) (lv' := [(4, .int ((nI i) + 1)), (3, .int (nI i)), (2, .int (r + 1)), (0, .ref (sh 272)), (1, .int (nI b))]) hx hb d_M_look_96 hl (k := 2) rfl rfl (by decide) rfl (fun ls hl => ?_)
                    refine lv_goto (tgt := 26) hx hb d_M_look_99 (by decide) ?_
                    exact ih (i + 1) (r + 1) (nI i) H locs ls (by omega) (⟨fun _ => vp_in_nI (by omega) (by omega), by rw [← hinv.2]; simp only [lkL]; rw [if_neg c5, if_neg (fun q => q.elim c5 (fun q => q.elim (fun z => z c8) (fun q => c10 q.2)))]⟩) hW hS (by rw [← nI_1]; exact lv_sub hl [0, 1, 2, 3, 4] rfl)
    exact loop N 0 0 (-1) _ _ ls (by omega) (⟨fun q => absurd (by decide) q, by unfold rScan; rw [hN0, nI_clamp (by omega)]⟩) hW hS (lv_sub hl [0, 1, 2, 3, 4] rfl)

theorem rLook_t {V P : VV} {b t : Nat} (h : t ≠ 277) : (rLook V P b).2 t = P t := by
  unfold rLook
  by_cases c : P 277 b = 0
  · rw [if_pos c]
    dsimp only
    unfold rStamp rEvict
    rw [p1_n h]
    by_cases d : (rScan V P).1 = 34
    · rw [if_pos d, p1_n h]
    · rw [if_neg d]
  · rw [if_neg c]
    dsimp only
    unfold rStamp
    rw [p1_n h]

set_option maxHeartbeats 4000000 in
set_option maxRecDepth 100000 in
theorem m_M_get (l : Launch) (D : va_G) (B : Nat) (cA : Nat → ClassId) (sh : Nat → Nat) (V P : VV) (N : Nat) (hN0 : V 272 1 = nI N) (h80 : N ≤ 80) (b k : Int32) (hsc : V 272 8 = 0 ∨ ¬ rIsBlock V b ∨ (P 277 b.toNatClampNeg = 0 → (rScan (r0 V) P).1 = 34 → ¬ (rScan (r0 V) P).2 < 0)) : Met l y_M_get w_M_get ({ frames := 1, cells := 0, slots := 0, locals := 30 } : Room) (va_Pc [.ref (sh 272), .int b, .int k] (JC D B cA sh (V, P))) (va_Qi (fun (r : Int32) (u : VV × VV) => (r, u.1, u.2) = rGet V P b k) (JC D B cA sh) (hm_A B)) 0 0 (hm_A B) := by
  refine Met.ofW (cc := c_M_get) (maxL := 3) (ret := (some FieldType.int)) (by decide) rfl ?_
  intro p e s m args below meth c s₁ Bd hml hv
  obtain ⟨rfl, hW, hK, hN⟩ := hv
  have hx := Bd.exec
  have hb := Bd.bytes
  have hr := Bd.returns
  have hts := atoms_spec (ws := w_M_get) Bd.pre
  have hT : ∀ w ∈ WG, w.before ([.ref (sh 272), .int b, .int k] : List Value).toArray s = true := fun w h => hts w (List.mem_cons_of_mem _ h)
  have hown : s.vm.findClass "BlockVaultModel" = some m.cls := findClass_of_methodNamed Bd.named
  have hlocks := Bd.notSynchronized
  have hW : JW D B cA sh V P s.heap := hW
  have hBs : B ≤ s.heap.size := hW.ge
  have hS : va_S (hm_A B) s.heap s.heap [] := va_S.rf
  have hl := lv_entry ([.ref (sh 272), .int b, .int k]) (n := 3) (Nat.le_of_ble_eq_true rfl)
  rw [lg_entry_eq]
  generalize (lg_sl ([.ref (sh 272), .int b, .int k]) ++ List.replicate (3 - (lg_sl ([.ref (sh 272), .int b, .int k])).length) Slot.unset).toArray = ls at hl ⊢
  have hl : lv_has ls 3 [(0, .ref (sh 272)), (1, .int b), (2, .int k)] := hl
  refine lv_aload_n hx hb d_M_get_0 rfl (lv_at hl 0 rfl) ?_
  refine lv_iconst (v := 0) hx hb d_M_get_1 (by decide) ?_
  refine jw_put (ci := 6) (x := 0) (ty := .int) (C := "BlockVaultModel") (T := T_M) (N := 15) hx hb hT in_M t_M t_M_ok n_M hown hK hW hS rfl rfl 0 (by decide) rfl (hT _ k321) (fun _ h9 => h9) rfl (by decide +kernel) rfl rfl d_M_get_2 (fun H locs hW hS => ?_)
  refine lv_aload_n hx hb d_M_get_5 rfl (lv_at hl 0 rfl) ?_
  refine va_get (D := D) (ci := 6) (v := .int (V 272 8)) (C := "BlockVaultModel") (T := T_M) (N := 15) hx hb hT in_M hown hK (hW.obj rfl) 0 rfl rfl 8 (by decide) (hT _ k329) (fun _ h9 => h9) rfl d_M_get_6 ?_
  refine lv_if_eq (tgt := 31) hx hb d_M_get_9 (by decide) (fun c1 => ?_) (fun c1 => ?_)
  · refine lv_iconst (v := (-1)) hx hb d_M_get_31 (by decide) ?_
    refine W.widen (k := 0) (n := 0) (by omega) (by omega) ?_
    exact W.iret (v := (-1)) hx hb hr (fun t9 ht9 hwz => ⟨⟨(-1), ((v2 V 272 0 0), P), rfl, (by unfold rGet; rw [if_pos (Or.inl c1)]; rfl), by rw [ht9]; exact hW, va_K.moved hwz.alike hK, hN.warm hwz⟩, hS.F ht9⟩) hS.2.2 d_M_get_32
  · refine lv_aload_n hx hb d_M_get_12 rfl (lv_at hl 0 rfl) ?_
    refine lv_iload_n hx hb d_M_get_13 rfl (lv_at hl 1 rfl) ?_
    refine jw_calli (va_runV (As := [.int b]) (rest := []) ⟨hx, hb, hml, hown, hT⟩ (m_M_isBlock l D B cA sh (v2 V 272 0 0) P b) (cwV 1 hT (gV k400 k402 ks8 k8 kc_M_isBlock) rfl rfl rfl (by decide +kernel) ⟨Nat.le_of_ble_eq_true rfl, Nat.le_of_ble_eq_true rfl⟩) (jw_preV (q := ("BlockVaultModel", T_M, 15)) hW hK hN rfl rfl) rfl rfl hl.1 rfl (lv_room (Nat.le_of_ble_eq_true rfl)) d_M_get_14 ⟨Nat.le_of_ble_eq_true rfl, Nat.le_of_ble_eq_true rfl⟩) hS (fun r2 V3 P4 H locs hw5 hW hS => ?_)
    obtain ⟨hr6, rfl, rfl⟩ := t3 hw5
    refine lv_if_eq (tgt := 31) hx hb d_M_get_17 (by decide) (fun c7 => ?_) (fun c7 => ?_)
    · have hq : ¬ rIsBlock V b := bi_f hr6 c7
      refine lv_iconst (v := (-1)) hx hb d_M_get_31 (by decide) ?_
      refine W.widen (k := 0) (n := 0) (by omega) (by omega) ?_
      exact W.iret (v := (-1)) hx hb hr (fun t9 ht9 hwz => ⟨⟨(-1), ((v2 V 272 0 0), P), rfl, (by unfold rGet; rw [if_pos (Or.inr (Or.inl hq))]; rfl), by rw [ht9]; exact hW, va_K.moved hwz.alike hK, hN.warm hwz⟩, hS.F ht9⟩) hS.2.2 d_M_get_32
    · have hq : rIsBlock V b := bi_t hr6 c7
      refine lv_iload_n hx hb d_M_get_20 rfl (lv_at hl 2 rfl) ?_
      refine lv_if_lt (tgt := 31) hx hb d_M_get_21 (by decide) (fun c8 => ?_) (fun c8 => ?_)
      · refine lv_iconst (v := (-1)) hx hb d_M_get_31 (by decide) ?_
        refine W.widen (k := 0) (n := 0) (by omega) (by omega) ?_
        exact W.iret (v := (-1)) hx hb hr (fun t9 ht9 hwz => ⟨⟨(-1), ((v2 V 272 0 0), P), rfl, (by unfold rGet; rw [if_pos (Or.inr (Or.inr (Or.inl c8)))]; rfl), by rw [ht9]; exact hW, va_K.moved hwz.alike hK, hN.warm hwz⟩, hS.F ht9⟩) hS.2.2 d_M_get_32
      · refine lv_iload_n hx hb d_M_get_24 rfl (lv_at hl 2 rfl) ?_
        refine lv_sipush (v := 1023) hx hb d_M_get_25 (by decide) ?_
        refine lv_icmp_le (tgt := 33) hx hb d_M_get_28 (by decide) (fun c9 => ?_) (fun c9 => ?_)
        · obtain ⟨xb, xbN, rfl⟩ := rIsBlock_n hN0 h80 hq
          obtain ⟨xk, xk1, rfl⟩ := to1023 c8 c9
          have hsc : P 277 xb = 0 → (rScan (v2 V 272 0 0) P).1 = 34 → ¬ (rScan (v2 V 272 0 0) P).2 < 0 := by have q := (hsc.resolve_left c1).resolve_left (fun z => z hq); rw [nI_clamp (by omega)] at q; exact q
          refine lv_aload_n hx hb d_M_get_33 rfl (lv_at hl 0 rfl) ?_
          refine lv_iload_n hx hb d_M_get_34 rfl (lv_at hl 1 rfl) ?_
          refine jw_callv (va_runV (As := [.int (nI xb)]) (rest := []) ⟨hx, hb, hml, hown, hT⟩ (m_M_look l D B cA sh (v2 V 272 0 0) P N hN0 h80 xb (by omega) hsc) (cwV 1 hT (gV k404 k406 ks9 k8 kc_M_look) rfl rfl rfl (by decide +kernel) ⟨Nat.le_of_ble_eq_true rfl, Nat.le_of_ble_eq_true rfl⟩) (jw_preV (q := ("BlockVaultModel", T_M, 15)) hW hK hN rfl rfl) rfl rfl hl.1 rfl (lv_room (Nat.le_of_ble_eq_true rfl)) d_M_get_35 ⟨Nat.le_of_ble_eq_true rfl, Nat.le_of_ble_eq_true rfl⟩) hS (fun V11 P12 H locs hw13 hW hS => ?_)
          have hu1 := hw13
          refine lv_aload_n hx hb d_M_get_38 rfl (lv_at hl 0 rfl) ?_
          refine va_get (D := D) (ci := 6) (v := .ref (sh 274)) (C := "BlockVaultModel") (T := T_M) (N := 15) hx hb hT in_M hown hK (hW.obj rfl) 0 rfl rfl 3 (by decide) (hT _ k324) (fun _ h9 => h9) rfl d_M_get_39 ?_
          refine lv_sipush (v := 1024) hx hb d_M_get_42 (by decide) ?_
          refine lv_iload_n hx hb d_M_get_45 rfl (lv_at hl 1 rfl) ?_
          refine lv_imul hx hb d_M_get_46 ?_
          refine lv_iload_n hx hb d_M_get_47 rfl (lv_at hl 2 rfl) ?_
          refine lv_iadd hx hb d_M_get_48 ?_
          refine jw_bald (t := 274) (i := (1024 * xb + xk)) hx hb hK hW rfl (ix_k xb xk) (by omega) d_M_get_49 (fun hbf => ?_)
          refine lv_sipush (v := 255) hx hb d_M_get_50 (by decide) ?_
          refine lv_iand hx hb d_M_get_53 ?_
          refine W.widen (k := 0) (n := 0) (by omega) (by omega) ?_
          exact W.iret (v := ((P12 274 (1024 * xb + xk)) &&& 255)) hx hb hr (fun t9 ht9 hwz => ⟨⟨((P12 274 (1024 * xb + xk)) &&& 255), (V11, P12), rfl, (by show (((P12 274 (1024 * xb + xk)) &&& 255), V11, P12) = _; unfold rGet; rw [if_neg (fun q => by rcases q with q | q | q | q; exact c1 q; exact q hq; exact c8 q; exact q c9), nI_clamp (by omega), nI_clamp (by omega)]; rw [show P12 274 = P 274 from (congrFun (congrArg Prod.snd hu1) 274).trans (rLook_t (by omega))]; exact Prod.ext rfl hu1), by rw [ht9]; exact hW, va_K.moved hwz.alike hK, hN.warm hwz⟩, hS.F ht9⟩) hS.2.2 d_M_get_54
        · refine lv_iconst (v := (-1)) hx hb d_M_get_31 (by decide) ?_
          refine W.widen (k := 0) (n := 0) (by omega) (by omega) ?_
          exact W.iret (v := (-1)) hx hb hr (fun t9 ht9 hwz => ⟨⟨(-1), ((v2 V 272 0 0), P), rfl, (by unfold rGet; rw [if_pos (Or.inr (Or.inr (Or.inr c9)))]; rfl), by rw [ht9]; exact hW, va_K.moved hwz.alike hK, hN.warm hwz⟩, hS.F ht9⟩) hS.2.2 d_M_get_32

set_option maxHeartbeats 4000000 in
set_option maxRecDepth 100000 in
theorem m_M_cut (l : Launch) (D : va_G) (B : Nat) (cA : Nat → ClassId) (sh : Nat → Nat) (V P : VV) (k : Int32) : Met l y_M_cut w_M_cut ({ frames := 0, cells := 0, slots := 0, locals := 0 } : Room) (va_Pc [.ref (sh 272), .int k] (JC D B cA sh (V, P))) (va_Qi (fun (r : Int32) (u : VV × VV) => (r, u.1, u.2) = rCut V P k) (JC D B cA sh) (hm_A B)) 0 0 (hm_A B) := by
  refine Met.ofW (cc := c_M_cut) (maxL := 2) (ret := (some FieldType.boolean)) (by decide) rfl ?_
  intro p e s m args below meth c s₁ Bd hml hv
  obtain ⟨rfl, hW, hK, hN⟩ := hv
  have hx := Bd.exec
  have hb := Bd.bytes
  have hr := Bd.returns
  have hts := atoms_spec (ws := w_M_cut) Bd.pre
  have hT : ∀ w ∈ WG, w.before ([.ref (sh 272), .int k] : List Value).toArray s = true := fun w h => hts w (List.mem_cons_of_mem _ h)
  have hown : s.vm.findClass "BlockVaultModel" = some m.cls := findClass_of_methodNamed Bd.named
  have hlocks := Bd.notSynchronized
  have hW : JW D B cA sh V P s.heap := hW
  have hBs : B ≤ s.heap.size := hW.ge
  have hS : va_S (hm_A B) s.heap s.heap [] := va_S.rf
  have hl := lv_entry ([.ref (sh 272), .int k]) (n := 2) (Nat.le_of_ble_eq_true rfl)
  rw [lg_entry_eq]
  generalize (lg_sl ([.ref (sh 272), .int k]) ++ List.replicate (2 - (lg_sl ([.ref (sh 272), .int k])).length) Slot.unset).toArray = ls at hl ⊢
  have hl : lv_has ls 2 [(0, .ref (sh 272)), (1, .int k)] := hl
  refine lv_aload_n hx hb d_M_cut_0 rfl (lv_at hl 0 rfl) ?_
  refine lv_iconst (v := 0) hx hb d_M_cut_1 (by decide) ?_
  refine jw_put (ci := 6) (x := 0) (ty := .int) (C := "BlockVaultModel") (T := T_M) (N := 15) hx hb hT in_M t_M t_M_ok n_M hown hK hW hS rfl rfl 0 (by decide) rfl (hT _ k321) (fun _ h9 => h9) rfl (by decide +kernel) rfl rfl d_M_cut_2 (fun H locs hW hS => ?_)
  refine lv_aload_n hx hb d_M_cut_5 rfl (lv_at hl 0 rfl) ?_
  refine va_get (D := D) (ci := 6) (v := .int (V 272 8)) (C := "BlockVaultModel") (T := T_M) (N := 15) hx hb hT in_M hown hK (hW.obj rfl) 0 rfl rfl 8 (by decide) (hT _ k329) (fun _ h9 => h9) rfl d_M_cut_6 ?_
  refine lv_if_ne (tgt := 14) hx hb d_M_cut_9 (by decide) (fun c1 => ?_) (fun c1 => ?_)
  · refine lv_aload_n hx hb d_M_cut_14 rfl (lv_at hl 0 rfl) ?_
    refine lv_iload_n hx hb d_M_cut_15 rfl (lv_at hl 1 rfl) ?_
    refine lv_if_ge (tgt := 23) hx hb d_M_cut_16 (by decide) (fun c2 => ?_) (fun c2 => ?_)
    · refine lv_iload_n hx hb d_M_cut_23 rfl (lv_at hl 1 rfl) ?_
      refine jw_put (ci := 6) (x := k) (ty := .int) (C := "BlockVaultModel") (T := T_M) (N := 15) hx hb hT in_M t_M t_M_ok n_M hown hK hW hS rfl rfl 10 (by decide) rfl (hT _ k331) (fun _ h9 => h9) rfl (by decide +kernel) rfl rfl d_M_cut_24 (fun H locs hW hS => ?_)
      refine lv_iconst (v := 1) hx hb d_M_cut_27 (by decide) ?_
      refine W.widen (k := 0) (n := 0) (by omega) (by omega) ?_
      exact W.zret (ty := .boolean) (v := 1) hx hb hr rfl (fun t9 ht9 hwz => ⟨⟨1, ((v2 (v2 V 272 0 0) 272 10 k), P), rfl, (by unfold rCut rLeft; rw [if_neg c1, if_pos c2]; rfl), by rw [ht9]; exact hW, va_K.moved hwz.alike hK, hN.warm hwz⟩, hS.F ht9⟩) hS.2.2 d_M_cut_28
    · refine lv_iconst (v := (-1)) hx hb d_M_cut_19 (by decide) ?_
      refine lv_goto (tgt := 24) hx hb d_M_cut_20 (by decide) ?_
      refine jw_put (ci := 6) (x := (-1)) (ty := .int) (C := "BlockVaultModel") (T := T_M) (N := 15) hx hb hT in_M t_M t_M_ok n_M hown hK hW hS rfl rfl 10 (by decide) rfl (hT _ k331) (fun _ h9 => h9) rfl (by decide +kernel) rfl rfl d_M_cut_24 (fun H locs hW hS => ?_)
      refine lv_iconst (v := 1) hx hb d_M_cut_27 (by decide) ?_
      refine W.widen (k := 0) (n := 0) (by omega) (by omega) ?_
      exact W.zret (ty := .boolean) (v := 1) hx hb hr rfl (fun t9 ht9 hwz => ⟨⟨1, ((v2 (v2 V 272 0 0) 272 10 (-1)), P), rfl, (by unfold rCut rLeft; rw [if_neg c1, if_neg c2]; rfl), by rw [ht9]; exact hW, va_K.moved hwz.alike hK, hN.warm hwz⟩, hS.F ht9⟩) hS.2.2 d_M_cut_28
  · refine lv_iconst (v := 0) hx hb d_M_cut_12 (by decide) ?_
    refine W.widen (k := 0) (n := 0) (by omega) (by omega) ?_
    exact W.zret (ty := .boolean) (v := 0) hx hb hr rfl (fun t9 ht9 hwz => ⟨⟨0, ((v2 V 272 0 0), P), rfl, (by unfold rCut; rw [if_pos c1]; rfl), by rw [ht9]; exact hW, va_K.moved hwz.alike hK, hN.warm hwz⟩, hS.F ht9⟩) hS.2.2 d_M_cut_13

set_option maxHeartbeats 4000000 in
set_option maxRecDepth 100000 in
theorem m_M_held (l : Launch) (D : va_G) (B : Nat) (cA : Nat → ClassId) (sh : Nat → Nat) (V P : VV) (N : Nat) (hN0 : V 272 1 = nI N) (h80 : N ≤ 80) (b : Int32) : Met l y_M_held w_M_held ({ frames := 1, cells := 0, slots := 0, locals := 30 } : Room) (va_Pc [.ref (sh 272), .int b] (JC D B cA sh (V, P))) (va_Qi (fun (r : Int32) (u : VV × VV) => (r, u.1, u.2) = (rHeld V P b, r0 V, P)) (JC D B cA sh) (hm_A B)) 0 0 (hm_A B) := by
  refine Met.ofW (cc := c_M_held) (maxL := 2) (ret := (some FieldType.boolean)) (by decide) rfl ?_
  intro p e s m args below meth c s₁ Bd hml hv
  obtain ⟨rfl, hW, hK, hN⟩ := hv
  have hx := Bd.exec
  have hb := Bd.bytes
  have hr := Bd.returns
  have hts := atoms_spec (ws := w_M_held) Bd.pre
  have hT : ∀ w ∈ WG, w.before ([.ref (sh 272), .int b] : List Value).toArray s = true := fun w h => hts w (List.mem_cons_of_mem _ h)
  have hown : s.vm.findClass "BlockVaultModel" = some m.cls := findClass_of_methodNamed Bd.named
  have hlocks := Bd.notSynchronized
  have hW : JW D B cA sh V P s.heap := hW
  have hBs : B ≤ s.heap.size := hW.ge
  have hS : va_S (hm_A B) s.heap s.heap [] := va_S.rf
  have hl := lv_entry ([.ref (sh 272), .int b]) (n := 2) (Nat.le_of_ble_eq_true rfl)
  rw [lg_entry_eq]
  generalize (lg_sl ([.ref (sh 272), .int b]) ++ List.replicate (2 - (lg_sl ([.ref (sh 272), .int b])).length) Slot.unset).toArray = ls at hl ⊢
  have hl : lv_has ls 2 [(0, .ref (sh 272)), (1, .int b)] := hl
  refine lv_aload_n hx hb d_M_held_0 rfl (lv_at hl 0 rfl) ?_
  refine lv_iconst (v := 0) hx hb d_M_held_1 (by decide) ?_
  refine jw_put (ci := 6) (x := 0) (ty := .int) (C := "BlockVaultModel") (T := T_M) (N := 15) hx hb hT in_M t_M t_M_ok n_M hown hK hW hS rfl rfl 0 (by decide) rfl (hT _ k321) (fun _ h9 => h9) rfl (by decide +kernel) rfl rfl d_M_held_2 (fun H locs hW hS => ?_)
  refine lv_aload_n hx hb d_M_held_5 rfl (lv_at hl 0 rfl) ?_
  refine va_get (D := D) (ci := 6) (v := .int (V 272 8)) (C := "BlockVaultModel") (T := T_M) (N := 15) hx hb hT in_M hown hK (hW.obj rfl) 0 rfl rfl 8 (by decide) (hT _ k329) (fun _ h9 => h9) rfl d_M_held_6 ?_
  refine lv_if_eq (tgt := 33) hx hb d_M_held_9 (by decide) (fun c1 => ?_) (fun c1 => ?_)
  · refine lv_iconst (v := 0) hx hb d_M_held_33 (by decide) ?_
    refine W.widen (k := 0) (n := 0) (by omega) (by omega) ?_
    exact W.zret (ty := .boolean) (v := 0) hx hb hr rfl (fun t9 ht9 hwz => ⟨⟨0, ((v2 V 272 0 0), P), rfl, (by unfold rHeld; rw [if_pos (Or.inl c1)]; rfl), by rw [ht9]; exact hW, va_K.moved hwz.alike hK, hN.warm hwz⟩, hS.F ht9⟩) hS.2.2 d_M_held_34
  · refine lv_aload_n hx hb d_M_held_12 rfl (lv_at hl 0 rfl) ?_
    refine lv_iload_n hx hb d_M_held_13 rfl (lv_at hl 1 rfl) ?_
    refine jw_calli (va_runV (As := [.int b]) (rest := []) ⟨hx, hb, hml, hown, hT⟩ (m_M_isBlock l D B cA sh (v2 V 272 0 0) P b) (cwV 1 hT (gV k400 k402 ks8 k8 kc_M_isBlock) rfl rfl rfl (by decide +kernel) ⟨Nat.le_of_ble_eq_true rfl, Nat.le_of_ble_eq_true rfl⟩) (jw_preV (q := ("BlockVaultModel", T_M, 15)) hW hK hN rfl rfl) rfl rfl hl.1 rfl (lv_room (Nat.le_of_ble_eq_true rfl)) d_M_held_14 ⟨Nat.le_of_ble_eq_true rfl, Nat.le_of_ble_eq_true rfl⟩) hS (fun r2 V3 P4 H locs hw5 hW hS => ?_)
    obtain ⟨hr6, rfl, rfl⟩ := t3 hw5
    refine lv_if_eq (tgt := 33) hx hb d_M_held_17 (by decide) (fun c7 => ?_) (fun c7 => ?_)
    · have hq : ¬ rIsBlock V b := bi_f hr6 c7
      refine lv_iconst (v := 0) hx hb d_M_held_33 (by decide) ?_
      refine W.widen (k := 0) (n := 0) (by omega) (by omega) ?_
      exact W.zret (ty := .boolean) (v := 0) hx hb hr rfl (fun t9 ht9 hwz => ⟨⟨0, ((v2 V 272 0 0), P), rfl, (by unfold rHeld; rw [if_pos (Or.inr (Or.inl hq))]; rfl), by rw [ht9]; exact hW, va_K.moved hwz.alike hK, hN.warm hwz⟩, hS.F ht9⟩) hS.2.2 d_M_held_34
    · have hq : rIsBlock V b := bi_t hr6 c7
      obtain ⟨xb, xbN, rfl⟩ := rIsBlock_n hN0 h80 hq
      refine lv_aload_n hx hb d_M_held_20 rfl (lv_at hl 0 rfl) ?_
      refine va_get (D := D) (ci := 6) (v := .ref (sh 275)) (C := "BlockVaultModel") (T := T_M) (N := 15) hx hb hT in_M hown hK (hW.obj rfl) 0 rfl rfl 4 (by decide) (hT _ k325) (fun _ h9 => h9) rfl d_M_held_21 ?_
      refine lv_iload_n hx hb d_M_held_24 rfl (lv_at hl 1 rfl) ?_
      refine jw_zald (t := 275) (i := xb) hx hb hK hW rfl rfl (by omega) d_M_held_25 ?_
      refine lv_if_eq (tgt := 33) hx hb d_M_held_26 (by decide) (fun c8 => ?_) (fun c8 => ?_)
      · refine lv_iconst (v := 0) hx hb d_M_held_33 (by decide) ?_
        refine W.widen (k := 0) (n := 0) (by omega) (by omega) ?_
        exact W.zret (ty := .boolean) (v := 0) hx hb hr rfl (fun t9 ht9 hwz => ⟨⟨0, ((v2 V 272 0 0), P), rfl, (by unfold rHeld; rw [nI_clamp (by omega), if_pos (Or.inr (Or.inr c8))]; rfl), by rw [ht9]; exact hW, va_K.moved hwz.alike hK, hN.warm hwz⟩, hS.F ht9⟩) hS.2.2 d_M_held_34
      · refine lv_iconst (v := 1) hx hb d_M_held_29 (by decide) ?_
        refine lv_goto (tgt := 34) hx hb d_M_held_30 (by decide) ?_
        refine W.widen (k := 0) (n := 0) (by omega) (by omega) ?_
        exact W.zret (ty := .boolean) (v := 1) hx hb hr rfl (fun t9 ht9 hwz => ⟨⟨1, ((v2 V 272 0 0), P), rfl, (by unfold rHeld; rw [nI_clamp (by omega), if_neg (fun q => by rcases q with q | q | q; exact c1 q; exact q hq; exact c8 q)]; rfl), by rw [ht9]; exact hW, va_K.moved hwz.alike hK, hN.warm hwz⟩, hS.F ht9⟩) hS.2.2 d_M_held_34

set_option maxHeartbeats 4000000 in
set_option maxRecDepth 100000 in
theorem m_M_cached (l : Launch) (D : va_G) (B : Nat) (cA : Nat → ClassId) (sh : Nat → Nat) (V P : VV) (N : Nat) (hN0 : V 272 1 = nI N) (h80 : N ≤ 80) (b : Int32) : Met l y_M_cached w_M_cached ({ frames := 1, cells := 0, slots := 0, locals := 30 } : Room) (va_Pc [.ref (sh 272), .int b] (JC D B cA sh (V, P))) (va_Qi (fun (r : Int32) (u : VV × VV) => (r, u.1, u.2) = (rCached V P b, r0 V, P)) (JC D B cA sh) (hm_A B)) 0 0 (hm_A B) := by
  refine Met.ofW (cc := c_M_cached) (maxL := 2) (ret := (some FieldType.boolean)) (by decide) rfl ?_
  intro p e s m args below meth c s₁ Bd hml hv
  obtain ⟨rfl, hW, hK, hN⟩ := hv
  have hx := Bd.exec
  have hb := Bd.bytes
  have hr := Bd.returns
  have hts := atoms_spec (ws := w_M_cached) Bd.pre
  have hT : ∀ w ∈ WG, w.before ([.ref (sh 272), .int b] : List Value).toArray s = true := fun w h => hts w (List.mem_cons_of_mem _ h)
  have hown : s.vm.findClass "BlockVaultModel" = some m.cls := findClass_of_methodNamed Bd.named
  have hlocks := Bd.notSynchronized
  have hW : JW D B cA sh V P s.heap := hW
  have hBs : B ≤ s.heap.size := hW.ge
  have hS : va_S (hm_A B) s.heap s.heap [] := va_S.rf
  have hl := lv_entry ([.ref (sh 272), .int b]) (n := 2) (Nat.le_of_ble_eq_true rfl)
  rw [lg_entry_eq]
  generalize (lg_sl ([.ref (sh 272), .int b]) ++ List.replicate (2 - (lg_sl ([.ref (sh 272), .int b])).length) Slot.unset).toArray = ls at hl ⊢
  have hl : lv_has ls 2 [(0, .ref (sh 272)), (1, .int b)] := hl
  refine lv_aload_n hx hb d_M_cached_0 rfl (lv_at hl 0 rfl) ?_
  refine lv_iconst (v := 0) hx hb d_M_cached_1 (by decide) ?_
  refine jw_put (ci := 6) (x := 0) (ty := .int) (C := "BlockVaultModel") (T := T_M) (N := 15) hx hb hT in_M t_M t_M_ok n_M hown hK hW hS rfl rfl 0 (by decide) rfl (hT _ k321) (fun _ h9 => h9) rfl (by decide +kernel) rfl rfl d_M_cached_2 (fun H locs hW hS => ?_)
  refine lv_aload_n hx hb d_M_cached_5 rfl (lv_at hl 0 rfl) ?_
  refine va_get (D := D) (ci := 6) (v := .int (V 272 8)) (C := "BlockVaultModel") (T := T_M) (N := 15) hx hb hT in_M hown hK (hW.obj rfl) 0 rfl rfl 8 (by decide) (hT _ k329) (fun _ h9 => h9) rfl d_M_cached_6 ?_
  refine lv_if_eq (tgt := 33) hx hb d_M_cached_9 (by decide) (fun c1 => ?_) (fun c1 => ?_)
  · refine lv_iconst (v := 0) hx hb d_M_cached_33 (by decide) ?_
    refine W.widen (k := 0) (n := 0) (by omega) (by omega) ?_
    exact W.zret (ty := .boolean) (v := 0) hx hb hr rfl (fun t9 ht9 hwz => ⟨⟨0, ((v2 V 272 0 0), P), rfl, (by unfold rCached; rw [if_pos (Or.inl c1)]; rfl), by rw [ht9]; exact hW, va_K.moved hwz.alike hK, hN.warm hwz⟩, hS.F ht9⟩) hS.2.2 d_M_cached_34
  · refine lv_aload_n hx hb d_M_cached_12 rfl (lv_at hl 0 rfl) ?_
    refine lv_iload_n hx hb d_M_cached_13 rfl (lv_at hl 1 rfl) ?_
    refine jw_calli (va_runV (As := [.int b]) (rest := []) ⟨hx, hb, hml, hown, hT⟩ (m_M_isBlock l D B cA sh (v2 V 272 0 0) P b) (cwV 1 hT (gV k400 k402 ks8 k8 kc_M_isBlock) rfl rfl rfl (by decide +kernel) ⟨Nat.le_of_ble_eq_true rfl, Nat.le_of_ble_eq_true rfl⟩) (jw_preV (q := ("BlockVaultModel", T_M, 15)) hW hK hN rfl rfl) rfl rfl hl.1 rfl (lv_room (Nat.le_of_ble_eq_true rfl)) d_M_cached_14 ⟨Nat.le_of_ble_eq_true rfl, Nat.le_of_ble_eq_true rfl⟩) hS (fun r2 V3 P4 H locs hw5 hW hS => ?_)
    obtain ⟨hr6, rfl, rfl⟩ := t3 hw5
    refine lv_if_eq (tgt := 33) hx hb d_M_cached_17 (by decide) (fun c7 => ?_) (fun c7 => ?_)
    · have hq : ¬ rIsBlock V b := bi_f hr6 c7
      refine lv_iconst (v := 0) hx hb d_M_cached_33 (by decide) ?_
      refine W.widen (k := 0) (n := 0) (by omega) (by omega) ?_
      exact W.zret (ty := .boolean) (v := 0) hx hb hr rfl (fun t9 ht9 hwz => ⟨⟨0, ((v2 V 272 0 0), P), rfl, (by unfold rCached; rw [if_pos (Or.inr (Or.inl hq))]; rfl), by rw [ht9]; exact hW, va_K.moved hwz.alike hK, hN.warm hwz⟩, hS.F ht9⟩) hS.2.2 d_M_cached_34
    · have hq : rIsBlock V b := bi_t hr6 c7
      obtain ⟨xb, xbN, rfl⟩ := rIsBlock_n hN0 h80 hq
      refine lv_aload_n hx hb d_M_cached_20 rfl (lv_at hl 0 rfl) ?_
      refine va_get (D := D) (ci := 6) (v := .ref (sh 277)) (C := "BlockVaultModel") (T := T_M) (N := 15) hx hb hT in_M hown hK (hW.obj rfl) 0 rfl rfl 6 (by decide) (hT _ k327) (fun _ h9 => h9) rfl d_M_cached_21 ?_
      refine lv_iload_n hx hb d_M_cached_24 rfl (lv_at hl 1 rfl) ?_
      refine jw_iald (i := xb) hx hb hK hW rfl (by omega) d_M_cached_25 ?_
      refine lv_if_le (tgt := 33) hx hb d_M_cached_26 (by decide) (fun c8 => ?_) (fun c8 => ?_)
      · refine lv_iconst (v := 0) hx hb d_M_cached_33 (by decide) ?_
        refine W.widen (k := 0) (n := 0) (by omega) (by omega) ?_
        exact W.zret (ty := .boolean) (v := 0) hx hb hr rfl (fun t9 ht9 hwz => ⟨⟨0, ((v2 V 272 0 0), P), rfl, (by unfold rCached; rw [nI_clamp (by omega), if_pos (Or.inr (Or.inr c8))]; rfl), by rw [ht9]; exact hW, va_K.moved hwz.alike hK, hN.warm hwz⟩, hS.F ht9⟩) hS.2.2 d_M_cached_34
      · refine lv_iconst (v := 1) hx hb d_M_cached_29 (by decide) ?_
        refine lv_goto (tgt := 34) hx hb d_M_cached_30 (by decide) ?_
        refine W.widen (k := 0) (n := 0) (by omega) (by omega) ?_
        exact W.zret (ty := .boolean) (v := 1) hx hb hr rfl (fun t9 ht9 hwz => ⟨⟨1, ((v2 V 272 0 0), P), rfl, (by unfold rCached; rw [nI_clamp (by omega), if_neg (fun q => by rcases q with q | q | q; exact c1 q; exact q hq; exact c8 q)]; rfl), by rw [ht9]; exact hW, va_K.moved hwz.alike hK, hN.warm hwz⟩, hS.F ht9⟩) hS.2.2 d_M_cached_34

set_option maxHeartbeats 4000000 in
set_option maxRecDepth 100000 in
theorem m_M_count (l : Launch) (D : va_G) (B : Nat) (cA : Nat → ClassId) (sh : Nat → Nat) (V P : VV) (wh : Int32) : Met l y_M_count w_M_count ({ frames := 1, cells := 0, slots := 0, locals := 30 } : Room) (va_Pc [.ref (sh 272), .int wh] (JC D B cA sh (V, P))) (va_Qi (fun (r : Int32) (u : VV × VV) => (r, u.1, u.2) = (rCount V P wh, r0 V, P)) (JC D B cA sh) (hm_A B)) 0 0 (hm_A B) := by
  refine Met.ofW (cc := c_M_count) (maxL := 2) (ret := (some FieldType.int)) (by decide) rfl ?_
  intro p e s m args below meth c s₁ Bd hml hv
  obtain ⟨rfl, hW, hK, hN⟩ := hv
  have hx := Bd.exec
  have hb := Bd.bytes
  have hr := Bd.returns
  have hts := atoms_spec (ws := w_M_count) Bd.pre
  have hT : ∀ w ∈ WG, w.before ([.ref (sh 272), .int wh] : List Value).toArray s = true := fun w h => hts w (List.mem_cons_of_mem _ h)
  have hown : s.vm.findClass "BlockVaultModel" = some m.cls := findClass_of_methodNamed Bd.named
  have hlocks := Bd.notSynchronized
  have hW : JW D B cA sh V P s.heap := hW
  have hBs : B ≤ s.heap.size := hW.ge
  have hS : va_S (hm_A B) s.heap s.heap [] := va_S.rf
  have hl := lv_entry ([.ref (sh 272), .int wh]) (n := 2) (Nat.le_of_ble_eq_true rfl)
  rw [lg_entry_eq]
  generalize (lg_sl ([.ref (sh 272), .int wh]) ++ List.replicate (2 - (lg_sl ([.ref (sh 272), .int wh])).length) Slot.unset).toArray = ls at hl ⊢
  have hl : lv_has ls 2 [(0, .ref (sh 272)), (1, .int wh)] := hl
  refine lv_aload_n hx hb d_M_count_0 rfl (lv_at hl 0 rfl) ?_
  refine lv_iconst (v := 0) hx hb d_M_count_1 (by decide) ?_
  refine jw_put (ci := 6) (x := 0) (ty := .int) (C := "BlockVaultModel") (T := T_M) (N := 15) hx hb hT in_M t_M t_M_ok n_M hown hK hW hS rfl rfl 0 (by decide) rfl (hT _ k321) (fun _ h9 => h9) rfl (by decide +kernel) rfl rfl d_M_count_2 (fun H locs hW hS => ?_)
  refine lv_iload_n hx hb d_M_count_5 rfl (lv_at hl 1 rfl) ?_
  by_cases e0 : wh = 0
  · subst e0
    refine lv_tableIn (off := 42) (tgt := 48) hx hb d_M_count_6 (by decide) (by decide) rfl (by decide) ?_
    refine lv_aload_n hx hb d_M_count_48 rfl (lv_at hl 0 rfl) ?_
    refine va_get (D := D) (ci := 6) (v := .int (V 272 8)) (C := "BlockVaultModel") (T := T_M) (N := 15) hx hb hT in_M hown hK (hW.obj rfl) 0 rfl rfl 8 (by decide) (hT _ k329) (fun _ h9 => h9) rfl d_M_count_49 ?_
    refine lv_if_eq (tgt := 59) hx hb d_M_count_52 (by decide) (fun c1 => ?_) (fun c1 => ?_)
    · refine lv_iconst (v := 0) hx hb d_M_count_59 (by decide) ?_
      refine W.widen (k := 0) (n := 0) (by omega) (by omega) ?_
      exact W.iret (v := 0) hx hb hr (fun t9 ht9 hwz => ⟨⟨0, ((v2 V 272 0 0), P), rfl, (by simp [rCount, r0, c1]), by rw [ht9]; exact hW, va_K.moved hwz.alike hK, hN.warm hwz⟩, hS.F ht9⟩) hS.2.2 d_M_count_60
    · refine lv_iconst (v := 1) hx hb d_M_count_55 (by decide) ?_
      refine lv_goto (tgt := 60) hx hb d_M_count_56 (by decide) ?_
      refine W.widen (k := 0) (n := 0) (by omega) (by omega) ?_
      exact W.iret (v := 1) hx hb hr (fun t9 ht9 hwz => ⟨⟨1, ((v2 V 272 0 0), P), rfl, (by simp [rCount, r0, c1]), by rw [ht9]; exact hW, va_K.moved hwz.alike hK, hN.warm hwz⟩, hS.F ht9⟩) hS.2.2 d_M_count_60
  by_cases e1 : wh = 1
  · subst e1
    refine lv_tableIn (off := 55) (tgt := 61) hx hb d_M_count_6 (by decide) (by decide) rfl (by decide) ?_
    refine lv_aload_n hx hb d_M_count_61 rfl (lv_at hl 0 rfl) ?_
    refine va_get (D := D) (ci := 6) (v := .int (V 272 1)) (C := "BlockVaultModel") (T := T_M) (N := 15) hx hb hT in_M hown hK (hW.obj rfl) 0 rfl rfl 1 (by decide) (hT _ k322) (fun _ h9 => h9) rfl d_M_count_62 ?_
    refine W.widen (k := 0) (n := 0) (by omega) (by omega) ?_
    exact W.iret (v := (V 272 1)) hx hb hr (fun t9 ht9 hwz => ⟨⟨(V 272 1), ((v2 V 272 0 0), P), rfl, (by simp [rCount, r0]), by rw [ht9]; exact hW, va_K.moved hwz.alike hK, hN.warm hwz⟩, hS.F ht9⟩) hS.2.2 d_M_count_65
  by_cases e2 : wh = 2
  · subst e2
    refine lv_tableIn (off := 60) (tgt := 66) hx hb d_M_count_6 (by decide) (by decide) rfl (by decide) ?_
    refine lv_aload_n hx hb d_M_count_66 rfl (lv_at hl 0 rfl) ?_
    refine va_get (D := D) (ci := 6) (v := .int (V 272 8)) (C := "BlockVaultModel") (T := T_M) (N := 15) hx hb hT in_M hown hK (hW.obj rfl) 0 rfl rfl 8 (by decide) (hT _ k329) (fun _ h9 => h9) rfl d_M_count_67 ?_
    refine lv_if_eq (tgt := 83) hx hb d_M_count_70 (by decide) (fun c2 => ?_) (fun c2 => ?_)
    · refine lv_iconst (v := 0) hx hb d_M_count_83 (by decide) ?_
      refine W.widen (k := 0) (n := 0) (by omega) (by omega) ?_
      exact W.iret (v := 0) hx hb hr (fun t9 ht9 hwz => ⟨⟨0, ((v2 V 272 0 0), P), rfl, (by simp [rCount, r0, c2]), by rw [ht9]; exact hW, va_K.moved hwz.alike hK, hN.warm hwz⟩, hS.F ht9⟩) hS.2.2 d_M_count_84
    · refine lv_aload_n hx hb d_M_count_73 rfl (lv_at hl 0 rfl) ?_
      refine va_get (D := D) (ci := 6) (v := .ref (sh 275)) (C := "BlockVaultModel") (T := T_M) (N := 15) hx hb hT in_M hown hK (hW.obj rfl) 0 rfl rfl 4 (by decide) (hT _ k325) (fun _ h9 => h9) rfl d_M_count_74 ?_
      refine jw_calli (va_runS (As := [.ref (sh 275)]) (rest := []) ⟨hx, hb, hml, hown, hT⟩ (m_M_many l D B cA sh (v2 V 272 0 0) P 275 rfl) (va_cwS 1 hT (gS k377 k378 k8 kc_M_many) rfl rfl rfl (by decide +kernel) ⟨Nat.le_of_ble_eq_true rfl, Nat.le_of_ble_eq_true rfl⟩) (jw_preS hW hK hN) rfl rfl hl.1 rfl (lv_room (Nat.le_of_ble_eq_true rfl)) d_M_count_77 ⟨Nat.le_of_ble_eq_true rfl, Nat.le_of_ble_eq_true rfl⟩) hS (fun r3 V4 P5 H locs hw6 hW hS => ?_)
      obtain ⟨rfl, rfl, rfl⟩ := t3 hw6
      refine lv_goto (tgt := 84) hx hb d_M_count_80 (by decide) ?_
      refine W.widen (k := 0) (n := 0) (by omega) (by omega) ?_
      exact W.iret (v := (rMany (P 275))) hx hb hr (fun t9 ht9 hwz => ⟨⟨(rMany (P 275)), ((v2 V 272 0 0), P), rfl, (by simp [rCount, r0, c2]), by rw [ht9]; exact hW, va_K.moved hwz.alike hK, hN.warm hwz⟩, hS.F ht9⟩) hS.2.2 d_M_count_84
  by_cases e3 : wh = 3
  · subst e3
    refine lv_tableIn (off := 79) (tgt := 85) hx hb d_M_count_6 (by decide) (by decide) rfl (by decide) ?_
    refine lv_aload_n hx hb d_M_count_85 rfl (lv_at hl 0 rfl) ?_
    refine va_get (D := D) (ci := 6) (v := .int (V 272 8)) (C := "BlockVaultModel") (T := T_M) (N := 15) hx hb hT in_M hown hK (hW.obj rfl) 0 rfl rfl 8 (by decide) (hT _ k329) (fun _ h9 => h9) rfl d_M_count_86 ?_
    refine lv_if_eq (tgt := 109) hx hb d_M_count_89 (by decide) (fun c7 => ?_) (fun c7 => ?_)
    · refine lv_iconst (v := (-1)) hx hb d_M_count_109 (by decide) ?_
      refine W.widen (k := 0) (n := 0) (by omega) (by omega) ?_
      exact W.iret (v := (-1)) hx hb hr (fun t9 ht9 hwz => ⟨⟨(-1), ((v2 V 272 0 0), P), rfl, (by simp [rCount, r0, c7]), by rw [ht9]; exact hW, va_K.moved hwz.alike hK, hN.warm hwz⟩, hS.F ht9⟩) hS.2.2 d_M_count_110
    · refine lv_aload_n hx hb d_M_count_92 rfl (lv_at hl 0 rfl) ?_
      refine va_get (D := D) (ci := 6) (v := .int (V 272 9)) (C := "BlockVaultModel") (T := T_M) (N := 15) hx hb hT in_M hown hK (hW.obj rfl) 0 rfl rfl 9 (by decide) (hT _ k330) (fun _ h9 => h9) rfl d_M_count_93 ?_
      refine lv_if_eq (tgt := 109) hx hb d_M_count_96 (by decide) (fun c8 => ?_) (fun c8 => ?_)
      · refine lv_iconst (v := (-1)) hx hb d_M_count_109 (by decide) ?_
        refine W.widen (k := 0) (n := 0) (by omega) (by omega) ?_
        exact W.iret (v := (-1)) hx hb hr (fun t9 ht9 hwz => ⟨⟨(-1), ((v2 V 272 0 0), P), rfl, (by simp [rCount, r0, c7, c8]), by rw [ht9]; exact hW, va_K.moved hwz.alike hK, hN.warm hwz⟩, hS.F ht9⟩) hS.2.2 d_M_count_110
      · refine lv_aload_n hx hb d_M_count_99 rfl (lv_at hl 0 rfl) ?_
        refine va_get (D := D) (ci := 6) (v := .ref (sh 276)) (C := "BlockVaultModel") (T := T_M) (N := 15) hx hb hT in_M hown hK (hW.obj rfl) 0 rfl rfl 5 (by decide) (hT _ k326) (fun _ h9 => h9) rfl d_M_count_100 ?_
        refine jw_calli (va_runS (As := [.ref (sh 276)]) (rest := []) ⟨hx, hb, hml, hown, hT⟩ (m_M_many l D B cA sh (v2 V 272 0 0) P 276 rfl) (va_cwS 1 hT (gS k377 k378 k8 kc_M_many) rfl rfl rfl (by decide +kernel) ⟨Nat.le_of_ble_eq_true rfl, Nat.le_of_ble_eq_true rfl⟩) (jw_preS hW hK hN) rfl rfl hl.1 rfl (lv_room (Nat.le_of_ble_eq_true rfl)) d_M_count_103 ⟨Nat.le_of_ble_eq_true rfl, Nat.le_of_ble_eq_true rfl⟩) hS (fun r9 V10 P11 H locs hw12 hW hS => ?_)
        obtain ⟨rfl, rfl, rfl⟩ := t3 hw12
        refine lv_goto (tgt := 110) hx hb d_M_count_106 (by decide) ?_
        refine W.widen (k := 0) (n := 0) (by omega) (by omega) ?_
        exact W.iret (v := (rMany (P 276))) hx hb hr (fun t9 ht9 hwz => ⟨⟨(rMany (P 276)), ((v2 V 272 0 0), P), rfl, (by simp [rCount, r0, c7, c8]), by rw [ht9]; exact hW, va_K.moved hwz.alike hK, hN.warm hwz⟩, hS.F ht9⟩) hS.2.2 d_M_count_110
  by_cases e4 : wh = 4
  · subst e4
    refine lv_tableIn (off := 105) (tgt := 111) hx hb d_M_count_6 (by decide) (by decide) rfl (by decide) ?_
    refine lv_aload_n hx hb d_M_count_111 rfl (lv_at hl 0 rfl) ?_
    refine va_get (D := D) (ci := 6) (v := .int (V 272 11)) (C := "BlockVaultModel") (T := T_M) (N := 15) hx hb hT in_M hown hK (hW.obj rfl) 0 rfl rfl 11 (by decide) (hT _ k332) (fun _ h9 => h9) rfl d_M_count_112 ?_
    refine W.widen (k := 0) (n := 0) (by omega) (by omega) ?_
    exact W.iret (v := (V 272 11)) hx hb hr (fun t9 ht9 hwz => ⟨⟨(V 272 11), ((v2 V 272 0 0), P), rfl, (by simp [rCount, r0]), by rw [ht9]; exact hW, va_K.moved hwz.alike hK, hN.warm hwz⟩, hS.F ht9⟩) hS.2.2 d_M_count_115
  by_cases e5 : wh = 5
  · subst e5
    refine lv_tableIn (off := 110) (tgt := 116) hx hb d_M_count_6 (by decide) (by decide) rfl (by decide) ?_
    refine lv_aload_n hx hb d_M_count_116 rfl (lv_at hl 0 rfl) ?_
    refine va_get (D := D) (ci := 6) (v := .int (V 272 12)) (C := "BlockVaultModel") (T := T_M) (N := 15) hx hb hT in_M hown hK (hW.obj rfl) 0 rfl rfl 12 (by decide) (hT _ k333) (fun _ h9 => h9) rfl d_M_count_117 ?_
    refine W.widen (k := 0) (n := 0) (by omega) (by omega) ?_
    exact W.iret (v := (V 272 12)) hx hb hr (fun t9 ht9 hwz => ⟨⟨(V 272 12), ((v2 V 272 0 0), P), rfl, (by simp [rCount, r0]), by rw [ht9]; exact hW, va_K.moved hwz.alike hK, hN.warm hwz⟩, hS.F ht9⟩) hS.2.2 d_M_count_120
  by_cases e6 : wh = 6
  · subst e6
    refine lv_tableIn (off := 115) (tgt := 121) hx hb d_M_count_6 (by decide) (by decide) rfl (by decide) ?_
    refine lv_aload_n hx hb d_M_count_121 rfl (lv_at hl 0 rfl) ?_
    refine va_get (D := D) (ci := 6) (v := .int (V 272 13)) (C := "BlockVaultModel") (T := T_M) (N := 15) hx hb hT in_M hown hK (hW.obj rfl) 0 rfl rfl 13 (by decide) (hT _ k334) (fun _ h9 => h9) rfl d_M_count_122 ?_
    refine W.widen (k := 0) (n := 0) (by omega) (by omega) ?_
    exact W.iret (v := (V 272 13)) hx hb hr (fun t9 ht9 hwz => ⟨⟨(V 272 13), ((v2 V 272 0 0), P), rfl, (by simp [rCount, r0]), by rw [ht9]; exact hW, va_K.moved hwz.alike hK, hN.warm hwz⟩, hS.F ht9⟩) hS.2.2 d_M_count_125
  refine lv_tableOut (tgt := 126) hx hb d_M_count_6 (out06 e0 e1 e2 e3 e4 e5 e6) (by decide) ?_
  refine lv_iconst (v := (-1)) hx hb d_M_count_126 (by decide) ?_
  refine W.widen (k := 0) (n := 0) (by omega) (by omega) ?_
  exact W.iret (v := (-1)) hx hb hr (fun t9 ht9 hwz => ⟨⟨(-1), ((v2 V 272 0 0), P), rfl, (by simp [rCount, r0, e0, e1, e2, e3, e4, e5, e6]), by rw [ht9]; exact hW, va_K.moved hwz.alike hK, hN.warm hwz⟩, hS.F ht9⟩) hS.2.2 d_M_count_127

theorem pow0 {P : VV} : p1 P 274 (rNow P 81920) = p1 (p1 (p1 P 274 (rNow P 81920)) 275 (P 275)) 277 (P 277) := by
  generalize rNow P 81920 = f
  funext q
  by_cases h1 : q = 277
  · subst h1
    rw [p1_s, p1_n (by omega)]
  · rw [p1_n h1]
    by_cases h2 : q = 275
    · subst h2
      rw [p1_s, p1_n (by omega)]
    · rw [p1_n h2]
theorem pow_step {P : VV} {f : Nat → Int32} {i : Nat} : p1 (p1 (p1 (p1 (p1 P 274 f) 275 (zF (P 275) i)) 277 (zF (P 277) i)) 275 (upd (p1 (p1 (p1 P 274 f) 275 (zF (P 275) i)) 277 (zF (P 277) i) 275) i 0)) 277 (upd (p1 (p1 (p1 (p1 P 274 f) 275 (zF (P 275) i)) 277 (zF (P 277) i)) 275 (upd (p1 (p1 (p1 P 274 f) 275 (zF (P 275) i)) 277 (zF (P 277) i) 275) i 0) 277) i 0) = p1 (p1 (p1 P 274 f) 275 (zF (P 275) (i + 1))) 277 (zF (P 277) (i + 1)) := by
  rw [p1_n (show (275 : Nat) ≠ 277 by omega), p1_s, p1_n (show (277 : Nat) ≠ 275 by omega), p1_s, zF_s, zF_s, p1_comm (show (277 : Nat) ≠ 275 by omega), p1_p1, p1_p1]

theorem rBackV_14 {V : VV} {k : Int32} : rBackV V k 272 14 = V 272 14 := by
  unfold rBackV r0
  rw [v2_k (by omega), v2_k (by omega), v2_k (by omega), v2_k (by omega)]
theorem pw_0 {V P Va Pa : VV} {k : Int32} (h8 : V 272 8 = 0) (h1 : Va = rBackV V k) (h2 : Pa = p1 (p1 (p1 P 274 (rNow P 81920)) 275 (zF (P 275) 80)) 277 (zF (P 277) 80)) (c : ¬ 0 ≤ Va 272 14) : (0, Va, Pa) = rPower V P k := by
  subst h1
  subst h2
  rw [rBackV_14] at c
  unfold rPower
  rw [if_pos h8, if_pos (Int32.not_le.mp c)]
  unfold rBackP
  rfl
theorem pw_end {V P Va Pa V1 P1 : VV} {k r x : Int32} (h8 : V 272 8 = 0) (h1 : Va = rBackV V k) (h2 : Pa = p1 (p1 (p1 P 274 (rNow P 81920)) 275 (zF (P 275) 80)) 277 (zF (P 277) 80)) (c : 0 ≤ Va 272 14) (hw : (r, V1, P1) = ((rEnded Va).1, (rEnded Va).2, Pa)) (hx : (r = 0 ∧ x = -1) ∨ (¬ r = 0 ∧ x = Va 272 14)) : (x, V1, P1) = rPower V P k := by
  obtain ⟨e1, e2, e3⟩ := t3 hw
  subst h1
  rw [rBackV_14] at c hx
  unfold rPower
  rw [if_pos h8, if_neg (Int32.not_lt.mpr c), e1, e2, ← e3, h2]
  unfold rBackP
  rcases hx with ⟨a, b⟩ | ⟨a, b⟩
  · rw [if_pos a, b]
  · rw [if_neg a, b]

set_option maxHeartbeats 4000000 in
set_option maxRecDepth 100000 in
theorem m_M_power (l : Launch) (D : va_G) (B : Nat) (cA : Nat → ClassId) (sh : Nat → Nat) (V P : VV) (k : Int32) : Met l y_M_power w_M_power ({ frames := 2, cells := 0, slots := 0, locals := 60 } : Room) (va_Pc [.ref (sh 272), .int k] (JC D B cA sh (V, P))) (va_Qi (fun (r : Int32) (u : VV × VV) => (r, u.1, u.2) = rPower V P k) (JC D B cA sh) (hm_A B)) 0 0 (hm_A B) := by
  refine Met.ofW (cc := c_M_power) (maxL := 3) (ret := (some FieldType.int)) (by decide) rfl ?_
  intro p e s m args below meth c s₁ Bd hml hv
  obtain ⟨rfl, hW, hK, hN⟩ := hv
  have hx := Bd.exec
  have hb := Bd.bytes
  have hr := Bd.returns
  have hts := atoms_spec (ws := w_M_power) Bd.pre
  have hT : ∀ w ∈ WG, w.before ([.ref (sh 272), .int k] : List Value).toArray s = true := fun w h => hts w (List.mem_cons_of_mem _ h)
  have hown : s.vm.findClass "BlockVaultModel" = some m.cls := findClass_of_methodNamed Bd.named
  have hlocks := Bd.notSynchronized
  have hW : JW D B cA sh V P s.heap := hW
  have hBs : B ≤ s.heap.size := hW.ge
  have hS : va_S (hm_A B) s.heap s.heap [] := va_S.rf
  have hl := lv_entry ([.ref (sh 272), .int k]) (n := 3) (Nat.le_of_ble_eq_true rfl)
  rw [lg_entry_eq]
  generalize (lg_sl ([.ref (sh 272), .int k]) ++ List.replicate (3 - (lg_sl ([.ref (sh 272), .int k])).length) Slot.unset).toArray = ls at hl ⊢
  have hl : lv_has ls 3 [(0, .ref (sh 272)), (1, .int k)] := hl
  refine lv_aload_n hx hb d_M_power_0 rfl (lv_at hl 0 rfl) ?_
  refine lv_iconst (v := 0) hx hb d_M_power_1 (by decide) ?_
  refine jw_put (ci := 6) (x := 0) (ty := .int) (C := "BlockVaultModel") (T := T_M) (N := 15) hx hb hT in_M t_M t_M_ok n_M hown hK hW hS rfl rfl 0 (by decide) rfl (hT _ k321) (fun _ h9 => h9) rfl (by decide +kernel) rfl rfl d_M_power_2 (fun H locs hW hS => ?_)
  refine lv_aload_n hx hb d_M_power_5 rfl (lv_at hl 0 rfl) ?_
  refine va_get (D := D) (ci := 6) (v := .int (V 272 8)) (C := "BlockVaultModel") (T := T_M) (N := 15) hx hb hT in_M hown hK (hW.obj rfl) 0 rfl rfl 8 (by decide) (hT _ k329) (fun _ h9 => h9) rfl d_M_power_6 ?_
  refine lv_if_eq (tgt := 14) hx hb d_M_power_9 (by decide) (fun c1 => ?_) (fun c1 => ?_)
  · refine lv_aload_n hx hb d_M_power_14 rfl (lv_at hl 0 rfl) ?_
    refine lv_iconst (v := 1) hx hb d_M_power_15 (by decide) ?_
    refine jw_put (ci := 6) (x := 1) (ty := .boolean) (C := "BlockVaultModel") (T := T_M) (N := 15) hx hb hT in_M t_M t_M_ok n_M hown hK hW hS rfl rfl 8 (by decide) rfl (hT _ k329) (fun _ h9 => h9) rfl (by decide +kernel) rfl rfl d_M_power_16 (fun H locs hW hS => ?_)
    refine lv_aload_n hx hb d_M_power_19 rfl (lv_at hl 0 rfl) ?_
    refine lv_iconst (v := 0) hx hb d_M_power_20 (by decide) ?_
    refine jw_put (ci := 6) (x := 0) (ty := .boolean) (C := "BlockVaultModel") (T := T_M) (N := 15) hx hb hT in_M t_M t_M_ok n_M hown hK hW hS rfl rfl 9 (by decide) rfl (hT _ k330) (fun _ h9 => h9) rfl (by decide +kernel) rfl rfl d_M_power_21 (fun H locs hW hS => ?_)
    refine lv_aload_n hx hb d_M_power_24 rfl (lv_at hl 0 rfl) ?_
    refine lv_iload_n hx hb d_M_power_25 rfl (lv_at hl 1 rfl) ?_
    refine lv_if_ge (tgt := 33) hx hb d_M_power_26 (by decide) (fun c2 => ?_) (fun c2 => ?_)
    · refine lv_iload_n hx hb d_M_power_33 rfl (lv_at hl 1 rfl) ?_
      refine jw_put (ci := 6) (x := k) (ty := .int) (C := "BlockVaultModel") (T := T_M) (N := 15) hx hb hT in_M t_M t_M_ok n_M hown hK hW hS rfl rfl 10 (by decide) rfl (hT _ k331) (fun _ h9 => h9) rfl (by decide +kernel) rfl rfl d_M_power_34 (fun H locs hW hS => ?_)
      refine lv_iconst (v := 0) hx hb d_M_power_37 (by decide) ?_
      refine lv_istore_n (lv' := [(2, .int 0), (0, .ref (sh 272)), (1, .int k)]) hx hb d_M_power_38 rfl hl (by decide) rfl (fun ls hl => ?_)
      have hbv : (v2 (v2 (v2 (v2 V 272 0 0) 272 8 1) 272 9 0) 272 10 k) = rBackV V k := by unfold rBackV rLeft; rw [if_pos c2]; rfl
      rw [hbv] at hW
      have loop : ∀ (n i : Nat) (Va Pa : VV) (H : Heap) (locs : List Loc) (ls : Array Slot), i + n = 81920 → (Va = rBackV V k ∧ Pa = p1 P 274 (rNow P i)) → JW D B cA sh Va Pa H → va_S (hm_A B) s.heap H locs → lv_has ls 3 [(2, .int (nI i)), (0, .ref (sh 272)), (1, .int k)] → W p l e (headSpec w_M_power ({ frames := 2, cells := 0, slots := 0, locals := 60 } : Room)).room s m ([.ref (sh 272), .int k] : List Value).toArray below meth c H locs 0 0 (MQ below (va_Qi (fun (r : Int32) (u : VV × VV) => (r, u.1, u.2) = rPower V P k) (JC D B cA sh) (hm_A B)) ([.ref (sh 272), .int k] : List Value).toArray s 0 0 (hm_A B)) (F0 m 39 ls []) := by
        intro n
        induction n with
        | zero =>
          intro i Va Pa H locs ls hin hinv hW hS hl
          obtain rfl : i = 81920 := by omega
          refine lv_iload_n hx hb d_M_power_39 rfl (lv_at hl 0 rfl) ?_
          refine lv_ldc (v := 81920) hx hb hown (hT _ k320) d_M_power_40 ?_
          refine lv_icmp_ge (tgt := 63) hx hb d_M_power_42 (by decide) (fun c3 => ?_) (fun c3 => ?_)
          · refine lv_iconst (v := 0) hx hb d_M_power_63 (by decide) ?_
            refine lv_istore_n (lv' := [(2, .int 0), (0, .ref (sh 272)), (1, .int k)]) hx hb d_M_power_64 rfl hl (by decide) rfl (fun ls hl => ?_)
            obtain ⟨q1, q2⟩ := hinv
            have loop2 : ∀ (n2 i2 : Nat) (Va2 Pa2 : VV) (H : Heap) (locs : List Loc) (ls : Array Slot), i2 + n2 = 80 → (Va2 = rBackV V k ∧ Pa2 = p1 (p1 (p1 P 274 (rNow P 81920)) 275 (zF (P 275) i2)) 277 (zF (P 277) i2)) → JW D B cA sh Va2 Pa2 H → va_S (hm_A B) s.heap H locs → lv_has ls 3 [(2, .int (nI i2)), (0, .ref (sh 272)), (1, .int k)] → W p l e (headSpec w_M_power ({ frames := 2, cells := 0, slots := 0, locals := 60 } : Room)).room s m ([.ref (sh 272), .int k] : List Value).toArray below meth c H locs 0 0 (MQ below (va_Qi (fun (r : Int32) (u : VV × VV) => (r, u.1, u.2) = rPower V P k) (JC D B cA sh) (hm_A B)) ([.ref (sh 272), .int k] : List Value).toArray s 0 0 (hm_A B)) (F0 m 65 ls []) := by
              intro n2
              induction n2 with
              | zero =>
                intro i2 Va2 Pa2 H locs ls hin2 hinv2 hW hS hl
                obtain rfl : i2 = 80 := by omega
                refine lv_iload_n hx hb d_M_power_65 rfl (lv_at hl 0 rfl) ?_
                refine lv_bipush (v := 80) hx hb d_M_power_66 (by decide) ?_
                refine lv_icmp_ge (tgt := 91) hx hb d_M_power_68 (by decide) (fun c4 => ?_) (fun c4 => ?_)
                · refine lv_aload_n hx hb d_M_power_91 rfl (lv_at hl 1 rfl) ?_
                  refine va_get (D := D) (ci := 6) (v := .int (Va2 272 14)) (C := "BlockVaultModel") (T := T_M) (N := 15) hx hb hT in_M hown hK (hW.obj rfl) 0 rfl rfl 14 (by decide) (hT _ k335) (fun _ h9 => h9) rfl d_M_power_92 ?_
                  refine lv_istore_n (lv' := [(2, .int (Va2 272 14)), (0, .ref (sh 272)), (1, .int k)]) hx hb d_M_power_95 rfl hl (by decide) rfl (fun ls hl => ?_)
                  refine lv_iload_n hx hb d_M_power_96 rfl (lv_at hl 0 rfl) ?_
                  refine lv_if_ge (tgt := 102) hx hb d_M_power_97 (by decide) (fun c5 => ?_) (fun c5 => ?_)
                  · refine lv_aload_n hx hb d_M_power_102 rfl (lv_at hl 1 rfl) ?_
                    refine jw_calli (va_runV (As := []) (rest := []) ⟨hx, hb, hml, hown, hT⟩ (m_M_ended l D B cA sh Va2 Pa2) (cwV 0 hT (gV k388 k390 ks7 k8 kc_M_ended) rfl rfl rfl (by decide +kernel) ⟨Nat.le_of_ble_eq_true rfl, Nat.le_of_ble_eq_true rfl⟩) (jw_preV (q := ("BlockVaultModel", T_M, 15)) hW hK hN rfl rfl) rfl rfl hl.1 rfl (lv_room (Nat.le_of_ble_eq_true rfl)) d_M_power_103 ⟨Nat.le_of_ble_eq_true rfl, Nat.le_of_ble_eq_true rfl⟩) hS (fun r6 V7 P8 H locs hw9 hW hS => ?_)
                    refine lv_if_eq (tgt := 113) hx hb d_M_power_106 (by decide) (fun c10 => ?_) (fun c10 => ?_)
                    · refine lv_iconst (v := (-1)) hx hb d_M_power_113 (by decide) ?_
                      refine W.widen (k := 0) (n := 0) (by omega) (by omega) ?_
                      exact W.iret (v := (-1)) hx hb hr (fun t9 ht9 hwz => ⟨⟨(-1), (V7, P8), rfl, (by exact pw_end c1 hinv2.1 hinv2.2 c5 hw9 (Or.inl ⟨c10, rfl⟩)), by rw [ht9]; exact hW, va_K.moved hwz.alike hK, hN.warm hwz⟩, hS.F ht9⟩) hS.2.2 d_M_power_114
                    · refine lv_iload_n hx hb d_M_power_109 rfl (lv_at hl 0 rfl) ?_
                      refine lv_goto (tgt := 114) hx hb d_M_power_110 (by decide) ?_
                      refine W.widen (k := 0) (n := 0) (by omega) (by omega) ?_
                      exact W.iret (v := (Va2 272 14)) hx hb hr (fun t9 ht9 hwz => ⟨⟨(Va2 272 14), (V7, P8), rfl, (by exact pw_end c1 hinv2.1 hinv2.2 c5 hw9 (Or.inr ⟨c10, rfl⟩)), by rw [ht9]; exact hW, va_K.moved hwz.alike hK, hN.warm hwz⟩, hS.F ht9⟩) hS.2.2 d_M_power_114
                  · refine lv_iconst (v := 0) hx hb d_M_power_100 (by decide) ?_
                    refine W.widen (k := 0) (n := 0) (by omega) (by omega) ?_
                    exact W.iret (v := 0) hx hb hr (fun t9 ht9 hwz => ⟨⟨0, (Va2, Pa2), rfl, (by exact pw_0 c1 hinv2.1 hinv2.2 c5), by rw [ht9]; exact hW, va_K.moved hwz.alike hK, hN.warm hwz⟩, hS.F ht9⟩) hS.2.2 d_M_power_101
                · exact absurd (by decide) c4
              | succ n2 ih2 =>
                intro i2 Va2 Pa2 H locs ls hin2 hinv2 hW hS hl
                have hi2 : i2 < 80 := by omega
                refine lv_iload_n hx hb d_M_power_65 rfl (lv_at hl 0 rfl) ?_
                refine lv_bipush (v := 80) hx hb d_M_power_66 (by decide) ?_
                refine lv_icmp_ge (tgt := 91) hx hb d_M_power_68 (by decide) (fun c11 => ?_) (fun c11 => ?_)
                · exact absurd c11 (nI_ge (b := 80) (by omega) (by omega))
                · refine lv_aload_n hx hb d_M_power_71 rfl (lv_at hl 1 rfl) ?_
                  refine va_get (D := D) (ci := 6) (v := .ref (sh 275)) (C := "BlockVaultModel") (T := T_M) (N := 15) hx hb hT in_M hown hK (hW.obj rfl) 0 rfl rfl 4 (by decide) (hT _ k325) (fun _ h9 => h9) rfl d_M_power_72 ?_
                  refine lv_iload_n hx hb d_M_power_75 rfl (lv_at hl 0 rfl) ?_
                  refine lv_iconst (v := 0) hx hb d_M_power_76 (by decide) ?_
                  refine jw_zastN (t := 275) (i := i2) hx hb hK hW hS rfl rfl (by omega) rfl d_M_power_77 (fun H locs hW hS => ?_)
                  refine lv_aload_n hx hb d_M_power_78 rfl (lv_at hl 1 rfl) ?_
                  refine va_get (D := D) (ci := 6) (v := .ref (sh 277)) (C := "BlockVaultModel") (T := T_M) (N := 15) hx hb hT in_M hown hK (hW.obj rfl) 0 rfl rfl 6 (by decide) (hT _ k327) (fun _ h9 => h9) rfl d_M_power_79 ?_
                  refine lv_iload_n hx hb d_M_power_82 rfl (lv_at hl 0 rfl) ?_
                  refine lv_iconst (v := 0) hx hb d_M_power_83 (by decide) ?_
                  refine jw_iastN (i := i2) hx hb hK hW hS rfl (by omega) d_M_power_84 (fun H locs hW hS => ?_)
                  refine lv_iinc (v := ((nI i2) + 1)) (lv' := [(2, .int ((nI i2) + 1)), (0, .ref (sh 272)), (1, .int k)]) hx hb d_M_power_85 hl (k := 0) rfl rfl (by decide) rfl (fun ls hl => ?_)
                  refine lv_goto (tgt := 65) hx hb d_M_power_88 (by decide) ?_
                  exact ih2 (i2 + 1) Va2 (p1 (p1 Pa2 275 (upd (Pa2 275) i2 0)) 277 (upd ((p1 Pa2 275 (upd (Pa2 275) i2 0)) 277) i2 0)) H locs ls (by omega) (⟨hinv2.1, by rw [hinv2.2]; exact pow_step⟩) hW hS (by rw [← nI_1]; exact lv_sub hl [0, 1, 2] rfl)
            exact loop2 80 0 Va Pa _ _ ls (by omega) (⟨q1, by rw [zF_0, zF_0, q2]; exact pow0⟩) hW hS (lv_sub hl [0, 1, 2] rfl)
          · exact absurd le_81920 c3
        | succ n ih =>
          intro i Va Pa H locs ls hin hinv hW hS hl
          have hi : i < 81920 := by omega
          refine lv_iload_n hx hb d_M_power_39 rfl (lv_at hl 0 rfl) ?_
          refine lv_ldc (v := 81920) hx hb hown (hT _ k320) d_M_power_40 ?_
          refine lv_icmp_ge (tgt := 63) hx hb d_M_power_42 (by decide) (fun c12 => ?_) (fun c12 => ?_)
          · exact absurd c12 (ge_81920 (by omega))
          · refine lv_aload_n hx hb d_M_power_45 rfl (lv_at hl 1 rfl) ?_
            refine va_get (D := D) (ci := 6) (v := .ref (sh 274)) (C := "BlockVaultModel") (T := T_M) (N := 15) hx hb hT in_M hown hK (hW.obj rfl) 0 rfl rfl 3 (by decide) (hT _ k324) (fun _ h9 => h9) rfl d_M_power_46 ?_
            refine lv_iload_n hx hb d_M_power_49 rfl (lv_at hl 0 rfl) ?_
            refine lv_aload_n hx hb d_M_power_50 rfl (lv_at hl 1 rfl) ?_
            refine va_get (D := D) (ci := 6) (v := .ref (sh 273)) (C := "BlockVaultModel") (T := T_M) (N := 15) hx hb hT in_M hown hK (hW.obj rfl) 0 rfl rfl 2 (by decide) (hT _ k323) (fun _ h9 => h9) rfl d_M_power_51 ?_
            refine lv_iload_n hx hb d_M_power_54 rfl (lv_at hl 0 rfl) ?_
            refine jw_bald (t := 273) (i := i) hx hb hK hW rfl rfl (by omega) d_M_power_55 (fun hbf => ?_)
            refine jw_bastN (t := 274) (i := i) hx hb hK hW hS rfl rfl (by omega) hbf d_M_power_56 (fun H locs hW hS => ?_)
            refine lv_iinc (v := ((nI i) + 1)) (lv' := [(2, .int ((nI i) + 1)), (0, .ref (sh 272)), (1, .int k)]) hx hb d_M_power_57 hl (k := 0) rfl rfl (by decide) rfl (fun ls hl => ?_)
            refine lv_goto (tgt := 39) hx hb d_M_power_60 (by decide) ?_
            exact ih (i + 1) Va (p1 Pa 274 (upd (Pa 274) i (Pa 273 i))) H locs ls (by omega) (⟨hinv.1, by rw [hinv.2]; exact now_step⟩) hW hS (by rw [← nI_1]; exact lv_sub hl [0, 1, 2] rfl)
      exact loop 81920 0 (rBackV V k) P _ _ ls (by omega) (⟨rfl, by rw [rNow_0, p1_id]⟩) hW hS (lv_sub hl [0, 1, 2] rfl)
    · refine lv_iconst (v := (-1)) hx hb d_M_power_29 (by decide) ?_
      refine lv_goto (tgt := 34) hx hb d_M_power_30 (by decide) ?_
      refine jw_put (ci := 6) (x := (-1)) (ty := .int) (C := "BlockVaultModel") (T := T_M) (N := 15) hx hb hT in_M t_M t_M_ok n_M hown hK hW hS rfl rfl 10 (by decide) rfl (hT _ k331) (fun _ h9 => h9) rfl (by decide +kernel) rfl rfl d_M_power_34 (fun H locs hW hS => ?_)
      refine lv_iconst (v := 0) hx hb d_M_power_37 (by decide) ?_
      refine lv_istore_n (lv' := [(2, .int 0), (0, .ref (sh 272)), (1, .int k)]) hx hb d_M_power_38 rfl hl (by decide) rfl (fun ls hl => ?_)
      have hbv : (v2 (v2 (v2 (v2 V 272 0 0) 272 8 1) 272 9 0) 272 10 (-1)) = rBackV V k := by unfold rBackV rLeft; rw [if_neg c2]; rfl
      rw [hbv] at hW
      have loop : ∀ (n i : Nat) (Va Pa : VV) (H : Heap) (locs : List Loc) (ls : Array Slot), i + n = 81920 → (Va = rBackV V k ∧ Pa = p1 P 274 (rNow P i)) → JW D B cA sh Va Pa H → va_S (hm_A B) s.heap H locs → lv_has ls 3 [(2, .int (nI i)), (0, .ref (sh 272)), (1, .int k)] → W p l e (headSpec w_M_power ({ frames := 2, cells := 0, slots := 0, locals := 60 } : Room)).room s m ([.ref (sh 272), .int k] : List Value).toArray below meth c H locs 0 0 (MQ below (va_Qi (fun (r : Int32) (u : VV × VV) => (r, u.1, u.2) = rPower V P k) (JC D B cA sh) (hm_A B)) ([.ref (sh 272), .int k] : List Value).toArray s 0 0 (hm_A B)) (F0 m 39 ls []) := by
        intro n
        induction n with
        | zero =>
          intro i Va Pa H locs ls hin hinv hW hS hl
          obtain rfl : i = 81920 := by omega
          refine lv_iload_n hx hb d_M_power_39 rfl (lv_at hl 0 rfl) ?_
          refine lv_ldc (v := 81920) hx hb hown (hT _ k320) d_M_power_40 ?_
          refine lv_icmp_ge (tgt := 63) hx hb d_M_power_42 (by decide) (fun c13 => ?_) (fun c13 => ?_)
          · refine lv_iconst (v := 0) hx hb d_M_power_63 (by decide) ?_
            refine lv_istore_n (lv' := [(2, .int 0), (0, .ref (sh 272)), (1, .int k)]) hx hb d_M_power_64 rfl hl (by decide) rfl (fun ls hl => ?_)
            obtain ⟨q1, q2⟩ := hinv
            have loop2 : ∀ (n2 i2 : Nat) (Va2 Pa2 : VV) (H : Heap) (locs : List Loc) (ls : Array Slot), i2 + n2 = 80 → (Va2 = rBackV V k ∧ Pa2 = p1 (p1 (p1 P 274 (rNow P 81920)) 275 (zF (P 275) i2)) 277 (zF (P 277) i2)) → JW D B cA sh Va2 Pa2 H → va_S (hm_A B) s.heap H locs → lv_has ls 3 [(2, .int (nI i2)), (0, .ref (sh 272)), (1, .int k)] → W p l e (headSpec w_M_power ({ frames := 2, cells := 0, slots := 0, locals := 60 } : Room)).room s m ([.ref (sh 272), .int k] : List Value).toArray below meth c H locs 0 0 (MQ below (va_Qi (fun (r : Int32) (u : VV × VV) => (r, u.1, u.2) = rPower V P k) (JC D B cA sh) (hm_A B)) ([.ref (sh 272), .int k] : List Value).toArray s 0 0 (hm_A B)) (F0 m 65 ls []) := by
              intro n2
              induction n2 with
              | zero =>
                intro i2 Va2 Pa2 H locs ls hin2 hinv2 hW hS hl
                obtain rfl : i2 = 80 := by omega
                refine lv_iload_n hx hb d_M_power_65 rfl (lv_at hl 0 rfl) ?_
                refine lv_bipush (v := 80) hx hb d_M_power_66 (by decide) ?_
                refine lv_icmp_ge (tgt := 91) hx hb d_M_power_68 (by decide) (fun c14 => ?_) (fun c14 => ?_)
                · refine lv_aload_n hx hb d_M_power_91 rfl (lv_at hl 1 rfl) ?_
                  refine va_get (D := D) (ci := 6) (v := .int (Va2 272 14)) (C := "BlockVaultModel") (T := T_M) (N := 15) hx hb hT in_M hown hK (hW.obj rfl) 0 rfl rfl 14 (by decide) (hT _ k335) (fun _ h9 => h9) rfl d_M_power_92 ?_
                  refine lv_istore_n (lv' := [(2, .int (Va2 272 14)), (0, .ref (sh 272)), (1, .int k)]) hx hb d_M_power_95 rfl hl (by decide) rfl (fun ls hl => ?_)
                  refine lv_iload_n hx hb d_M_power_96 rfl (lv_at hl 0 rfl) ?_
                  refine lv_if_ge (tgt := 102) hx hb d_M_power_97 (by decide) (fun c15 => ?_) (fun c15 => ?_)
                  · refine lv_aload_n hx hb d_M_power_102 rfl (lv_at hl 1 rfl) ?_
                    refine jw_calli (va_runV (As := []) (rest := []) ⟨hx, hb, hml, hown, hT⟩ (m_M_ended l D B cA sh Va2 Pa2) (cwV 0 hT (gV k388 k390 ks7 k8 kc_M_ended) rfl rfl rfl (by decide +kernel) ⟨Nat.le_of_ble_eq_true rfl, Nat.le_of_ble_eq_true rfl⟩) (jw_preV (q := ("BlockVaultModel", T_M, 15)) hW hK hN rfl rfl) rfl rfl hl.1 rfl (lv_room (Nat.le_of_ble_eq_true rfl)) d_M_power_103 ⟨Nat.le_of_ble_eq_true rfl, Nat.le_of_ble_eq_true rfl⟩) hS (fun r16 V17 P18 H locs hw19 hW hS => ?_)
                    refine lv_if_eq (tgt := 113) hx hb d_M_power_106 (by decide) (fun c20 => ?_) (fun c20 => ?_)
                    · refine lv_iconst (v := (-1)) hx hb d_M_power_113 (by decide) ?_
                      refine W.widen (k := 0) (n := 0) (by omega) (by omega) ?_
                      exact W.iret (v := (-1)) hx hb hr (fun t9 ht9 hwz => ⟨⟨(-1), (V17, P18), rfl, (by exact pw_end c1 hinv2.1 hinv2.2 c15 hw19 (Or.inl ⟨c20, rfl⟩)), by rw [ht9]; exact hW, va_K.moved hwz.alike hK, hN.warm hwz⟩, hS.F ht9⟩) hS.2.2 d_M_power_114
                    · refine lv_iload_n hx hb d_M_power_109 rfl (lv_at hl 0 rfl) ?_
                      refine lv_goto (tgt := 114) hx hb d_M_power_110 (by decide) ?_
                      refine W.widen (k := 0) (n := 0) (by omega) (by omega) ?_
                      exact W.iret (v := (Va2 272 14)) hx hb hr (fun t9 ht9 hwz => ⟨⟨(Va2 272 14), (V17, P18), rfl, (by exact pw_end c1 hinv2.1 hinv2.2 c15 hw19 (Or.inr ⟨c20, rfl⟩)), by rw [ht9]; exact hW, va_K.moved hwz.alike hK, hN.warm hwz⟩, hS.F ht9⟩) hS.2.2 d_M_power_114
                  · refine lv_iconst (v := 0) hx hb d_M_power_100 (by decide) ?_
                    refine W.widen (k := 0) (n := 0) (by omega) (by omega) ?_
                    exact W.iret (v := 0) hx hb hr (fun t9 ht9 hwz => ⟨⟨0, (Va2, Pa2), rfl, (by exact pw_0 c1 hinv2.1 hinv2.2 c15), by rw [ht9]; exact hW, va_K.moved hwz.alike hK, hN.warm hwz⟩, hS.F ht9⟩) hS.2.2 d_M_power_101
                · exact absurd (by decide) c14
              | succ n2 ih2 =>
                intro i2 Va2 Pa2 H locs ls hin2 hinv2 hW hS hl
                have hi2 : i2 < 80 := by omega
                refine lv_iload_n hx hb d_M_power_65 rfl (lv_at hl 0 rfl) ?_
                refine lv_bipush (v := 80) hx hb d_M_power_66 (by decide) ?_
                refine lv_icmp_ge (tgt := 91) hx hb d_M_power_68 (by decide) (fun c21 => ?_) (fun c21 => ?_)
                · exact absurd c21 (nI_ge (b := 80) (by omega) (by omega))
                · refine lv_aload_n hx hb d_M_power_71 rfl (lv_at hl 1 rfl) ?_
                  refine va_get (D := D) (ci := 6) (v := .ref (sh 275)) (C := "BlockVaultModel") (T := T_M) (N := 15) hx hb hT in_M hown hK (hW.obj rfl) 0 rfl rfl 4 (by decide) (hT _ k325) (fun _ h9 => h9) rfl d_M_power_72 ?_
                  refine lv_iload_n hx hb d_M_power_75 rfl (lv_at hl 0 rfl) ?_
                  refine lv_iconst (v := 0) hx hb d_M_power_76 (by decide) ?_
                  refine jw_zastN (t := 275) (i := i2) hx hb hK hW hS rfl rfl (by omega) rfl d_M_power_77 (fun H locs hW hS => ?_)
                  refine lv_aload_n hx hb d_M_power_78 rfl (lv_at hl 1 rfl) ?_
                  refine va_get (D := D) (ci := 6) (v := .ref (sh 277)) (C := "BlockVaultModel") (T := T_M) (N := 15) hx hb hT in_M hown hK (hW.obj rfl) 0 rfl rfl 6 (by decide) (hT _ k327) (fun _ h9 => h9) rfl d_M_power_79 ?_
                  refine lv_iload_n hx hb d_M_power_82 rfl (lv_at hl 0 rfl) ?_
                  refine lv_iconst (v := 0) hx hb d_M_power_83 (by decide) ?_
                  refine jw_iastN (i := i2) hx hb hK hW hS rfl (by omega) d_M_power_84 (fun H locs hW hS => ?_)
                  refine lv_iinc (v := ((nI i2) + 1)) (lv' := [(2, .int ((nI i2) + 1)), (0, .ref (sh 272)), (1, .int k)]) hx hb d_M_power_85 hl (k := 0) rfl rfl (by decide) rfl (fun ls hl => ?_)
                  refine lv_goto (tgt := 65) hx hb d_M_power_88 (by decide) ?_
                  exact ih2 (i2 + 1) Va2 (p1 (p1 Pa2 275 (upd (Pa2 275) i2 0)) 277 (upd ((p1 Pa2 275 (upd (Pa2 275) i2 0)) 277) i2 0)) H locs ls (by omega) (⟨hinv2.1, by rw [hinv2.2]; exact pow_step⟩) hW hS (by rw [← nI_1]; exact lv_sub hl [0, 1, 2] rfl)
            exact loop2 80 0 Va Pa _ _ ls (by omega) (⟨q1, by rw [zF_0, zF_0, q2]; exact pow0⟩) hW hS (lv_sub hl [0, 1, 2] rfl)
          · exact absurd le_81920 c13
        | succ n ih =>
          intro i Va Pa H locs ls hin hinv hW hS hl
          have hi : i < 81920 := by omega
          refine lv_iload_n hx hb d_M_power_39 rfl (lv_at hl 0 rfl) ?_
          refine lv_ldc (v := 81920) hx hb hown (hT _ k320) d_M_power_40 ?_
          refine lv_icmp_ge (tgt := 63) hx hb d_M_power_42 (by decide) (fun c22 => ?_) (fun c22 => ?_)
          · exact absurd c22 (ge_81920 (by omega))
          · refine lv_aload_n hx hb d_M_power_45 rfl (lv_at hl 1 rfl) ?_
            refine va_get (D := D) (ci := 6) (v := .ref (sh 274)) (C := "BlockVaultModel") (T := T_M) (N := 15) hx hb hT in_M hown hK (hW.obj rfl) 0 rfl rfl 3 (by decide) (hT _ k324) (fun _ h9 => h9) rfl d_M_power_46 ?_
            refine lv_iload_n hx hb d_M_power_49 rfl (lv_at hl 0 rfl) ?_
            refine lv_aload_n hx hb d_M_power_50 rfl (lv_at hl 1 rfl) ?_
            refine va_get (D := D) (ci := 6) (v := .ref (sh 273)) (C := "BlockVaultModel") (T := T_M) (N := 15) hx hb hT in_M hown hK (hW.obj rfl) 0 rfl rfl 2 (by decide) (hT _ k323) (fun _ h9 => h9) rfl d_M_power_51 ?_
            refine lv_iload_n hx hb d_M_power_54 rfl (lv_at hl 0 rfl) ?_
            refine jw_bald (t := 273) (i := i) hx hb hK hW rfl rfl (by omega) d_M_power_55 (fun hbf => ?_)
            refine jw_bastN (t := 274) (i := i) hx hb hK hW hS rfl rfl (by omega) hbf d_M_power_56 (fun H locs hW hS => ?_)
            refine lv_iinc (v := ((nI i) + 1)) (lv' := [(2, .int ((nI i) + 1)), (0, .ref (sh 272)), (1, .int k)]) hx hb d_M_power_57 hl (k := 0) rfl rfl (by decide) rfl (fun ls hl => ?_)
            refine lv_goto (tgt := 39) hx hb d_M_power_60 (by decide) ?_
            exact ih (i + 1) Va (p1 Pa 274 (upd (Pa 274) i (Pa 273 i))) H locs ls (by omega) (⟨hinv.1, by rw [hinv.2]; exact now_step⟩) hW hS (by rw [← nI_1]; exact lv_sub hl [0, 1, 2] rfl)
      exact loop 81920 0 (rBackV V k) P _ _ ls (by omega) (⟨rfl, by rw [rNow_0, p1_id]⟩) hW hS (lv_sub hl [0, 1, 2] rfl)
  · refine lv_iconst (v := (-1)) hx hb d_M_power_12 (by decide) ?_
    refine W.widen (k := 0) (n := 0) (by omega) (by omega) ?_
    exact W.iret (v := (-1)) hx hb hr (fun t9 ht9 hwz => ⟨⟨(-1), ((v2 V 272 0 0), P), rfl, (by unfold rPower; rw [if_neg c1]; rfl), by rw [ht9]; exact hW, va_K.moved hwz.alike hK, hN.warm hwz⟩, hS.F ht9⟩) hS.2.2 d_M_power_13

theorem p1_id2 {P : VV} {t : Nat} {f : Nat → Int32} (h : f = P t) : p1 P t f = P := by
  rw [h]
  exact p1_id
theorem fill_step {P : VV} {b k i : Nat} {v : Int32} : p1 (rFillP P b k i v) 274 (upd (rFillP P b k i v 274) (1024 * b + k + i) (v + nI i).toInt8.toInt32) = rFillP P b k (i + 1) v := by
  unfold rFillP
  rw [p1_s, p1_p1, mRun_u]
theorem fill_end {V P V1 P1 : VV} {b k n v : Int32} {xb xk xn : Nat} (hu : (V1, P1) = rLook (v2 V 272 0 0) P xb) (e1 : xb = b.toNatClampNeg) (e2 : xk = k.toNatClampNeg) (e3 : xn = n.toNatClampNeg) (hno : ¬ (V 272 8 = 0 ∨ V 272 9 = 0 ∨ ¬ rIsBlock V b ∨ ¬ mIsRun k n ∨ (P 276 b.toNatClampNeg = 0 ∧ rMany (P 276) = 10))) : (1, V1, rFillP P1 xb xk xn v) = rFill V P b k n v := by
  unfold rFill
  rw [if_neg hno, ← e1, ← e2, ← e3]
  have hu' : (V1, P1) = rLook (r0 V) P xb := hu
  rw [← hu']

set_option maxHeartbeats 4000000 in
set_option maxRecDepth 100000 in
theorem m_M_fill (l : Launch) (D : va_G) (B : Nat) (cA : Nat → ClassId) (sh : Nat → Nat) (V P : VV) (N : Nat) (hN0 : V 272 1 = nI N) (h80 : N ≤ 80) (b k n v : Int32) (hsc : V 272 8 = 0 ∨ ¬ rIsBlock V b ∨ (P 277 b.toNatClampNeg = 0 → (rScan (r0 V) P).1 = 34 → ¬ (rScan (r0 V) P).2 < 0)) : Met l y_M_fill w_M_fill ({ frames := 1, cells := 0, slots := 0, locals := 40 } : Room) (va_Pc [.ref (sh 272), .int b, .int k, .int n, .int v] (JC D B cA sh (V, P))) (va_Qi (fun (r : Int32) (u : VV × VV) => (r, u.1, u.2) = rFill V P b k n v) (JC D B cA sh) (hm_A B)) 0 0 (hm_A B) := by
  refine Met.ofW (cc := c_M_fill) (maxL := 6) (ret := (some FieldType.boolean)) (by decide) rfl ?_
  intro p e s m args below meth c s₁ Bd hml hv
  obtain ⟨rfl, hW, hK, hN⟩ := hv
  have hx := Bd.exec
  have hb := Bd.bytes
  have hr := Bd.returns
  have hts := atoms_spec (ws := w_M_fill) Bd.pre
  have hT : ∀ w ∈ WG, w.before ([.ref (sh 272), .int b, .int k, .int n, .int v] : List Value).toArray s = true := fun w h => hts w (List.mem_cons_of_mem _ h)
  have hown : s.vm.findClass "BlockVaultModel" = some m.cls := findClass_of_methodNamed Bd.named
  have hlocks := Bd.notSynchronized
  have hW : JW D B cA sh V P s.heap := hW
  have hBs : B ≤ s.heap.size := hW.ge
  have hS : va_S (hm_A B) s.heap s.heap [] := va_S.rf
  have hl := lv_entry ([.ref (sh 272), .int b, .int k, .int n, .int v]) (n := 6) (Nat.le_of_ble_eq_true rfl)
  rw [lg_entry_eq]
  generalize (lg_sl ([.ref (sh 272), .int b, .int k, .int n, .int v]) ++ List.replicate (6 - (lg_sl ([.ref (sh 272), .int b, .int k, .int n, .int v])).length) Slot.unset).toArray = ls at hl ⊢
  have hl : lv_has ls 6 [(0, .ref (sh 272)), (1, .int b), (2, .int k), (3, .int n), (4, .int v)] := hl
  refine lv_aload_n hx hb d_M_fill_0 rfl (lv_at hl 0 rfl) ?_
  refine lv_iconst (v := 0) hx hb d_M_fill_1 (by decide) ?_
  refine jw_put (ci := 6) (x := 0) (ty := .int) (C := "BlockVaultModel") (T := T_M) (N := 15) hx hb hT in_M t_M t_M_ok n_M hown hK hW hS rfl rfl 0 (by decide) rfl (hT _ k321) (fun _ h9 => h9) rfl (by decide +kernel) rfl rfl d_M_fill_2 (fun H locs hW hS => ?_)
  refine lv_aload_n hx hb d_M_fill_5 rfl (lv_at hl 0 rfl) ?_
  refine va_get (D := D) (ci := 6) (v := .int (V 272 8)) (C := "BlockVaultModel") (T := T_M) (N := 15) hx hb hT in_M hown hK (hW.obj rfl) 0 rfl rfl 8 (by decide) (hT _ k329) (fun _ h9 => h9) rfl d_M_fill_6 ?_
  refine lv_if_eq (tgt := 73) hx hb d_M_fill_9 (by decide) (fun c1 => ?_) (fun c1 => ?_)
  · refine lv_iconst (v := 0) hx hb d_M_fill_73 (by decide) ?_
    refine W.widen (k := 0) (n := 0) (by omega) (by omega) ?_
    exact W.zret (ty := .boolean) (v := 0) hx hb hr rfl (fun t9 ht9 hwz => ⟨⟨0, ((v2 V 272 0 0), P), rfl, (by unfold rFill; rw [if_pos (Or.inl c1)]; rfl), by rw [ht9]; exact hW, va_K.moved hwz.alike hK, hN.warm hwz⟩, hS.F ht9⟩) hS.2.2 d_M_fill_74
  · refine lv_aload_n hx hb d_M_fill_12 rfl (lv_at hl 0 rfl) ?_
    refine va_get (D := D) (ci := 6) (v := .int (V 272 9)) (C := "BlockVaultModel") (T := T_M) (N := 15) hx hb hT in_M hown hK (hW.obj rfl) 0 rfl rfl 9 (by decide) (hT _ k330) (fun _ h9 => h9) rfl d_M_fill_13 ?_
    refine lv_if_eq (tgt := 73) hx hb d_M_fill_16 (by decide) (fun c2 => ?_) (fun c2 => ?_)
    · refine lv_iconst (v := 0) hx hb d_M_fill_73 (by decide) ?_
      refine W.widen (k := 0) (n := 0) (by omega) (by omega) ?_
      exact W.zret (ty := .boolean) (v := 0) hx hb hr rfl (fun t9 ht9 hwz => ⟨⟨0, ((v2 V 272 0 0), P), rfl, (by unfold rFill; rw [if_pos (Or.inr (Or.inl c2))]; rfl), by rw [ht9]; exact hW, va_K.moved hwz.alike hK, hN.warm hwz⟩, hS.F ht9⟩) hS.2.2 d_M_fill_74
    · refine lv_aload_n hx hb d_M_fill_19 rfl (lv_at hl 0 rfl) ?_
      refine lv_iload_n hx hb d_M_fill_20 rfl (lv_at hl 1 rfl) ?_
      refine jw_calli (va_runV (As := [.int b]) (rest := []) ⟨hx, hb, hml, hown, hT⟩ (m_M_isBlock l D B cA sh (v2 V 272 0 0) P b) (cwV 1 hT (gV k400 k402 ks8 k8 kc_M_isBlock) rfl rfl rfl (by decide +kernel) ⟨Nat.le_of_ble_eq_true rfl, Nat.le_of_ble_eq_true rfl⟩) (jw_preV (q := ("BlockVaultModel", T_M, 15)) hW hK hN rfl rfl) rfl rfl hl.1 rfl (lv_room (Nat.le_of_ble_eq_true rfl)) d_M_fill_21 ⟨Nat.le_of_ble_eq_true rfl, Nat.le_of_ble_eq_true rfl⟩) hS (fun r3 V4 P5 H locs hw6 hW hS => ?_)
      obtain ⟨hr7, rfl, rfl⟩ := t3 hw6
      refine lv_if_eq (tgt := 73) hx hb d_M_fill_24 (by decide) (fun c8 => ?_) (fun c8 => ?_)
      · have hq : ¬ rIsBlock V b := bi_f hr7 c8
        refine lv_iconst (v := 0) hx hb d_M_fill_73 (by decide) ?_
        refine W.widen (k := 0) (n := 0) (by omega) (by omega) ?_
        exact W.zret (ty := .boolean) (v := 0) hx hb hr rfl (fun t9 ht9 hwz => ⟨⟨0, ((v2 V 272 0 0), P), rfl, (by unfold rFill; rw [if_pos (Or.inr (Or.inr (Or.inl hq)))]; rfl), by rw [ht9]; exact hW, va_K.moved hwz.alike hK, hN.warm hwz⟩, hS.F ht9⟩) hS.2.2 d_M_fill_74
      · have hq : rIsBlock V b := bi_t hr7 c8
        refine lv_iload_n hx hb d_M_fill_27 rfl (lv_at hl 3 rfl) ?_
        refine lv_iconst (v := 1) hx hb d_M_fill_28 (by decide) ?_
        refine lv_icmp_lt (tgt := 73) hx hb d_M_fill_29 (by decide) (fun c9 => ?_) (fun c9 => ?_)
        · refine lv_iconst (v := 0) hx hb d_M_fill_73 (by decide) ?_
          refine W.widen (k := 0) (n := 0) (by omega) (by omega) ?_
          exact W.zret (ty := .boolean) (v := 0) hx hb hr rfl (fun t9 ht9 hwz => ⟨⟨0, ((v2 V 272 0 0), P), rfl, (by unfold rFill; rw [if_pos (Or.inr (Or.inr (Or.inr (Or.inl (fun z => z.1 c9)))))]; rfl), by rw [ht9]; exact hW, va_K.moved hwz.alike hK, hN.warm hwz⟩, hS.F ht9⟩) hS.2.2 d_M_fill_74
        · refine lv_iload_n hx hb d_M_fill_32 rfl (lv_at hl 3 rfl) ?_
          refine lv_sipush (v := 1024) hx hb d_M_fill_33 (by decide) ?_
          refine lv_icmp_gt (tgt := 73) hx hb d_M_fill_36 (by decide) (fun c10 => ?_) (fun c10 => ?_)
          · refine lv_iconst (v := 0) hx hb d_M_fill_73 (by decide) ?_
            refine W.widen (k := 0) (n := 0) (by omega) (by omega) ?_
            exact W.zret (ty := .boolean) (v := 0) hx hb hr rfl (fun t9 ht9 hwz => ⟨⟨0, ((v2 V 272 0 0), P), rfl, (by unfold rFill; rw [if_pos (Or.inr (Or.inr (Or.inr (Or.inl (fun z => z.2.1 c10)))))]; rfl), by rw [ht9]; exact hW, va_K.moved hwz.alike hK, hN.warm hwz⟩, hS.F ht9⟩) hS.2.2 d_M_fill_74
          · refine lv_iload_n hx hb d_M_fill_39 rfl (lv_at hl 2 rfl) ?_
            refine lv_if_lt (tgt := 73) hx hb d_M_fill_40 (by decide) (fun c11 => ?_) (fun c11 => ?_)
            · refine lv_iconst (v := 0) hx hb d_M_fill_73 (by decide) ?_
              refine W.widen (k := 0) (n := 0) (by omega) (by omega) ?_
              exact W.zret (ty := .boolean) (v := 0) hx hb hr rfl (fun t9 ht9 hwz => ⟨⟨0, ((v2 V 272 0 0), P), rfl, (by unfold rFill; rw [if_pos (Or.inr (Or.inr (Or.inr (Or.inl (fun z => z.2.2.1 c11)))))]; rfl), by rw [ht9]; exact hW, va_K.moved hwz.alike hK, hN.warm hwz⟩, hS.F ht9⟩) hS.2.2 d_M_fill_74
            · refine lv_iload_n hx hb d_M_fill_43 rfl (lv_at hl 2 rfl) ?_
              refine lv_sipush (v := 1024) hx hb d_M_fill_44 (by decide) ?_
              refine lv_iload_n hx hb d_M_fill_47 rfl (lv_at hl 3 rfl) ?_
              refine lv_isub hx hb d_M_fill_48 ?_
              refine lv_icmp_gt (tgt := 73) hx hb d_M_fill_49 (by decide) (fun c12 => ?_) (fun c12 => ?_)
              · refine lv_iconst (v := 0) hx hb d_M_fill_73 (by decide) ?_
                refine W.widen (k := 0) (n := 0) (by omega) (by omega) ?_
                exact W.zret (ty := .boolean) (v := 0) hx hb hr rfl (fun t9 ht9 hwz => ⟨⟨0, ((v2 V 272 0 0), P), rfl, (by unfold rFill; rw [if_pos (Or.inr (Or.inr (Or.inr (Or.inl (fun z => z.2.2.2 c12)))))]; rfl), by rw [ht9]; exact hW, va_K.moved hwz.alike hK, hN.warm hwz⟩, hS.F ht9⟩) hS.2.2 d_M_fill_74
              · obtain ⟨xb, xbN, rfl⟩ := rIsBlock_n hN0 h80 hq
                have hsc : P 277 xb = 0 → (rScan (v2 V 272 0 0) P).1 = 34 → ¬ (rScan (v2 V 272 0 0) P).2 < 0 := by have q := (hsc.resolve_left c1).resolve_left (fun z => z hq); rw [nI_clamp (by omega)] at q; exact q
                have hrun : mIsRun k n := ⟨c9, c10, c11, c12⟩
                obtain ⟨xk, xn, rfl, rfl, hn1, hkn⟩ := mIsRun_n hrun
                refine lv_aload_n hx hb d_M_fill_52 rfl (lv_at hl 0 rfl) ?_
                refine va_get (D := D) (ci := 6) (v := .ref (sh 276)) (C := "BlockVaultModel") (T := T_M) (N := 15) hx hb hT in_M hown hK (hW.obj rfl) 0 rfl rfl 5 (by decide) (hT _ k326) (fun _ h9 => h9) rfl d_M_fill_53 ?_
                refine lv_iload_n hx hb d_M_fill_56 rfl (lv_at hl 1 rfl) ?_
                refine jw_zald (t := 276) (i := xb) hx hb hK hW rfl rfl (by omega) d_M_fill_57 ?_
                refine lv_if_ne (tgt := 75) hx hb d_M_fill_58 (by decide) (fun c13 => ?_) (fun c13 => ?_)
                · refine lv_aload_n hx hb d_M_fill_75 rfl (lv_at hl 0 rfl) ?_
                  refine lv_iload_n hx hb d_M_fill_76 rfl (lv_at hl 1 rfl) ?_
                  refine jw_callv (va_runV (As := [.int (nI xb)]) (rest := []) ⟨hx, hb, hml, hown, hT⟩ (m_M_look l D B cA sh (v2 V 272 0 0) P N hN0 h80 xb (by omega) hsc) (cwV 1 hT (gV k404 k406 ks9 k8 kc_M_look) rfl rfl rfl (by decide +kernel) ⟨Nat.le_of_ble_eq_true rfl, Nat.le_of_ble_eq_true rfl⟩) (jw_preV (q := ("BlockVaultModel", T_M, 15)) hW hK hN rfl rfl) rfl rfl hl.1 rfl (lv_room (Nat.le_of_ble_eq_true rfl)) d_M_fill_77 ⟨Nat.le_of_ble_eq_true rfl, Nat.le_of_ble_eq_true rfl⟩) hS (fun V15 P16 H locs hw17 hW hS => ?_)
                  have hu1 := hw17
                  have et : ∀ t, t ≠ 277 → P16 t = P t := fun t ht => (congrFun (congrArg Prod.snd hu1) t).trans (rLook_t ht)
                  refine lv_aload_n hx hb d_M_fill_80 rfl (lv_at hl 0 rfl) ?_
                  refine va_get (D := D) (ci := 6) (v := .ref (sh 276)) (C := "BlockVaultModel") (T := T_M) (N := 15) hx hb hT in_M hown hK (hW.obj rfl) 0 rfl rfl 5 (by decide) (hT _ k326) (fun _ h9 => h9) rfl d_M_fill_81 ?_
                  refine lv_iload_n hx hb d_M_fill_84 rfl (lv_at hl 1 rfl) ?_
                  refine lv_iconst (v := 1) hx hb d_M_fill_85 (by decide) ?_
                  refine jw_zastN (t := 276) (i := xb) hx hb hK hW hS rfl rfl (by omega) rfl d_M_fill_86 (fun H locs hW hS => ?_)
                  refine lv_aload_n hx hb d_M_fill_87 rfl (lv_at hl 0 rfl) ?_
                  refine va_get (D := D) (ci := 6) (v := .ref (sh 275)) (C := "BlockVaultModel") (T := T_M) (N := 15) hx hb hT in_M hown hK (hW.obj rfl) 0 rfl rfl 4 (by decide) (hT _ k325) (fun _ h9 => h9) rfl d_M_fill_88 ?_
                  refine lv_iload_n hx hb d_M_fill_91 rfl (lv_at hl 1 rfl) ?_
                  refine lv_iconst (v := 1) hx hb d_M_fill_92 (by decide) ?_
                  refine jw_zastN (t := 275) (i := xb) hx hb hK hW hS rfl rfl (by omega) rfl d_M_fill_93 (fun H locs hW hS => ?_)
                  refine lv_iconst (v := 0) hx hb d_M_fill_94 (by decide) ?_
                  refine lv_istore (lv' := [(5, .int 0), (0, .ref (sh 272)), (1, .int (nI xb)), (2, .int (nI xk)), (3, .int (nI xn)), (4, .int v)]) hx hb d_M_fill_95 hl (by decide) rfl (fun ls hl => ?_)
                  have hPa : (p1 (p1 P16 276 (upd (P16 276) xb 1)) 275 (upd ((p1 P16 276 (upd (P16 276) xb 1)) 275) xb 1)) = rFillP P16 xb xk 0 v := by unfold rFillP; rw [mRun_0, p1_n (show (275 : Nat) ≠ 276 by omega)]; exact (p1_id2 (by rw [p1_n (show (274 : Nat) ≠ 275 by omega), p1_n (show (274 : Nat) ≠ 276 by omega)])).symm
                  have loop : ∀ (n i : Nat) (Va Pa : VV) (H : Heap) (locs : List Loc) (ls : Array Slot), i + n = xn → (Va = V15 ∧ Pa = rFillP P16 xb xk i v) → JW D B cA sh Va Pa H → va_S (hm_A B) s.heap H locs → lv_has ls 6 [(5, .int (nI i)), (0, .ref (sh 272)), (1, .int (nI xb)), (2, .int (nI xk)), (3, .int (nI xn)), (4, .int v)] → W p l e (headSpec w_M_fill ({ frames := 1, cells := 0, slots := 0, locals := 40 } : Room)).room s m ([.ref (sh 272), .int (nI xb), .int (nI xk), .int (nI xn), .int v] : List Value).toArray below meth c H locs 0 0 (MQ below (va_Qi (fun (r : Int32) (u : VV × VV) => (r, u.1, u.2) = rFill V P (nI xb) (nI xk) (nI xn) v) (JC D B cA sh) (hm_A B)) ([.ref (sh 272), .int (nI xb), .int (nI xk), .int (nI xn), .int v] : List Value).toArray s 0 0 (hm_A B)) (F0 m 97 ls []) := by
                    intro n
                    induction n with
                    | zero =>
                      intro i Va Pa H locs ls hin hinv hW hS hl
                      obtain rfl : xn = i := by omega
                      refine lv_iload hx hb d_M_fill_97 (lv_at hl 0 rfl) ?_
                      refine lv_iload_n hx hb d_M_fill_99 rfl (lv_at hl 4 rfl) ?_
                      refine lv_icmp_ge (tgt := 130) hx hb d_M_fill_100 (by decide) (fun c18 => ?_) (fun c18 => ?_)
                      · refine lv_iconst (v := 1) hx hb d_M_fill_130 (by decide) ?_
                        refine W.widen (k := 0) (n := 0) (by omega) (by omega) ?_
                        exact W.zret (ty := .boolean) (v := 1) hx hb hr rfl (fun t9 ht9 hwz => ⟨⟨1, (Va, Pa), rfl, (by rw [hinv.1, hinv.2]; exact fill_end hu1 (by rw [nI_clamp (by omega)]) (by rw [nI_clamp (by omega)]) (by rw [nI_clamp (by omega)]) (fun q => by rcases q with q | q | q | q | q; exact c1 q; exact c2 q; exact q hq; exact q hrun; rw [nI_clamp (by omega)] at q; exact c13 q.1)), by rw [ht9]; exact hW, va_K.moved hwz.alike hK, hN.warm hwz⟩, hS.F ht9⟩) hS.2.2 d_M_fill_131
                      · exact absurd (Int32.le_refl _) c18
                    | succ n ih =>
                      intro i Va Pa H locs ls hin hinv hW hS hl
                      have hi : i < xn := by omega
                      refine lv_iload hx hb d_M_fill_97 (lv_at hl 0 rfl) ?_
                      refine lv_iload_n hx hb d_M_fill_99 rfl (lv_at hl 4 rfl) ?_
                      refine lv_icmp_ge (tgt := 130) hx hb d_M_fill_100 (by decide) (fun c19 => ?_) (fun c19 => ?_)
                      · exact absurd c19 (nI_ge (by omega) (by omega))
                      · refine lv_aload_n hx hb d_M_fill_103 rfl (lv_at hl 1 rfl) ?_
                        refine va_get (D := D) (ci := 6) (v := .ref (sh 274)) (C := "BlockVaultModel") (T := T_M) (N := 15) hx hb hT in_M hown hK (hW.obj rfl) 0 rfl rfl 3 (by decide) (hT _ k324) (fun _ h9 => h9) rfl d_M_fill_104 ?_
                        refine lv_sipush (v := 1024) hx hb d_M_fill_107 (by decide) ?_
                        refine lv_iload_n hx hb d_M_fill_110 rfl (lv_at hl 2 rfl) ?_
                        refine lv_imul hx hb d_M_fill_111 ?_
                        refine lv_iload_n hx hb d_M_fill_112 rfl (lv_at hl 3 rfl) ?_
                        refine lv_iadd hx hb d_M_fill_113 ?_
                        refine lv_iload hx hb d_M_fill_114 (lv_at hl 0 rfl) ?_
                        refine lv_iadd hx hb d_M_fill_116 ?_
                        refine lv_iload hx hb d_M_fill_117 (lv_at hl 5 rfl) ?_
                        refine lv_iload hx hb d_M_fill_119 (lv_at hl 0 rfl) ?_
                        refine lv_iadd hx hb d_M_fill_121 ?_
                        refine lv_i2b (v := (v + (nI i)).toInt8.toInt32) hx hb d_M_fill_122 rfl ?_
                        refine jw_bastN (t := 274) (i := (1024 * xb + xk + i)) hx hb hK hW hS rfl (by rw [ix_k, nI_add]) (by omega) (bb_8 _) d_M_fill_123 (fun H locs hW hS => ?_)
                        refine lv_iinc (v := ((nI i) + 1)) (lv' := [(5, .int ((nI i) + 1)), (0, .ref (sh 272)), (1, .int (nI xb)), (2, .int (nI xk)), (3, .int (nI xn)), (4, .int v)]) hx hb d_M_fill_124 hl (k := 0) rfl rfl (by decide) rfl (fun ls hl => ?_)
                        refine lv_goto (tgt := 97) hx hb d_M_fill_127 (by decide) ?_
                        exact ih (i + 1) Va (p1 Pa 274 (upd (Pa 274) (1024 * xb + xk + i) ((v + (nI i)).toInt8.toInt32))) H locs ls (by omega) (⟨hinv.1, by rw [hinv.2]; exact fill_step⟩) hW hS (by rw [← nI_1]; exact lv_sub hl [0, 1, 2, 3, 4, 5] rfl)
                  exact loop xn 0 V15 (p1 (p1 P16 276 (upd (P16 276) xb 1)) 275 (upd ((p1 P16 276 (upd (P16 276) xb 1)) 275) xb 1)) _ _ ls (by omega) (⟨rfl, hPa⟩) hW hS (lv_sub hl [0, 1, 2, 3, 4, 5] rfl)
                · refine lv_aload_n hx hb d_M_fill_61 rfl (lv_at hl 0 rfl) ?_
                  refine va_get (D := D) (ci := 6) (v := .ref (sh 276)) (C := "BlockVaultModel") (T := T_M) (N := 15) hx hb hT in_M hown hK (hW.obj rfl) 0 rfl rfl 5 (by decide) (hT _ k326) (fun _ h9 => h9) rfl d_M_fill_62 ?_
                  refine jw_calli (va_runS (As := [.ref (sh 276)]) (rest := []) ⟨hx, hb, hml, hown, hT⟩ (m_M_many l D B cA sh (v2 V 272 0 0) P 276 rfl) (va_cwS 1 hT (gS k377 k378 k8 kc_M_many) rfl rfl rfl (by decide +kernel) ⟨Nat.le_of_ble_eq_true rfl, Nat.le_of_ble_eq_true rfl⟩) (jw_preS hW hK hN) rfl rfl hl.1 rfl (lv_room (Nat.le_of_ble_eq_true rfl)) d_M_fill_65 ⟨Nat.le_of_ble_eq_true rfl, Nat.le_of_ble_eq_true rfl⟩) hS (fun r20 V21 P22 H locs hw23 hW hS => ?_)
                  obtain ⟨rfl, rfl, rfl⟩ := t3 hw23
                  refine lv_bipush (v := 10) hx hb d_M_fill_68 (by decide) ?_
                  refine lv_icmp_ne (tgt := 75) hx hb d_M_fill_70 (by decide) (fun c24 => ?_) (fun c24 => ?_)
                  · refine lv_aload_n hx hb d_M_fill_75 rfl (lv_at hl 0 rfl) ?_
                    refine lv_iload_n hx hb d_M_fill_76 rfl (lv_at hl 1 rfl) ?_
                    refine jw_callv (va_runV (As := [.int (nI xb)]) (rest := []) ⟨hx, hb, hml, hown, hT⟩ (m_M_look l D B cA sh (v2 V 272 0 0) P N hN0 h80 xb (by omega) hsc) (cwV 1 hT (gV k404 k406 ks9 k8 kc_M_look) rfl rfl rfl (by decide +kernel) ⟨Nat.le_of_ble_eq_true rfl, Nat.le_of_ble_eq_true rfl⟩) (jw_preV (q := ("BlockVaultModel", T_M, 15)) hW hK hN rfl rfl) rfl rfl hl.1 rfl (lv_room (Nat.le_of_ble_eq_true rfl)) d_M_fill_77 ⟨Nat.le_of_ble_eq_true rfl, Nat.le_of_ble_eq_true rfl⟩) hS (fun V26 P27 H locs hw28 hW hS => ?_)
                    have hu1 := hw28
                    have et : ∀ t, t ≠ 277 → P27 t = P t := fun t ht => (congrFun (congrArg Prod.snd hu1) t).trans (rLook_t ht)
                    refine lv_aload_n hx hb d_M_fill_80 rfl (lv_at hl 0 rfl) ?_
                    refine va_get (D := D) (ci := 6) (v := .ref (sh 276)) (C := "BlockVaultModel") (T := T_M) (N := 15) hx hb hT in_M hown hK (hW.obj rfl) 0 rfl rfl 5 (by decide) (hT _ k326) (fun _ h9 => h9) rfl d_M_fill_81 ?_
                    refine lv_iload_n hx hb d_M_fill_84 rfl (lv_at hl 1 rfl) ?_
                    refine lv_iconst (v := 1) hx hb d_M_fill_85 (by decide) ?_
                    refine jw_zastN (t := 276) (i := xb) hx hb hK hW hS rfl rfl (by omega) rfl d_M_fill_86 (fun H locs hW hS => ?_)
                    refine lv_aload_n hx hb d_M_fill_87 rfl (lv_at hl 0 rfl) ?_
                    refine va_get (D := D) (ci := 6) (v := .ref (sh 275)) (C := "BlockVaultModel") (T := T_M) (N := 15) hx hb hT in_M hown hK (hW.obj rfl) 0 rfl rfl 4 (by decide) (hT _ k325) (fun _ h9 => h9) rfl d_M_fill_88 ?_
                    refine lv_iload_n hx hb d_M_fill_91 rfl (lv_at hl 1 rfl) ?_
                    refine lv_iconst (v := 1) hx hb d_M_fill_92 (by decide) ?_
                    refine jw_zastN (t := 275) (i := xb) hx hb hK hW hS rfl rfl (by omega) rfl d_M_fill_93 (fun H locs hW hS => ?_)
                    refine lv_iconst (v := 0) hx hb d_M_fill_94 (by decide) ?_
                    refine lv_istore (lv' := [(5, .int 0), (0, .ref (sh 272)), (1, .int (nI xb)), (2, .int (nI xk)), (3, .int (nI xn)), (4, .int v)]) hx hb d_M_fill_95 hl (by decide) rfl (fun ls hl => ?_)
                    have hPa : (p1 (p1 P27 276 (upd (P27 276) xb 1)) 275 (upd ((p1 P27 276 (upd (P27 276) xb 1)) 275) xb 1)) = rFillP P27 xb xk 0 v := by unfold rFillP; rw [mRun_0, p1_n (show (275 : Nat) ≠ 276 by omega)]; exact (p1_id2 (by rw [p1_n (show (274 : Nat) ≠ 275 by omega), p1_n (show (274 : Nat) ≠ 276 by omega)])).symm
                    have loop : ∀ (n i : Nat) (Va Pa : VV) (H : Heap) (locs : List Loc) (ls : Array Slot), i + n = xn → (Va = V26 ∧ Pa = rFillP P27 xb xk i v) → JW D B cA sh Va Pa H → va_S (hm_A B) s.heap H locs → lv_has ls 6 [(5, .int (nI i)), (0, .ref (sh 272)), (1, .int (nI xb)), (2, .int (nI xk)), (3, .int (nI xn)), (4, .int v)] → W p l e (headSpec w_M_fill ({ frames := 1, cells := 0, slots := 0, locals := 40 } : Room)).room s m ([.ref (sh 272), .int (nI xb), .int (nI xk), .int (nI xn), .int v] : List Value).toArray below meth c H locs 0 0 (MQ below (va_Qi (fun (r : Int32) (u : VV × VV) => (r, u.1, u.2) = rFill V P (nI xb) (nI xk) (nI xn) v) (JC D B cA sh) (hm_A B)) ([.ref (sh 272), .int (nI xb), .int (nI xk), .int (nI xn), .int v] : List Value).toArray s 0 0 (hm_A B)) (F0 m 97 ls []) := by
                      intro n
                      induction n with
                      | zero =>
                        intro i Va Pa H locs ls hin hinv hW hS hl
                        obtain rfl : xn = i := by omega
                        refine lv_iload hx hb d_M_fill_97 (lv_at hl 0 rfl) ?_
                        refine lv_iload_n hx hb d_M_fill_99 rfl (lv_at hl 4 rfl) ?_
                        refine lv_icmp_ge (tgt := 130) hx hb d_M_fill_100 (by decide) (fun c29 => ?_) (fun c29 => ?_)
                        · refine lv_iconst (v := 1) hx hb d_M_fill_130 (by decide) ?_
                          refine W.widen (k := 0) (n := 0) (by omega) (by omega) ?_
                          exact W.zret (ty := .boolean) (v := 1) hx hb hr rfl (fun t9 ht9 hwz => ⟨⟨1, (Va, Pa), rfl, (by rw [hinv.1, hinv.2]; exact fill_end hu1 (by rw [nI_clamp (by omega)]) (by rw [nI_clamp (by omega)]) (by rw [nI_clamp (by omega)]) (fun q => by rcases q with q | q | q | q | q; exact c1 q; exact c2 q; exact q hq; exact q hrun; rw [nI_clamp (by omega)] at q; exact c24 q.2)), by rw [ht9]; exact hW, va_K.moved hwz.alike hK, hN.warm hwz⟩, hS.F ht9⟩) hS.2.2 d_M_fill_131
                        · exact absurd (Int32.le_refl _) c29
                      | succ n ih =>
                        intro i Va Pa H locs ls hin hinv hW hS hl
                        have hi : i < xn := by omega
                        refine lv_iload hx hb d_M_fill_97 (lv_at hl 0 rfl) ?_
                        refine lv_iload_n hx hb d_M_fill_99 rfl (lv_at hl 4 rfl) ?_
                        refine lv_icmp_ge (tgt := 130) hx hb d_M_fill_100 (by decide) (fun c30 => ?_) (fun c30 => ?_)
                        · exact absurd c30 (nI_ge (by omega) (by omega))
                        · refine lv_aload_n hx hb d_M_fill_103 rfl (lv_at hl 1 rfl) ?_
                          refine va_get (D := D) (ci := 6) (v := .ref (sh 274)) (C := "BlockVaultModel") (T := T_M) (N := 15) hx hb hT in_M hown hK (hW.obj rfl) 0 rfl rfl 3 (by decide) (hT _ k324) (fun _ h9 => h9) rfl d_M_fill_104 ?_
                          refine lv_sipush (v := 1024) hx hb d_M_fill_107 (by decide) ?_
                          refine lv_iload_n hx hb d_M_fill_110 rfl (lv_at hl 2 rfl) ?_
                          refine lv_imul hx hb d_M_fill_111 ?_
                          refine lv_iload_n hx hb d_M_fill_112 rfl (lv_at hl 3 rfl) ?_
                          refine lv_iadd hx hb d_M_fill_113 ?_
                          refine lv_iload hx hb d_M_fill_114 (lv_at hl 0 rfl) ?_
                          refine lv_iadd hx hb d_M_fill_116 ?_
                          refine lv_iload hx hb d_M_fill_117 (lv_at hl 5 rfl) ?_
                          refine lv_iload hx hb d_M_fill_119 (lv_at hl 0 rfl) ?_
                          refine lv_iadd hx hb d_M_fill_121 ?_
                          refine lv_i2b (v := (v + (nI i)).toInt8.toInt32) hx hb d_M_fill_122 rfl ?_
                          refine jw_bastN (t := 274) (i := (1024 * xb + xk + i)) hx hb hK hW hS rfl (by rw [ix_k, nI_add]) (by omega) (bb_8 _) d_M_fill_123 (fun H locs hW hS => ?_)
                          refine lv_iinc (v := ((nI i) + 1)) (lv' := [(5, .int ((nI i) + 1)), (0, .ref (sh 272)), (1, .int (nI xb)), (2, .int (nI xk)), (3, .int (nI xn)), (4, .int v)]) hx hb d_M_fill_124 hl (k := 0) rfl rfl (by decide) rfl (fun ls hl => ?_)
                          refine lv_goto (tgt := 97) hx hb d_M_fill_127 (by decide) ?_
                          exact ih (i + 1) Va (p1 Pa 274 (upd (Pa 274) (1024 * xb + xk + i) ((v + (nI i)).toInt8.toInt32))) H locs ls (by omega) (⟨hinv.1, by rw [hinv.2]; exact fill_step⟩) hW hS (by rw [← nI_1]; exact lv_sub hl [0, 1, 2, 3, 4, 5] rfl)
                    exact loop xn 0 V26 (p1 (p1 P27 276 (upd (P27 276) xb 1)) 275 (upd ((p1 P27 276 (upd (P27 276) xb 1)) 275) xb 1)) _ _ ls (by omega) (⟨rfl, hPa⟩) hW hS (lv_sub hl [0, 1, 2, 3, 4, 5] rfl)
                  · refine lv_iconst (v := 0) hx hb d_M_fill_73 (by decide) ?_
                    refine W.widen (k := 0) (n := 0) (by omega) (by omega) ?_
                    exact W.zret (ty := .boolean) (v := 0) hx hb hr rfl (fun t9 ht9 hwz => ⟨⟨0, ((v2 V 272 0 0), P), rfl, (by unfold rFill; rw [if_pos (Or.inr (Or.inr (Or.inr (Or.inr ⟨by rw [nI_clamp (by omega)]; exact c13, c24⟩))))]; rfl), by rw [ht9]; exact hW, va_K.moved hwz.alike hK, hN.warm hwz⟩, hS.F ht9⟩) hS.2.2 d_M_fill_74
