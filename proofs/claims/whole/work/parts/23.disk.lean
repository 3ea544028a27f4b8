theorem ge0 {b : Int32} (h1 : ¬ b < 0) (h2 : b < 80) : ∃ x, x < 80 ∧ b = nI x ∧ b.toNatClampNeg = x := by
  obtain ⟨x, x1, x2⟩ := nI_of h1
  subst x2
  exact ⟨x, (nI_ltI (b := 80) x1 (by omega)).mp h2, rfl, nI_clamp x1⟩

set_option maxHeartbeats 4000000 in
set_option maxRecDepth 100000 in
theorem m_D_read (l : Launch) (D : va_G) (B : Nat) (cA : Nat → ClassId) (sh : Nat → Nat) (V P : VV) (b : Int32) (t : Nat) (ht : t < 116) (ht2 : 80 ≤ t) : Met l y_D_read w_D_read ({ frames := 3, cells := 1, slots := 1024, locals := 81 } : Room) (va_Pc [.ref (sh 267), .int b, .ref (sh t)] (JC D B cA sh (V, P))) (va_Qv (fun (u : VV × VV) => u = (V, mRead P b t)) (JC D B cA sh) (hm_A B)) 1 1024 (hm_A B) := by
  refine Met.ofW (cc := c_D_read) (maxL := 3) (ret := none) (by decide) rfl ?_
  intro p e s m args below meth c s₁ Bd hml hv
  obtain ⟨rfl, hW, hK, hN⟩ := hv
  have hx := Bd.exec
  have hb := Bd.bytes
  have hr := Bd.returns
  have hts := atoms_spec (ws := w_D_read) Bd.pre
  have hT : ∀ w ∈ WG, w.before ([.ref (sh 267), .int b, .ref (sh t)] : List Value).toArray s = true := fun w h => hts w (List.mem_cons_of_mem _ h)
  have hown : s.vm.findClass "BlockVault$Disk" = some m.cls := findClass_of_methodNamed Bd.named
  have hlocks := Bd.notSynchronized
  have hW : JW D B cA sh V P s.heap := hW
  have hBs : B ≤ s.heap.size := hW.ge
  have hS : va_S (hm_A B) s.heap s.heap [] := va_S.rf
  have hl := lv_entry ([.ref (sh 267), .int b, .ref (sh t)]) (n := 3) (Nat.le_of_ble_eq_true rfl)
  rw [lg_entry_eq]
  generalize (lg_sl ([.ref (sh 267), .int b, .ref (sh t)]) ++ List.replicate (3 - (lg_sl ([.ref (sh 267), .int b, .ref (sh t)])).length) Slot.unset).toArray = ls at hl ⊢
  have hl : lv_has ls 3 [(0, .ref (sh 267)), (1, .int b), (2, .ref (sh t))] := hl
  refine lv_iload_n hx hb d_D_read_0 rfl (lv_at hl 1 rfl) ?_
  refine lv_if_lt (tgt := 23) hx hb d_D_read_1 (by decide) (fun c1 => ?_) (fun c1 => ?_)
  · refine W.widen (k := 1) (n := 1024) (by omega) (by omega) ?_
    exact W.vret hx hb hr (fun t9 ht9 hwz => ⟨⟨(V, P), rfl, (by unfold mRead; rw [if_pos (Or.inl c1)]), by rw [ht9]; exact hW, va_K.moved hwz.alike hK, hN.warm hwz⟩, hS.F ht9⟩) hS.2.2 d_D_read_23
  · refine lv_iload_n hx hb d_D_read_4 rfl (lv_at hl 1 rfl) ?_
    refine lv_aload_n hx hb d_D_read_5 rfl (lv_at hl 0 rfl) ?_
    refine va_get (D := D) (ci := 1) (v := .ref (sh 270)) (C := "BlockVault$Disk") (T := T_D) (N := 4) hx hb hT in_D hown hK (hW.obj rfl) 0 rfl rfl 0 (by decide) (hT _ k42) (fun _ h9 => h9) rfl d_D_read_6 ?_
    refine jw_alenP hx hb hK hW d_D_read_9 ?_
    refine lv_icmp_ge (tgt := 23) hx hb d_D_read_10 (by decide) (fun c2 => ?_) (fun c2 => ?_)
    · refine W.widen (k := 1) (n := 1024) (by omega) (by omega) ?_
      exact W.vret hx hb hr (fun t9 ht9 hwz => ⟨⟨(V, P), rfl, (by unfold mRead; rw [if_pos (Or.inr c2)]), by rw [ht9]; exact hW, va_K.moved hwz.alike hK, hN.warm hwz⟩, hS.F ht9⟩) hS.2.2 d_D_read_23
    · obtain ⟨x, x1, ex, ec⟩ := ge0 c1 (Int32.not_le.mp c2)
      refine lv_aload_n hx hb d_D_read_13 rfl (lv_at hl 2 rfl) ?_
      refine lv_aload_n hx hb d_D_read_14 rfl (lv_at hl 0 rfl) ?_
      refine va_get (D := D) (ci := 1) (v := .ref (sh 270)) (C := "BlockVault$Disk") (T := T_D) (N := 4) hx hb hT in_D hown hK (hW.obj rfl) 0 rfl rfl 0 (by decide) (hT _ k42) (fun _ h9 => h9) rfl d_D_read_15 ?_
      refine lv_iload_n hx hb d_D_read_18 rfl (lv_at hl 1 rfl) ?_
      refine jw_aldP (i := x) hx hb hK hW ex (by omega) d_D_read_19 ?_
      refine jw_callv (va_runV (As := [.ref (sh x)]) (rest := []) ⟨hx, hb, hml, hown, hT⟩ (m_P_copyFrom l D B cA sh V P t x ht (by omega) (by omega)) (cwV 1 hT (gV k185 k186 k187 k4 kc_P_copyFrom) rfl rfl rfl (by decide +kernel) ⟨Nat.le_of_ble_eq_true rfl, Nat.le_of_ble_eq_true rfl⟩) (jw_preP (q := ("BlockVault$Page", T_P, 1)) hW hK hN (by omega) rfl) rfl rfl hl.1 rfl (lv_room (Nat.le_of_ble_eq_true rfl)) d_D_read_20 ⟨Nat.le_of_ble_eq_true rfl, Nat.le_of_ble_eq_true rfl⟩) hS (fun V4 P5 H locs hw6 hW hS => ?_)
      cases hw6
      refine W.widen (k := 1) (n := 1024) (by omega) (by omega) ?_
      exact W.vret hx hb hr (fun t9 ht9 hwz => ⟨⟨(V, (p1 P t (P x))), rfl, (by unfold mRead; rw [if_neg (fun q => q.elim c1 (fun z => c2 z)), ec]), by rw [ht9]; exact hW, va_K.moved hwz.alike hK, hN.warm hwz⟩, hS.F ht9⟩) hS.2.2 d_D_read_23

set_option maxHeartbeats 4000000 in
set_option maxRecDepth 100000 in
theorem m_D_write (l : Launch) (D : va_G) (B : Nat) (cA : Nat → ClassId) (sh : Nat → Nat) (V P : VV) (b : Int32) (t : Nat) (ht : t < 116) (ht2 : 80 ≤ t) : Met l y_D_write w_D_write ({ frames := 3, cells := 1, slots := 1024, locals := 81 } : Room) (va_Pc [.ref (sh 267), .int b, .ref (sh t)] (JC D B cA sh (V, P))) (va_Qi (fun (r : Int32) (u : VV × VV) => (r, u.1, u.2) = mWrite V P b t) (JC D B cA sh) (hm_A B)) 1 1024 (hm_A B) := by
  refine Met.ofW (cc := c_D_write) (maxL := 3) (ret := (some FieldType.boolean)) (by decide) rfl ?_
  intro p e s m args below meth c s₁ Bd hml hv
  obtain ⟨rfl, hW, hK, hN⟩ := hv
  have hx := Bd.exec
  have hb := Bd.bytes
  have hr := Bd.returns
  have hts := atoms_spec (ws := w_D_write) Bd.pre
  have hT : ∀ w ∈ WG, w.before ([.ref (sh 267), .int b, .ref (sh t)] : List Value).toArray s = true := fun w h => hts w (List.mem_cons_of_mem _ h)
  have hown : s.vm.findClass "BlockVault$Disk" = some m.cls := findClass_of_methodNamed Bd.named
  have hlocks := Bd.notSynchronized
  have hW : JW D B cA sh V P s.heap := hW
  have hBs : B ≤ s.heap.size := hW.ge
  have hS : va_S (hm_A B) s.heap s.heap [] := va_S.rf
  have hl := lv_entry ([.ref (sh 267), .int b, .ref (sh t)]) (n := 3) (Nat.le_of_ble_eq_true rfl)
  rw [lg_entry_eq]
  generalize (lg_sl ([.ref (sh 267), .int b, .ref (sh t)]) ++ List.replicate (3 - (lg_sl ([.ref (sh 267), .int b, .ref (sh t)])).length) Slot.unset).toArray = ls at hl ⊢
  have hl : lv_has ls 3 [(0, .ref (sh 267)), (1, .int b), (2, .ref (sh t))] := hl
  refine lv_aload_n hx hb d_D_write_0 rfl (lv_at hl 0 rfl) ?_
  refine va_get (D := D) (ci := 1) (v := .int (V 267 1)) (C := "BlockVault$Disk") (T := T_D) (N := 4) hx hb hT in_D hown hK (hW.obj rfl) 0 rfl rfl 1 (by decide) (hT _ k43) (fun _ h9 => h9) rfl d_D_write_1 ?_
  refine lv_if_eq (tgt := 20) hx hb d_D_write_4 (by decide) (fun c1 => ?_) (fun c1 => ?_)
  · refine lv_iconst (v := 0) hx hb d_D_write_20 (by decide) ?_
    refine W.widen (k := 1) (n := 1024) (by omega) (by omega) ?_
    exact W.zret (ty := .boolean) (v := 0) hx hb hr rfl (fun t9 ht9 hwz => ⟨⟨0, (V, P), rfl, (by unfold mWrite; rw [if_pos (Or.inl c1)]), by rw [ht9]; exact hW, va_K.moved hwz.alike hK, hN.warm hwz⟩, hS.F ht9⟩) hS.2.2 d_D_write_21
  · refine lv_iload_n hx hb d_D_write_7 rfl (lv_at hl 1 rfl) ?_
    refine lv_if_lt (tgt := 20) hx hb d_D_write_8 (by decide) (fun c2 => ?_) (fun c2 => ?_)
    · refine lv_iconst (v := 0) hx hb d_D_write_20 (by decide) ?_
      refine W.widen (k := 1) (n := 1024) (by omega) (by omega) ?_
      exact W.zret (ty := .boolean) (v := 0) hx hb hr rfl (fun t9 ht9 hwz => ⟨⟨0, (V, P), rfl, (by unfold mWrite; rw [if_pos (Or.inr (Or.inl c2))]), by rw [ht9]; exact hW, va_K.moved hwz.alike hK, hN.warm hwz⟩, hS.F ht9⟩) hS.2.2 d_D_write_21
    · refine lv_iload_n hx hb d_D_write_11 rfl (lv_at hl 1 rfl) ?_
      refine lv_aload_n hx hb d_D_write_12 rfl (lv_at hl 0 rfl) ?_
      refine va_get (D := D) (ci := 1) (v := .ref (sh 270)) (C := "BlockVault$Disk") (T := T_D) (N := 4) hx hb hT in_D hown hK (hW.obj rfl) 0 rfl rfl 0 (by decide) (hT _ k42) (fun _ h9 => h9) rfl d_D_write_13 ?_
      refine jw_alenP hx hb hK hW d_D_write_16 ?_
      refine lv_icmp_lt (tgt := 22) hx hb d_D_write_17 (by decide) (fun c3 => ?_) (fun c3 => ?_)
      · obtain ⟨x, x1, ex, ec⟩ := ge0 c2 c3
        refine lv_aload_n hx hb d_D_write_22 rfl (lv_at hl 0 rfl) ?_
        refine va_get (D := D) (ci := 1) (v := .int (V 267 2)) (C := "BlockVault$Disk") (T := T_D) (N := 4) hx hb hT in_D hown hK (hW.obj rfl) 0 rfl rfl 2 (by decide) (hT _ k44) (fun _ h9 => h9) rfl d_D_write_23 ?_
        refine lv_if_ne (tgt := 36) hx hb d_D_write_26 (by decide) (fun c4 => ?_) (fun c4 => ?_)
        · refine lv_aload_n hx hb d_D_write_36 rfl (lv_at hl 0 rfl) ?_
          refine va_get (D := D) (ci := 1) (v := .int (V 267 2)) (C := "BlockVault$Disk") (T := T_D) (N := 4) hx hb hT in_D hown hK (hW.obj rfl) 0 rfl rfl 2 (by decide) (hT _ k44) (fun _ h9 => h9) rfl d_D_write_37 ?_
          refine lv_if_le (tgt := 53) hx hb d_D_write_40 (by decide) (fun c5 => ?_) (fun c5 => ?_)
          · refine lv_aload_n hx hb d_D_write_53 rfl (lv_at hl 0 rfl) ?_
            refine lv_dup hx hb d_D_write_54 rfl ?_
            refine va_get (D := D) (ci := 1) (v := .int (V 267 3)) (C := "BlockVault$Disk") (T := T_D) (N := 4) hx hb hT in_D hown hK (hW.obj rfl) 0 rfl rfl 3 (by decide) (hT _ k45) (fun _ h9 => h9) rfl d_D_write_55 ?_
            refine lv_iconst (v := 1) hx hb d_D_write_58 (by decide) ?_
            refine lv_iadd hx hb d_D_write_59 ?_
            refine jw_put (ci := 1) (x := ((V 267 3) + 1)) (ty := .int) (C := "BlockVault$Disk") (T := T_D) (N := 4) hx hb hT in_D t_D t_D_ok n_D hown hK hW hS rfl rfl 3 (by decide) rfl (hT _ k45) (fun _ h9 => h9) rfl (by decide +kernel) rfl rfl d_D_write_60 (fun H locs hW hS => ?_)
            refine lv_aload_n hx hb d_D_write_63 rfl (lv_at hl 0 rfl) ?_
            refine va_get (D := D) (ci := 1) (v := .ref (sh 270)) (C := "BlockVault$Disk") (T := T_D) (N := 4) hx hb hT in_D hown hK (hW.obj rfl) 0 rfl rfl 0 (by decide) (hT _ k42) (fun _ h9 => h9) rfl d_D_write_64 ?_
            refine lv_iload_n hx hb d_D_write_67 rfl (lv_at hl 1 rfl) ?_
            refine jw_aldP (i := x) hx hb hK hW ex (by omega) d_D_write_68 ?_
            refine lv_aload_n hx hb d_D_write_69 rfl (lv_at hl 2 rfl) ?_
            refine jw_callv (va_runV (As := [.ref (sh t)]) (rest := []) ⟨hx, hb, hml, hown, hT⟩ (m_P_copyFrom l D B cA sh (v2 V 267 3 ((V 267 3) + 1)) P x t (by omega) ht (by omega)) (cwV 1 hT (gV k185 k186 k187 k4 kc_P_copyFrom) rfl rfl rfl (by decide +kernel) ⟨Nat.le_of_ble_eq_true rfl, Nat.le_of_ble_eq_true rfl⟩) (jw_preP (q := ("BlockVault$Page", T_P, 1)) hW hK hN (by omega) rfl) rfl rfl hl.1 rfl (lv_room (Nat.le_of_ble_eq_true rfl)) d_D_write_70 ⟨Nat.le_of_ble_eq_true rfl, Nat.le_of_ble_eq_true rfl⟩) hS (fun V7 P8 H locs hw9 hW hS => ?_)
            cases hw9
            refine lv_iconst (v := 1) hx hb d_D_write_73 (by decide) ?_
            refine W.widen (k := 1) (n := 1024) (by omega) (by omega) ?_
            exact W.zret (ty := .boolean) (v := 1) hx hb hr rfl (fun t9 ht9 hwz => ⟨⟨1, ((v2 V 267 3 ((V 267 3) + 1)), (p1 P x (P t))), rfl, (by unfold mWrite; rw [if_neg (fun q => by rcases q with q | q | q; exact c1 q; exact c2 q; exact q c3), if_neg c4, if_pos c5, ec]), by rw [ht9]; exact hW, va_K.moved hwz.alike hK, hN.warm hwz⟩, hS.F ht9⟩) hS.2.2 d_D_write_74
          · refine lv_aload_n hx hb d_D_write_43 rfl (lv_at hl 0 rfl) ?_
            refine lv_dup hx hb d_D_write_44 rfl ?_
            refine va_get (D := D) (ci := 1) (v := .int (V 267 2)) (C := "BlockVault$Disk") (T := T_D) (N := 4) hx hb hT in_D hown hK (hW.obj rfl) 0 rfl rfl 2 (by decide) (hT _ k44) (fun _ h9 => h9) rfl d_D_write_45 ?_
            refine lv_iconst (v := 1) hx hb d_D_write_48 (by decide) ?_
            refine lv_isub hx hb d_D_write_49 ?_
            refine jw_put (ci := 1) (x := ((V 267 2) - 1)) (ty := .int) (C := "BlockVault$Disk") (T := T_D) (N := 4) hx hb hT in_D t_D t_D_ok n_D hown hK hW hS rfl rfl 2 (by decide) rfl (hT _ k44) (fun _ h9 => h9) rfl (by decide +kernel) rfl rfl d_D_write_50 (fun H locs hW hS => ?_)
            refine lv_aload_n hx hb d_D_write_53 rfl (lv_at hl 0 rfl) ?_
            refine lv_dup hx hb d_D_write_54 rfl ?_
            refine va_get (D := D) (ci := 1) (v := .int ((v2 V 267 2 ((V 267 2) - 1)) 267 3)) (C := "BlockVault$Disk") (T := T_D) (N := 4) hx hb hT in_D hown hK (hW.obj rfl) 0 rfl rfl 3 (by decide) (hT _ k45) (fun _ h9 => h9) rfl d_D_write_55 ?_
            refine lv_iconst (v := 1) hx hb d_D_write_58 (by decide) ?_
            refine lv_iadd hx hb d_D_write_59 ?_
            refine jw_put (ci := 1) (x := (((v2 V 267 2 ((V 267 2) - 1)) 267 3) + 1)) (ty := .int) (C := "BlockVault$Disk") (T := T_D) (N := 4) hx hb hT in_D t_D t_D_ok n_D hown hK hW hS rfl rfl 3 (by decide) rfl (hT _ k45) (fun _ h9 => h9) rfl (by decide +kernel) rfl rfl d_D_write_60 (fun H locs hW hS => ?_)
            refine lv_aload_n hx hb d_D_write_63 rfl (lv_at hl 0 rfl) ?_
            refine va_get (D := D) (ci := 1) (v := .ref (sh 270)) (C := "BlockVault$Disk") (T := T_D) (N := 4) hx hb hT in_D hown hK (hW.obj rfl) 0 rfl rfl 0 (by decide) (hT _ k42) (fun _ h9 => h9) rfl d_D_write_64 ?_
            refine lv_iload_n hx hb d_D_write_67 rfl (lv_at hl 1 rfl) ?_
            refine jw_aldP (i := x) hx hb hK hW ex (by omega) d_D_write_68 ?_
            refine lv_aload_n hx hb d_D_write_69 rfl (lv_at hl 2 rfl) ?_
            refine jw_callv (va_runV (As := [.ref (sh t)]) (rest := []) ⟨hx, hb, hml, hown, hT⟩ (m_P_copyFrom l D B cA sh (v2 (v2 V 267 2 ((V 267 2) - 1)) 267 3 (((v2 V 267 2 ((V 267 2) - 1)) 267 3) + 1)) P x t (by omega) ht (by omega)) (cwV 1 hT (gV k185 k186 k187 k4 kc_P_copyFrom) rfl rfl rfl (by decide +kernel) ⟨Nat.le_of_ble_eq_true rfl, Nat.le_of_ble_eq_true rfl⟩) (jw_preP (q := ("BlockVault$Page", T_P, 1)) hW hK hN (by omega) rfl) rfl rfl hl.1 rfl (lv_room (Nat.le_of_ble_eq_true rfl)) d_D_write_70 ⟨Nat.le_of_ble_eq_true rfl, Nat.le_of_ble_eq_true rfl⟩) hS (fun V11 P12 H locs hw13 hW hS => ?_)
            cases hw13
            refine lv_iconst (v := 1) hx hb d_D_write_73 (by decide) ?_
            refine W.widen (k := 1) (n := 1024) (by omega) (by omega) ?_
            exact W.zret (ty := .boolean) (v := 1) hx hb hr rfl (fun t9 ht9 hwz => ⟨⟨1, ((v2 (v2 V 267 2 ((V 267 2) - 1)) 267 3 (((v2 V 267 2 ((V 267 2) - 1)) 267 3) + 1)), (p1 P x (P t))), rfl, (by unfold mWrite; rw [if_neg (fun q => by rcases q with q | q | q; exact c1 q; exact c2 q; exact q c3), if_neg c4, if_neg c5, ec, v2_k (show 3 ≠ 2 by omega)]), by rw [ht9]; exact hW, va_K.moved hwz.alike hK, hN.warm hwz⟩, hS.F ht9⟩) hS.2.2 d_D_write_74
        · refine lv_aload_n hx hb d_D_write_29 rfl (lv_at hl 0 rfl) ?_
          refine lv_iconst (v := 0) hx hb d_D_write_30 (by decide) ?_
          refine jw_put (ci := 1) (x := 0) (ty := .boolean) (C := "BlockVault$Disk") (T := T_D) (N := 4) hx hb hT in_D t_D t_D_ok n_D hown hK hW hS rfl rfl 1 (by decide) rfl (hT _ k43) (fun _ h9 => h9) rfl (by decide +kernel) rfl rfl d_D_write_31 (fun H locs hW hS => ?_)
          refine lv_iconst (v := 0) hx hb d_D_write_34 (by decide) ?_
          refine W.widen (k := 1) (n := 1024) (by omega) (by omega) ?_
          exact W.zret (ty := .boolean) (v := 0) hx hb hr rfl (fun t9 ht9 hwz => ⟨⟨0, ((v2 V 267 1 0), P), rfl, (by unfold mWrite; rw [if_neg (fun q => by rcases q with q | q | q; exact c1 q; exact c2 q; exact q c3), if_pos c4]), by rw [ht9]; exact hW, va_K.moved hwz.alike hK, hN.warm hwz⟩, hS.F ht9⟩) hS.2.2 d_D_write_35
      · refine lv_iconst (v := 0) hx hb d_D_write_20 (by decide) ?_
        refine W.widen (k := 1) (n := 1024) (by omega) (by omega) ?_
        exact W.zret (ty := .boolean) (v := 0) hx hb hr rfl (fun t9 ht9 hwz => ⟨⟨0, (V, P), rfl, (by unfold mWrite; rw [if_pos (Or.inr (Or.inr c3))]), by rw [ht9]; exact hW, va_K.moved hwz.alike hK, hN.warm hwz⟩, hS.F ht9⟩) hS.2.2 d_D_write_21
