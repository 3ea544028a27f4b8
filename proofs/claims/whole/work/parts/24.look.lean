set_option maxHeartbeats 4000000 in
set_option maxRecDepth 100000 in
theorem m_C_lookAt (l : Launch) (D : va_G) (B : Nat) (cA : Nat → ClassId) (sh : Nat → Nat) (V P : VV) (b : Int32) (h3 : ∀ i, i < 34 → V (232 + i) 3 = 0 ∨ V (232 + i) 3 = 1) : Met l y_C_lookAt w_C_lookAt ({ frames := 4, cells := 1, slots := 1024, locals := 103 } : Room) (va_Pc [.ref (sh 268), .int b, .ref (sh 267)] (JC D B cA sh (V, P))) (va_Qq (fun (r : Option Nat) (u : VV × VV) => r = some (sh (232 + (mLook V P b).1)) ∧ u = (mLook V P b).2) (JC D B cA sh) (hm_A B)) 1 1024 (hm_A B) := by
  refine Met.ofW (cc := c_C_lookAt) (maxL := 4) (ret := (some (FieldType.object "BlockVault$Row"))) (by decide) rfl ?_
  intro p e s m args below meth c s₁ Bd hml hv
  obtain ⟨rfl, hW, hK, hN⟩ := hv
  have hx := Bd.exec
  have hb := Bd.bytes
  have hr := Bd.returns
  have hts := atoms_spec (ws := w_C_lookAt) Bd.pre
  have hT : ∀ w ∈ WG, w.before ([.ref (sh 268), .int b, .ref (sh 267)] : List Value).toArray s = true := fun w h => hts w (List.mem_cons_of_mem _ h)
  have hown : s.vm.findClass "BlockVault$Cache" = some m.cls := findClass_of_methodNamed Bd.named
  have hlocks := Bd.notSynchronized
  have hW : JW D B cA sh V P s.heap := hW
  have hBs : B ≤ s.heap.size := hW.ge
  have hS : va_S (hm_A B) s.heap s.heap [] := va_S.rf
  have hl := lv_entry ([.ref (sh 268), .int b, .ref (sh 267)]) (n := 4) (Nat.le_of_ble_eq_true rfl)
  rw [lg_entry_eq]
  generalize (lg_sl ([.ref (sh 268), .int b, .ref (sh 267)]) ++ List.replicate (4 - (lg_sl ([.ref (sh 268), .int b, .ref (sh 267)])).length) Slot.unset).toArray = ls at hl ⊢
  have hl : lv_has ls 4 [(0, .ref (sh 268)), (1, .int b), (2, .ref (sh 267))] := hl
  refine lv_aload_n hx hb d_C_lookAt_0 rfl (lv_at hl 0 rfl) ?_
  refine lv_iload_n hx hb d_C_lookAt_1 rfl (lv_at hl 1 rfl) ?_
  refine jw_callq (va_runV (As := [.int b]) (rest := []) ⟨hx, hb, hml, hown, hT⟩ (m_C_rowOf l D B cA sh V P b) (cwV 1 hT (gV k241 k242 k243 k5 kc_C_rowOf) rfl rfl rfl (by decide +kernel) ⟨Nat.le_of_ble_eq_true rfl, Nat.le_of_ble_eq_true rfl⟩) (jw_preV (q := ("BlockVault$Cache", T_C, 3)) hW hK hN rfl rfl) rfl rfl hl.1 rfl (lv_room (Nat.le_of_ble_eq_true rfl)) d_C_lookAt_2 ⟨Nat.le_of_ble_eq_true rfl, Nat.le_of_ble_eq_true rfl⟩) hS (fun r1 V2 P3 H locs hw4 hW hS => ?_)
  obtain ⟨hr0, hu0⟩ := hw4
  cases hu0
  cases hrow : mRow V b with
  | none =>
    rw [hrow] at hr0
    obtain rfl : r1 = none := hr0
    have hg := mGive_lt V
    refine lv_astore_nN (lv' := [(3, .null), (0, .ref (sh 268)), (1, .int b), (2, .ref (sh 267))]) hx hb d_C_lookAt_5 rfl hl (by decide) rfl (fun ls hl => ?_)
    refine lv_aload_nN hx hb d_C_lookAt_6 rfl (lv_at hl 0 rfl) ?_
    refine lv_ifnonnullN hx hb d_C_lookAt_7 ?_
    refine lv_aload_n hx hb d_C_lookAt_10 rfl (lv_at hl 1 rfl) ?_
    refine jw_callq (va_runV (As := []) (rest := []) ⟨hx, hb, hml, hown, hT⟩ (m_C_rowToGive l D B cA sh V P h3) (cwV 0 hT (gV k245 k247 ks3 k5 kc_C_rowToGive) rfl rfl rfl (by decide +kernel) ⟨Nat.le_of_ble_eq_true rfl, Nat.le_of_ble_eq_true rfl⟩) (jw_preV (q := ("BlockVault$Cache", T_C, 3)) hW hK hN rfl rfl) rfl rfl hl.1 rfl (lv_room (Nat.le_of_ble_eq_true rfl)) d_C_lookAt_11 ⟨Nat.le_of_ble_eq_true rfl, Nat.le_of_ble_eq_true rfl⟩) hS (fun r5 V6 P7 H locs hw8 hW hS => ?_)
    obtain ⟨rfl, hu1⟩ := hw8
    cases hu1
    refine lv_astore_n (lv' := [(3, .ref (sh (232 + mGive V))), (0, .ref (sh 268)), (1, .int b), (2, .ref (sh 267))]) hx hb d_C_lookAt_14 rfl hl (by decide) rfl (fun ls hl => ?_)
    refine lv_aload_n hx hb d_C_lookAt_15 rfl (lv_at hl 0 rfl) ?_
    refine lv_iload_n hx hb d_C_lookAt_16 rfl (lv_at hl 2 rfl) ?_
    refine jw_putN (ci := 4) (x := b) (ty := .int) (C := "BlockVault$Row") (T := T_R) (N := 5) hx hb hT in_R t_R t_R_ok n_R hown hK hW hS (lay_row hg) rfl 1 (by decide) rfl (nf3 hN) (fun _ h9 => h9) rfl (by decide +kernel) rfl rfl d_C_lookAt_17 (fun H locs hW hS => ?_)
    refine lv_aload_n hx hb d_C_lookAt_20 rfl (lv_at hl 3 rfl) ?_
    refine lv_iload_n hx hb d_C_lookAt_21 rfl (lv_at hl 2 rfl) ?_
    refine lv_aload_n hx hb d_C_lookAt_22 rfl (lv_at hl 0 rfl) ?_
    refine va_getN (D := D) (ci := 4) (v := .ref (sh (80 + mGive V))) (C := "BlockVault$Row") (T := T_R) (N := 5) hx hb hT in_R hown hK (hW.obj (lay_row hg)) 0 rfl rfl 0 (by decide) (nf0 hN) (fun _ h9 => h9) rfl d_C_lookAt_23 ?_
    refine jw_callv (va_runV (As := [.int b, .ref (sh (80 + mGive V))]) (rest := []) ⟨hx, hb, hml, hown, hT⟩ (m_D_read l D B cA sh (v2 V (232 + mGive V) 1 b) P b (80 + mGive V) (by omega) (by omega)) (cwV 2 hT (gV k253 k204 k205 k3 kc_D_read) rfl rfl rfl (by decide +kernel) ⟨Nat.le_of_ble_eq_true rfl, Nat.le_of_ble_eq_true rfl⟩) (jw_preV (q := ("BlockVault$Disk", T_D, 4)) hW hK hN rfl rfl) rfl rfl hl.1 rfl (lv_room (Nat.le_of_ble_eq_true rfl)) d_C_lookAt_26 ⟨Nat.le_of_ble_eq_true rfl, Nat.le_of_ble_eq_true rfl⟩) hS (fun V10 P11 H locs hw12 hW hS => ?_)
    cases hw12
    refine lv_aload_n hx hb d_C_lookAt_29 rfl (lv_at hl 1 rfl) ?_
    refine lv_dup hx hb d_C_lookAt_30 rfl ?_
    refine va_get (D := D) (ci := 0) (v := .int ((v2 V (232 + mGive V) 1 b) 268 2)) (C := "BlockVault$Cache") (T := T_C) (N := 3) hx hb hT in_C hown hK (hW.obj rfl) 0 rfl rfl 2 (by decide) (hT _ k100) (fun _ h9 => h9) rfl d_C_lookAt_31 ?_
    refine lv_iconst (v := 1) hx hb d_C_lookAt_34 (by decide) ?_
    refine lv_iadd hx hb d_C_lookAt_35 ?_
    refine jw_put (ci := 0) (x := (((v2 V (232 + mGive V) 1 b) 268 2) + 1)) (ty := .int) (C := "BlockVault$Cache") (T := T_C) (N := 3) hx hb hT in_C t_C t_C_ok n_C hown hK hW hS rfl rfl 2 (by decide) rfl (hT _ k100) (fun _ h9 => h9) rfl (by decide +kernel) rfl rfl d_C_lookAt_36 (fun H locs hW hS => ?_)
    refine lv_aload_n hx hb d_C_lookAt_39 rfl (lv_at hl 1 rfl) ?_
    refine lv_dup hx hb d_C_lookAt_40 rfl ?_
    refine va_get (D := D) (ci := 0) (v := .int ((v2 (v2 V (232 + mGive V) 1 b) 268 2 (((v2 V (232 + mGive V) 1 b) 268 2) + 1)) 268 1)) (C := "BlockVault$Cache") (T := T_C) (N := 3) hx hb hT in_C hown hK (hW.obj rfl) 0 rfl rfl 1 (by decide) (hT _ k99) (fun _ h9 => h9) rfl d_C_lookAt_41 ?_
    refine lv_iconst (v := 1) hx hb d_C_lookAt_44 (by decide) ?_
    refine lv_iadd hx hb d_C_lookAt_45 ?_
    refine jw_put (ci := 0) (x := (((v2 (v2 V (232 + mGive V) 1 b) 268 2 (((v2 V (232 + mGive V) 1 b) 268 2) + 1)) 268 1) + 1)) (ty := .int) (C := "BlockVault$Cache") (T := T_C) (N := 3) hx hb hT in_C t_C t_C_ok n_C hown hK hW hS rfl rfl 1 (by decide) rfl (hT _ k99) (fun _ h9 => h9) rfl (by decide +kernel) rfl rfl d_C_lookAt_46 (fun H locs hW hS => ?_)
    refine lv_aload_n hx hb d_C_lookAt_49 rfl (lv_at hl 0 rfl) ?_
    refine lv_aload_n hx hb d_C_lookAt_50 rfl (lv_at hl 1 rfl) ?_
    refine va_get (D := D) (ci := 0) (v := .int ((v2 (v2 (v2 V (232 + mGive V) 1 b) 268 2 (((v2 V (232 + mGive V) 1 b) 268 2) + 1)) 268 1 (((v2 (v2 V (232 + mGive V) 1 b) 268 2 (((v2 V (232 + mGive V) 1 b) 268 2) + 1)) 268 1) + 1)) 268 1)) (C := "BlockVault$Cache") (T := T_C) (N := 3) hx hb hT in_C hown hK (hW.obj rfl) 0 rfl rfl 1 (by decide) (hT _ k99) (fun _ h9 => h9) rfl d_C_lookAt_51 ?_
    refine jw_putN (ci := 4) (x := ((v2 (v2 (v2 V (232 + mGive V) 1 b) 268 2 (((v2 V (232 + mGive V) 1 b) 268 2) + 1)) 268 1 (((v2 (v2 V (232 + mGive V) 1 b) 268 2 (((v2 V (232 + mGive V) 1 b) 268 2) + 1)) 268 1) + 1)) 268 1)) (ty := .int) (C := "BlockVault$Row") (T := T_R) (N := 5) hx hb hT in_R t_R t_R_ok n_R hown hK hW hS (lay_row hg) rfl 2 (by decide) rfl (nf5 hN) (fun _ h9 => h9) rfl (by decide +kernel) rfl rfl d_C_lookAt_54 (fun H locs hW hS => ?_)
    refine lv_aload_n hx hb d_C_lookAt_57 rfl (lv_at hl 0 rfl) ?_
    refine W.widen (k := 1) (n := 1024) (by omega) (by omega) ?_
    exact W.aret (v := va_rf (some (sh (232 + mGive V)))) hx hb hr (Or.inl ⟨_, rfl⟩) (va_rf_or _) (fun t9 ht9 hwz => ⟨⟨(some (sh (232 + mGive V))), ((v2 (v2 (v2 (v2 V (232 + mGive V) 1 b) 268 2 (((v2 V (232 + mGive V) 1 b) 268 2) + 1)) 268 1 (((v2 (v2 V (232 + mGive V) 1 b) 268 2 (((v2 V (232 + mGive V) 1 b) 268 2) + 1)) 268 1) + 1)) (232 + mGive V) 2 ((v2 (v2 (v2 V (232 + mGive V) 1 b) 268 2 (((v2 V (232 + mGive V) 1 b) 268 2) + 1)) 268 1 (((v2 (v2 V (232 + mGive V) 1 b) 268 2 (((v2 V (232 + mGive V) 1 b) 268 2) + 1)) 268 1) + 1)) 268 1)), (mRead P b (80 + mGive V))), rfl, (by unfold mLook; rw [hrow]; refine ⟨rfl, ?_⟩; unfold mTouch mTake; rw [v2_s, v2_t (show 268 ≠ 232 + mGive V by omega), v2_k (show 1 ≠ 2 by omega), v2_t (show 268 ≠ 232 + mGive V by omega)]), by rw [ht9]; exact hW, va_K.moved hwz.alike hK, hN.warm hwz⟩, hS.F ht9⟩) hS.2.2 d_C_lookAt_58
  | some i =>
    rw [hrow] at hr0
    obtain rfl : r1 = some (sh (232 + i)) := hr0
    have hi : i < 34 := (mRow_some hrow).1
    refine lv_astore_n (lv' := [(3, .ref (sh (232 + i))), (0, .ref (sh 268)), (1, .int b), (2, .ref (sh 267))]) hx hb d_C_lookAt_5 rfl hl (by decide) rfl (fun ls hl => ?_)
    refine lv_aload_n hx hb d_C_lookAt_6 rfl (lv_at hl 0 rfl) ?_
    refine lv_ifnonnull (tgt := 39) hx hb d_C_lookAt_7 (by decide) ?_
    refine lv_aload_n hx hb d_C_lookAt_39 rfl (lv_at hl 1 rfl) ?_
    refine lv_dup hx hb d_C_lookAt_40 rfl ?_
    refine va_get (D := D) (ci := 0) (v := .int (V 268 1)) (C := "BlockVault$Cache") (T := T_C) (N := 3) hx hb hT in_C hown hK (hW.obj rfl) 0 rfl rfl 1 (by decide) (hT _ k99) (fun _ h9 => h9) rfl d_C_lookAt_41 ?_
    refine lv_iconst (v := 1) hx hb d_C_lookAt_44 (by decide) ?_
    refine lv_iadd hx hb d_C_lookAt_45 ?_
    refine jw_put (ci := 0) (x := ((V 268 1) + 1)) (ty := .int) (C := "BlockVault$Cache") (T := T_C) (N := 3) hx hb hT in_C t_C t_C_ok n_C hown hK hW hS rfl rfl 1 (by decide) rfl (hT _ k99) (fun _ h9 => h9) rfl (by decide +kernel) rfl rfl d_C_lookAt_46 (fun H locs hW hS => ?_)
    refine lv_aload_n hx hb d_C_lookAt_49 rfl (lv_at hl 0 rfl) ?_
    refine lv_aload_n hx hb d_C_lookAt_50 rfl (lv_at hl 1 rfl) ?_
    refine va_get (D := D) (ci := 0) (v := .int ((v2 V 268 1 ((V 268 1) + 1)) 268 1)) (C := "BlockVault$Cache") (T := T_C) (N := 3) hx hb hT in_C hown hK (hW.obj rfl) 0 rfl rfl 1 (by decide) (hT _ k99) (fun _ h9 => h9) rfl d_C_lookAt_51 ?_
    refine jw_putN (ci := 4) (x := ((v2 V 268 1 ((V 268 1) + 1)) 268 1)) (ty := .int) (C := "BlockVault$Row") (T := T_R) (N := 5) hx hb hT in_R t_R t_R_ok n_R hown hK hW hS (lay_row hi) rfl 2 (by decide) rfl (nf5 hN) (fun _ h9 => h9) rfl (by decide +kernel) rfl rfl d_C_lookAt_54 (fun H locs hW hS => ?_)
    refine lv_aload_n hx hb d_C_lookAt_57 rfl (lv_at hl 0 rfl) ?_
    refine W.widen (k := 1) (n := 1024) (by omega) (by omega) ?_
    exact W.aret (v := va_rf (some (sh (232 + i)))) hx hb hr (Or.inl ⟨_, rfl⟩) (va_rf_or _) (fun t9 ht9 hwz => ⟨⟨(some (sh (232 + i))), ((v2 (v2 V 268 1 ((V 268 1) + 1)) (232 + i) 2 ((v2 V 268 1 ((V 268 1) + 1)) 268 1)), P), rfl, (by unfold mLook; rw [hrow]; exact ⟨rfl, by unfold mTouch; rw [v2_s]⟩), by rw [ht9]; exact hW, va_K.moved hwz.alike hK, hN.warm hwz⟩, hS.F ht9⟩) hS.2.2 d_C_lookAt_58
