set_option maxRecDepth 20000 in
theorem k_min : Cond.code Lib.Math.min.name Lib.Math.min.code 2 (some .int) ∈ WG := mg 31 (by decide +kernel) (by decide +kernel)
set_option maxRecDepth 20000 in
theorem k_max : Cond.code Lib.Math.max.name Lib.Math.max.code 2 (some .int) ∈ WG := mg 34 (by decide +kernel) (by decide +kernel)
theorem mByte_le (g : Nat → Int32) (k : Int32) : ∃ x, x < 256 ∧ mByte g k = nI x := by
  unfold mByte
  by_cases c : k < 0 ∨ 1024 ≤ k
  · rw [if_pos c]
    exact ⟨0, by omega, nI_0.symm⟩
  · rw [if_neg c, pk_and _ 8 (by decide)]
    exact ⟨_, Nat.mod_lt _ (by decide), rfl⟩
theorem mN_le (P : VV) : ∃ N, N ≤ 30 ∧ mN P = nI N := by
  unfold mN
  obtain ⟨x, x1, x2⟩ := mByte_le (mRead P 2 114 114) 0
  rw [x2]
  by_cases c : 30 < nI x
  · rw [if_pos c]
    exact ⟨30, by omega, rfl⟩
  · rw [if_neg c]
    refine ⟨x, ?_, rfl⟩
    rcases Nat.lt_or_ge 30 x with q | q
    · exact absurd (nI_lt (a := 30) q (by omega)) c
    · exact q

set_option maxHeartbeats 4000000 in
set_option maxRecDepth 100000 in
theorem m_L_copyHeld (l : Launch) (D : va_G) (B : Nat) (cA : Nat → ClassId) (sh : Nat → Nat) (V P : VV) : Met l y_L_copyHeld w_L_copyHeld ({ frames := 4, cells := 279, slots := 296448, locals := 103 } : Room) (va_Pc [.ref (sh 269), .ref (sh 268), .ref (sh 267)] (JC D B cA sh (V, P))) (va_Qi (fun (r : Int32) (u : VV × VV) => (r, u.1, u.2) = mCopy V P) (JC D B cA sh) (hm_A B)) 279 296448 (hm_A B) := by
  refine Met.ofW (cc := c_L_copyHeld) (maxL := 8) (ret := (some FieldType.boolean)) (by decide) rfl ?_
  intro p e s m args below meth c s₁ Bd hml hv
  obtain ⟨rfl, hW, hK, hN⟩ := hv
  have hx := Bd.exec
  have hb := Bd.bytes
  have hr := Bd.returns
  have hts := atoms_spec (ws := w_L_copyHeld) Bd.pre
  have hT : ∀ w ∈ WG, w.before ([.ref (sh 269), .ref (sh 268), .ref (sh 267)] : List Value).toArray s = true := fun w h => hts w (List.mem_cons_of_mem _ h)
  have hown : s.vm.findClass "BlockVault$Log" = some m.cls := findClass_of_methodNamed Bd.named
  have hlocks := Bd.notSynchronized
  have hW : JW D B cA sh V P s.heap := hW
  have hBs : B ≤ s.heap.size := hW.ge
  have hS : va_S (hm_A B) s.heap s.heap [] := va_S.rf
  have hl := lv_entry ([.ref (sh 269), .ref (sh 268), .ref (sh 267)]) (n := 8) (Nat.le_of_ble_eq_true rfl)
  rw [lg_entry_eq]
  generalize (lg_sl ([.ref (sh 269), .ref (sh 268), .ref (sh 267)]) ++ List.replicate (8 - (lg_sl ([.ref (sh 269), .ref (sh 268), .ref (sh 267)])).length) Slot.unset).toArray = ls at hl ⊢
  have hl : lv_has ls 8 [(0, .ref (sh 269)), (1, .ref (sh 268)), (2, .ref (sh 267))] := hl
  refine lv_iconst (v := 0) hx hb d_L_copyHeld_0 (by decide) ?_
  refine lv_istore_n (lv' := [(3, .int 0), (0, .ref (sh 269)), (1, .ref (sh 268)), (2, .ref (sh 267))]) hx hb d_L_copyHeld_1 rfl hl (by decide) rfl (fun ls hl => ?_)
  refine lv_aload_n hx hb d_L_copyHeld_2 rfl (lv_at hl 2 rfl) ?_
  refine va_getN (D := D) (ci := 0) (v := .ref (sh 271)) (C := "BlockVault$Cache") (T := T_C) (N := 3) hx hb hT in_C hown hK (hW.obj rfl) 0 rfl rfl 0 (by decide) (nf11 hN) (fun _ h9 => h9) rfl d_L_copyHeld_3 ?_
  refine lv_astore (lv' := [(4, .ref (sh 271)), (3, .int 0), (0, .ref (sh 269)), (1, .ref (sh 268)), (2, .ref (sh 267))]) hx hb d_L_copyHeld_6 hl (by decide) rfl (fun ls hl => ?_)
  refine lv_aload hx hb d_L_copyHeld_8 (lv_at hl 0 rfl) ?_
  refine jw_alenR hx hb hK hW d_L_copyHeld_10 ?_
  refine lv_istore (lv' := [(5, .int 34), (4, .ref (sh 271)), (3, .int 0), (0, .ref (sh 269)), (1, .ref (sh 268)), (2, .ref (sh 267))]) hx hb d_L_copyHeld_11 hl (by decide) rfl (fun ls hl => ?_)
  refine lv_iconst (v := 0) hx hb d_L_copyHeld_13 (by decide) ?_
  refine lv_istore (lv' := [(6, .int 0), (5, .int 34), (4, .ref (sh 271)), (3, .int 0), (0, .ref (sh 269)), (1, .ref (sh 268)), (2, .ref (sh 267))]) hx hb d_L_copyHeld_14 hl (by decide) rfl (fun ls hl => ?_)
  have loop : ∀ (n i : Nat) (k : Int32) (Va Pa : VV) (H : Heap) (locs : List Loc) (ls : Array Slot), i + n = 34 → (chL n i k Va Pa = mCopy V P) → JW D B cA sh Va Pa H → va_S (hm_A B) s.heap H locs → lv_has ls 8 [(6, .int (nI i)), (5, .int 34), (4, .ref (sh 271)), (3, .int k), (0, .ref (sh 269)), (1, .ref (sh 268)), (2, .ref (sh 267))] → W p l e (headSpec w_L_copyHeld ({ frames := 4, cells := 279, slots := 296448, locals := 103 } : Room)).room s m ([.ref (sh 269), .ref (sh 268), .ref (sh 267)] : List Value).toArray below meth c H locs 278 295424 (MQ below (va_Qi (fun (r : Int32) (u : VV × VV) => (r, u.1, u.2) = mCopy V P) (JC D B cA sh) (hm_A B)) ([.ref (sh 269), .ref (sh 268), .ref (sh 267)] : List Value).toArray s 279 296448 (hm_A B)) (F0 m 16 ls []) := by
    intro n
    induction n with
    | zero =>
      intro i k Va Pa H locs ls hin hinv hW hS hl
      obtain rfl : i = 34 := by omega
      refine lv_iload hx hb d_L_copyHeld_16 (lv_at hl 0 rfl) ?_
      refine lv_iload hx hb d_L_copyHeld_18 (lv_at hl 1 rfl) ?_
      refine lv_icmp_ge (tgt := 84) hx hb d_L_copyHeld_20 (by decide) (fun c1 => ?_) (fun c1 => ?_)
      · refine lv_aload_n hx hb d_L_copyHeld_84 rfl (lv_at hl 4 rfl) ?_
        refine va_get (D := D) (ci := 2) (v := .ref (sh 114)) (C := "BlockVault$Log") (T := T_L) (N := 3) hx hb hT in_L hown hK (hW.obj rfl) 0 rfl rfl 0 (by decide) (hT _ k116) (fun _ h9 => h9) rfl d_L_copyHeld_85 ?_
        refine lv_iconst (v := 0) hx hb d_L_copyHeld_88 (by decide) ?_
        refine lv_iconst (v := 1) hx hb d_L_copyHeld_89 (by decide) ?_
        refine lv_iload_n hx hb d_L_copyHeld_90 rfl (lv_at hl 3 rfl) ?_
        refine jw_callv (va_runV (As := [.int 0, .int 1, .int k]) (rest := []) ⟨hx, hb, hml, hown, hT⟩ (m_P_putRun l D B cA sh Va Pa 114 (by omega) 0 1 k) (cwV 3 hT (gV k174 k175 k176 k4 kc_P_putRun) rfl rfl rfl (by decide +kernel) ⟨Nat.le_of_ble_eq_true rfl, Nat.le_of_ble_eq_true rfl⟩) (jw_preP (q := ("BlockVault$Page", T_P, 1)) hW hK hN (by omega) rfl) rfl rfl hl.1 rfl (lv_room (Nat.le_of_ble_eq_true rfl)) d_L_copyHeld_91 ⟨Nat.le_of_ble_eq_true rfl, Nat.le_of_ble_eq_true rfl⟩) hS (fun V3 P4 H locs hw5 hW hS => ?_)
        refine jw_tight hBs hW ?_
        cases hw5
        refine lv_iconst (v := 1) hx hb d_L_copyHeld_94 (by decide) ?_
        refine W.widen (k := 279) (n := 296448) (by omega) (by omega) ?_
        exact W.zret (ty := .boolean) (v := 1) hx hb hr rfl (fun t9 ht9 hwz => ⟨⟨1, (Va, (p1 Pa 114 (mPut (Pa 114) 0 1 k))), rfl, (by rw [← hinv]; rfl), by rw [ht9]; exact hW, va_K.moved hwz.alike hK, hN.warm hwz⟩, hS.F ht9⟩) hS.2.2 d_L_copyHeld_95
      · exact absurd (by decide) c1
    | succ n ih =>
      intro i k Va Pa H locs ls hin hinv hW hS hl
      have hi : i < 34 := by omega
      refine lv_iload hx hb d_L_copyHeld_16 (lv_at hl 0 rfl) ?_
      refine lv_iload hx hb d_L_copyHeld_18 (lv_at hl 1 rfl) ?_
      refine lv_icmp_ge (tgt := 84) hx hb d_L_copyHeld_20 (by decide) (fun c6 => ?_) (fun c6 => ?_)
      · exact absurd c6 (nI_ge (b := 34) (by omega) (by omega))
      · refine lv_aload hx hb d_L_copyHeld_23 (lv_at hl 2 rfl) ?_
        refine lv_iload hx hb d_L_copyHeld_25 (lv_at hl 0 rfl) ?_
        refine jw_aldR (i := i) hx hb hK hW rfl (by omega) d_L_copyHeld_27 ?_
        refine lv_astore (lv' := [(7, .ref (sh (232 + i))), (6, .int (nI i)), (5, .int 34), (4, .ref (sh 271)), (3, .int k), (0, .ref (sh 269)), (1, .ref (sh 268)), (2, .ref (sh 267))]) hx hb d_L_copyHeld_28 hl (by decide) rfl (fun ls hl => ?_)
        refine lv_aload hx hb d_L_copyHeld_30 (lv_at hl 0 rfl) ?_
        refine va_getN (D := D) (ci := 4) (v := .int (Va (232 + i) 3)) (C := "BlockVault$Row") (T := T_R) (N := 5) hx hb hT in_R hown hK (hW.obj (lay_row hi)) 0 rfl rfl 3 (by decide) (nf6 hN) (fun _ h9 => h9) rfl d_L_copyHeld_32 ?_
        refine lv_if_eq (tgt := 78) hx hb d_L_copyHeld_35 (by decide) (fun c7 => ?_) (fun c7 => ?_)
        · refine lv_iinc (v := ((nI i) + 1)) (lv' := [(6, .int ((nI i) + 1)), (7, .ref (sh (232 + i))), (5, .int 34), (4, .ref (sh 271)), (3, .int k), (0, .ref (sh 269)), (1, .ref (sh 268)), (2, .ref (sh 267))]) hx hb d_L_copyHeld_78 hl (k := 1) rfl rfl (by decide) rfl (fun ls hl => ?_)
          refine lv_goto (tgt := 16) hx hb d_L_copyHeld_81 (by decide) ?_
          exact ih (i + 1) k Va Pa H locs ls (by omega) (by rw [← hinv]; simp only [chL]; rw [if_pos (Or.inl c7)]) hW hS (by rw [← nI_1]; exact lv_sub hl [0, 2, 3, 4, 5, 6, 7] rfl)
        · refine lv_iload_n hx hb d_L_copyHeld_38 rfl (lv_at hl 4 rfl) ?_
          refine lv_bipush (v := 30) hx hb d_L_copyHeld_39 (by decide) ?_
          refine lv_icmp_ge (tgt := 78) hx hb d_L_copyHeld_41 (by decide) (fun c8 => ?_) (fun c8 => ?_)
          · refine lv_iinc (v := ((nI i) + 1)) (lv' := [(6, .int ((nI i) + 1)), (7, .ref (sh (232 + i))), (5, .int 34), (4, .ref (sh 271)), (3, .int k), (0, .ref (sh 269)), (1, .ref (sh 268)), (2, .ref (sh 267))]) hx hb d_L_copyHeld_78 hl (k := 1) rfl rfl (by decide) rfl (fun ls hl => ?_)
            refine lv_goto (tgt := 16) hx hb d_L_copyHeld_81 (by decide) ?_
            exact ih (i + 1) k Va Pa H locs ls (by omega) (by rw [← hinv]; simp only [chL]; rw [if_pos (Or.inr c8)]) hW hS (by rw [← nI_1]; exact lv_sub hl [0, 2, 3, 4, 5, 6, 7] rfl)
          · refine lv_iinc (v := (k + 1)) (lv' := [(3, .int (k + 1)), (7, .ref (sh (232 + i))), (6, .int (nI i)), (5, .int 34), (4, .ref (sh 271)), (0, .ref (sh 269)), (1, .ref (sh 268)), (2, .ref (sh 267))]) hx hb d_L_copyHeld_44 hl (k := 4) rfl rfl (by decide) rfl (fun ls hl => ?_)
            refine lv_aload_n hx hb d_L_copyHeld_47 rfl (lv_at hl 5 rfl) ?_
            refine va_get (D := D) (ci := 2) (v := .ref (sh 114)) (C := "BlockVault$Log") (T := T_L) (N := 3) hx hb hT in_L hown hK (hW.obj rfl) 0 rfl rfl 0 (by decide) (hT _ k116) (fun _ h9 => h9) rfl d_L_copyHeld_48 ?_
            refine lv_iload_n hx hb d_L_copyHeld_51 rfl (lv_at hl 0 rfl) ?_
            refine lv_iconst (v := 1) hx hb d_L_copyHeld_52 (by decide) ?_
            refine lv_aload hx hb d_L_copyHeld_53 (lv_at hl 1 rfl) ?_
            refine va_getN (D := D) (ci := 4) (v := .int (Va (232 + i) 1)) (C := "BlockVault$Row") (T := T_R) (N := 5) hx hb hT in_R hown hK (hW.obj (lay_row hi)) 0 rfl rfl 1 (by decide) (nf4 hN) (fun _ h9 => h9) rfl d_L_copyHeld_55 ?_
            refine jw_callv (va_runV (As := [.int (k + 1), .int 1, .int (Va (232 + i) 1)]) (rest := []) ⟨hx, hb, hml, hown, hT⟩ (m_P_putRun l D B cA sh Va Pa 114 (by omega) (k + 1) 1 (Va (232 + i) 1)) (cwV 3 hT (gV k174 k175 k176 k4 kc_P_putRun) rfl rfl rfl (by decide +kernel) ⟨Nat.le_of_ble_eq_true rfl, Nat.le_of_ble_eq_true rfl⟩) (jw_preP (q := ("BlockVault$Page", T_P, 1)) hW hK hN (by omega) rfl) rfl rfl hl.1 rfl (lv_room (Nat.le_of_ble_eq_true rfl)) d_L_copyHeld_58 ⟨Nat.le_of_ble_eq_true rfl, Nat.le_of_ble_eq_true rfl⟩) hS (fun V10 P11 H locs hw12 hW hS => ?_)
            refine jw_tight hBs hW ?_
            cases hw12
            refine lv_aload_n hx hb d_L_copyHeld_61 rfl (lv_at hl 7 rfl) ?_
            refine lv_iconst (v := 2) hx hb d_L_copyHeld_62 (by decide) ?_
            refine lv_iload_n hx hb d_L_copyHeld_63 rfl (lv_at hl 0 rfl) ?_
            refine lv_iadd hx hb d_L_copyHeld_64 ?_
            refine lv_aload hx hb d_L_copyHeld_65 (lv_at hl 1 rfl) ?_
            refine va_getN (D := D) (ci := 4) (v := .ref (sh (80 + i))) (C := "BlockVault$Row") (T := T_R) (N := 5) hx hb hT in_R hown hK (hW.obj (lay_row hi)) 0 rfl rfl 0 (by decide) (nf1 hN) (fun _ h9 => h9) rfl d_L_copyHeld_67 ?_
            refine jw_calli (va_runV (As := [.int (2 + (k + 1)), .ref (sh (80 + i))]) (rest := []) ⟨hx, hb, hml, hown, hT⟩ (m_D_write l D B cA sh Va (p1 Pa 114 (mPut (Pa 114) (k + 1) 1 (Va (232 + i) 1))) (2 + (k + 1)) (80 + i) (by omega) (by omega)) (cwV 2 hT (gV k181 k182 k183 k3 kc_D_write) rfl rfl rfl (by decide +kernel) ⟨Nat.le_of_ble_eq_true rfl, Nat.le_of_ble_eq_true rfl⟩) (jw_preV (q := ("BlockVault$Disk", T_D, 4)) hW hK hN rfl rfl) rfl rfl hl.1 rfl (lv_room (Nat.le_of_ble_eq_true rfl)) d_L_copyHeld_70 ⟨Nat.le_of_ble_eq_true rfl, Nat.le_of_ble_eq_true rfl⟩) hS (fun r13 V14 P15 H locs hw16 hW hS => ?_)
            refine jw_tight hBs hW ?_
            refine lv_if_ne (tgt := 78) hx hb d_L_copyHeld_73 (by decide) (fun c17 => ?_) (fun c17 => ?_)
            · refine lv_iinc (v := ((nI i) + 1)) (lv' := [(6, .int ((nI i) + 1)), (3, .int (k + 1)), (7, .ref (sh (232 + i))), (5, .int 34), (4, .ref (sh 271)), (0, .ref (sh 269)), (1, .ref (sh 268)), (2, .ref (sh 267))]) hx hb d_L_copyHeld_78 hl (k := 2) rfl rfl (by decide) rfl (fun ls hl => ?_)
              refine lv_goto (tgt := 16) hx hb d_L_copyHeld_81 (by decide) ?_
              exact ih (i + 1) (k + 1) V14 P15 H locs ls (by omega) (by rw [← hinv]; simp only [chL]; rw [if_neg (fun q => q.elim c7 c8), ← hw16]; dsimp only; rw [if_neg c17]) hW hS (by rw [← nI_1]; exact lv_sub hl [0, 3, 4, 1, 5, 6, 7] rfl)
            · refine lv_iconst (v := 0) hx hb d_L_copyHeld_76 (by decide) ?_
              refine W.widen (k := 279) (n := 296448) (by omega) (by omega) ?_
              exact W.zret (ty := .boolean) (v := 0) hx hb hr rfl (fun t9 ht9 hwz => ⟨⟨0, (V14, P15), rfl, (by rw [← hinv]; simp only [chL]; rw [if_neg (fun q => q.elim c7 c8), ← hw16]; dsimp only; rw [if_pos c17]), by rw [ht9]; exact hW, va_K.moved hwz.alike hK, hN.warm hwz⟩, hS.F ht9⟩) hS.2.2 d_L_copyHeld_77
  refine jw_tight hBs hW ?_
  exact loop 34 0 0 V P _ _ ls (by omega) (rfl) hW hS (lv_sub hl [0, 1, 2, 3, 4, 5, 6] rfl)

set_option maxHeartbeats 4000000 in
set_option maxRecDepth 100000 in
theorem m_L_bringHome (l : Launch) (D : va_G) (B : Nat) (cA : Nat → ClassId) (sh : Nat → Nat) (V P : VV) : Met l y_L_bringHome w_L_bringHome ({ frames := 4, cells := 279, slots := 296448, locals := 103 } : Room) (va_Pc [.ref (sh 269), .ref (sh 267)] (JC D B cA sh (V, P))) (va_Qi (fun (r : Int32) (u : VV × VV) => (r, u.1, u.2) = mHome V P) (JC D B cA sh) (hm_A B)) 279 296448 (hm_A B) := by
  refine Met.ofW (cc := c_L_bringHome) (maxL := 4) (ret := (some FieldType.int)) (by decide) rfl ?_
  intro p e s m args below meth c s₁ Bd hml hv
  obtain ⟨rfl, hW, hK, hN⟩ := hv
  have hx := Bd.exec
  have hb := Bd.bytes
  have hr := Bd.returns
  have hts := atoms_spec (ws := w_L_bringHome) Bd.pre
  have hT : ∀ w ∈ WG, w.before ([.ref (sh 269), .ref (sh 267)] : List Value).toArray s = true := fun w h => hts w (List.mem_cons_of_mem _ h)
  have hown : s.vm.findClass "BlockVault$Log" = some m.cls := findClass_of_methodNamed Bd.named
  have hlocks := Bd.notSynchronized
  have hW : JW D B cA sh V P s.heap := hW
  have hBs : B ≤ s.heap.size := hW.ge
  have hS : va_S (hm_A B) s.heap s.heap [] := va_S.rf
  have hl := lv_entry ([.ref (sh 269), .ref (sh 267)]) (n := 4) (Nat.le_of_ble_eq_true rfl)
  rw [lg_entry_eq]
  generalize (lg_sl ([.ref (sh 269), .ref (sh 267)]) ++ List.replicate (4 - (lg_sl ([.ref (sh 269), .ref (sh 267)])).length) Slot.unset).toArray = ls at hl ⊢
  have hl : lv_has ls 4 [(0, .ref (sh 269)), (1, .ref (sh 267))] := hl
  refine lv_aload_n hx hb d_L_bringHome_0 rfl (lv_at hl 1 rfl) ?_
  refine lv_iconst (v := 2) hx hb d_L_bringHome_1 (by decide) ?_
  refine lv_aload_n hx hb d_L_bringHome_2 rfl (lv_at hl 0 rfl) ?_
  refine va_get (D := D) (ci := 2) (v := .ref (sh 114)) (C := "BlockVault$Log") (T := T_L) (N := 3) hx hb hT in_L hown hK (hW.obj rfl) 0 rfl rfl 0 (by decide) (hT _ k116) (fun _ h9 => h9) rfl d_L_bringHome_3 ?_
  refine jw_callv (va_runV (As := [.int 2, .ref (sh 114)]) (rest := []) ⟨hx, hb, hml, hown, hT⟩ (m_D_read l D B cA sh V P 2 114 (by omega) (by omega)) (cwV 2 hT (gV k203 k204 k205 k3 kc_D_read) rfl rfl rfl (by decide +kernel) ⟨Nat.le_of_ble_eq_true rfl, Nat.le_of_ble_eq_true rfl⟩) (jw_preV (q := ("BlockVault$Disk", T_D, 4)) hW hK hN rfl rfl) rfl rfl hl.1 rfl (lv_room (Nat.le_of_ble_eq_true rfl)) d_L_bringHome_6 ⟨Nat.le_of_ble_eq_true rfl, Nat.le_of_ble_eq_true rfl⟩) hS (fun V2 P3 H locs hw4 hW hS => ?_)
  refine jw_tight hBs hW ?_
  cases hw4
  refine lv_aload_n hx hb d_L_bringHome_9 rfl (lv_at hl 0 rfl) ?_
  refine va_get (D := D) (ci := 2) (v := .ref (sh 114)) (C := "BlockVault$Log") (T := T_L) (N := 3) hx hb hT in_L hown hK (hW.obj rfl) 0 rfl rfl 0 (by decide) (hT _ k116) (fun _ h9 => h9) rfl d_L_bringHome_10 ?_
  refine lv_iconst (v := 0) hx hb d_L_bringHome_13 (by decide) ?_
  refine jw_calli (va_runV (As := [.int 0]) (rest := []) ⟨hx, hb, hml, hown, hT⟩ (m_P_byteAt l D B cA sh V (mRead P 2 114) 114 (by omega) 0) (cwV 1 hT (gV k207 k208 k209 k4 kc_P_byteAt) rfl rfl rfl (by decide +kernel) ⟨Nat.le_of_ble_eq_true rfl, Nat.le_of_ble_eq_true rfl⟩) (jw_preP (q := ("BlockVault$Page", T_P, 1)) hW hK hN (by omega) rfl) rfl rfl hl.1 rfl (lv_room (Nat.le_of_ble_eq_true rfl)) d_L_bringHome_14 ⟨Nat.le_of_ble_eq_true rfl, Nat.le_of_ble_eq_true rfl⟩) hS (fun r5 V6 P7 H locs hw8 hW hS => ?_)
  obtain ⟨rfl, rfl, rfl⟩ := t3 hw8
  refine lv_bipush (v := 30) hx hb d_L_bringHome_17 (by decide) ?_
  refine va_mmin hx hb (by rw [hml]; exact hl.1.symm) hown (hT _ k211) (hT _ k20) (hT _ k2) (hT _ k_min) (Nat.le_of_ble_eq_true rfl) (Nat.le_of_ble_eq_true rfl) (Nat.le_of_ble_eq_true rfl) (Nat.le_of_ble_eq_true rfl) d_L_bringHome_19 ?_
  obtain ⟨N, hN30, eN⟩ := mN_le P
  rw [show (if 30 < mByte (mRead P 2 114 114) 0 then (30 : Int32) else mByte (mRead P 2 114 114) 0) = nI N from eN]
  refine lv_istore_n (lv' := [(2, .int (nI N)), (0, .ref (sh 269)), (1, .ref (sh 267))]) hx hb d_L_bringHome_22 rfl hl (by decide) rfl (fun ls hl => ?_)
  refine lv_iload_n hx hb d_L_bringHome_23 rfl (lv_at hl 0 rfl) ?_
  refine lv_if_ne (tgt := 29) hx hb d_L_bringHome_24 (by decide) (fun c9 => ?_) (fun c9 => ?_)
  · refine lv_iconst (v := 1) hx hb d_L_bringHome_29 (by decide) ?_
    refine lv_istore_n (lv' := [(3, .int 1), (2, .int (nI N)), (0, .ref (sh 269)), (1, .ref (sh 267))]) hx hb d_L_bringHome_30 rfl hl (by decide) rfl (fun ls hl => ?_)
    have hN0 : ¬ nI N = 0 := c9
    have loop : ∀ (n i : Nat) (Va Pa : VV) (H : Heap) (locs : List Loc) (ls : Array Slot), i + n = N + 1 → (bhL (nI N) n i Va Pa = mHome V P ∧ 1 ≤ i) → JW D B cA sh Va Pa H → va_S (hm_A B) s.heap H locs → lv_has ls 4 [(3, .int (nI i)), (2, .int (nI N)), (0, .ref (sh 269)), (1, .ref (sh 267))] → W p l e (headSpec w_L_bringHome ({ frames := 4, cells := 279, slots := 296448, locals := 103 } : Room)).room s m ([.ref (sh 269), .ref (sh 267)] : List Value).toArray below meth c H locs 278 295424 (MQ below (va_Qi (fun (r : Int32) (u : VV × VV) => (r, u.1, u.2) = mHome V P) (JC D B cA sh) (hm_A B)) ([.ref (sh 269), .ref (sh 267)] : List Value).toArray s 279 296448 (hm_A B)) (F0 m 31 ls []) := by
      intro n
      induction n with
      | zero =>
        intro i Va Pa H locs ls hin hinv hW hS hl
        obtain rfl : i = N + 1 := by omega
        refine lv_iload_n hx hb d_L_bringHome_31 rfl (lv_at hl 0 rfl) ?_
        refine lv_iload_n hx hb d_L_bringHome_32 rfl (lv_at hl 1 rfl) ?_
        refine lv_icmp_gt (tgt := 74) hx hb d_L_bringHome_33 (by decide) (fun c10 => ?_) (fun c10 => ?_)
        · refine lv_aload_n hx hb d_L_bringHome_74 rfl (lv_at hl 2 rfl) ?_
          refine va_get (D := D) (ci := 2) (v := .ref (sh 114)) (C := "BlockVault$Log") (T := T_L) (N := 3) hx hb hT in_L hown hK (hW.obj rfl) 0 rfl rfl 0 (by decide) (hT _ k116) (fun _ h9 => h9) rfl d_L_bringHome_75 ?_
          refine lv_iconst (v := 0) hx hb d_L_bringHome_78 (by decide) ?_
          refine lv_iconst (v := 1) hx hb d_L_bringHome_79 (by decide) ?_
          refine lv_iconst (v := 0) hx hb d_L_bringHome_80 (by decide) ?_
          refine jw_callv (va_runV (As := [.int 0, .int 1, .int 0]) (rest := []) ⟨hx, hb, hml, hown, hT⟩ (m_P_putRun l D B cA sh Va Pa 114 (by omega) 0 1 0) (cwV 3 hT (gV k174 k175 k176 k4 kc_P_putRun) rfl rfl rfl (by decide +kernel) ⟨Nat.le_of_ble_eq_true rfl, Nat.le_of_ble_eq_true rfl⟩) (jw_preP (q := ("BlockVault$Page", T_P, 1)) hW hK hN (by omega) rfl) rfl rfl hl.1 rfl (lv_room (Nat.le_of_ble_eq_true rfl)) d_L_bringHome_81 ⟨Nat.le_of_ble_eq_true rfl, Nat.le_of_ble_eq_true rfl⟩) hS (fun V12 P13 H locs hw14 hW hS => ?_)
          refine jw_tight hBs hW ?_
          cases hw14
          refine lv_aload_n hx hb d_L_bringHome_84 rfl (lv_at hl 3 rfl) ?_
          refine lv_iconst (v := 2) hx hb d_L_bringHome_85 (by decide) ?_
          refine lv_aload_n hx hb d_L_bringHome_86 rfl (lv_at hl 2 rfl) ?_
          refine va_get (D := D) (ci := 2) (v := .ref (sh 114)) (C := "BlockVault$Log") (T := T_L) (N := 3) hx hb hT in_L hown hK (hW.obj rfl) 0 rfl rfl 0 (by decide) (hT _ k116) (fun _ h9 => h9) rfl d_L_bringHome_87 ?_
          refine jw_calli (va_runV (As := [.int 2, .ref (sh 114)]) (rest := []) ⟨hx, hb, hml, hown, hT⟩ (m_D_write l D B cA sh Va (p1 Pa 114 (mPut (Pa 114) 0 1 0)) 2 114 (by omega) (by omega)) (cwV 2 hT (gV k181 k182 k183 k3 kc_D_write) rfl rfl rfl (by decide +kernel) ⟨Nat.le_of_ble_eq_true rfl, Nat.le_of_ble_eq_true rfl⟩) (jw_preV (q := ("BlockVault$Disk", T_D, 4)) hW hK hN rfl rfl) rfl rfl hl.1 rfl (lv_room (Nat.le_of_ble_eq_true rfl)) d_L_bringHome_90 ⟨Nat.le_of_ble_eq_true rfl, Nat.le_of_ble_eq_true rfl⟩) hS (fun r15 V16 P17 H locs hw18 hW hS => ?_)
          refine jw_tight hBs hW ?_
          refine lv_if_eq (tgt := 100) hx hb d_L_bringHome_93 (by decide) (fun c19 => ?_) (fun c19 => ?_)
          · refine lv_iconst (v := (-1)) hx hb d_L_bringHome_100 (by decide) ?_
            refine W.widen (k := 279) (n := 296448) (by omega) (by omega) ?_
            exact W.iret (v := (-1)) hx hb hr (fun t9 ht9 hwz => ⟨⟨(-1), (V16, P17), rfl, (by rw [← hinv.1]; simp only [bhL, mFin]; rw [← hw18]; dsimp only; rw [if_pos c19]), by rw [ht9]; exact hW, va_K.moved hwz.alike hK, hN.warm hwz⟩, hS.F ht9⟩) hS.2.2 d_L_bringHome_101
          · refine lv_iload_n hx hb d_L_bringHome_96 rfl (lv_at hl 1 rfl) ?_
            refine lv_goto (tgt := 101) hx hb d_L_bringHome_97 (by decide) ?_
            refine W.widen (k := 279) (n := 296448) (by omega) (by omega) ?_
            exact W.iret (v := (nI N)) hx hb hr (fun t9 ht9 hwz => ⟨⟨(nI N), (V16, P17), rfl, (by rw [← hinv.1]; simp only [bhL, mFin]; rw [← hw18]; dsimp only; rw [if_neg c19]), by rw [ht9]; exact hW, va_K.moved hwz.alike hK, hN.warm hwz⟩, hS.F ht9⟩) hS.2.2 d_L_bringHome_101
        · exact absurd (nI_lt (show N < N + 1 by omega) (by omega)) c10
      | succ n ih =>
        intro i Va Pa H locs ls hin hinv hW hS hl
        refine lv_iload_n hx hb d_L_bringHome_31 rfl (lv_at hl 0 rfl) ?_
        refine lv_iload_n hx hb d_L_bringHome_32 rfl (lv_at hl 1 rfl) ?_
        refine lv_icmp_gt (tgt := 74) hx hb d_L_bringHome_33 (by decide) (fun c20 => ?_) (fun c20 => ?_)
        · exact absurd c20 (nI_nlt (show i ≤ N by omega) (by omega))
        · refine lv_aload_n hx hb d_L_bringHome_36 rfl (lv_at hl 3 rfl) ?_
          refine lv_iconst (v := 2) hx hb d_L_bringHome_37 (by decide) ?_
          refine lv_iload_n hx hb d_L_bringHome_38 rfl (lv_at hl 0 rfl) ?_
          refine lv_iadd hx hb d_L_bringHome_39 ?_
          refine lv_aload_n hx hb d_L_bringHome_40 rfl (lv_at hl 2 rfl) ?_
          refine va_get (D := D) (ci := 2) (v := .ref (sh 115)) (C := "BlockVault$Log") (T := T_L) (N := 3) hx hb hT in_L hown hK (hW.obj rfl) 0 rfl rfl 1 (by decide) (hT _ k117) (fun _ h9 => h9) rfl d_L_bringHome_41 ?_
          refine jw_callv (va_runV (As := [.int (2 + (nI i)), .ref (sh 115)]) (rest := []) ⟨hx, hb, hml, hown, hT⟩ (m_D_read l D B cA sh Va Pa (2 + (nI i)) 115 (by omega) (by omega)) (cwV 2 hT (gV k203 k204 k205 k3 kc_D_read) rfl rfl rfl (by decide +kernel) ⟨Nat.le_of_ble_eq_true rfl, Nat.le_of_ble_eq_true rfl⟩) (jw_preV (q := ("BlockVault$Disk", T_D, 4)) hW hK hN rfl rfl) rfl rfl hl.1 rfl (lv_room (Nat.le_of_ble_eq_true rfl)) d_L_bringHome_44 ⟨Nat.le_of_ble_eq_true rfl, Nat.le_of_ble_eq_true rfl⟩) hS (fun V22 P23 H locs hw24 hW hS => ?_)
          refine jw_tight hBs hW ?_
          cases hw24
          refine lv_aload_n hx hb d_L_bringHome_47 rfl (lv_at hl 3 rfl) ?_
          refine lv_aload_n hx hb d_L_bringHome_48 rfl (lv_at hl 2 rfl) ?_
          refine va_get (D := D) (ci := 2) (v := .ref (sh 114)) (C := "BlockVault$Log") (T := T_L) (N := 3) hx hb hT in_L hown hK (hW.obj rfl) 0 rfl rfl 0 (by decide) (hT _ k116) (fun _ h9 => h9) rfl d_L_bringHome_49 ?_
          refine lv_iload_n hx hb d_L_bringHome_52 rfl (lv_at hl 0 rfl) ?_
          refine jw_calli (va_runV (As := [.int (nI i)]) (rest := [.ref (sh 267)]) ⟨hx, hb, hml, hown, hT⟩ (m_P_byteAt l D B cA sh Va (mRead Pa (2 + (nI i)) 115) 114 (by omega) (nI i)) (cwV 1 hT (gV k207 k208 k209 k4 kc_P_byteAt) rfl rfl rfl (by decide +kernel) ⟨Nat.le_of_ble_eq_true rfl, Nat.le_of_ble_eq_true rfl⟩) (jw_preP (q := ("BlockVault$Page", T_P, 1)) hW hK hN (by omega) rfl) rfl rfl hl.1 rfl (lv_room (Nat.le_of_ble_eq_true rfl)) d_L_bringHome_53 ⟨Nat.le_of_ble_eq_true rfl, Nat.le_of_ble_eq_true rfl⟩) hS (fun r25 V26 P27 H locs hw28 hW hS => ?_)
          obtain ⟨rfl, rfl, rfl⟩ := t3 hw28
          refine lv_aload_n hx hb d_L_bringHome_56 rfl (lv_at hl 2 rfl) ?_
          refine va_get (D := D) (ci := 2) (v := .ref (sh 115)) (C := "BlockVault$Log") (T := T_L) (N := 3) hx hb hT in_L hown hK (hW.obj rfl) 0 rfl rfl 1 (by decide) (hT _ k117) (fun _ h9 => h9) rfl d_L_bringHome_57 ?_
          refine jw_calli (va_runV (As := [.int (mByte ((mRead Pa (2 + (nI i)) 115) 114) (nI i)), .ref (sh 115)]) (rest := []) ⟨hx, hb, hml, hown, hT⟩ (m_D_write l D B cA sh Va (mRead Pa (2 + (nI i)) 115) (mByte ((mRead Pa (2 + (nI i)) 115) 114) (nI i)) 115 (by omega) (by omega)) (cwV 2 hT (gV k181 k182 k183 k3 kc_D_write) rfl rfl rfl (by decide +kernel) ⟨Nat.le_of_ble_eq_true rfl, Nat.le_of_ble_eq_true rfl⟩) (jw_preV (q := ("BlockVault$Disk", T_D, 4)) hW hK hN rfl rfl) rfl rfl hl.1 rfl (lv_room (Nat.le_of_ble_eq_true rfl)) d_L_bringHome_60 ⟨Nat.le_of_ble_eq_true rfl, Nat.le_of_ble_eq_true rfl⟩) hS (fun r29 V30 P31 H locs hw32 hW hS => ?_)
          refine jw_tight hBs hW ?_
          refine lv_if_ne (tgt := 68) hx hb d_L_bringHome_63 (by decide) (fun c33 => ?_) (fun c33 => ?_)
          · refine lv_iinc (v := ((nI i) + 1)) (lv' := [(3, .int ((nI i) + 1)), (2, .int (nI N)), (0, .ref (sh 269)), (1, .ref (sh 267))]) hx hb d_L_bringHome_68 hl (k := 0) rfl rfl (by decide) rfl (fun ls hl => ?_)
            refine lv_goto (tgt := 31) hx hb d_L_bringHome_71 (by decide) ?_
            exact ih (i + 1) V30 P31 H locs ls (by omega) (⟨by rw [← hinv.1]; simp only [bhL]; rw [← hw32]; dsimp only; rw [if_neg c33], by omega⟩) hW hS (by rw [← nI_1]; exact lv_sub hl [0, 1, 2, 3] rfl)
          · refine lv_iconst (v := (-1)) hx hb d_L_bringHome_66 (by decide) ?_
            refine W.widen (k := 279) (n := 296448) (by omega) (by omega) ?_
            exact W.iret (v := (-1)) hx hb hr (fun t9 ht9 hwz => ⟨⟨(-1), (V30, P31), rfl, (by rw [← hinv.1]; simp only [bhL]; rw [← hw32]; dsimp only; rw [if_pos c33]), by rw [ht9]; exact hW, va_K.moved hwz.alike hK, hN.warm hwz⟩, hS.F ht9⟩) hS.2.2 d_L_bringHome_67
    exact loop N 1 V (mRead P 2 114) _ _ ls (by omega) (⟨by unfold mHome; rw [eN, if_neg hN0, nI_clamp (by omega)], by omega⟩) hW hS (lv_sub hl [0, 1, 2, 3] rfl)
  · refine lv_iconst (v := 0) hx hb d_L_bringHome_27 (by decide) ?_
    refine W.widen (k := 279) (n := 296448) (by omega) (by omega) ?_
    exact W.iret (v := 0) hx hb hr (fun t9 ht9 hwz => ⟨⟨0, (V, (mRead P 2 114)), rfl, (by unfold mHome; rw [eN, if_pos c9]), by rw [ht9]; exact hW, va_K.moved hwz.alike hK, hN.warm hwz⟩, hS.F ht9⟩) hS.2.2 d_L_bringHome_28

set_option maxHeartbeats 4000000 in
set_option maxRecDepth 100000 in
theorem m_L_bringOut (l : Launch) (D : va_G) (B : Nat) (cA : Nat → ClassId) (sh : Nat → Nat) (V P : VV) : Met l y_L_bringOut w_L_bringOut ({ frames := 5, cells := 557, slots := 591872, locals := 130 } : Room) (va_Pc [.ref (sh 269), .ref (sh 268), .ref (sh 267)] (JC D B cA sh (V, P))) (va_Qi (fun (r : Int32) (u : VV × VV) => (r, u.1, u.2) = mOut V P) (JC D B cA sh) (hm_A B)) 557 591872 (hm_A B) := by
  refine Met.ofW (cc := c_L_bringOut) (maxL := 3) (ret := (some FieldType.boolean)) (by decide) rfl ?_
  intro p e s m args below meth c s₁ Bd hml hv
  obtain ⟨rfl, hW, hK, hN⟩ := hv
  have hx := Bd.exec
  have hb := Bd.bytes
  have hr := Bd.returns
  have hts := atoms_spec (ws := w_L_bringOut) Bd.pre
  have hT : ∀ w ∈ WG, w.before ([.ref (sh 269), .ref (sh 268), .ref (sh 267)] : List Value).toArray s = true := fun w h => hts w (List.mem_cons_of_mem _ h)
  have hown : s.vm.findClass "BlockVault$Log" = some m.cls := findClass_of_methodNamed Bd.named
  have hlocks := Bd.notSynchronized
  have hW : JW D B cA sh V P s.heap := hW
  have hBs : B ≤ s.heap.size := hW.ge
  have hS : va_S (hm_A B) s.heap s.heap [] := va_S.rf
  have hl := lv_entry ([.ref (sh 269), .ref (sh 268), .ref (sh 267)]) (n := 3) (Nat.le_of_ble_eq_true rfl)
  rw [lg_entry_eq]
  generalize (lg_sl ([.ref (sh 269), .ref (sh 268), .ref (sh 267)]) ++ List.replicate (3 - (lg_sl ([.ref (sh 269), .ref (sh 268), .ref (sh 267)])).length) Slot.unset).toArray = ls at hl ⊢
  have hl : lv_has ls 3 [(0, .ref (sh 269)), (1, .ref (sh 268)), (2, .ref (sh 267))] := hl
  refine lv_aload_n hx hb d_L_bringOut_0 rfl (lv_at hl 0 rfl) ?_
  refine lv_aload_n hx hb d_L_bringOut_1 rfl (lv_at hl 1 rfl) ?_
  refine lv_aload_n hx hb d_L_bringOut_2 rfl (lv_at hl 2 rfl) ?_
  refine jw_calli (va_runV (As := [.ref (sh 268), .ref (sh 267)]) (rest := []) ⟨hx, hb, hml, hown, hT⟩ (m_L_copyHeld l D B cA sh V P) (cwV 2 hT (gV k170 k172 ks1 k7 kc_L_copyHeld) rfl rfl rfl (by decide +kernel) ⟨Nat.le_of_ble_eq_true rfl, Nat.le_of_ble_eq_true rfl⟩) (jw_preV (q := ("BlockVault$Log", T_L, 3)) hW hK hN rfl rfl) rfl rfl hl.1 rfl (lv_room (Nat.le_of_ble_eq_true rfl)) d_L_bringOut_3 ⟨Nat.le_of_ble_eq_true rfl, Nat.le_of_ble_eq_true rfl⟩) hS (fun r1 V2 P3 H locs hw4 hW hS => ?_)
  refine jw_tight hBs hW ?_
  refine lv_if_eq (tgt := 21) hx hb d_L_bringOut_6 (by decide) (fun c5 => ?_) (fun c5 => ?_)
  · refine lv_iconst (v := 0) hx hb d_L_bringOut_21 (by decide) ?_
    refine W.widen (k := 557) (n := 591872) (by omega) (by omega) ?_
    exact W.zret (ty := .boolean) (v := 0) hx hb hr rfl (fun t9 ht9 hwz => ⟨⟨0, (V2, P3), rfl, (by unfold mOut; rw [← hw4]; dsimp only; rw [if_pos c5]), by rw [ht9]; exact hW, va_K.moved hwz.alike hK, hN.warm hwz⟩, hS.F ht9⟩) hS.2.2 d_L_bringOut_22
  · refine lv_aload_n hx hb d_L_bringOut_9 rfl (lv_at hl 2 rfl) ?_
    refine lv_iconst (v := 2) hx hb d_L_bringOut_10 (by decide) ?_
    refine lv_aload_n hx hb d_L_bringOut_11 rfl (lv_at hl 0 rfl) ?_
    refine va_get (D := D) (ci := 2) (v := .ref (sh 114)) (C := "BlockVault$Log") (T := T_L) (N := 3) hx hb hT in_L hown hK (hW.obj rfl) 0 rfl rfl 0 (by decide) (hT _ k116) (fun _ h9 => h9) rfl d_L_bringOut_12 ?_
    refine jw_calli (va_runV (As := [.int 2, .ref (sh 114)]) (rest := []) ⟨hx, hb, hml, hown, hT⟩ (m_D_write l D B cA sh V2 P3 2 114 (by omega) (by omega)) (cwV 2 hT (gV k181 k182 k183 k3 kc_D_write) rfl rfl rfl (by decide +kernel) ⟨Nat.le_of_ble_eq_true rfl, Nat.le_of_ble_eq_true rfl⟩) (jw_preV (q := ("BlockVault$Disk", T_D, 4)) hW hK hN rfl rfl) rfl rfl hl.1 rfl (lv_room (Nat.le_of_ble_eq_true rfl)) d_L_bringOut_15 ⟨Nat.le_of_ble_eq_true rfl, Nat.le_of_ble_eq_true rfl⟩) hS (fun r6 V7 P8 H locs hw9 hW hS => ?_)
    refine jw_tight hBs hW ?_
    refine lv_if_ne (tgt := 23) hx hb d_L_bringOut_18 (by decide) (fun c10 => ?_) (fun c10 => ?_)
    · refine lv_aload_n hx hb d_L_bringOut_23 rfl (lv_at hl 0 rfl) ?_
      refine lv_dup hx hb d_L_bringOut_24 rfl ?_
      refine va_get (D := D) (ci := 2) (v := .int (V7 269 2)) (C := "BlockVault$Log") (T := T_L) (N := 3) hx hb hT in_L hown hK (hW.obj rfl) 0 rfl rfl 2 (by decide) (hT _ k118) (fun _ h9 => h9) rfl d_L_bringOut_25 ?_
      refine lv_iconst (v := 1) hx hb d_L_bringOut_28 (by decide) ?_
      refine lv_iadd hx hb d_L_bringOut_29 ?_
      refine jw_put (ci := 2) (x := ((V7 269 2) + 1)) (ty := .int) (C := "BlockVault$Log") (T := T_L) (N := 3) hx hb hT in_L t_L t_L_ok n_L hown hK hW hS rfl rfl 2 (by decide) rfl (hT _ k118) (fun _ h9 => h9) rfl (by decide +kernel) rfl rfl d_L_bringOut_30 (fun H locs hW hS => ?_)
      refine lv_aload_n hx hb d_L_bringOut_33 rfl (lv_at hl 0 rfl) ?_
      refine lv_aload_n hx hb d_L_bringOut_34 rfl (lv_at hl 2 rfl) ?_
      refine jw_calli (va_runV (As := [.ref (sh 267)]) (rest := []) ⟨hx, hb, hml, hown, hT⟩ (m_L_bringHome l D B cA sh (v2 V7 269 2 ((V7 269 2) + 1)) P8) (cwV 1 hT (gV k199 k200 k201 k7 kc_L_bringHome) rfl rfl rfl (by decide +kernel) ⟨Nat.le_of_ble_eq_true rfl, Nat.le_of_ble_eq_true rfl⟩) (jw_preV (q := ("BlockVault$Log", T_L, 3)) hW hK hN rfl rfl) rfl rfl hl.1 rfl (lv_room (Nat.le_of_ble_eq_true rfl)) d_L_bringOut_35 ⟨Nat.le_of_ble_eq_true rfl, Nat.le_of_ble_eq_true rfl⟩) hS (fun r11 V12 P13 H locs hw14 hW hS => ?_)
      refine jw_tight hBs hW ?_
      refine lv_iconst (v := (-1)) hx hb d_L_bringOut_38 (by decide) ?_
      refine lv_icmp_eq (tgt := 46) hx hb d_L_bringOut_39 (by decide) (fun c15 => ?_) (fun c15 => ?_)
      · refine lv_iconst (v := 0) hx hb d_L_bringOut_46 (by decide) ?_
        refine W.widen (k := 557) (n := 591872) (by omega) (by omega) ?_
        exact W.zret (ty := .boolean) (v := 0) hx hb hr rfl (fun t9 ht9 hwz => ⟨⟨0, (V12, P13), rfl, (by unfold mOut; rw [← hw4]; dsimp only; rw [if_neg c5]; unfold mOut1; rw [← hw9]; dsimp only; rw [if_neg c10]; unfold mOut2; rw [← hw14]; dsimp only; rw [if_pos c15]), by rw [ht9]; exact hW, va_K.moved hwz.alike hK, hN.warm hwz⟩, hS.F ht9⟩) hS.2.2 d_L_bringOut_47
      · refine lv_iconst (v := 1) hx hb d_L_bringOut_42 (by decide) ?_
        refine lv_goto (tgt := 47) hx hb d_L_bringOut_43 (by decide) ?_
        refine W.widen (k := 557) (n := 591872) (by omega) (by omega) ?_
        exact W.zret (ty := .boolean) (v := 1) hx hb hr rfl (fun t9 ht9 hwz => ⟨⟨1, (V12, P13), rfl, (by unfold mOut; rw [← hw4]; dsimp only; rw [if_neg c5]; unfold mOut1; rw [← hw9]; dsimp only; rw [if_neg c10]; unfold mOut2; rw [← hw14]; dsimp only; rw [if_neg c15]), by rw [ht9]; exact hW, va_K.moved hwz.alike hK, hN.warm hwz⟩, hS.F ht9⟩) hS.2.2 d_L_bringOut_47
    · refine lv_iconst (v := 0) hx hb d_L_bringOut_21 (by decide) ?_
      refine W.widen (k := 557) (n := 591872) (by omega) (by omega) ?_
      exact W.zret (ty := .boolean) (v := 0) hx hb hr rfl (fun t9 ht9 hwz => ⟨⟨0, (V7, P8), rfl, (by unfold mOut; rw [← hw4]; dsimp only; rw [if_neg c5]; unfold mOut1; rw [← hw9]; dsimp only; rw [if_pos c10]), by rw [ht9]; exact hW, va_K.moved hwz.alike hK, hN.warm hwz⟩, hS.F ht9⟩) hS.2.2 d_L_bringOut_22
