theorem bi_t {q : Prop} [Decidable q] {r : Int32} (h : (if q then (1 : Int32) else 0) = r) (c : ¬ r = 0) : q := Decidable.byContradiction fun n => c (by rw [← h, if_neg n])
theorem bi_f {q : Prop} [Decidable q] {r : Int32} (h : (if q then (1 : Int32) else 0) = r) (c : r = 0) : ¬ q := fun n => by
  rw [← h, if_pos n] at c
  exact absurd c (by decide)
theorem tl {V1 P1 : VV} {x : VV × VV} (h : (V1, P1) = x) : x.1 = V1 ∧ x.2 = P1 := by
  subst h
  exact ⟨rfl, rfl⟩
theorem out06 {w : Int32} (h0 : ¬ w = 0) (h1 : ¬ w = 1) (h2 : ¬ w = 2) (h3 : ¬ w = 3) (h4 : ¬ w = 4) (h5 : ¬ w = 5) (h6 : ¬ w = 6) : w.toInt < 0 ∨ 6 < w.toInt := by
  have f : ∀ k : Int32, ¬ w = k → ¬ w.toInt = k.toInt := fun k hk q => hk (Int32.toInt_inj.mp q)
  have g0 := f 0 h0
  have g1 := f 1 h1
  have g2 := f 2 h2
  have g3 := f 3 h3
  have g4 := f 4 h4
  have g5 := f 5 h5
  have g6 := f 6 h6
  have e0 : (0 : Int32).toInt = 0 := by decide
  have e1 : (1 : Int32).toInt = 1 := by decide
  have e2 : (2 : Int32).toInt = 2 := by decide
  have e3 : (3 : Int32).toInt = 3 := by decide
  have e4 : (4 : Int32).toInt = 4 := by decide
  have e5 : (5 : Int32).toInt = 5 := by decide
  have e6 : (6 : Int32).toInt = 6 := by decide
  omega

set_option maxHeartbeats 4000000 in
set_option maxRecDepth 100000 in
theorem m_V_commit (l : Launch) (D : va_G) (B : Nat) (cA : Nat → ClassId) (sh : Nat → Nat) (V P : VV) : Met l y_V_commit w_V_commit ({ frames := 6, cells := 557, slots := 591872, locals := 152 } : Room) (va_Pc [.ref (sh 266)] (JC D B cA sh (V, P))) (va_Qi (fun (r : Int32) (u : VV × VV) => (r, u.1, u.2) = mCommit V P) (JC D B cA sh) (hm_A B)) 557 591872 (hm_A B) := by
  refine Met.ofW (cc := c_V_commit) (maxL := 1) (ret := (some FieldType.boolean)) (by decide) rfl ?_
  intro p e s m args below meth c s₁ Bd hml hv
  obtain ⟨rfl, hW, hK, hN⟩ := hv
  have hx := Bd.exec
  have hb := Bd.bytes
  have hr := Bd.returns
  have hts := atoms_spec (ws := w_V_commit) Bd.pre
  have hT : ∀ w ∈ WG, w.before ([.ref (sh 266)] : List Value).toArray s = true := fun w h => hts w (List.mem_cons_of_mem _ h)
  have hown : s.vm.findClass "BlockVault" = some m.cls := findClass_of_methodNamed Bd.named
  have hlocks := Bd.notSynchronized
  have hW : JW D B cA sh V P s.heap := hW
  have hBs : B ≤ s.heap.size := hW.ge
  have hS : va_S (hm_A B) s.heap s.heap [] := va_S.rf
  have hl := lv_entry ([.ref (sh 266)]) (n := 1) (Nat.le_of_ble_eq_true rfl)
  rw [lg_entry_eq]
  generalize (lg_sl ([.ref (sh 266)]) ++ List.replicate (1 - (lg_sl ([.ref (sh 266)])).length) Slot.unset).toArray = ls at hl ⊢
  have hl : lv_has ls 1 [(0, .ref (sh 266))] := hl
  refine lv_aload_n hx hb d_V_commit_0 rfl (lv_at hl 0 rfl) ?_
  refine va_get (D := D) (ci := 5) (v := .ref (sh 269)) (C := "BlockVault") (T := T_V) (N := 5) hx hb hT in_V hown hK (hW.obj rfl) 0 rfl rfl 3 (by decide) (hT _ k129) (fun _ h9 => h9) rfl d_V_commit_1 ?_
  refine lv_aload_n hx hb d_V_commit_4 rfl (lv_at hl 0 rfl) ?_
  refine va_get (D := D) (ci := 5) (v := .ref (sh 268)) (C := "BlockVault") (T := T_V) (N := 5) hx hb hT in_V hown hK (hW.obj rfl) 0 rfl rfl 2 (by decide) (hT _ k128) (fun _ h9 => h9) rfl d_V_commit_5 ?_
  refine lv_aload_n hx hb d_V_commit_8 rfl (lv_at hl 0 rfl) ?_
  refine va_get (D := D) (ci := 5) (v := .ref (sh 267)) (C := "BlockVault") (T := T_V) (N := 5) hx hb hT in_V hown hK (hW.obj rfl) 0 rfl rfl 1 (by decide) (hT _ k127) (fun _ h9 => h9) rfl d_V_commit_9 ?_
  refine jw_calli (va_runV (As := [.ref (sh 268), .ref (sh 267)]) (rest := []) ⟨hx, hb, hml, hown, hT⟩ (m_L_bringOut l D B cA sh V P) (cwV 2 hT (gV k166 k167 k168 k7 kc_L_bringOut) rfl rfl rfl (by decide +kernel) ⟨Nat.le_of_ble_eq_true rfl, Nat.le_of_ble_eq_true rfl⟩) (jw_preV (q := ("BlockVault$Log", T_L, 3)) hW hK hN rfl rfl) rfl rfl hl.1 rfl (lv_room (Nat.le_of_ble_eq_true rfl)) d_V_commit_12 ⟨Nat.le_of_ble_eq_true rfl, Nat.le_of_ble_eq_true rfl⟩) hS (fun r1 V2 P3 H locs hw4 hW hS => ?_)
  refine jw_tight hBs hW ?_
  refine lv_if_eq (tgt := 27) hx hb d_V_commit_15 (by decide) (fun c5 => ?_) (fun c5 => ?_)
  · refine lv_aload_n hx hb d_V_commit_27 rfl (lv_at hl 0 rfl) ?_
    refine va_get (D := D) (ci := 5) (v := .ref (sh 268)) (C := "BlockVault") (T := T_V) (N := 5) hx hb hT in_V hown hK (hW.obj rfl) 0 rfl rfl 2 (by decide) (hT _ k128) (fun _ h9 => h9) rfl d_V_commit_28 ?_
    refine jw_callv (va_runV (As := []) (rest := []) ⟨hx, hb, hml, hown, hT⟩ (m_C_makeEmpty l D B cA sh V2 P3) (cwV 0 hT (gV k216 k217 k218 k5 kc_C_makeEmpty) rfl rfl rfl (by decide +kernel) ⟨Nat.le_of_ble_eq_true rfl, Nat.le_of_ble_eq_true rfl⟩) (jw_preV (q := ("BlockVault$Cache", T_C, 3)) hW hK hN rfl rfl) rfl rfl hl.1 rfl (lv_room (Nat.le_of_ble_eq_true rfl)) d_V_commit_31 ⟨Nat.le_of_ble_eq_true rfl, Nat.le_of_ble_eq_true rfl⟩) hS (fun V7 P8 H locs hw9 hW hS => ?_)
    cases hw9
    refine lv_iconst (v := 0) hx hb d_V_commit_34 (by decide) ?_
    refine W.widen (k := 557) (n := 591872) (by omega) (by omega) ?_
    exact W.zret (ty := .boolean) (v := 0) hx hb hr rfl (fun t9 ht9 hwz => ⟨⟨0, ((eR 34 0 V2), P3), rfl, (by unfold mCommit; rw [← hw4]; dsimp only; rw [if_pos c5]), by rw [ht9]; exact hW, va_K.moved hwz.alike hK, hN.warm hwz⟩, hS.F ht9⟩) hS.2.2 d_V_commit_35
  · refine lv_aload_n hx hb d_V_commit_18 rfl (lv_at hl 0 rfl) ?_
    refine va_get (D := D) (ci := 5) (v := .ref (sh 268)) (C := "BlockVault") (T := T_V) (N := 5) hx hb hT in_V hown hK (hW.obj rfl) 0 rfl rfl 2 (by decide) (hT _ k128) (fun _ h9 => h9) rfl d_V_commit_19 ?_
    refine jw_callv (va_runV (As := []) (rest := []) ⟨hx, hb, hml, hown, hT⟩ (m_C_releaseHeld l D B cA sh V2 P3) (cwV 0 hT (gV k212 k213 k214 k5 kc_C_releaseHeld) rfl rfl rfl (by decide +kernel) ⟨Nat.le_of_ble_eq_true rfl, Nat.le_of_ble_eq_true rfl⟩) (jw_preV (q := ("BlockVault$Cache", T_C, 3)) hW hK hN rfl rfl) rfl rfl hl.1 rfl (lv_room (Nat.le_of_ble_eq_true rfl)) d_V_commit_22 ⟨Nat.le_of_ble_eq_true rfl, Nat.le_of_ble_eq_true rfl⟩) hS (fun V11 P12 H locs hw13 hW hS => ?_)
    cases hw13
    refine lv_iconst (v := 1) hx hb d_V_commit_25 (by decide) ?_
    refine W.widen (k := 557) (n := 591872) (by omega) (by omega) ?_
    exact W.zret (ty := .boolean) (v := 1) hx hb hr rfl (fun t9 ht9 hwz => ⟨⟨1, ((zR 3 34 0 V2), P3), rfl, (by unfold mCommit; rw [← hw4]; dsimp only; rw [if_neg c5]), by rw [ht9]; exact hW, va_K.moved hwz.alike hK, hN.warm hwz⟩, hS.F ht9⟩) hS.2.2 d_V_commit_26

set_option maxHeartbeats 4000000 in
set_option maxRecDepth 100000 in
theorem m_V_begin (l : Launch) (D : va_G) (B : Nat) (cA : Nat → ClassId) (sh : Nat → Nat) (V P : VV) (hon : V 267 1 = 0 ∨ V 267 1 = 1) : Met l y_V_begin w_V_begin ({ frames := 1, cells := 0, slots := 0, locals := 20 } : Room) (va_Pc [.ref (sh 266)] (JC D B cA sh (V, P))) (va_Qi (fun (r : Int32) (u : VV × VV) => (r, u.1, u.2) = mBegin V P) (JC D B cA sh) (hm_A B)) 0 0 (hm_A B) := by
  refine Met.ofW (cc := c_V_begin) (maxL := 1) (ret := (some FieldType.boolean)) (by decide) rfl ?_
  intro p e s m args below meth c s₁ Bd hml hv
  obtain ⟨rfl, hW, hK, hN⟩ := hv
  have hx := Bd.exec
  have hb := Bd.bytes
  have hr := Bd.returns
  have hts := atoms_spec (ws := w_V_begin) Bd.pre
  have hT : ∀ w ∈ WG, w.before ([.ref (sh 266)] : List Value).toArray s = true := fun w h => hts w (List.mem_cons_of_mem _ h)
  have hown : s.vm.findClass "BlockVault" = some m.cls := findClass_of_methodNamed Bd.named
  have hlocks := Bd.notSynchronized
  have hW : JW D B cA sh V P s.heap := hW
  have hBs : B ≤ s.heap.size := hW.ge
  have hS : va_S (hm_A B) s.heap s.heap [] := va_S.rf
  have hl := lv_entry ([.ref (sh 266)]) (n := 1) (Nat.le_of_ble_eq_true rfl)
  rw [lg_entry_eq]
  generalize (lg_sl ([.ref (sh 266)]) ++ List.replicate (1 - (lg_sl ([.ref (sh 266)])).length) Slot.unset).toArray = ls at hl ⊢
  have hl : lv_has ls 1 [(0, .ref (sh 266))] := hl
  refine lv_aload_n hx hb d_V_begin_0 rfl (lv_at hl 0 rfl) ?_
  refine va_get (D := D) (ci := 5) (v := .ref (sh 267)) (C := "BlockVault") (T := T_V) (N := 5) hx hb hT in_V hown hK (hW.obj rfl) 0 rfl rfl 1 (by decide) (hT _ k127) (fun _ h9 => h9) rfl d_V_begin_1 ?_
  refine jw_calli (va_runV (As := []) (rest := []) ⟨hx, hb, hml, hown, hT⟩ (m_D_isOn l D B cA sh V P hon) (cwV 0 hT (gV k146 k147 k148 k3 kc_D_isOn) rfl rfl rfl (by decide +kernel) ⟨Nat.le_of_ble_eq_true rfl, Nat.le_of_ble_eq_true rfl⟩) (jw_preV (q := ("BlockVault$Disk", T_D, 4)) hW hK hN rfl rfl) rfl rfl hl.1 rfl (lv_room (Nat.le_of_ble_eq_true rfl)) d_V_begin_4 ⟨Nat.le_of_ble_eq_true rfl, Nat.le_of_ble_eq_true rfl⟩) hS (fun r1 V2 P3 H locs hw4 hW hS => ?_)
  obtain ⟨rfl, rfl, rfl⟩ := t3 hw4
  refine lv_if_eq (tgt := 17) hx hb d_V_begin_7 (by decide) (fun c5 => ?_) (fun c5 => ?_)
  · refine lv_iconst (v := 0) hx hb d_V_begin_17 (by decide) ?_
    refine W.widen (k := 0) (n := 0) (by omega) (by omega) ?_
    exact W.zret (ty := .boolean) (v := 0) hx hb hr rfl (fun t9 ht9 hwz => ⟨⟨0, (V, P), rfl, (by simp [mBegin, c5]), by rw [ht9]; exact hW, va_K.moved hwz.alike hK, hN.warm hwz⟩, hS.F ht9⟩) hS.2.2 d_V_begin_18
  · refine lv_aload_n hx hb d_V_begin_10 rfl (lv_at hl 0 rfl) ?_
    refine va_get (D := D) (ci := 5) (v := .int (V 266 4)) (C := "BlockVault") (T := T_V) (N := 5) hx hb hT in_V hown hK (hW.obj rfl) 0 rfl rfl 4 (by decide) (hT _ k130) (fun _ h9 => h9) rfl d_V_begin_11 ?_
    refine lv_if_eq (tgt := 19) hx hb d_V_begin_14 (by decide) (fun c6 => ?_) (fun c6 => ?_)
    · refine lv_aload_n hx hb d_V_begin_19 rfl (lv_at hl 0 rfl) ?_
      refine lv_iconst (v := 1) hx hb d_V_begin_20 (by decide) ?_
      refine jw_put (ci := 5) (x := 1) (ty := .boolean) (C := "BlockVault") (T := T_V) (N := 5) hx hb hT in_V t_V t_V_ok n_V hown hK hW hS rfl rfl 4 (by decide) rfl (hT _ k130) (fun _ h9 => h9) rfl (by decide +kernel) rfl rfl d_V_begin_21 (fun H locs hW hS => ?_)
      refine lv_iconst (v := 1) hx hb d_V_begin_24 (by decide) ?_
      refine W.widen (k := 0) (n := 0) (by omega) (by omega) ?_
      exact W.zret (ty := .boolean) (v := 1) hx hb hr rfl (fun t9 ht9 hwz => ⟨⟨1, ((v2 V 266 4 1), P), rfl, (by simp [mBegin, c5, c6]), by rw [ht9]; exact hW, va_K.moved hwz.alike hK, hN.warm hwz⟩, hS.F ht9⟩) hS.2.2 d_V_begin_25
    · refine lv_iconst (v := 0) hx hb d_V_begin_17 (by decide) ?_
      refine W.widen (k := 0) (n := 0) (by omega) (by omega) ?_
      exact W.zret (ty := .boolean) (v := 0) hx hb hr rfl (fun t9 ht9 hwz => ⟨⟨0, (V, P), rfl, (by simp [mBegin, c5, c6]), by rw [ht9]; exact hW, va_K.moved hwz.alike hK, hN.warm hwz⟩, hS.F ht9⟩) hS.2.2 d_V_begin_18

set_option maxHeartbeats 4000000 in
set_option maxRecDepth 100000 in
theorem m_V_cut (l : Launch) (D : va_G) (B : Nat) (cA : Nat → ClassId) (sh : Nat → Nat) (V P : VV) (hon : V 267 1 = 0 ∨ V 267 1 = 1) (k : Int32) : Met l y_V_cut w_V_cut ({ frames := 1, cells := 0, slots := 0, locals := 21 } : Room) (va_Pc [.ref (sh 266), .int k] (JC D B cA sh (V, P))) (va_Qi (fun (r : Int32) (u : VV × VV) => (r, u.1, u.2) = mCut V P k) (JC D B cA sh) (hm_A B)) 0 0 (hm_A B) := by
  refine Met.ofW (cc := c_V_cut) (maxL := 2) (ret := (some FieldType.boolean)) (by decide) rfl ?_
  intro p e s m args below meth c s₁ Bd hml hv
  obtain ⟨rfl, hW, hK, hN⟩ := hv
  have hx := Bd.exec
  have hb := Bd.bytes
  have hr := Bd.returns
  have hts := atoms_spec (ws := w_V_cut) Bd.pre
  have hT : ∀ w ∈ WG, w.before ([.ref (sh 266), .int k] : List Value).toArray s = true := fun w h => hts w (List.mem_cons_of_mem _ h)
  have hown : s.vm.findClass "BlockVault" = some m.cls := findClass_of_methodNamed Bd.named
  have hlocks := Bd.notSynchronized
  have hW : JW D B cA sh V P s.heap := hW
  have hBs : B ≤ s.heap.size := hW.ge
  have hS : va_S (hm_A B) s.heap s.heap [] := va_S.rf
  have hl := lv_entry ([.ref (sh 266), .int k]) (n := 2) (Nat.le_of_ble_eq_true rfl)
  rw [lg_entry_eq]
  generalize (lg_sl ([.ref (sh 266), .int k]) ++ List.replicate (2 - (lg_sl ([.ref (sh 266), .int k])).length) Slot.unset).toArray = ls at hl ⊢
  have hl : lv_has ls 2 [(0, .ref (sh 266)), (1, .int k)] := hl
  refine lv_aload_n hx hb d_V_cut_0 rfl (lv_at hl 0 rfl) ?_
  refine va_get (D := D) (ci := 5) (v := .ref (sh 267)) (C := "BlockVault") (T := T_V) (N := 5) hx hb hT in_V hown hK (hW.obj rfl) 0 rfl rfl 1 (by decide) (hT _ k127) (fun _ h9 => h9) rfl d_V_cut_1 ?_
  refine jw_calli (va_runV (As := []) (rest := []) ⟨hx, hb, hml, hown, hT⟩ (m_D_isOn l D B cA sh V P hon) (cwV 0 hT (gV k146 k147 k148 k3 kc_D_isOn) rfl rfl rfl (by decide +kernel) ⟨Nat.le_of_ble_eq_true rfl, Nat.le_of_ble_eq_true rfl⟩) (jw_preV (q := ("BlockVault$Disk", T_D, 4)) hW hK hN rfl rfl) rfl rfl hl.1 rfl (lv_room (Nat.le_of_ble_eq_true rfl)) d_V_cut_4 ⟨Nat.le_of_ble_eq_true rfl, Nat.le_of_ble_eq_true rfl⟩) hS (fun r1 V2 P3 H locs hw4 hW hS => ?_)
  obtain ⟨rfl, rfl, rfl⟩ := t3 hw4
  refine lv_if_ne (tgt := 12) hx hb d_V_cut_7 (by decide) (fun c5 => ?_) (fun c5 => ?_)
  · refine lv_aload_n hx hb d_V_cut_12 rfl (lv_at hl 0 rfl) ?_
    refine va_get (D := D) (ci := 5) (v := .ref (sh 267)) (C := "BlockVault") (T := T_V) (N := 5) hx hb hT in_V hown hK (hW.obj rfl) 0 rfl rfl 1 (by decide) (hT _ k127) (fun _ h9 => h9) rfl d_V_cut_13 ?_
    refine lv_iload_n hx hb d_V_cut_16 rfl (lv_at hl 1 rfl) ?_
    refine jw_callv (va_runV (As := [.int k]) (rest := []) ⟨hx, hb, hml, hown, hT⟩ (m_D_goAfter l D B cA sh V P k) (cwV 1 hT (gV k274 k275 k276 k3 kc_D_goAfter) rfl rfl rfl (by decide +kernel) ⟨Nat.le_of_ble_eq_true rfl, Nat.le_of_ble_eq_true rfl⟩) (jw_preV (q := ("BlockVault$Disk", T_D, 4)) hW hK hN rfl rfl) rfl rfl hl.1 rfl (lv_room (Nat.le_of_ble_eq_true rfl)) d_V_cut_17 ⟨Nat.le_of_ble_eq_true rfl, Nat.le_of_ble_eq_true rfl⟩) hS (fun V7 P8 H locs hw9 hW hS => ?_)
    cases hw9
    refine lv_iconst (v := 1) hx hb d_V_cut_20 (by decide) ?_
    refine W.widen (k := 0) (n := 0) (by omega) (by omega) ?_
    exact W.zret (ty := .boolean) (v := 1) hx hb hr rfl (fun t9 ht9 hwz => ⟨⟨1, ((v2 V 267 2 k), P), rfl, (by simp [mCut, c5]), by rw [ht9]; exact hW, va_K.moved hwz.alike hK, hN.warm hwz⟩, hS.F ht9⟩) hS.2.2 d_V_cut_21
  · refine lv_iconst (v := 0) hx hb d_V_cut_10 (by decide) ?_
    refine W.widen (k := 0) (n := 0) (by omega) (by omega) ?_
    exact W.zret (ty := .boolean) (v := 0) hx hb hr rfl (fun t9 ht9 hwz => ⟨⟨0, (V, P), rfl, (by simp [mCut, c5]), by rw [ht9]; exact hW, va_K.moved hwz.alike hK, hN.warm hwz⟩, hS.F ht9⟩) hS.2.2 d_V_cut_11

set_option maxHeartbeats 4000000 in
set_option maxRecDepth 100000 in
theorem m_V_power (l : Launch) (D : va_G) (B : Nat) (cA : Nat → ClassId) (sh : Nat → Nat) (V P : VV) (hon : V 267 1 = 0 ∨ V 267 1 = 1) (k : Int32) : Met l y_V_power w_V_power ({ frames := 5, cells := 279, slots := 296448, locals := 126 } : Room) (va_Pc [.ref (sh 266), .int k] (JC D B cA sh (V, P))) (va_Qi (fun (r : Int32) (u : VV × VV) => (r, u.1, u.2) = mPower V P k) (JC D B cA sh) (hm_A B)) 279 296448 (hm_A B) := by
  refine Met.ofW (cc := c_V_power) (maxL := 2) (ret := (some FieldType.int)) (by decide) rfl ?_
  intro p e s m args below meth c s₁ Bd hml hv
  obtain ⟨rfl, hW, hK, hN⟩ := hv
  have hx := Bd.exec
  have hb := Bd.bytes
  have hr := Bd.returns
  have hts := atoms_spec (ws := w_V_power) Bd.pre
  have hT : ∀ w ∈ WG, w.before ([.ref (sh 266), .int k] : List Value).toArray s = true := fun w h => hts w (List.mem_cons_of_mem _ h)
  have hown : s.vm.findClass "BlockVault" = some m.cls := findClass_of_methodNamed Bd.named
  have hlocks := Bd.notSynchronized
  have hW : JW D B cA sh V P s.heap := hW
  have hBs : B ≤ s.heap.size := hW.ge
  have hS : va_S (hm_A B) s.heap s.heap [] := va_S.rf
  have hl := lv_entry ([.ref (sh 266), .int k]) (n := 2) (Nat.le_of_ble_eq_true rfl)
  rw [lg_entry_eq]
  generalize (lg_sl ([.ref (sh 266), .int k]) ++ List.replicate (2 - (lg_sl ([.ref (sh 266), .int k])).length) Slot.unset).toArray = ls at hl ⊢
  have hl : lv_has ls 2 [(0, .ref (sh 266)), (1, .int k)] := hl
  refine lv_aload_n hx hb d_V_power_0 rfl (lv_at hl 0 rfl) ?_
  refine va_get (D := D) (ci := 5) (v := .ref (sh 267)) (C := "BlockVault") (T := T_V) (N := 5) hx hb hT in_V hown hK (hW.obj rfl) 0 rfl rfl 1 (by decide) (hT _ k127) (fun _ h9 => h9) rfl d_V_power_1 ?_
  refine jw_calli (va_runV (As := []) (rest := []) ⟨hx, hb, hml, hown, hT⟩ (m_D_isOn l D B cA sh V P hon) (cwV 0 hT (gV k146 k147 k148 k3 kc_D_isOn) rfl rfl rfl (by decide +kernel) ⟨Nat.le_of_ble_eq_true rfl, Nat.le_of_ble_eq_true rfl⟩) (jw_preV (q := ("BlockVault$Disk", T_D, 4)) hW hK hN rfl rfl) rfl rfl hl.1 rfl (lv_room (Nat.le_of_ble_eq_true rfl)) d_V_power_4 ⟨Nat.le_of_ble_eq_true rfl, Nat.le_of_ble_eq_true rfl⟩) hS (fun r1 V2 P3 H locs hw4 hW hS => ?_)
  obtain ⟨rfl, rfl, rfl⟩ := t3 hw4
  refine lv_if_eq (tgt := 12) hx hb d_V_power_7 (by decide) (fun c5 => ?_) (fun c5 => ?_)
  · refine lv_aload_n hx hb d_V_power_12 rfl (lv_at hl 0 rfl) ?_
    refine va_get (D := D) (ci := 5) (v := .ref (sh 267)) (C := "BlockVault") (T := T_V) (N := 5) hx hb hT in_V hown hK (hW.obj rfl) 0 rfl rfl 1 (by decide) (hT _ k127) (fun _ h9 => h9) rfl d_V_power_13 ?_
    refine jw_callv (va_runV (As := []) (rest := []) ⟨hx, hb, hml, hown, hT⟩ (m_D_comeBack l D B cA sh V P) (cwV 0 hT (gV k282 k283 k284 k3 kc_D_comeBack) rfl rfl rfl (by decide +kernel) ⟨Nat.le_of_ble_eq_true rfl, Nat.le_of_ble_eq_true rfl⟩) (jw_preV (q := ("BlockVault$Disk", T_D, 4)) hW hK hN rfl rfl) rfl rfl hl.1 rfl (lv_room (Nat.le_of_ble_eq_true rfl)) d_V_power_16 ⟨Nat.le_of_ble_eq_true rfl, Nat.le_of_ble_eq_true rfl⟩) hS (fun V7 P8 H locs hw9 hW hS => ?_)
    cases hw9
    refine lv_aload_n hx hb d_V_power_19 rfl (lv_at hl 0 rfl) ?_
    refine va_get (D := D) (ci := 5) (v := .ref (sh 267)) (C := "BlockVault") (T := T_V) (N := 5) hx hb hT in_V hown hK (hW.obj rfl) 0 rfl rfl 1 (by decide) (hT _ k127) (fun _ h9 => h9) rfl d_V_power_20 ?_
    refine lv_iload_n hx hb d_V_power_23 rfl (lv_at hl 1 rfl) ?_
    refine jw_callv (va_runV (As := [.int k]) (rest := []) ⟨hx, hb, hml, hown, hT⟩ (m_D_goAfter l D B cA sh (v2 V 267 1 1) P k) (cwV 1 hT (gV k274 k275 k276 k3 kc_D_goAfter) rfl rfl rfl (by decide +kernel) ⟨Nat.le_of_ble_eq_true rfl, Nat.le_of_ble_eq_true rfl⟩) (jw_preV (q := ("BlockVault$Disk", T_D, 4)) hW hK hN rfl rfl) rfl rfl hl.1 rfl (lv_room (Nat.le_of_ble_eq_true rfl)) d_V_power_24 ⟨Nat.le_of_ble_eq_true rfl, Nat.le_of_ble_eq_true rfl⟩) hS (fun V11 P12 H locs hw13 hW hS => ?_)
    cases hw13
    refine lv_aload_n hx hb d_V_power_27 rfl (lv_at hl 0 rfl) ?_
    refine va_get (D := D) (ci := 5) (v := .ref (sh 269)) (C := "BlockVault") (T := T_V) (N := 5) hx hb hT in_V hown hK (hW.obj rfl) 0 rfl rfl 3 (by decide) (hT _ k129) (fun _ h9 => h9) rfl d_V_power_28 ?_
    refine lv_aload_n hx hb d_V_power_31 rfl (lv_at hl 0 rfl) ?_
    refine va_get (D := D) (ci := 5) (v := .ref (sh 267)) (C := "BlockVault") (T := T_V) (N := 5) hx hb hT in_V hown hK (hW.obj rfl) 0 rfl rfl 1 (by decide) (hT _ k127) (fun _ h9 => h9) rfl d_V_power_32 ?_
    refine jw_calli (va_runV (As := [.ref (sh 267)]) (rest := []) ⟨hx, hb, hml, hown, hT⟩ (m_L_bringHome l D B cA sh (v2 (v2 V 267 1 1) 267 2 k) P) (cwV 1 hT (gV k286 k200 k201 k7 kc_L_bringHome) rfl rfl rfl (by decide +kernel) ⟨Nat.le_of_ble_eq_true rfl, Nat.le_of_ble_eq_true rfl⟩) (jw_preV (q := ("BlockVault$Log", T_L, 3)) hW hK hN rfl rfl) rfl rfl hl.1 rfl (lv_room (Nat.le_of_ble_eq_true rfl)) d_V_power_35 ⟨Nat.le_of_ble_eq_true rfl, Nat.le_of_ble_eq_true rfl⟩) hS (fun r14 V15 P16 H locs hw17 hW hS => ?_)
    refine jw_tight hBs hW ?_
    refine W.widen (k := 279) (n := 296448) (by omega) (by omega) ?_
    exact W.iret (v := r14) hx hb hr (fun t9 ht9 hwz => ⟨⟨r14, (V15, P16), rfl, (by unfold mPower; rw [if_pos c5]; exact hw17), by rw [ht9]; exact hW, va_K.moved hwz.alike hK, hN.warm hwz⟩, hS.F ht9⟩) hS.2.2 d_V_power_38
  · refine lv_iconst (v := (-1)) hx hb d_V_power_10 (by decide) ?_
    refine W.widen (k := 279) (n := 296448) (by omega) (by omega) ?_
    exact W.iret (v := (-1)) hx hb hr (fun t9 ht9 hwz => ⟨⟨(-1), (V, P), rfl, (by unfold mPower; rw [if_neg c5]), by rw [ht9]; exact hW, va_K.moved hwz.alike hK, hN.warm hwz⟩, hS.F ht9⟩) hS.2.2 d_V_power_11

set_option maxHeartbeats 4000000 in
set_option maxRecDepth 100000 in
theorem m_V_end (l : Launch) (D : va_G) (B : Nat) (cA : Nat → ClassId) (sh : Nat → Nat) (V P : VV) (hon : V 267 1 = 0 ∨ V 267 1 = 1) : Met l y_V_end w_V_end ({ frames := 7, cells := 557, slots := 591872, locals := 172 } : Room) (va_Pc [.ref (sh 266)] (JC D B cA sh (V, P))) (va_Qi (fun (r : Int32) (u : VV × VV) => (r, u.1, u.2) = mEnd V P) (JC D B cA sh) (hm_A B)) 557 591872 (hm_A B) := by
  refine Met.ofW (cc := c_V_end) (maxL := 2) (ret := (some FieldType.int)) (by decide) rfl ?_
  intro p e s m args below meth c s₁ Bd hml hv
  obtain ⟨rfl, hW, hK, hN⟩ := hv
  have hx := Bd.exec
  have hb := Bd.bytes
  have hr := Bd.returns
  have hts := atoms_spec (ws := w_V_end) Bd.pre
  have hT : ∀ w ∈ WG, w.before ([.ref (sh 266)] : List Value).toArray s = true := fun w h => hts w (List.mem_cons_of_mem _ h)
  have hown : s.vm.findClass "BlockVault" = some m.cls := findClass_of_methodNamed Bd.named
  have hlocks := Bd.notSynchronized
  have hW : JW D B cA sh V P s.heap := hW
  have hBs : B ≤ s.heap.size := hW.ge
  have hS : va_S (hm_A B) s.heap s.heap [] := va_S.rf
  have hl := lv_entry ([.ref (sh 266)]) (n := 2) (Nat.le_of_ble_eq_true rfl)
  rw [lg_entry_eq]
  generalize (lg_sl ([.ref (sh 266)]) ++ List.replicate (2 - (lg_sl ([.ref (sh 266)])).length) Slot.unset).toArray = ls at hl ⊢
  have hl : lv_has ls 2 [(0, .ref (sh 266))] := hl
  refine lv_aload_n hx hb d_V_end_0 rfl (lv_at hl 0 rfl) ?_
  refine va_get (D := D) (ci := 5) (v := .ref (sh 267)) (C := "BlockVault") (T := T_V) (N := 5) hx hb hT in_V hown hK (hW.obj rfl) 0 rfl rfl 1 (by decide) (hT _ k127) (fun _ h9 => h9) rfl d_V_end_1 ?_
  refine jw_calli (va_runV (As := []) (rest := []) ⟨hx, hb, hml, hown, hT⟩ (m_D_isOn l D B cA sh V P hon) (cwV 0 hT (gV k146 k147 k148 k3 kc_D_isOn) rfl rfl rfl (by decide +kernel) ⟨Nat.le_of_ble_eq_true rfl, Nat.le_of_ble_eq_true rfl⟩) (jw_preV (q := ("BlockVault$Disk", T_D, 4)) hW hK hN rfl rfl) rfl rfl hl.1 rfl (lv_room (Nat.le_of_ble_eq_true rfl)) d_V_end_4 ⟨Nat.le_of_ble_eq_true rfl, Nat.le_of_ble_eq_true rfl⟩) hS (fun r1 V2 P3 H locs hw4 hW hS => ?_)
  obtain ⟨rfl, rfl, rfl⟩ := t3 hw4
  refine lv_if_eq (tgt := 17) hx hb d_V_end_7 (by decide) (fun c5 => ?_) (fun c5 => ?_)
  · refine lv_iconst (v := (-1)) hx hb d_V_end_17 (by decide) ?_
    refine W.widen (k := 557) (n := 591872) (by omega) (by omega) ?_
    exact W.iret (v := (-1)) hx hb hr (fun t9 ht9 hwz => ⟨⟨(-1), (V, P), rfl, (by unfold mEnd; rw [if_pos (Or.inl c5)]), by rw [ht9]; exact hW, va_K.moved hwz.alike hK, hN.warm hwz⟩, hS.F ht9⟩) hS.2.2 d_V_end_18
  · refine lv_aload_n hx hb d_V_end_10 rfl (lv_at hl 0 rfl) ?_
    refine va_get (D := D) (ci := 5) (v := .int (V 266 4)) (C := "BlockVault") (T := T_V) (N := 5) hx hb hT in_V hown hK (hW.obj rfl) 0 rfl rfl 4 (by decide) (hT _ k130) (fun _ h9 => h9) rfl d_V_end_11 ?_
    refine lv_if_ne (tgt := 19) hx hb d_V_end_14 (by decide) (fun c6 => ?_) (fun c6 => ?_)
    · refine lv_aload_n hx hb d_V_end_19 rfl (lv_at hl 0 rfl) ?_
      refine lv_iconst (v := 0) hx hb d_V_end_20 (by decide) ?_
      refine jw_put (ci := 5) (x := 0) (ty := .boolean) (C := "BlockVault") (T := T_V) (N := 5) hx hb hT in_V t_V t_V_ok n_V hown hK hW hS rfl rfl 4 (by decide) rfl (hT _ k130) (fun _ h9 => h9) rfl (by decide +kernel) rfl rfl d_V_end_21 (fun H locs hW hS => ?_)
      refine lv_aload_n hx hb d_V_end_24 rfl (lv_at hl 0 rfl) ?_
      refine va_get (D := D) (ci := 5) (v := .ref (sh 268)) (C := "BlockVault") (T := T_V) (N := 5) hx hb hT in_V hown hK (hW.obj rfl) 0 rfl rfl 2 (by decide) (hT _ k128) (fun _ h9 => h9) rfl d_V_end_25 ?_
      refine jw_callv (va_runV (As := []) (rest := []) ⟨hx, hb, hml, hown, hT⟩ (m_C_closeStep l D B cA sh (v2 V 266 4 0) P) (cwV 0 hT (gV k154 k155 k156 k5 kc_C_closeStep) rfl rfl rfl (by decide +kernel) ⟨Nat.le_of_ble_eq_true rfl, Nat.le_of_ble_eq_true rfl⟩) (jw_preV (q := ("BlockVault$Cache", T_C, 3)) hW hK hN rfl rfl) rfl rfl hl.1 rfl (lv_room (Nat.le_of_ble_eq_true rfl)) d_V_end_28 ⟨Nat.le_of_ble_eq_true rfl, Nat.le_of_ble_eq_true rfl⟩) hS (fun V8 P9 H locs hw10 hW hS => ?_)
      cases hw10
      have hW : JW D B cA sh (mClose V) P H := hW
      refine lv_aload_n hx hb d_V_end_31 rfl (lv_at hl 0 rfl) ?_
      refine va_get (D := D) (ci := 5) (v := .ref (sh 268)) (C := "BlockVault") (T := T_V) (N := 5) hx hb hT in_V hown hK (hW.obj rfl) 0 rfl rfl 2 (by decide) (hT _ k128) (fun _ h9 => h9) rfl d_V_end_32 ?_
      refine jw_calli (va_runV (As := []) (rest := []) ⟨hx, hb, hml, hown, hT⟩ (m_C_heldRows l D B cA sh (mClose V) P) (cwV 0 hT (gV k158 k159 k160 k5 kc_C_heldRows) rfl rfl rfl (by decide +kernel) ⟨Nat.le_of_ble_eq_true rfl, Nat.le_of_ble_eq_true rfl⟩) (jw_preV (q := ("BlockVault$Cache", T_C, 3)) hW hK hN rfl rfl) rfl rfl hl.1 rfl (lv_room (Nat.le_of_ble_eq_true rfl)) d_V_end_35 ⟨Nat.le_of_ble_eq_true rfl, Nat.le_of_ble_eq_true rfl⟩) hS (fun r11 V12 P13 H locs hw14 hW hS => ?_)
      obtain ⟨rfl, rfl, rfl⟩ := t3 hw14
      refine lv_istore_n (lv' := [(1, .int (mCnt (mClose V) 3)), (0, .ref (sh 266))]) hx hb d_V_end_38 rfl hl (by decide) rfl (fun ls hl => ?_)
      refine lv_iload_n hx hb d_V_end_39 rfl (lv_at hl 0 rfl) ?_
      refine lv_bipush (v := 20) hx hb d_V_end_40 (by decide) ?_
      refine lv_icmp_gt (tgt := 47) hx hb d_V_end_42 (by decide) (fun c15 => ?_) (fun c15 => ?_)
      · refine lv_aload_n hx hb d_V_end_47 rfl (lv_at hl 1 rfl) ?_
        refine jw_calli (va_runV (As := []) (rest := []) ⟨hx, hb, hml, hown, hT⟩ (m_V_commit l D B cA sh (mClose V) P) (cwV 0 hT (gV k162 k164 ks0 k1 kc_V_commit) rfl rfl rfl (by decide +kernel) ⟨Nat.le_of_ble_eq_true rfl, Nat.le_of_ble_eq_true rfl⟩) (jw_preV (q := ("BlockVault", T_V, 5)) hW hK hN rfl rfl) rfl rfl hl.1 rfl (lv_room (Nat.le_of_ble_eq_true rfl)) d_V_end_48 ⟨Nat.le_of_ble_eq_true rfl, Nat.le_of_ble_eq_true rfl⟩) hS (fun r16 V17 P18 H locs hw19 hW hS => ?_)
        refine jw_tight hBs hW ?_
        refine lv_if_eq (tgt := 58) hx hb d_V_end_51 (by decide) (fun c20 => ?_) (fun c20 => ?_)
        · refine lv_iconst (v := (-1)) hx hb d_V_end_58 (by decide) ?_
          refine W.widen (k := 557) (n := 591872) (by omega) (by omega) ?_
          exact W.iret (v := (-1)) hx hb hr (fun t9 ht9 hwz => ⟨⟨(-1), (V17, P18), rfl, (by unfold mEnd; rw [if_neg (fun q => q.elim c5 c6), if_pos c15, ← hw19]; dsimp only; rw [if_pos c20]), by rw [ht9]; exact hW, va_K.moved hwz.alike hK, hN.warm hwz⟩, hS.F ht9⟩) hS.2.2 d_V_end_59
        · refine lv_iconst (v := 0) hx hb d_V_end_54 (by decide) ?_
          refine lv_goto (tgt := 59) hx hb d_V_end_55 (by decide) ?_
          refine W.widen (k := 557) (n := 591872) (by omega) (by omega) ?_
          exact W.iret (v := 0) hx hb hr (fun t9 ht9 hwz => ⟨⟨0, (V17, P18), rfl, (by unfold mEnd; rw [if_neg (fun q => q.elim c5 c6), if_pos c15, ← hw19]; dsimp only; rw [if_neg c20]), by rw [ht9]; exact hW, va_K.moved hwz.alike hK, hN.warm hwz⟩, hS.F ht9⟩) hS.2.2 d_V_end_59
      · refine lv_iload_n hx hb d_V_end_45 rfl (lv_at hl 0 rfl) ?_
        refine W.widen (k := 557) (n := 591872) (by omega) (by omega) ?_
        exact W.iret (v := (mCnt (mClose V) 3)) hx hb hr (fun t9 ht9 hwz => ⟨⟨(mCnt (mClose V) 3), ((mClose V), P), rfl, (by unfold mEnd; rw [if_neg (fun q => q.elim c5 c6), if_neg c15]), by rw [ht9]; exact hW, va_K.moved hwz.alike hK, hN.warm hwz⟩, hS.F ht9⟩) hS.2.2 d_V_end_46
    · refine lv_iconst (v := (-1)) hx hb d_V_end_17 (by decide) ?_
      refine W.widen (k := 557) (n := 591872) (by omega) (by omega) ?_
      exact W.iret (v := (-1)) hx hb hr (fun t9 ht9 hwz => ⟨⟨(-1), (V, P), rfl, (by unfold mEnd; rw [if_pos (Or.inr c6)]), by rw [ht9]; exact hW, va_K.moved hwz.alike hK, hN.warm hwz⟩, hS.F ht9⟩) hS.2.2 d_V_end_18

set_option maxHeartbeats 4000000 in
set_option maxRecDepth 100000 in
theorem m_V_flush (l : Launch) (D : va_G) (B : Nat) (cA : Nat → ClassId) (sh : Nat → Nat) (V P : VV) (hon : V 267 1 = 0 ∨ V 267 1 = 1) : Met l y_V_flush w_V_flush ({ frames := 7, cells := 557, slots := 591872, locals := 172 } : Room) (va_Pc [.ref (sh 266)] (JC D B cA sh (V, P))) (va_Qi (fun (r : Int32) (u : VV × VV) => (r, u.1, u.2) = mFlush V P) (JC D B cA sh) (hm_A B)) 557 591872 (hm_A B) := by
  refine Met.ofW (cc := c_V_flush) (maxL := 2) (ret := (some FieldType.int)) (by decide) rfl ?_
  intro p e s m args below meth c s₁ Bd hml hv
  obtain ⟨rfl, hW, hK, hN⟩ := hv
  have hx := Bd.exec
  have hb := Bd.bytes
  have hr := Bd.returns
  have hts := atoms_spec (ws := w_V_flush) Bd.pre
  have hT : ∀ w ∈ WG, w.before ([.ref (sh 266)] : List Value).toArray s = true := fun w h => hts w (List.mem_cons_of_mem _ h)
  have hown : s.vm.findClass "BlockVault" = some m.cls := findClass_of_methodNamed Bd.named
  have hlocks := Bd.notSynchronized
  have hW : JW D B cA sh V P s.heap := hW
  have hBs : B ≤ s.heap.size := hW.ge
  have hS : va_S (hm_A B) s.heap s.heap [] := va_S.rf
  have hl := lv_entry ([.ref (sh 266)]) (n := 2) (Nat.le_of_ble_eq_true rfl)
  rw [lg_entry_eq]
  generalize (lg_sl ([.ref (sh 266)]) ++ List.replicate (2 - (lg_sl ([.ref (sh 266)])).length) Slot.unset).toArray = ls at hl ⊢
  have hl : lv_has ls 2 [(0, .ref (sh 266))] := hl
  refine lv_aload_n hx hb d_V_flush_0 rfl (lv_at hl 0 rfl) ?_
  refine va_get (D := D) (ci := 5) (v := .ref (sh 267)) (C := "BlockVault") (T := T_V) (N := 5) hx hb hT in_V hown hK (hW.obj rfl) 0 rfl rfl 1 (by decide) (hT _ k127) (fun _ h9 => h9) rfl d_V_flush_1 ?_
  refine jw_calli (va_runV (As := []) (rest := []) ⟨hx, hb, hml, hown, hT⟩ (m_D_isOn l D B cA sh V P hon) (cwV 0 hT (gV k146 k147 k148 k3 kc_D_isOn) rfl rfl rfl (by decide +kernel) ⟨Nat.le_of_ble_eq_true rfl, Nat.le_of_ble_eq_true rfl⟩) (jw_preV (q := ("BlockVault$Disk", T_D, 4)) hW hK hN rfl rfl) rfl rfl hl.1 rfl (lv_room (Nat.le_of_ble_eq_true rfl)) d_V_flush_4 ⟨Nat.le_of_ble_eq_true rfl, Nat.le_of_ble_eq_true rfl⟩) hS (fun r1 V2 P3 H locs hw4 hW hS => ?_)
  obtain ⟨rfl, rfl, rfl⟩ := t3 hw4
  refine lv_if_eq (tgt := 17) hx hb d_V_flush_7 (by decide) (fun c5 => ?_) (fun c5 => ?_)
  · refine lv_iconst (v := (-1)) hx hb d_V_flush_17 (by decide) ?_
    refine W.widen (k := 557) (n := 591872) (by omega) (by omega) ?_
    exact W.iret (v := (-1)) hx hb hr (fun t9 ht9 hwz => ⟨⟨(-1), (V, P), rfl, (by unfold mFlush; rw [if_pos (Or.inl c5)]), by rw [ht9]; exact hW, va_K.moved hwz.alike hK, hN.warm hwz⟩, hS.F ht9⟩) hS.2.2 d_V_flush_18
  · refine lv_aload_n hx hb d_V_flush_10 rfl (lv_at hl 0 rfl) ?_
    refine va_get (D := D) (ci := 5) (v := .int (V 266 4)) (C := "BlockVault") (T := T_V) (N := 5) hx hb hT in_V hown hK (hW.obj rfl) 0 rfl rfl 4 (by decide) (hT _ k130) (fun _ h9 => h9) rfl d_V_flush_11 ?_
    refine lv_if_eq (tgt := 19) hx hb d_V_flush_14 (by decide) (fun c6 => ?_) (fun c6 => ?_)
    · refine lv_aload_n hx hb d_V_flush_19 rfl (lv_at hl 0 rfl) ?_
      refine va_get (D := D) (ci := 5) (v := .ref (sh 268)) (C := "BlockVault") (T := T_V) (N := 5) hx hb hT in_V hown hK (hW.obj rfl) 0 rfl rfl 2 (by decide) (hT _ k128) (fun _ h9 => h9) rfl d_V_flush_20 ?_
      refine jw_calli (va_runV (As := []) (rest := []) ⟨hx, hb, hml, hown, hT⟩ (m_C_heldRows l D B cA sh V P) (cwV 0 hT (gV k158 k159 k160 k5 kc_C_heldRows) rfl rfl rfl (by decide +kernel) ⟨Nat.le_of_ble_eq_true rfl, Nat.le_of_ble_eq_true rfl⟩) (jw_preV (q := ("BlockVault$Cache", T_C, 3)) hW hK hN rfl rfl) rfl rfl hl.1 rfl (lv_room (Nat.le_of_ble_eq_true rfl)) d_V_flush_23 ⟨Nat.le_of_ble_eq_true rfl, Nat.le_of_ble_eq_true rfl⟩) hS (fun r7 V8 P9 H locs hw10 hW hS => ?_)
      obtain ⟨rfl, rfl, rfl⟩ := t3 hw10
      refine lv_istore_n (lv' := [(1, .int (mCnt V 3)), (0, .ref (sh 266))]) hx hb d_V_flush_26 rfl hl (by decide) rfl (fun ls hl => ?_)
      refine lv_iload_n hx hb d_V_flush_27 rfl (lv_at hl 0 rfl) ?_
      refine lv_if_ne (tgt := 33) hx hb d_V_flush_28 (by decide) (fun c11 => ?_) (fun c11 => ?_)
      · refine lv_aload_n hx hb d_V_flush_33 rfl (lv_at hl 1 rfl) ?_
        refine jw_calli (va_runV (As := []) (rest := []) ⟨hx, hb, hml, hown, hT⟩ (m_V_commit l D B cA sh V P) (cwV 0 hT (gV k162 k164 ks0 k1 kc_V_commit) rfl rfl rfl (by decide +kernel) ⟨Nat.le_of_ble_eq_true rfl, Nat.le_of_ble_eq_true rfl⟩) (jw_preV (q := ("BlockVault", T_V, 5)) hW hK hN rfl rfl) rfl rfl hl.1 rfl (lv_room (Nat.le_of_ble_eq_true rfl)) d_V_flush_34 ⟨Nat.le_of_ble_eq_true rfl, Nat.le_of_ble_eq_true rfl⟩) hS (fun r12 V13 P14 H locs hw15 hW hS => ?_)
        refine jw_tight hBs hW ?_
        refine lv_if_eq (tgt := 44) hx hb d_V_flush_37 (by decide) (fun c16 => ?_) (fun c16 => ?_)
        · refine lv_iconst (v := (-1)) hx hb d_V_flush_44 (by decide) ?_
          refine W.widen (k := 557) (n := 591872) (by omega) (by omega) ?_
          exact W.iret (v := (-1)) hx hb hr (fun t9 ht9 hwz => ⟨⟨(-1), (V13, P14), rfl, (by unfold mFlush; rw [if_neg (fun q => q.elim c5 (fun z => z c6)), if_neg c11, ← hw15]; dsimp only; rw [if_pos c16]), by rw [ht9]; exact hW, va_K.moved hwz.alike hK, hN.warm hwz⟩, hS.F ht9⟩) hS.2.2 d_V_flush_45
        · refine lv_iload_n hx hb d_V_flush_40 rfl (lv_at hl 0 rfl) ?_
          refine lv_goto (tgt := 45) hx hb d_V_flush_41 (by decide) ?_
          refine W.widen (k := 557) (n := 591872) (by omega) (by omega) ?_
          exact W.iret (v := (mCnt V 3)) hx hb hr (fun t9 ht9 hwz => ⟨⟨(mCnt V 3), (V13, P14), rfl, (by unfold mFlush; rw [if_neg (fun q => q.elim c5 (fun z => z c6)), if_neg c11, ← hw15]; dsimp only; rw [if_neg c16]), by rw [ht9]; exact hW, va_K.moved hwz.alike hK, hN.warm hwz⟩, hS.F ht9⟩) hS.2.2 d_V_flush_45
      · refine lv_iconst (v := 0) hx hb d_V_flush_31 (by decide) ?_
        refine W.widen (k := 557) (n := 591872) (by omega) (by omega) ?_
        exact W.iret (v := 0) hx hb hr (fun t9 ht9 hwz => ⟨⟨0, (V, P), rfl, (by unfold mFlush; rw [if_neg (fun q => q.elim c5 (fun z => z c6)), if_pos c11]), by rw [ht9]; exact hW, va_K.moved hwz.alike hK, hN.warm hwz⟩, hS.F ht9⟩) hS.2.2 d_V_flush_32
    · refine lv_iconst (v := (-1)) hx hb d_V_flush_17 (by decide) ?_
      refine W.widen (k := 557) (n := 591872) (by omega) (by omega) ?_
      exact W.iret (v := (-1)) hx hb hr (fun t9 ht9 hwz => ⟨⟨(-1), (V, P), rfl, (by unfold mFlush; rw [if_pos (Or.inr c6)]), by rw [ht9]; exact hW, va_K.moved hwz.alike hK, hN.warm hwz⟩, hS.F ht9⟩) hS.2.2 d_V_flush_18

set_option maxHeartbeats 4000000 in
set_option maxRecDepth 100000 in
theorem m_V_stepTakes (l : Launch) (D : va_G) (B : Nat) (cA : Nat → ClassId) (sh : Nat → Nat) (V P : VV) (b : Int32) : Met l y_V_stepTakes w_V_stepTakes ({ frames := 1, cells := 0, slots := 0, locals := 25 } : Room) (va_Pc [.ref (sh 266), .int b] (JC D B cA sh (V, P))) (va_Qi (fun (r : Int32) (u : VV × VV) => (r, u.1, u.2) = (mTakes V b, V, P)) (JC D B cA sh) (hm_A B)) 0 0 (hm_A B) := by
  refine Met.ofW (cc := c_V_stepTakes) (maxL := 4) (ret := (some FieldType.boolean)) (by decide) rfl ?_
  intro p e s m args below meth c s₁ Bd hml hv
  obtain ⟨rfl, hW, hK, hN⟩ := hv
  have hx := Bd.exec
  have hb := Bd.bytes
  have hr := Bd.returns
  have hts := atoms_spec (ws := w_V_stepTakes) Bd.pre
  have hT : ∀ w ∈ WG, w.before ([.ref (sh 266), .int b] : List Value).toArray s = true := fun w h => hts w (List.mem_cons_of_mem _ h)
  have hown : s.vm.findClass "BlockVault" = some m.cls := findClass_of_methodNamed Bd.named
  have hlocks := Bd.notSynchronized
  have hW : JW D B cA sh V P s.heap := hW
  have hBs : B ≤ s.heap.size := hW.ge
  have hS : va_S (hm_A B) s.heap s.heap [] := va_S.rf
  have hl := lv_entry ([.ref (sh 266), .int b]) (n := 4) (Nat.le_of_ble_eq_true rfl)
  rw [lg_entry_eq]
  generalize (lg_sl ([.ref (sh 266), .int b]) ++ List.replicate (4 - (lg_sl ([.ref (sh 266), .int b])).length) Slot.unset).toArray = ls at hl ⊢
  have hl : lv_has ls 4 [(0, .ref (sh 266)), (1, .int b)] := hl
  refine lv_aload_n hx hb d_V_stepTakes_0 rfl (lv_at hl 0 rfl) ?_
  refine va_get (D := D) (ci := 5) (v := .ref (sh 268)) (C := "BlockVault") (T := T_V) (N := 5) hx hb hT in_V hown hK (hW.obj rfl) 0 rfl rfl 2 (by decide) (hT _ k128) (fun _ h9 => h9) rfl d_V_stepTakes_1 ?_
  refine lv_iload_n hx hb d_V_stepTakes_4 rfl (lv_at hl 1 rfl) ?_
  refine jw_callq (va_runV (As := [.int b]) (rest := []) ⟨hx, hb, hml, hown, hT⟩ (m_C_rowOf l D B cA sh V P b) (cwV 1 hT (gV k264 k242 k243 k5 kc_C_rowOf) rfl rfl rfl (by decide +kernel) ⟨Nat.le_of_ble_eq_true rfl, Nat.le_of_ble_eq_true rfl⟩) (jw_preV (q := ("BlockVault$Cache", T_C, 3)) hW hK hN rfl rfl) rfl rfl hl.1 rfl (lv_room (Nat.le_of_ble_eq_true rfl)) d_V_stepTakes_5 ⟨Nat.le_of_ble_eq_true rfl, Nat.le_of_ble_eq_true rfl⟩) hS (fun r1 V2 P3 H locs hw4 hW hS => ?_)
  obtain ⟨hr0, hu0⟩ := hw4
  cases hu0
  cases hrow : mRow V b with
  | none =>
    rw [hrow] at hr0
    obtain rfl : r1 = none := hr0
    refine lv_astore_nN (lv' := [(2, .null), (0, .ref (sh 266)), (1, .int b)]) hx hb d_V_stepTakes_8 rfl hl (by decide) rfl (fun ls hl => ?_)
    refine lv_aload_nN hx hb d_V_stepTakes_9 rfl (lv_at hl 0 rfl) ?_
    refine lv_ifnullN (tgt := 24) hx hb d_V_stepTakes_10 (by decide) ?_
    refine lv_iconst (v := 0) hx hb d_V_stepTakes_24 (by decide) ?_
    refine lv_istore_n (lv' := [(3, .int 0), (2, .null), (0, .ref (sh 266)), (1, .int b)]) hx hb d_V_stepTakes_25 rfl hl (by decide) rfl (fun ls hl => ?_)
    refine lv_iload_n hx hb d_V_stepTakes_26 rfl (lv_at hl 0 rfl) ?_
    refine lv_if_ne (tgt := 42) hx hb d_V_stepTakes_27 (by decide) (fun c5 => ?_) (fun c5 => ?_)
    · exact absurd rfl c5
    · refine lv_aload_n hx hb d_V_stepTakes_30 rfl (lv_at hl 2 rfl) ?_
      refine va_get (D := D) (ci := 5) (v := .ref (sh 268)) (C := "BlockVault") (T := T_V) (N := 5) hx hb hT in_V hown hK (hW.obj rfl) 0 rfl rfl 2 (by decide) (hT _ k128) (fun _ h9 => h9) rfl d_V_stepTakes_31 ?_
      refine jw_calli (va_runV (As := []) (rest := []) ⟨hx, hb, hml, hown, hT⟩ (m_C_stepRows l D B cA sh V P) (cwV 0 hT (gV k265 k266 k267 k5 kc_C_stepRows) rfl rfl rfl (by decide +kernel) ⟨Nat.le_of_ble_eq_true rfl, Nat.le_of_ble_eq_true rfl⟩) (jw_preV (q := ("BlockVault$Cache", T_C, 3)) hW hK hN rfl rfl) rfl rfl hl.1 rfl (lv_room (Nat.le_of_ble_eq_true rfl)) d_V_stepTakes_34 ⟨Nat.le_of_ble_eq_true rfl, Nat.le_of_ble_eq_true rfl⟩) hS (fun r6 V7 P8 H locs hw9 hW hS => ?_)
      obtain ⟨rfl, rfl, rfl⟩ := t3 hw9
      refine lv_bipush (v := 10) hx hb d_V_stepTakes_37 (by decide) ?_
      refine lv_icmp_ge (tgt := 46) hx hb d_V_stepTakes_39 (by decide) (fun c10 => ?_) (fun c10 => ?_)
      · refine lv_iconst (v := 0) hx hb d_V_stepTakes_46 (by decide) ?_
        refine W.widen (k := 0) (n := 0) (by omega) (by omega) ?_
        exact W.zret (ty := .boolean) (v := 0) hx hb hr rfl (fun t9 ht9 hwz => ⟨⟨0, (V, P), rfl, (by simp [mTakes, hrow, c5, c10]), by rw [ht9]; exact hW, va_K.moved hwz.alike hK, hN.warm hwz⟩, hS.F ht9⟩) hS.2.2 d_V_stepTakes_47
      · refine lv_iconst (v := 1) hx hb d_V_stepTakes_42 (by decide) ?_
        refine lv_goto (tgt := 47) hx hb d_V_stepTakes_43 (by decide) ?_
        refine W.widen (k := 0) (n := 0) (by omega) (by omega) ?_
        exact W.zret (ty := .boolean) (v := 1) hx hb hr rfl (fun t9 ht9 hwz => ⟨⟨1, (V, P), rfl, (by simp [mTakes, hrow, c5, c10]), by rw [ht9]; exact hW, va_K.moved hwz.alike hK, hN.warm hwz⟩, hS.F ht9⟩) hS.2.2 d_V_stepTakes_47
  | some i =>
    rw [hrow] at hr0
    obtain rfl : r1 = some (sh (232 + i)) := hr0
    have hi : i < 34 := (mRow_some hrow).1
    refine lv_astore_n (lv' := [(2, .ref (sh (232 + i))), (0, .ref (sh 266)), (1, .int b)]) hx hb d_V_stepTakes_8 rfl hl (by decide) rfl (fun ls hl => ?_)
    refine lv_aload_n hx hb d_V_stepTakes_9 rfl (lv_at hl 0 rfl) ?_
    refine lv_ifnull hx hb d_V_stepTakes_10 ?_
    refine lv_aload_n hx hb d_V_stepTakes_13 rfl (lv_at hl 0 rfl) ?_
    refine va_getN (D := D) (ci := 4) (v := .int (V (232 + i) 4)) (C := "BlockVault$Row") (T := T_R) (N := 5) hx hb hT in_R hown hK (hW.obj (lay_row hi)) 0 rfl rfl 4 (by decide) (nf9 hN) (fun _ h9 => h9) rfl d_V_stepTakes_14 ?_
    refine lv_if_eq (tgt := 24) hx hb d_V_stepTakes_17 (by decide) (fun c11 => ?_) (fun c11 => ?_)
    · refine lv_iconst (v := 0) hx hb d_V_stepTakes_24 (by decide) ?_
      refine lv_istore_n (lv' := [(3, .int 0), (2, .ref (sh (232 + i))), (0, .ref (sh 266)), (1, .int b)]) hx hb d_V_stepTakes_25 rfl hl (by decide) rfl (fun ls hl => ?_)
      refine lv_iload_n hx hb d_V_stepTakes_26 rfl (lv_at hl 0 rfl) ?_
      refine lv_if_ne (tgt := 42) hx hb d_V_stepTakes_27 (by decide) (fun c12 => ?_) (fun c12 => ?_)
      · exact absurd rfl c12
      · refine lv_aload_n hx hb d_V_stepTakes_30 rfl (lv_at hl 2 rfl) ?_
        refine va_get (D := D) (ci := 5) (v := .ref (sh 268)) (C := "BlockVault") (T := T_V) (N := 5) hx hb hT in_V hown hK (hW.obj rfl) 0 rfl rfl 2 (by decide) (hT _ k128) (fun _ h9 => h9) rfl d_V_stepTakes_31 ?_
        refine jw_calli (va_runV (As := []) (rest := []) ⟨hx, hb, hml, hown, hT⟩ (m_C_stepRows l D B cA sh V P) (cwV 0 hT (gV k265 k266 k267 k5 kc_C_stepRows) rfl rfl rfl (by decide +kernel) ⟨Nat.le_of_ble_eq_true rfl, Nat.le_of_ble_eq_true rfl⟩) (jw_preV (q := ("BlockVault$Cache", T_C, 3)) hW hK hN rfl rfl) rfl rfl hl.1 rfl (lv_room (Nat.le_of_ble_eq_true rfl)) d_V_stepTakes_34 ⟨Nat.le_of_ble_eq_true rfl, Nat.le_of_ble_eq_true rfl⟩) hS (fun r13 V14 P15 H locs hw16 hW hS => ?_)
        obtain ⟨rfl, rfl, rfl⟩ := t3 hw16
        refine lv_bipush (v := 10) hx hb d_V_stepTakes_37 (by decide) ?_
        refine lv_icmp_ge (tgt := 46) hx hb d_V_stepTakes_39 (by decide) (fun c17 => ?_) (fun c17 => ?_)
        · refine lv_iconst (v := 0) hx hb d_V_stepTakes_46 (by decide) ?_
          refine W.widen (k := 0) (n := 0) (by omega) (by omega) ?_
          exact W.zret (ty := .boolean) (v := 0) hx hb hr rfl (fun t9 ht9 hwz => ⟨⟨0, (V, P), rfl, (by simp [mTakes, hrow, c11, c12, c17]), by rw [ht9]; exact hW, va_K.moved hwz.alike hK, hN.warm hwz⟩, hS.F ht9⟩) hS.2.2 d_V_stepTakes_47
        · refine lv_iconst (v := 1) hx hb d_V_stepTakes_42 (by decide) ?_
          refine lv_goto (tgt := 47) hx hb d_V_stepTakes_43 (by decide) ?_
          refine W.widen (k := 0) (n := 0) (by omega) (by omega) ?_
          exact W.zret (ty := .boolean) (v := 1) hx hb hr rfl (fun t9 ht9 hwz => ⟨⟨1, (V, P), rfl, (by simp [mTakes, hrow, c11, c12, c17]), by rw [ht9]; exact hW, va_K.moved hwz.alike hK, hN.warm hwz⟩, hS.F ht9⟩) hS.2.2 d_V_stepTakes_47
    · refine lv_iconst (v := 1) hx hb d_V_stepTakes_20 (by decide) ?_
      refine lv_goto (tgt := 25) hx hb d_V_stepTakes_21 (by decide) ?_
      refine lv_istore_n (lv' := [(3, .int 1), (2, .ref (sh (232 + i))), (0, .ref (sh 266)), (1, .int b)]) hx hb d_V_stepTakes_25 rfl hl (by decide) rfl (fun ls hl => ?_)
      refine lv_iload_n hx hb d_V_stepTakes_26 rfl (lv_at hl 0 rfl) ?_
      refine lv_if_ne (tgt := 42) hx hb d_V_stepTakes_27 (by decide) (fun c18 => ?_) (fun c18 => ?_)
      · refine lv_iconst (v := 1) hx hb d_V_stepTakes_42 (by decide) ?_
        refine lv_goto (tgt := 47) hx hb d_V_stepTakes_43 (by decide) ?_
        refine W.widen (k := 0) (n := 0) (by omega) (by omega) ?_
        exact W.zret (ty := .boolean) (v := 1) hx hb hr rfl (fun t9 ht9 hwz => ⟨⟨1, (V, P), rfl, (by simp [mTakes, hrow, c11, c18]), by rw [ht9]; exact hW, va_K.moved hwz.alike hK, hN.warm hwz⟩, hS.F ht9⟩) hS.2.2 d_V_stepTakes_47
      · exact absurd c18 (by decide)

set_option maxHeartbeats 4000000 in
set_option maxRecDepth 100000 in
theorem m_V_held (l : Launch) (D : va_G) (B : Nat) (cA : Nat → ClassId) (sh : Nat → Nat) (V P : VV) (hon : V 267 1 = 0 ∨ V 267 1 = 1) (b : Int32) : Met l y_V_held w_V_held ({ frames := 1, cells := 0, slots := 0, locals := 25 } : Room) (va_Pc [.ref (sh 266), .int b] (JC D B cA sh (V, P))) (va_Qi (fun (r : Int32) (u : VV × VV) => (r, u.1, u.2) = (mHeld V b, V, P)) (JC D B cA sh) (hm_A B)) 0 0 (hm_A B) := by
  refine Met.ofW (cc := c_V_held) (maxL := 3) (ret := (some FieldType.boolean)) (by decide) rfl ?_
  intro p e s m args below meth c s₁ Bd hml hv
  obtain ⟨rfl, hW, hK, hN⟩ := hv
  have hx := Bd.exec
  have hb := Bd.bytes
  have hr := Bd.returns
  have hts := atoms_spec (ws := w_V_held) Bd.pre
  have hT : ∀ w ∈ WG, w.before ([.ref (sh 266), .int b] : List Value).toArray s = true := fun w h => hts w (List.mem_cons_of_mem _ h)
  have hown : s.vm.findClass "BlockVault" = some m.cls := findClass_of_methodNamed Bd.named
  have hlocks := Bd.notSynchronized
  have hW : JW D B cA sh V P s.heap := hW
  have hBs : B ≤ s.heap.size := hW.ge
  have hS : va_S (hm_A B) s.heap s.heap [] := va_S.rf
  have hl := lv_entry ([.ref (sh 266), .int b]) (n := 3) (Nat.le_of_ble_eq_true rfl)
  rw [lg_entry_eq]
  generalize (lg_sl ([.ref (sh 266), .int b]) ++ List.replicate (3 - (lg_sl ([.ref (sh 266), .int b])).length) Slot.unset).toArray = ls at hl ⊢
  have hl : lv_has ls 3 [(0, .ref (sh 266)), (1, .int b)] := hl
  refine lv_aload_n hx hb d_V_held_0 rfl (lv_at hl 0 rfl) ?_
  refine va_get (D := D) (ci := 5) (v := .ref (sh 267)) (C := "BlockVault") (T := T_V) (N := 5) hx hb hT in_V hown hK (hW.obj rfl) 0 rfl rfl 1 (by decide) (hT _ k127) (fun _ h9 => h9) rfl d_V_held_1 ?_
  refine jw_calli (va_runV (As := []) (rest := []) ⟨hx, hb, hml, hown, hT⟩ (m_D_isOn l D B cA sh V P hon) (cwV 0 hT (gV k146 k147 k148 k3 kc_D_isOn) rfl rfl rfl (by decide +kernel) ⟨Nat.le_of_ble_eq_true rfl, Nat.le_of_ble_eq_true rfl⟩) (jw_preV (q := ("BlockVault$Disk", T_D, 4)) hW hK hN rfl rfl) rfl rfl hl.1 rfl (lv_room (Nat.le_of_ble_eq_true rfl)) d_V_held_4 ⟨Nat.le_of_ble_eq_true rfl, Nat.le_of_ble_eq_true rfl⟩) hS (fun r1 V2 P3 H locs hw4 hW hS => ?_)
  obtain ⟨rfl, rfl, rfl⟩ := t3 hw4
  refine lv_if_eq (tgt := 18) hx hb d_V_held_7 (by decide) (fun c5 => ?_) (fun c5 => ?_)
  · refine lv_iconst (v := 0) hx hb d_V_held_18 (by decide) ?_
    refine W.widen (k := 0) (n := 0) (by omega) (by omega) ?_
    exact W.zret (ty := .boolean) (v := 0) hx hb hr rfl (fun t9 ht9 hwz => ⟨⟨0, (V, P), rfl, (by unfold mHeld; rw [if_pos (Or.inl c5)]), by rw [ht9]; exact hW, va_K.moved hwz.alike hK, hN.warm hwz⟩, hS.F ht9⟩) hS.2.2 d_V_held_19
  · refine lv_aload_n hx hb d_V_held_10 rfl (lv_at hl 0 rfl) ?_
    refine lv_iload_n hx hb d_V_held_11 rfl (lv_at hl 1 rfl) ?_
    refine jw_calli (va_runV (As := [.int b]) (rest := []) ⟨hx, hb, hml, hown, hT⟩ (m_V_isBlock l D B cA sh V P b) (cwV 1 hT (gV k233 k235 ks2 k1 kc_V_isBlock) rfl rfl rfl (by decide +kernel) ⟨Nat.le_of_ble_eq_true rfl, Nat.le_of_ble_eq_true rfl⟩) (jw_preV (q := ("BlockVault", T_V, 5)) hW hK hN rfl rfl) rfl rfl hl.1 rfl (lv_room (Nat.le_of_ble_eq_true rfl)) d_V_held_12 ⟨Nat.le_of_ble_eq_true rfl, Nat.le_of_ble_eq_true rfl⟩) hS (fun r6 V7 P8 H locs hw9 hW hS => ?_)
    obtain ⟨hr10, rfl, rfl⟩ := t3 hw9
    refine lv_if_ne (tgt := 20) hx hb d_V_held_15 (by decide) (fun c11 => ?_) (fun c11 => ?_)
    · have hq12 : mIsBlock V b := bi_t hr10 c11
      refine lv_aload_n hx hb d_V_held_20 rfl (lv_at hl 0 rfl) ?_
      refine va_get (D := D) (ci := 5) (v := .ref (sh 268)) (C := "BlockVault") (T := T_V) (N := 5) hx hb hT in_V hown hK (hW.obj rfl) 0 rfl rfl 2 (by decide) (hT _ k128) (fun _ h9 => h9) rfl d_V_held_21 ?_
      refine lv_iload_n hx hb d_V_held_24 rfl (lv_at hl 1 rfl) ?_
      refine jw_callq (va_runV (As := [.int b]) (rest := []) ⟨hx, hb, hml, hown, hT⟩ (m_C_rowOf l D B cA sh V P b) (cwV 1 hT (gV k264 k242 k243 k5 kc_C_rowOf) rfl rfl rfl (by decide +kernel) ⟨Nat.le_of_ble_eq_true rfl, Nat.le_of_ble_eq_true rfl⟩) (jw_preV (q := ("BlockVault$Cache", T_C, 3)) hW hK hN rfl rfl) rfl rfl hl.1 rfl (lv_room (Nat.le_of_ble_eq_true rfl)) d_V_held_25 ⟨Nat.le_of_ble_eq_true rfl, Nat.le_of_ble_eq_true rfl⟩) hS (fun r13 V14 P15 H locs hw16 hW hS => ?_)
      obtain ⟨hr0, hu0⟩ := hw16
      cases hu0
      cases hrow : mRow V b with
      | none =>
        rw [hrow] at hr0
        obtain rfl : r13 = none := hr0
        refine lv_astore_nN (lv' := [(2, .null), (0, .ref (sh 266)), (1, .int b)]) hx hb d_V_held_28 rfl hl (by decide) rfl (fun ls hl => ?_)
        refine lv_aload_nN hx hb d_V_held_29 rfl (lv_at hl 0 rfl) ?_
        refine lv_ifnullN (tgt := 44) hx hb d_V_held_30 (by decide) ?_
        refine lv_iconst (v := 0) hx hb d_V_held_44 (by decide) ?_
        refine W.widen (k := 0) (n := 0) (by omega) (by omega) ?_
        exact W.zret (ty := .boolean) (v := 0) hx hb hr rfl (fun t9 ht9 hwz => ⟨⟨0, (V, P), rfl, (by unfold mHeld; rw [if_neg (fun q => q.elim c5 (fun z => z hq12)), hrow]), by rw [ht9]; exact hW, va_K.moved hwz.alike hK, hN.warm hwz⟩, hS.F ht9⟩) hS.2.2 d_V_held_45
      | some i =>
        rw [hrow] at hr0
        obtain rfl : r13 = some (sh (232 + i)) := hr0
        have hi : i < 34 := (mRow_some hrow).1
        refine lv_astore_n (lv' := [(2, .ref (sh (232 + i))), (0, .ref (sh 266)), (1, .int b)]) hx hb d_V_held_28 rfl hl (by decide) rfl (fun ls hl => ?_)
        refine lv_aload_n hx hb d_V_held_29 rfl (lv_at hl 0 rfl) ?_
        refine lv_ifnull hx hb d_V_held_30 ?_
        refine lv_aload_n hx hb d_V_held_33 rfl (lv_at hl 0 rfl) ?_
        refine va_getN (D := D) (ci := 4) (v := .int (V (232 + i) 3)) (C := "BlockVault$Row") (T := T_R) (N := 5) hx hb hT in_R hown hK (hW.obj (lay_row hi)) 0 rfl rfl 3 (by decide) (nf8 hN) (fun _ h9 => h9) rfl d_V_held_34 ?_
        refine lv_if_eq (tgt := 44) hx hb d_V_held_37 (by decide) (fun c17 => ?_) (fun c17 => ?_)
        · refine lv_iconst (v := 0) hx hb d_V_held_44 (by decide) ?_
          refine W.widen (k := 0) (n := 0) (by omega) (by omega) ?_
          exact W.zret (ty := .boolean) (v := 0) hx hb hr rfl (fun t9 ht9 hwz => ⟨⟨0, (V, P), rfl, (by unfold mHeld; rw [if_neg (fun q => q.elim c5 (fun z => z hq12)), hrow]; dsimp only; rw [if_pos c17]), by rw [ht9]; exact hW, va_K.moved hwz.alike hK, hN.warm hwz⟩, hS.F ht9⟩) hS.2.2 d_V_held_45
        · refine lv_iconst (v := 1) hx hb d_V_held_40 (by decide) ?_
          refine lv_goto (tgt := 45) hx hb d_V_held_41 (by decide) ?_
          refine W.widen (k := 0) (n := 0) (by omega) (by omega) ?_
          exact W.zret (ty := .boolean) (v := 1) hx hb hr rfl (fun t9 ht9 hwz => ⟨⟨1, (V, P), rfl, (by unfold mHeld; rw [if_neg (fun q => q.elim c5 (fun z => z hq12)), hrow]; dsimp only; rw [if_neg c17]), by rw [ht9]; exact hW, va_K.moved hwz.alike hK, hN.warm hwz⟩, hS.F ht9⟩) hS.2.2 d_V_held_45
    · have hq18 : ¬ (mIsBlock V b) := bi_f hr10 c11
      refine lv_iconst (v := 0) hx hb d_V_held_18 (by decide) ?_
      refine W.widen (k := 0) (n := 0) (by omega) (by omega) ?_
      exact W.zret (ty := .boolean) (v := 0) hx hb hr rfl (fun t9 ht9 hwz => ⟨⟨0, (V, P), rfl, (by unfold mHeld; rw [if_pos (Or.inr hq18)]), by rw [ht9]; exact hW, va_K.moved hwz.alike hK, hN.warm hwz⟩, hS.F ht9⟩) hS.2.2 d_V_held_19

set_option maxHeartbeats 4000000 in
set_option maxRecDepth 100000 in
theorem m_V_cached (l : Launch) (D : va_G) (B : Nat) (cA : Nat → ClassId) (sh : Nat → Nat) (V P : VV) (hon : V 267 1 = 0 ∨ V 267 1 = 1) (b : Int32) : Met l y_V_cached w_V_cached ({ frames := 1, cells := 0, slots := 0, locals := 25 } : Room) (va_Pc [.ref (sh 266), .int b] (JC D B cA sh (V, P))) (va_Qi (fun (r : Int32) (u : VV × VV) => (r, u.1, u.2) = (mCached V b, V, P)) (JC D B cA sh) (hm_A B)) 0 0 (hm_A B) := by
  refine Met.ofW (cc := c_V_cached) (maxL := 2) (ret := (some FieldType.boolean)) (by decide) rfl ?_
  intro p e s m args below meth c s₁ Bd hml hv
  obtain ⟨rfl, hW, hK, hN⟩ := hv
  have hx := Bd.exec
  have hb := Bd.bytes
  have hr := Bd.returns
  have hts := atoms_spec (ws := w_V_cached) Bd.pre
  have hT : ∀ w ∈ WG, w.before ([.ref (sh 266), .int b] : List Value).toArray s = true := fun w h => hts w (List.mem_cons_of_mem _ h)
  have hown : s.vm.findClass "BlockVault" = some m.cls := findClass_of_methodNamed Bd.named
  have hlocks := Bd.notSynchronized
  have hW : JW D B cA sh V P s.heap := hW
  have hBs : B ≤ s.heap.size := hW.ge
  have hS : va_S (hm_A B) s.heap s.heap [] := va_S.rf
  have hl := lv_entry ([.ref (sh 266), .int b]) (n := 2) (Nat.le_of_ble_eq_true rfl)
  rw [lg_entry_eq]
  generalize (lg_sl ([.ref (sh 266), .int b]) ++ List.replicate (2 - (lg_sl ([.ref (sh 266), .int b])).length) Slot.unset).toArray = ls at hl ⊢
  have hl : lv_has ls 2 [(0, .ref (sh 266)), (1, .int b)] := hl
  refine lv_aload_n hx hb d_V_cached_0 rfl (lv_at hl 0 rfl) ?_
  refine va_get (D := D) (ci := 5) (v := .ref (sh 267)) (C := "BlockVault") (T := T_V) (N := 5) hx hb hT in_V hown hK (hW.obj rfl) 0 rfl rfl 1 (by decide) (hT _ k127) (fun _ h9 => h9) rfl d_V_cached_1 ?_
  refine jw_calli (va_runV (As := []) (rest := []) ⟨hx, hb, hml, hown, hT⟩ (m_D_isOn l D B cA sh V P hon) (cwV 0 hT (gV k146 k147 k148 k3 kc_D_isOn) rfl rfl rfl (by decide +kernel) ⟨Nat.le_of_ble_eq_true rfl, Nat.le_of_ble_eq_true rfl⟩) (jw_preV (q := ("BlockVault$Disk", T_D, 4)) hW hK hN rfl rfl) rfl rfl hl.1 rfl (lv_room (Nat.le_of_ble_eq_true rfl)) d_V_cached_4 ⟨Nat.le_of_ble_eq_true rfl, Nat.le_of_ble_eq_true rfl⟩) hS (fun r1 V2 P3 H locs hw4 hW hS => ?_)
  obtain ⟨rfl, rfl, rfl⟩ := t3 hw4
  refine lv_if_eq (tgt := 33) hx hb d_V_cached_7 (by decide) (fun c5 => ?_) (fun c5 => ?_)
  · refine lv_iconst (v := 0) hx hb d_V_cached_33 (by decide) ?_
    refine W.widen (k := 0) (n := 0) (by omega) (by omega) ?_
    exact W.zret (ty := .boolean) (v := 0) hx hb hr rfl (fun t9 ht9 hwz => ⟨⟨0, (V, P), rfl, (by unfold mCached; rw [if_pos (Or.inl c5)]), by rw [ht9]; exact hW, va_K.moved hwz.alike hK, hN.warm hwz⟩, hS.F ht9⟩) hS.2.2 d_V_cached_34
  · refine lv_aload_n hx hb d_V_cached_10 rfl (lv_at hl 0 rfl) ?_
    refine lv_iload_n hx hb d_V_cached_11 rfl (lv_at hl 1 rfl) ?_
    refine jw_calli (va_runV (As := [.int b]) (rest := []) ⟨hx, hb, hml, hown, hT⟩ (m_V_isBlock l D B cA sh V P b) (cwV 1 hT (gV k233 k235 ks2 k1 kc_V_isBlock) rfl rfl rfl (by decide +kernel) ⟨Nat.le_of_ble_eq_true rfl, Nat.le_of_ble_eq_true rfl⟩) (jw_preV (q := ("BlockVault", T_V, 5)) hW hK hN rfl rfl) rfl rfl hl.1 rfl (lv_room (Nat.le_of_ble_eq_true rfl)) d_V_cached_12 ⟨Nat.le_of_ble_eq_true rfl, Nat.le_of_ble_eq_true rfl⟩) hS (fun r6 V7 P8 H locs hw9 hW hS => ?_)
    obtain ⟨hr10, rfl, rfl⟩ := t3 hw9
    refine lv_if_eq (tgt := 33) hx hb d_V_cached_15 (by decide) (fun c11 => ?_) (fun c11 => ?_)
    · have hq12 : ¬ (mIsBlock V b) := bi_f hr10 c11
      refine lv_iconst (v := 0) hx hb d_V_cached_33 (by decide) ?_
      refine W.widen (k := 0) (n := 0) (by omega) (by omega) ?_
      exact W.zret (ty := .boolean) (v := 0) hx hb hr rfl (fun t9 ht9 hwz => ⟨⟨0, (V, P), rfl, (by unfold mCached; rw [if_pos (Or.inr hq12)]), by rw [ht9]; exact hW, va_K.moved hwz.alike hK, hN.warm hwz⟩, hS.F ht9⟩) hS.2.2 d_V_cached_34
    · have hq13 : mIsBlock V b := bi_t hr10 c11
      refine lv_aload_n hx hb d_V_cached_18 rfl (lv_at hl 0 rfl) ?_
      refine va_get (D := D) (ci := 5) (v := .ref (sh 268)) (C := "BlockVault") (T := T_V) (N := 5) hx hb hT in_V hown hK (hW.obj rfl) 0 rfl rfl 2 (by decide) (hT _ k128) (fun _ h9 => h9) rfl d_V_cached_19 ?_
      refine lv_iload_n hx hb d_V_cached_22 rfl (lv_at hl 1 rfl) ?_
      refine jw_callq (va_runV (As := [.int b]) (rest := []) ⟨hx, hb, hml, hown, hT⟩ (m_C_rowOf l D B cA sh V P b) (cwV 1 hT (gV k264 k242 k243 k5 kc_C_rowOf) rfl rfl rfl (by decide +kernel) ⟨Nat.le_of_ble_eq_true rfl, Nat.le_of_ble_eq_true rfl⟩) (jw_preV (q := ("BlockVault$Cache", T_C, 3)) hW hK hN rfl rfl) rfl rfl hl.1 rfl (lv_room (Nat.le_of_ble_eq_true rfl)) d_V_cached_23 ⟨Nat.le_of_ble_eq_true rfl, Nat.le_of_ble_eq_true rfl⟩) hS (fun r14 V15 P16 H locs hw17 hW hS => ?_)
      obtain ⟨hr0, hu0⟩ := hw17
      cases hu0
      cases hrow : mRow V b with
      | none =>
        rw [hrow] at hr0
        obtain rfl : r14 = none := hr0
        refine lv_ifnullN (tgt := 33) hx hb d_V_cached_26 (by decide) ?_
        refine lv_iconst (v := 0) hx hb d_V_cached_33 (by decide) ?_
        refine W.widen (k := 0) (n := 0) (by omega) (by omega) ?_
        exact W.zret (ty := .boolean) (v := 0) hx hb hr rfl (fun t9 ht9 hwz => ⟨⟨0, (V, P), rfl, (by unfold mCached; rw [if_neg (fun q => q.elim c5 (fun z => z hq13)), hrow]), by rw [ht9]; exact hW, va_K.moved hwz.alike hK, hN.warm hwz⟩, hS.F ht9⟩) hS.2.2 d_V_cached_34
      | some i =>
        rw [hrow] at hr0
        obtain rfl : r14 = some (sh (232 + i)) := hr0
        have hi : i < 34 := (mRow_some hrow).1
        refine lv_ifnull hx hb d_V_cached_26 ?_
        refine lv_iconst (v := 1) hx hb d_V_cached_29 (by decide) ?_
        refine lv_goto (tgt := 34) hx hb d_V_cached_30 (by decide) ?_
        refine W.widen (k := 0) (n := 0) (by omega) (by omega) ?_
        exact W.zret (ty := .boolean) (v := 1) hx hb hr rfl (fun t9 ht9 hwz => ⟨⟨1, (V, P), rfl, (by unfold mCached; rw [if_neg (fun q => q.elim c5 (fun z => z hq13)), hrow]), by rw [ht9]; exact hW, va_K.moved hwz.alike hK, hN.warm hwz⟩, hS.F ht9⟩) hS.2.2 d_V_cached_34

set_option maxHeartbeats 4000000 in
set_option maxRecDepth 100000 in
theorem m_V_get (l : Launch) (D : va_G) (B : Nat) (cA : Nat → ClassId) (sh : Nat → Nat) (V P : VV) (hon : V 267 1 = 0 ∨ V 267 1 = 1) (h3 : ∀ i, i < 34 → V (232 + i) 3 = 0 ∨ V (232 + i) 3 = 1) (b k : Int32) : Met l y_V_get w_V_get ({ frames := 5, cells := 1, slots := 1024, locals := 126 } : Room) (va_Pc [.ref (sh 266), .int b, .int k] (JC D B cA sh (V, P))) (va_Qi (fun (r : Int32) (u : VV × VV) => (r, u.1, u.2) = mGet V P b k) (JC D B cA sh) (hm_A B)) 1 1024 (hm_A B) := by
  refine Met.ofW (cc := c_V_get) (maxL := 3) (ret := (some FieldType.int)) (by decide) rfl ?_
  intro p e s m args below meth c s₁ Bd hml hv
  obtain ⟨rfl, hW, hK, hN⟩ := hv
  have hx := Bd.exec
  have hb := Bd.bytes
  have hr := Bd.returns
  have hts := atoms_spec (ws := w_V_get) Bd.pre
  have hT : ∀ w ∈ WG, w.before ([.ref (sh 266), .int b, .int k] : List Value).toArray s = true := fun w h => hts w (List.mem_cons_of_mem _ h)
  have hown : s.vm.findClass "BlockVault" = some m.cls := findClass_of_methodNamed Bd.named
  have hlocks := Bd.notSynchronized
  have hW : JW D B cA sh V P s.heap := hW
  have hBs : B ≤ s.heap.size := hW.ge
  have hS : va_S (hm_A B) s.heap s.heap [] := va_S.rf
  have hl := lv_entry ([.ref (sh 266), .int b, .int k]) (n := 3) (Nat.le_of_ble_eq_true rfl)
  rw [lg_entry_eq]
  generalize (lg_sl ([.ref (sh 266), .int b, .int k]) ++ List.replicate (3 - (lg_sl ([.ref (sh 266), .int b, .int k])).length) Slot.unset).toArray = ls at hl ⊢
  have hl : lv_has ls 3 [(0, .ref (sh 266)), (1, .int b), (2, .int k)] := hl
  refine lv_aload_n hx hb d_V_get_0 rfl (lv_at hl 0 rfl) ?_
  refine va_get (D := D) (ci := 5) (v := .ref (sh 267)) (C := "BlockVault") (T := T_V) (N := 5) hx hb hT in_V hown hK (hW.obj rfl) 0 rfl rfl 1 (by decide) (hT _ k127) (fun _ h9 => h9) rfl d_V_get_1 ?_
  refine jw_calli (va_runV (As := []) (rest := []) ⟨hx, hb, hml, hown, hT⟩ (m_D_isOn l D B cA sh V P hon) (cwV 0 hT (gV k146 k147 k148 k3 kc_D_isOn) rfl rfl rfl (by decide +kernel) ⟨Nat.le_of_ble_eq_true rfl, Nat.le_of_ble_eq_true rfl⟩) (jw_preV (q := ("BlockVault$Disk", T_D, 4)) hW hK hN rfl rfl) rfl rfl hl.1 rfl (lv_room (Nat.le_of_ble_eq_true rfl)) d_V_get_4 ⟨Nat.le_of_ble_eq_true rfl, Nat.le_of_ble_eq_true rfl⟩) hS (fun r1 V2 P3 H locs hw4 hW hS => ?_)
  obtain ⟨rfl, rfl, rfl⟩ := t3 hw4
  refine lv_if_eq (tgt := 29) hx hb d_V_get_7 (by decide) (fun c5 => ?_) (fun c5 => ?_)
  · refine lv_iconst (v := (-1)) hx hb d_V_get_29 (by decide) ?_
    refine W.widen (k := 1) (n := 1024) (by omega) (by omega) ?_
    exact W.iret (v := (-1)) hx hb hr (fun t9 ht9 hwz => ⟨⟨(-1), (V, P), rfl, (by unfold mGet; rw [if_pos (Or.inl c5)]), by rw [ht9]; exact hW, va_K.moved hwz.alike hK, hN.warm hwz⟩, hS.F ht9⟩) hS.2.2 d_V_get_30
  · refine lv_aload_n hx hb d_V_get_10 rfl (lv_at hl 0 rfl) ?_
    refine lv_iload_n hx hb d_V_get_11 rfl (lv_at hl 1 rfl) ?_
    refine jw_calli (va_runV (As := [.int b]) (rest := []) ⟨hx, hb, hml, hown, hT⟩ (m_V_isBlock l D B cA sh V P b) (cwV 1 hT (gV k233 k235 ks2 k1 kc_V_isBlock) rfl rfl rfl (by decide +kernel) ⟨Nat.le_of_ble_eq_true rfl, Nat.le_of_ble_eq_true rfl⟩) (jw_preV (q := ("BlockVault", T_V, 5)) hW hK hN rfl rfl) rfl rfl hl.1 rfl (lv_room (Nat.le_of_ble_eq_true rfl)) d_V_get_12 ⟨Nat.le_of_ble_eq_true rfl, Nat.le_of_ble_eq_true rfl⟩) hS (fun r6 V7 P8 H locs hw9 hW hS => ?_)
    obtain ⟨hr10, rfl, rfl⟩ := t3 hw9
    refine lv_if_eq (tgt := 29) hx hb d_V_get_15 (by decide) (fun c11 => ?_) (fun c11 => ?_)
    · have hq12 : ¬ (mIsBlock V b) := bi_f hr10 c11
      refine lv_iconst (v := (-1)) hx hb d_V_get_29 (by decide) ?_
      refine W.widen (k := 1) (n := 1024) (by omega) (by omega) ?_
      exact W.iret (v := (-1)) hx hb hr (fun t9 ht9 hwz => ⟨⟨(-1), (V, P), rfl, (by unfold mGet; rw [if_pos (Or.inr (Or.inl hq12))]), by rw [ht9]; exact hW, va_K.moved hwz.alike hK, hN.warm hwz⟩, hS.F ht9⟩) hS.2.2 d_V_get_30
    · have hq13 : mIsBlock V b := bi_t hr10 c11
      refine lv_iload_n hx hb d_V_get_18 rfl (lv_at hl 2 rfl) ?_
      refine lv_if_lt (tgt := 29) hx hb d_V_get_19 (by decide) (fun c14 => ?_) (fun c14 => ?_)
      · refine lv_iconst (v := (-1)) hx hb d_V_get_29 (by decide) ?_
        refine W.widen (k := 1) (n := 1024) (by omega) (by omega) ?_
        exact W.iret (v := (-1)) hx hb hr (fun t9 ht9 hwz => ⟨⟨(-1), (V, P), rfl, (by unfold mGet; rw [if_pos (Or.inr (Or.inr (Or.inl c14)))]), by rw [ht9]; exact hW, va_K.moved hwz.alike hK, hN.warm hwz⟩, hS.F ht9⟩) hS.2.2 d_V_get_30
      · refine lv_iload_n hx hb d_V_get_22 rfl (lv_at hl 2 rfl) ?_
        refine lv_sipush (v := 1024) hx hb d_V_get_23 (by decide) ?_
        refine lv_icmp_lt (tgt := 31) hx hb d_V_get_26 (by decide) (fun c15 => ?_) (fun c15 => ?_)
        · refine lv_aload_n hx hb d_V_get_31 rfl (lv_at hl 0 rfl) ?_
          refine va_get (D := D) (ci := 5) (v := .ref (sh 268)) (C := "BlockVault") (T := T_V) (N := 5) hx hb hT in_V hown hK (hW.obj rfl) 0 rfl rfl 2 (by decide) (hT _ k128) (fun _ h9 => h9) rfl d_V_get_32 ?_
          refine lv_iload_n hx hb d_V_get_35 rfl (lv_at hl 1 rfl) ?_
          refine lv_aload_n hx hb d_V_get_36 rfl (lv_at hl 0 rfl) ?_
          refine va_get (D := D) (ci := 5) (v := .ref (sh 267)) (C := "BlockVault") (T := T_V) (N := 5) hx hb hT in_V hown hK (hW.obj rfl) 0 rfl rfl 1 (by decide) (hT _ k127) (fun _ h9 => h9) rfl d_V_get_37 ?_
          refine jw_callq (va_runV (As := [.int b, .ref (sh 267)]) (rest := []) ⟨hx, hb, hml, hown, hT⟩ (m_C_lookAt l D B cA sh V P b h3) (cwV 2 hT (gV k237 k238 k239 k5 kc_C_lookAt) rfl rfl rfl (by decide +kernel) ⟨Nat.le_of_ble_eq_true rfl, Nat.le_of_ble_eq_true rfl⟩) (jw_preV (q := ("BlockVault$Cache", T_C, 3)) hW hK hN rfl rfl) rfl rfl hl.1 rfl (lv_room (Nat.le_of_ble_eq_true rfl)) d_V_get_40 ⟨Nat.le_of_ble_eq_true rfl, Nat.le_of_ble_eq_true rfl⟩) hS (fun r16 V17 P18 H locs hw19 hW hS => ?_)
          obtain ⟨rfl, hu0⟩ := hw19
          obtain ⟨rfl, rfl⟩ := tl hu0
          have hlk := mLook_lt V P b
          refine va_getN (D := D) (ci := 4) (v := .ref (sh (80 + (mLook V P b).1))) (C := "BlockVault$Row") (T := T_R) (N := 5) hx hb hT in_R hown hK (hW.obj (lay_row hlk)) 0 rfl rfl 0 (by decide) (nf2 hN) (fun _ h9 => h9) rfl d_V_get_43 ?_
          refine lv_iload_n hx hb d_V_get_46 rfl (lv_at hl 2 rfl) ?_
          refine jw_calli (va_runV (As := [.int k]) (rest := []) ⟨hx, hb, hml, hown, hT⟩ (m_P_byteAt l D B cA sh (mLook V P b).2.1 (mLook V P b).2.2 (80 + (mLook V P b).1) (by omega) k) (cwV 1 hT (gV k254 k208 k209 k4 kc_P_byteAt) rfl rfl rfl (by decide +kernel) ⟨Nat.le_of_ble_eq_true rfl, Nat.le_of_ble_eq_true rfl⟩) (jw_preP (q := ("BlockVault$Page", T_P, 1)) hW hK hN (by omega) rfl) rfl rfl hl.1 rfl (lv_room (Nat.le_of_ble_eq_true rfl)) d_V_get_47 ⟨Nat.le_of_ble_eq_true rfl, Nat.le_of_ble_eq_true rfl⟩) hS (fun r20 V21 P22 H locs hw23 hW hS => ?_)
          obtain ⟨rfl, rfl, rfl⟩ := t3 hw23
          refine W.widen (k := 1) (n := 1024) (by omega) (by omega) ?_
          exact W.iret (v := (mByte ((mLook V P b).2.2 (80 + (mLook V P b).1)) k)) hx hb hr (fun t9 ht9 hwz => ⟨⟨(mByte ((mLook V P b).2.2 (80 + (mLook V P b).1)) k), ((mLook V P b).2.1, (mLook V P b).2.2), rfl, (by unfold mGet; rw [if_neg (fun q => by rcases q with q | q | q | q; exact c5 q; exact q hq13; exact c14 q; exact q c15)]), by rw [ht9]; exact hW, va_K.moved hwz.alike hK, hN.warm hwz⟩, hS.F ht9⟩) hS.2.2 d_V_get_50
        · refine lv_iconst (v := (-1)) hx hb d_V_get_29 (by decide) ?_
          refine W.widen (k := 1) (n := 1024) (by omega) (by omega) ?_
          exact W.iret (v := (-1)) hx hb hr (fun t9 ht9 hwz => ⟨⟨(-1), (V, P), rfl, (by unfold mGet; rw [if_pos (Or.inr (Or.inr (Or.inr c15)))]), by rw [ht9]; exact hW, va_K.moved hwz.alike hK, hN.warm hwz⟩, hS.F ht9⟩) hS.2.2 d_V_get_30

set_option maxHeartbeats 4000000 in
set_option maxRecDepth 100000 in
theorem m_V_fill (l : Launch) (D : va_G) (B : Nat) (cA : Nat → ClassId) (sh : Nat → Nat) (V P : VV) (hon : V 267 1 = 0 ∨ V 267 1 = 1) (h3 : ∀ i, i < 34 → V (232 + i) 3 = 0 ∨ V (232 + i) 3 = 1) (b k n v : Int32) : Met l y_V_fill w_V_fill ({ frames := 5, cells := 279, slots := 296448, locals := 126 } : Room) (va_Pc [.ref (sh 266), .int b, .int k, .int n, .int v] (JC D B cA sh (V, P))) (va_Qi (fun (r : Int32) (u : VV × VV) => (r, u.1, u.2) = mFill V P b k n v) (JC D B cA sh) (hm_A B)) 279 296448 (hm_A B) := by
  refine Met.ofW (cc := c_V_fill) (maxL := 6) (ret := (some FieldType.boolean)) (by decide) rfl ?_
  intro p e s m args below meth c s₁ Bd hml hv
  obtain ⟨rfl, hW, hK, hN⟩ := hv
  have hx := Bd.exec
  have hb := Bd.bytes
  have hr := Bd.returns
  have hts := atoms_spec (ws := w_V_fill) Bd.pre
  have hT : ∀ w ∈ WG, w.before ([.ref (sh 266), .int b, .int k, .int n, .int v] : List Value).toArray s = true := fun w h => hts w (List.mem_cons_of_mem _ h)
  have hown : s.vm.findClass "BlockVault" = some m.cls := findClass_of_methodNamed Bd.named
  have hlocks := Bd.notSynchronized
  have hW : JW D B cA sh V P s.heap := hW
  have hBs : B ≤ s.heap.size := hW.ge
  have hS : va_S (hm_A B) s.heap s.heap [] := va_S.rf
  have hl := lv_entry ([.ref (sh 266), .int b, .int k, .int n, .int v]) (n := 6) (Nat.le_of_ble_eq_true rfl)
  rw [lg_entry_eq]
  generalize (lg_sl ([.ref (sh 266), .int b, .int k, .int n, .int v]) ++ List.replicate (6 - (lg_sl ([.ref (sh 266), .int b, .int k, .int n, .int v])).length) Slot.unset).toArray = ls at hl ⊢
  have hl : lv_has ls 6 [(0, .ref (sh 266)), (1, .int b), (2, .int k), (3, .int n), (4, .int v)] := hl
  refine lv_aload_n hx hb d_V_fill_0 rfl (lv_at hl 0 rfl) ?_
  refine va_get (D := D) (ci := 5) (v := .ref (sh 267)) (C := "BlockVault") (T := T_V) (N := 5) hx hb hT in_V hown hK (hW.obj rfl) 0 rfl rfl 1 (by decide) (hT _ k127) (fun _ h9 => h9) rfl d_V_fill_1 ?_
  refine jw_calli (va_runV (As := []) (rest := []) ⟨hx, hb, hml, hown, hT⟩ (m_D_isOn l D B cA sh V P hon) (cwV 0 hT (gV k146 k147 k148 k3 kc_D_isOn) rfl rfl rfl (by decide +kernel) ⟨Nat.le_of_ble_eq_true rfl, Nat.le_of_ble_eq_true rfl⟩) (jw_preV (q := ("BlockVault$Disk", T_D, 4)) hW hK hN rfl rfl) rfl rfl hl.1 rfl (lv_room (Nat.le_of_ble_eq_true rfl)) d_V_fill_4 ⟨Nat.le_of_ble_eq_true rfl, Nat.le_of_ble_eq_true rfl⟩) hS (fun r1 V2 P3 H locs hw4 hW hS => ?_)
  obtain ⟨rfl, rfl, rfl⟩ := t3 hw4
  refine lv_if_eq (tgt := 41) hx hb d_V_fill_7 (by decide) (fun c5 => ?_) (fun c5 => ?_)
  · refine lv_iconst (v := 0) hx hb d_V_fill_41 (by decide) ?_
    refine W.widen (k := 279) (n := 296448) (by omega) (by omega) ?_
    exact W.zret (ty := .boolean) (v := 0) hx hb hr rfl (fun t9 ht9 hwz => ⟨⟨0, (V, P), rfl, (by unfold mFill; rw [if_pos (Or.inl c5)]), by rw [ht9]; exact hW, va_K.moved hwz.alike hK, hN.warm hwz⟩, hS.F ht9⟩) hS.2.2 d_V_fill_42
  · refine lv_aload_n hx hb d_V_fill_10 rfl (lv_at hl 0 rfl) ?_
    refine va_get (D := D) (ci := 5) (v := .int (V 266 4)) (C := "BlockVault") (T := T_V) (N := 5) hx hb hT in_V hown hK (hW.obj rfl) 0 rfl rfl 4 (by decide) (hT _ k130) (fun _ h9 => h9) rfl d_V_fill_11 ?_
    refine lv_if_eq (tgt := 41) hx hb d_V_fill_14 (by decide) (fun c6 => ?_) (fun c6 => ?_)
    · refine lv_iconst (v := 0) hx hb d_V_fill_41 (by decide) ?_
      refine W.widen (k := 279) (n := 296448) (by omega) (by omega) ?_
      exact W.zret (ty := .boolean) (v := 0) hx hb hr rfl (fun t9 ht9 hwz => ⟨⟨0, (V, P), rfl, (by unfold mFill; rw [if_pos (Or.inr (Or.inl c6))]), by rw [ht9]; exact hW, va_K.moved hwz.alike hK, hN.warm hwz⟩, hS.F ht9⟩) hS.2.2 d_V_fill_42
    · refine lv_aload_n hx hb d_V_fill_17 rfl (lv_at hl 0 rfl) ?_
      refine lv_iload_n hx hb d_V_fill_18 rfl (lv_at hl 1 rfl) ?_
      refine jw_calli (va_runV (As := [.int b]) (rest := []) ⟨hx, hb, hml, hown, hT⟩ (m_V_isBlock l D B cA sh V P b) (cwV 1 hT (gV k233 k235 ks2 k1 kc_V_isBlock) rfl rfl rfl (by decide +kernel) ⟨Nat.le_of_ble_eq_true rfl, Nat.le_of_ble_eq_true rfl⟩) (jw_preV (q := ("BlockVault", T_V, 5)) hW hK hN rfl rfl) rfl rfl hl.1 rfl (lv_room (Nat.le_of_ble_eq_true rfl)) d_V_fill_19 ⟨Nat.le_of_ble_eq_true rfl, Nat.le_of_ble_eq_true rfl⟩) hS (fun r7 V8 P9 H locs hw10 hW hS => ?_)
      obtain ⟨hr11, rfl, rfl⟩ := t3 hw10
      refine lv_if_eq (tgt := 41) hx hb d_V_fill_22 (by decide) (fun c12 => ?_) (fun c12 => ?_)
      · have hq13 : ¬ (mIsBlock V b) := bi_f hr11 c12
        refine lv_iconst (v := 0) hx hb d_V_fill_41 (by decide) ?_
        refine W.widen (k := 279) (n := 296448) (by omega) (by omega) ?_
        exact W.zret (ty := .boolean) (v := 0) hx hb hr rfl (fun t9 ht9 hwz => ⟨⟨0, (V, P), rfl, (by unfold mFill; rw [if_pos (Or.inr (Or.inr (Or.inl hq13)))]), by rw [ht9]; exact hW, va_K.moved hwz.alike hK, hN.warm hwz⟩, hS.F ht9⟩) hS.2.2 d_V_fill_42
      · have hq14 : mIsBlock V b := bi_t hr11 c12
        refine lv_iload_n hx hb d_V_fill_25 rfl (lv_at hl 2 rfl) ?_
        refine lv_iload_n hx hb d_V_fill_26 rfl (lv_at hl 3 rfl) ?_
        refine jw_calli (va_runS (As := [.int k, .int n]) (rest := []) ⟨hx, hb, hml, hown, hT⟩ (m_V_isRun l D B cA sh V P k n) (va_cwS 2 hT (gS k259 k179 k1 kc_V_isRun) rfl rfl rfl (by decide +kernel) ⟨Nat.le_of_ble_eq_true rfl, Nat.le_of_ble_eq_true rfl⟩) (jw_preS hW hK hN) rfl rfl hl.1 rfl (lv_room (Nat.le_of_ble_eq_true rfl)) d_V_fill_27 ⟨Nat.le_of_ble_eq_true rfl, Nat.le_of_ble_eq_true rfl⟩) hS (fun r15 V16 P17 H locs hw18 hW hS => ?_)
        obtain ⟨hr19, rfl, rfl⟩ := t3 hw18
        refine lv_if_eq (tgt := 41) hx hb d_V_fill_30 (by decide) (fun c20 => ?_) (fun c20 => ?_)
        · have hq21 : ¬ (mIsRun k n) := bi_f hr19 c20
          refine lv_iconst (v := 0) hx hb d_V_fill_41 (by decide) ?_
          refine W.widen (k := 279) (n := 296448) (by omega) (by omega) ?_
          exact W.zret (ty := .boolean) (v := 0) hx hb hr rfl (fun t9 ht9 hwz => ⟨⟨0, (V, P), rfl, (by unfold mFill; rw [if_pos (Or.inr (Or.inr (Or.inr (Or.inl hq21))))]), by rw [ht9]; exact hW, va_K.moved hwz.alike hK, hN.warm hwz⟩, hS.F ht9⟩) hS.2.2 d_V_fill_42
        · have hq22 : mIsRun k n := bi_t hr19 c20
          refine lv_aload_n hx hb d_V_fill_33 rfl (lv_at hl 0 rfl) ?_
          refine lv_iload_n hx hb d_V_fill_34 rfl (lv_at hl 1 rfl) ?_
          refine jw_calli (va_runV (As := [.int b]) (rest := []) ⟨hx, hb, hml, hown, hT⟩ (m_V_stepTakes l D B cA sh V P b) (cwV 1 hT (gV k260 k262 ks4 k1 kc_V_stepTakes) rfl rfl rfl (by decide +kernel) ⟨Nat.le_of_ble_eq_true rfl, Nat.le_of_ble_eq_true rfl⟩) (jw_preV (q := ("BlockVault", T_V, 5)) hW hK hN rfl rfl) rfl rfl hl.1 rfl (lv_room (Nat.le_of_ble_eq_true rfl)) d_V_fill_35 ⟨Nat.le_of_ble_eq_true rfl, Nat.le_of_ble_eq_true rfl⟩) hS (fun r23 V24 P25 H locs hw26 hW hS => ?_)
          obtain ⟨rfl, rfl, rfl⟩ := t3 hw26
          refine lv_if_ne (tgt := 43) hx hb d_V_fill_38 (by decide) (fun c27 => ?_) (fun c27 => ?_)
          · refine lv_aload_n hx hb d_V_fill_43 rfl (lv_at hl 0 rfl) ?_
            refine va_get (D := D) (ci := 5) (v := .ref (sh 268)) (C := "BlockVault") (T := T_V) (N := 5) hx hb hT in_V hown hK (hW.obj rfl) 0 rfl rfl 2 (by decide) (hT _ k128) (fun _ h9 => h9) rfl d_V_fill_44 ?_
            refine lv_iload_n hx hb d_V_fill_47 rfl (lv_at hl 1 rfl) ?_
            refine lv_aload_n hx hb d_V_fill_48 rfl (lv_at hl 0 rfl) ?_
            refine va_get (D := D) (ci := 5) (v := .ref (sh 267)) (C := "BlockVault") (T := T_V) (N := 5) hx hb hT in_V hown hK (hW.obj rfl) 0 rfl rfl 1 (by decide) (hT _ k127) (fun _ h9 => h9) rfl d_V_fill_49 ?_
            refine jw_callq (va_runV (As := [.int b, .ref (sh 267)]) (rest := []) ⟨hx, hb, hml, hown, hT⟩ (m_C_lookAt l D B cA sh V P b h3) (cwV 2 hT (gV k237 k238 k239 k5 kc_C_lookAt) rfl rfl rfl (by decide +kernel) ⟨Nat.le_of_ble_eq_true rfl, Nat.le_of_ble_eq_true rfl⟩) (jw_preV (q := ("BlockVault$Cache", T_C, 3)) hW hK hN rfl rfl) rfl rfl hl.1 rfl (lv_room (Nat.le_of_ble_eq_true rfl)) d_V_fill_52 ⟨Nat.le_of_ble_eq_true rfl, Nat.le_of_ble_eq_true rfl⟩) hS (fun r28 V29 P30 H locs hw31 hW hS => ?_)
            obtain ⟨rfl, hu0⟩ := hw31
            obtain ⟨rfl, rfl⟩ := tl hu0
            have hlk := mLook_lt V P b
            refine jw_tight hBs hW ?_
            refine lv_astore (lv' := [(5, .ref (sh (232 + (mLook V P b).1))), (0, .ref (sh 266)), (1, .int b), (2, .int k), (3, .int n), (4, .int v)]) hx hb d_V_fill_55 hl (by decide) rfl (fun ls hl => ?_)
            refine lv_aload hx hb d_V_fill_57 (lv_at hl 0 rfl) ?_
            refine lv_iconst (v := 1) hx hb d_V_fill_59 (by decide) ?_
            refine jw_putN (ci := 4) (x := 1) (ty := .boolean) (C := "BlockVault$Row") (T := T_R) (N := 5) hx hb hT in_R t_R t_R_ok n_R hown hK hW hS (lay_row hlk) rfl 3 (by decide) rfl (nf8 hN) (fun _ h9 => h9) rfl (by decide +kernel) rfl rfl d_V_fill_60 (fun H locs hW hS => ?_)
            refine lv_aload hx hb d_V_fill_63 (lv_at hl 0 rfl) ?_
            refine lv_iconst (v := 1) hx hb d_V_fill_65 (by decide) ?_
            refine jw_putN (ci := 4) (x := 1) (ty := .boolean) (C := "BlockVault$Row") (T := T_R) (N := 5) hx hb hT in_R t_R t_R_ok n_R hown hK hW hS (lay_row hlk) rfl 4 (by decide) rfl (nf9 hN) (fun _ h9 => h9) rfl (by decide +kernel) rfl rfl d_V_fill_66 (fun H locs hW hS => ?_)
            refine lv_aload hx hb d_V_fill_69 (lv_at hl 0 rfl) ?_
            refine va_getN (D := D) (ci := 4) (v := .ref (sh (80 + (mLook V P b).1))) (C := "BlockVault$Row") (T := T_R) (N := 5) hx hb hT in_R hown hK (hW.obj (lay_row hlk)) 0 rfl rfl 0 (by decide) (nf2 hN) (fun _ h9 => h9) rfl d_V_fill_71 ?_
            refine lv_iload_n hx hb d_V_fill_74 rfl (lv_at hl 3 rfl) ?_
            refine lv_iload_n hx hb d_V_fill_75 rfl (lv_at hl 4 rfl) ?_
            refine lv_iload hx hb d_V_fill_76 (lv_at hl 5 rfl) ?_
            refine jw_callv (va_runV (As := [.int k, .int n, .int v]) (rest := []) ⟨hx, hb, hml, hown, hT⟩ (m_P_putRun l D B cA sh (v2 (v2 ((mLook V P b).2.1) (232 + (mLook V P b).1) 3 1) (232 + (mLook V P b).1) 4 1) ((mLook V P b).2.2) (80 + (mLook V P b).1) (by omega) k n v) (cwV 3 hT (gV k269 k175 k176 k4 kc_P_putRun) rfl rfl rfl (by decide +kernel) ⟨Nat.le_of_ble_eq_true rfl, Nat.le_of_ble_eq_true rfl⟩) (jw_preP (q := ("BlockVault$Page", T_P, 1)) hW hK hN (by omega) rfl) rfl rfl hl.1 rfl (lv_room (Nat.le_of_ble_eq_true rfl)) d_V_fill_78 ⟨Nat.le_of_ble_eq_true rfl, Nat.le_of_ble_eq_true rfl⟩) hS (fun V33 P34 H locs hw35 hW hS => ?_)
            refine jw_tight hBs hW ?_
            cases hw35
            refine lv_iconst (v := 1) hx hb d_V_fill_81 (by decide) ?_
            refine W.widen (k := 279) (n := 296448) (by omega) (by omega) ?_
            exact W.zret (ty := .boolean) (v := 1) hx hb hr rfl (fun t9 ht9 hwz => ⟨⟨1, ((v2 (v2 ((mLook V P b).2.1) (232 + (mLook V P b).1) 3 1) (232 + (mLook V P b).1) 4 1), (p1 (mLook V P b).2.2 (80 + (mLook V P b).1) (mPut ((mLook V P b).2.2 (80 + (mLook V P b).1)) k n v))), rfl, (by unfold mFill; rw [if_neg (fun q => by rcases q with q | q | q | q | q; exact c5 q; exact c6 q; exact q hq14; exact q hq22; exact c27 q)]; rfl), by rw [ht9]; exact hW, va_K.moved hwz.alike hK, hN.warm hwz⟩, hS.F ht9⟩) hS.2.2 d_V_fill_82
          · refine lv_iconst (v := 0) hx hb d_V_fill_41 (by decide) ?_
            refine W.widen (k := 279) (n := 296448) (by omega) (by omega) ?_
            exact W.zret (ty := .boolean) (v := 0) hx hb hr rfl (fun t9 ht9 hwz => ⟨⟨0, (V, P), rfl, (by unfold mFill; rw [if_pos (Or.inr (Or.inr (Or.inr (Or.inr c27))))]), by rw [ht9]; exact hW, va_K.moved hwz.alike hK, hN.warm hwz⟩, hS.F ht9⟩) hS.2.2 d_V_fill_42

set_option maxHeartbeats 4000000 in
set_option maxRecDepth 100000 in
theorem m_V_count (l : Launch) (D : va_G) (B : Nat) (cA : Nat → ClassId) (sh : Nat → Nat) (V P : VV) (hon : V 267 1 = 0 ∨ V 267 1 = 1) (wh : Int32) : Met l y_V_count w_V_count ({ frames := 1, cells := 0, slots := 0, locals := 25 } : Room) (va_Pc [.ref (sh 266), .int wh] (JC D B cA sh (V, P))) (va_Qi (fun (r : Int32) (u : VV × VV) => (r, u.1, u.2) = (mCount V wh, V, P)) (JC D B cA sh) (hm_A B)) 0 0 (hm_A B) := by
  refine Met.ofW (cc := c_V_count) (maxL := 2) (ret := (some FieldType.int)) (by decide) rfl ?_
  intro p e s m args below meth c s₁ Bd hml hv
  obtain ⟨rfl, hW, hK, hN⟩ := hv
  have hx := Bd.exec
  have hb := Bd.bytes
  have hr := Bd.returns
  have hts := atoms_spec (ws := w_V_count) Bd.pre
  have hT : ∀ w ∈ WG, w.before ([.ref (sh 266), .int wh] : List Value).toArray s = true := fun w h => hts w (List.mem_cons_of_mem _ h)
  have hown : s.vm.findClass "BlockVault" = some m.cls := findClass_of_methodNamed Bd.named
  have hlocks := Bd.notSynchronized
  have hW : JW D B cA sh V P s.heap := hW
  have hBs : B ≤ s.heap.size := hW.ge
  have hS : va_S (hm_A B) s.heap s.heap [] := va_S.rf
  have hl := lv_entry ([.ref (sh 266), .int wh]) (n := 2) (Nat.le_of_ble_eq_true rfl)
  rw [lg_entry_eq]
  generalize (lg_sl ([.ref (sh 266), .int wh]) ++ List.replicate (2 - (lg_sl ([.ref (sh 266), .int wh])).length) Slot.unset).toArray = ls at hl ⊢
  have hl : lv_has ls 2 [(0, .ref (sh 266)), (1, .int wh)] := hl
  refine lv_iload_n hx hb d_V_count_0 rfl (lv_at hl 1 rfl) ?_
  by_cases e0 : wh = 0
  · subst e0
    refine lv_tableIn (off := 43) (tgt := 44) hx hb d_V_count_1 (by decide) (by decide) rfl (by decide) ?_
    refine lv_aload_n hx hb d_V_count_44 rfl (lv_at hl 0 rfl) ?_
    refine va_get (D := D) (ci := 5) (v := .ref (sh 267)) (C := "BlockVault") (T := T_V) (N := 5) hx hb hT in_V hown hK (hW.obj rfl) 0 rfl rfl 1 (by decide) (hT _ k127) (fun _ h9 => h9) rfl d_V_count_45 ?_
    refine jw_calli (va_runV (As := []) (rest := []) ⟨hx, hb, hml, hown, hT⟩ (m_D_isOn l D B cA sh V P hon) (cwV 0 hT (gV k146 k147 k148 k3 kc_D_isOn) rfl rfl rfl (by decide +kernel) ⟨Nat.le_of_ble_eq_true rfl, Nat.le_of_ble_eq_true rfl⟩) (jw_preV (q := ("BlockVault$Disk", T_D, 4)) hW hK hN rfl rfl) rfl rfl hl.1 rfl (lv_room (Nat.le_of_ble_eq_true rfl)) d_V_count_48 ⟨Nat.le_of_ble_eq_true rfl, Nat.le_of_ble_eq_true rfl⟩) hS (fun r1 V2 P3 H locs hw4 hW hS => ?_)
    obtain ⟨rfl, rfl, rfl⟩ := t3 hw4
    refine lv_if_eq (tgt := 58) hx hb d_V_count_51 (by decide) (fun c5 => ?_) (fun c5 => ?_)
    · refine lv_iconst (v := 0) hx hb d_V_count_58 (by decide) ?_
      refine W.widen (k := 0) (n := 0) (by omega) (by omega) ?_
      exact W.iret (v := 0) hx hb hr (fun t9 ht9 hwz => ⟨⟨0, (V, P), rfl, (by simp [mCount, c5]), by rw [ht9]; exact hW, va_K.moved hwz.alike hK, hN.warm hwz⟩, hS.F ht9⟩) hS.2.2 d_V_count_59
    · refine lv_iconst (v := 1) hx hb d_V_count_54 (by decide) ?_
      refine lv_goto (tgt := 59) hx hb d_V_count_55 (by decide) ?_
      refine W.widen (k := 0) (n := 0) (by omega) (by omega) ?_
      exact W.iret (v := 1) hx hb hr (fun t9 ht9 hwz => ⟨⟨1, (V, P), rfl, (by simp [mCount, c5]), by rw [ht9]; exact hW, va_K.moved hwz.alike hK, hN.warm hwz⟩, hS.F ht9⟩) hS.2.2 d_V_count_59
  by_cases e1 : wh = 1
  · subst e1
    refine lv_tableIn (off := 59) (tgt := 60) hx hb d_V_count_1 (by decide) (by decide) rfl (by decide) ?_
    refine lv_aload_n hx hb d_V_count_60 rfl (lv_at hl 0 rfl) ?_
    refine va_get (D := D) (ci := 5) (v := .int (V 266 0)) (C := "BlockVault") (T := T_V) (N := 5) hx hb hT in_V hown hK (hW.obj rfl) 0 rfl rfl 0 (by decide) (hT _ k126) (fun _ h9 => h9) rfl d_V_count_61 ?_
    refine W.widen (k := 0) (n := 0) (by omega) (by omega) ?_
    exact W.iret (v := (V 266 0)) hx hb hr (fun t9 ht9 hwz => ⟨⟨(V 266 0), (V, P), rfl, (by simp [mCount]), by rw [ht9]; exact hW, va_K.moved hwz.alike hK, hN.warm hwz⟩, hS.F ht9⟩) hS.2.2 d_V_count_64
  by_cases e2 : wh = 2
  · subst e2
    refine lv_tableIn (off := 64) (tgt := 65) hx hb d_V_count_1 (by decide) (by decide) rfl (by decide) ?_
    refine lv_aload_n hx hb d_V_count_65 rfl (lv_at hl 0 rfl) ?_
    refine va_get (D := D) (ci := 5) (v := .ref (sh 268)) (C := "BlockVault") (T := T_V) (N := 5) hx hb hT in_V hown hK (hW.obj rfl) 0 rfl rfl 2 (by decide) (hT _ k128) (fun _ h9 => h9) rfl d_V_count_66 ?_
    refine jw_calli (va_runV (As := []) (rest := []) ⟨hx, hb, hml, hown, hT⟩ (m_C_heldRows l D B cA sh V P) (cwV 0 hT (gV k158 k159 k160 k5 kc_C_heldRows) rfl rfl rfl (by decide +kernel) ⟨Nat.le_of_ble_eq_true rfl, Nat.le_of_ble_eq_true rfl⟩) (jw_preV (q := ("BlockVault$Cache", T_C, 3)) hW hK hN rfl rfl) rfl rfl hl.1 rfl (lv_room (Nat.le_of_ble_eq_true rfl)) d_V_count_69 ⟨Nat.le_of_ble_eq_true rfl, Nat.le_of_ble_eq_true rfl⟩) hS (fun r6 V7 P8 H locs hw9 hW hS => ?_)
    obtain ⟨rfl, rfl, rfl⟩ := t3 hw9
    refine W.widen (k := 0) (n := 0) (by omega) (by omega) ?_
    exact W.iret (v := (mCnt V 3)) hx hb hr (fun t9 ht9 hwz => ⟨⟨(mCnt V 3), (V, P), rfl, (by simp [mCount]), by rw [ht9]; exact hW, va_K.moved hwz.alike hK, hN.warm hwz⟩, hS.F ht9⟩) hS.2.2 d_V_count_72
  by_cases e3 : wh = 3
  · subst e3
    refine lv_tableIn (off := 72) (tgt := 73) hx hb d_V_count_1 (by decide) (by decide) rfl (by decide) ?_
    refine lv_aload_n hx hb d_V_count_73 rfl (lv_at hl 0 rfl) ?_
    refine va_get (D := D) (ci := 5) (v := .int (V 266 4)) (C := "BlockVault") (T := T_V) (N := 5) hx hb hT in_V hown hK (hW.obj rfl) 0 rfl rfl 4 (by decide) (hT _ k130) (fun _ h9 => h9) rfl d_V_count_74 ?_
    refine lv_if_eq (tgt := 90) hx hb d_V_count_77 (by decide) (fun c10 => ?_) (fun c10 => ?_)
    · refine lv_iconst (v := (-1)) hx hb d_V_count_90 (by decide) ?_
      refine W.widen (k := 0) (n := 0) (by omega) (by omega) ?_
      exact W.iret (v := (-1)) hx hb hr (fun t9 ht9 hwz => ⟨⟨(-1), (V, P), rfl, (by simp [mCount, c10]), by rw [ht9]; exact hW, va_K.moved hwz.alike hK, hN.warm hwz⟩, hS.F ht9⟩) hS.2.2 d_V_count_91
    · refine lv_aload_n hx hb d_V_count_80 rfl (lv_at hl 0 rfl) ?_
      refine va_get (D := D) (ci := 5) (v := .ref (sh 268)) (C := "BlockVault") (T := T_V) (N := 5) hx hb hT in_V hown hK (hW.obj rfl) 0 rfl rfl 2 (by decide) (hT _ k128) (fun _ h9 => h9) rfl d_V_count_81 ?_
      refine jw_calli (va_runV (As := []) (rest := []) ⟨hx, hb, hml, hown, hT⟩ (m_C_stepRows l D B cA sh V P) (cwV 0 hT (gV k265 k266 k267 k5 kc_C_stepRows) rfl rfl rfl (by decide +kernel) ⟨Nat.le_of_ble_eq_true rfl, Nat.le_of_ble_eq_true rfl⟩) (jw_preV (q := ("BlockVault$Cache", T_C, 3)) hW hK hN rfl rfl) rfl rfl hl.1 rfl (lv_room (Nat.le_of_ble_eq_true rfl)) d_V_count_84 ⟨Nat.le_of_ble_eq_true rfl, Nat.le_of_ble_eq_true rfl⟩) hS (fun r11 V12 P13 H locs hw14 hW hS => ?_)
      obtain ⟨rfl, rfl, rfl⟩ := t3 hw14
      refine lv_goto (tgt := 91) hx hb d_V_count_87 (by decide) ?_
      refine W.widen (k := 0) (n := 0) (by omega) (by omega) ?_
      exact W.iret (v := (mCnt V 4)) hx hb hr (fun t9 ht9 hwz => ⟨⟨(mCnt V 4), (V, P), rfl, (by simp [mCount, c10]), by rw [ht9]; exact hW, va_K.moved hwz.alike hK, hN.warm hwz⟩, hS.F ht9⟩) hS.2.2 d_V_count_91
  by_cases e4 : wh = 4
  · subst e4
    refine lv_tableIn (off := 91) (tgt := 92) hx hb d_V_count_1 (by decide) (by decide) rfl (by decide) ?_
    refine lv_aload_n hx hb d_V_count_92 rfl (lv_at hl 0 rfl) ?_
    refine va_get (D := D) (ci := 5) (v := .ref (sh 267)) (C := "BlockVault") (T := T_V) (N := 5) hx hb hT in_V hown hK (hW.obj rfl) 0 rfl rfl 1 (by decide) (hT _ k127) (fun _ h9 => h9) rfl d_V_count_93 ?_
    refine jw_calli (va_runV (As := []) (rest := []) ⟨hx, hb, hml, hown, hT⟩ (m_D_writesMade l D B cA sh V P) (cwV 0 hT (gV k291 k292 k293 k3 kc_D_writesMade) rfl rfl rfl (by decide +kernel) ⟨Nat.le_of_ble_eq_true rfl, Nat.le_of_ble_eq_true rfl⟩) (jw_preV (q := ("BlockVault$Disk", T_D, 4)) hW hK hN rfl rfl) rfl rfl hl.1 rfl (lv_room (Nat.le_of_ble_eq_true rfl)) d_V_count_96 ⟨Nat.le_of_ble_eq_true rfl, Nat.le_of_ble_eq_true rfl⟩) hS (fun r15 V16 P17 H locs hw18 hW hS => ?_)
    obtain ⟨rfl, rfl, rfl⟩ := t3 hw18
    refine W.widen (k := 0) (n := 0) (by omega) (by omega) ?_
    exact W.iret (v := (V 267 3)) hx hb hr (fun t9 ht9 hwz => ⟨⟨(V 267 3), (V, P), rfl, (by simp [mCount]), by rw [ht9]; exact hW, va_K.moved hwz.alike hK, hN.warm hwz⟩, hS.F ht9⟩) hS.2.2 d_V_count_99
  by_cases e5 : wh = 5
  · subst e5
    refine lv_tableIn (off := 99) (tgt := 100) hx hb d_V_count_1 (by decide) (by decide) rfl (by decide) ?_
    refine lv_aload_n hx hb d_V_count_100 rfl (lv_at hl 0 rfl) ?_
    refine va_get (D := D) (ci := 5) (v := .ref (sh 268)) (C := "BlockVault") (T := T_V) (N := 5) hx hb hT in_V hown hK (hW.obj rfl) 0 rfl rfl 2 (by decide) (hT _ k128) (fun _ h9 => h9) rfl d_V_count_101 ?_
    refine jw_calli (va_runV (As := []) (rest := []) ⟨hx, hb, hml, hown, hT⟩ (m_C_readsMade l D B cA sh V P) (cwV 0 hT (gV k295 k296 k297 k5 kc_C_readsMade) rfl rfl rfl (by decide +kernel) ⟨Nat.le_of_ble_eq_true rfl, Nat.le_of_ble_eq_true rfl⟩) (jw_preV (q := ("BlockVault$Cache", T_C, 3)) hW hK hN rfl rfl) rfl rfl hl.1 rfl (lv_room (Nat.le_of_ble_eq_true rfl)) d_V_count_104 ⟨Nat.le_of_ble_eq_true rfl, Nat.le_of_ble_eq_true rfl⟩) hS (fun r19 V20 P21 H locs hw22 hW hS => ?_)
    obtain ⟨rfl, rfl, rfl⟩ := t3 hw22
    refine W.widen (k := 0) (n := 0) (by omega) (by omega) ?_
    exact W.iret (v := (V 268 2)) hx hb hr (fun t9 ht9 hwz => ⟨⟨(V 268 2), (V, P), rfl, (by simp [mCount]), by rw [ht9]; exact hW, va_K.moved hwz.alike hK, hN.warm hwz⟩, hS.F ht9⟩) hS.2.2 d_V_count_107
  by_cases e6 : wh = 6
  · subst e6
    refine lv_tableIn (off := 107) (tgt := 108) hx hb d_V_count_1 (by decide) (by decide) rfl (by decide) ?_
    refine lv_aload_n hx hb d_V_count_108 rfl (lv_at hl 0 rfl) ?_
    refine va_get (D := D) (ci := 5) (v := .ref (sh 269)) (C := "BlockVault") (T := T_V) (N := 5) hx hb hT in_V hown hK (hW.obj rfl) 0 rfl rfl 3 (by decide) (hT _ k129) (fun _ h9 => h9) rfl d_V_count_109 ?_
    refine jw_calli (va_runV (As := []) (rest := []) ⟨hx, hb, hml, hown, hT⟩ (m_L_commitsCounted l D B cA sh V P) (cwV 0 hT (gV k299 k300 k301 k7 kc_L_commitsCounted) rfl rfl rfl (by decide +kernel) ⟨Nat.le_of_ble_eq_true rfl, Nat.le_of_ble_eq_true rfl⟩) (jw_preV (q := ("BlockVault$Log", T_L, 3)) hW hK hN rfl rfl) rfl rfl hl.1 rfl (lv_room (Nat.le_of_ble_eq_true rfl)) d_V_count_112 ⟨Nat.le_of_ble_eq_true rfl, Nat.le_of_ble_eq_true rfl⟩) hS (fun r23 V24 P25 H locs hw26 hW hS => ?_)
    obtain ⟨rfl, rfl, rfl⟩ := t3 hw26
    refine W.widen (k := 0) (n := 0) (by omega) (by omega) ?_
    exact W.iret (v := (V 269 2)) hx hb hr (fun t9 ht9 hwz => ⟨⟨(V 269 2), (V, P), rfl, (by simp [mCount]), by rw [ht9]; exact hW, va_K.moved hwz.alike hK, hN.warm hwz⟩, hS.F ht9⟩) hS.2.2 d_V_count_115
  refine lv_tableOut (tgt := 116) hx hb d_V_count_1 (out06 e0 e1 e2 e3 e4 e5 e6) (by decide) ?_
  refine lv_iconst (v := (-1)) hx hb d_V_count_116 (by decide) ?_
  refine W.widen (k := 0) (n := 0) (by omega) (by omega) ?_
  exact W.iret (v := (-1)) hx hb hr (fun t9 ht9 hwz => ⟨⟨(-1), (V, P), rfl, (by simp [mCount, e0, e1, e2, e3, e4, e5, e6]), by rw [ht9]; exact hW, va_K.moved hwz.alike hK, hN.warm hwz⟩, hS.F ht9⟩) hS.2.2 d_V_count_117
