def XC (D : va_G) (B : Nat) (cA : Nat → ClassId) (h : hm_T) (b L : Nat) (xs : Nat → Int32) (U : State) : Prop := HN D B cA h U ∧ va_X b L xs U U.heap
theorem XC.blind {D : va_G} {B : Nat} {cA : Nat → ClassId} {h : hm_T} {b L : Nat} {xs : Nat → Int32} {av : List Value} : FrameBlind (va_Pc av (XC D B cA h b L xs)) := fun a U g mk q =>
  ⟨q.1, ⟨q.2.1.1, va_K.moved (u := U) (U := U.calling g mk a) (Vm.Alike.refl U.vm) q.2.1.2.1, q.2.1.2.2.same rfl⟩, va_X.moved (u := U) (U := U.calling g mk a) (Vm.Alike.refl U.vm) q.2.2⟩
/-- the script's first int, or 0 -/
def xs0 (L : Nat) (xs : Nat → Int32) : Int32 := if 0 < L then xs 0 else 0
set_option maxHeartbeats 4000000 in
set_option maxRecDepth 100000 in
theorem m_W_cell (l : Launch) (D : va_G) (B : Nat) (cA : Nat → ClassId) (h : hm_T) (b L : Nat) (xs : Nat → Int32) (hbB : b < B) (hL : L < 2 ^ 31) : Met l y_W_cell w_W_cell ({ frames := 0, cells := 0, slots := 0, locals := 0 } : Room) (va_Pc [.ref b, .int 0] (XC D B cA h b L xs)) (va_Qi (fun (r : Int32) (u : hm_T) => r = xs0 L xs ∧ u = h) (HN D B cA) (hm_A B)) 0 0 (hm_A B) := by
  refine Met.ofW (cc := c_W_cell) (maxL := 2) (ret := (some FieldType.int)) (by decide) rfl ?_
  intro p e s m args below meth c s₁ Bd hml hv
  obtain ⟨rfl, ⟨hP, hK, hN⟩, hX⟩ := hv
  have hx := Bd.exec
  have hb := Bd.bytes
  have hr := Bd.returns
  have hbl : b < s.heap.size := Nat.lt_of_lt_of_le hbB hP.1
  have hbA : ¬ hm_A B b := Nat.not_le.mpr hbB
  have hS : va_S (hm_A B) s.heap s.heap [] := va_S.rf
  have hl := lv_entry ([.ref b, .int 0]) (n := 2) (Nat.le_of_ble_eq_true rfl)
  rw [lg_entry_eq]
  generalize (lg_sl ([.ref b, .int 0]) ++ List.replicate (2 - (lg_sl ([.ref b, .int 0])).length) Slot.unset).toArray = ls at hl ⊢
  have hl : lv_has ls 2 [(0, .ref b), (1, .int 0)] := hl
  refine lv_iload_n hx hb d_W_cell_0 rfl (lv_at hl 1 rfl) ?_
  refine lv_aload_n hx hb d_W_cell_1 rfl (lv_at hl 0 rfl) ?_
  refine va_slen hx hb hX hbl hbA hS d_W_cell_2 ?_
  refine lv_icmp_ge (tgt := 12) hx hb d_W_cell_3 (by decide) (fun c1 => ?_) (fun c1 => ?_)
  · have h0 : L = 0 := by
      rcases Nat.eq_zero_or_pos L with q | q
      · exact q
      · exact absurd c1 (nI_nle q hL)
    refine lv_iconst (v := 0) hx hb d_W_cell_12 (by decide) ?_
    exact W.iret (v := 0) hx hb hr (fun t9 ht9 hwz => ⟨⟨0, h, rfl, ⟨by unfold xs0; rw [if_neg (by omega)], rfl⟩, by rw [ht9]; exact hP, va_K.moved hwz.alike hK, hN.warm hwz⟩, hS.F ht9⟩) hS.2.2 d_W_cell_13
  · have h0 : 0 < L := by
      rcases Nat.eq_zero_or_pos L with q | q
      · subst q
        exact absurd (show nI 0 ≤ 0 by decide) c1
      · exact q
    refine lv_aload_n hx hb d_W_cell_6 rfl (lv_at hl 0 rfl) ?_
    refine lv_iload_n hx hb d_W_cell_7 rfl (lv_at hl 1 rfl) ?_
    refine va_sld hx hb hX hbl hbA hS (i := 0) (vp_in_nI h0 hL) d_W_cell_8 ?_
    refine lv_goto (tgt := 13) hx hb d_W_cell_9 (by decide) ?_
    exact W.iret (v := xs (0 : Int32).toNatClampNeg) hx hb hr (fun t9 ht9 hwz => ⟨⟨_, h, rfl, ⟨by unfold xs0; rw [if_pos h0, c0_0], rfl⟩, by rw [ht9]; exact hP, va_K.moved hwz.alike hK, hN.warm hwz⟩, hS.F ht9⟩) hS.2.2 d_W_cell_13
theorem vtM.ag {cA : Nat → ClassId} {T : Nat → Prop} {g k : hm_T} {a : Nat} {x : Int32} (h : vtM cA g a x) (H : hm_ag T g k) (n : ∀ t, t < 272 → ¬ T t) : vtM cA k a x := by
  obtain ⟨d, c, lg, h1, h2, h3, h4⟩ := h
  exact ⟨d, c, lg, H.at (n _ (by omega)) h1, h2.ag H (n _ (by omega)) (n _ (by omega)) (fun t ht => n _ (by omega)), h3.ag H (n _ (by omega)) (n _ (by omega)) (fun t ht => ⟨n _ (by omega), n _ (by omega)⟩), h4.ag H (n _ (by omega)) (n _ (by omega)) (n _ (by omega))⟩
theorem sub5 {L i : Nat} (hL : L ≤ 2561) (hi : i ≤ L + 5) (c : ¬ Int32.ofNat L - 5 < nI i) : i + 5 ≤ L := by
  have e : (nI L - nI 5).toInt = (L : Int) - (5 : Nat) := pk_sub_toInt (by omega) (by omega)
  rcases Nat.lt_or_ge L (i + 5) with q | q
  · refine absurd (Int32.lt_iff_toInt_lt.mpr ?_) c
    show (nI L - nI 5).toInt < (nI i).toInt
    rw [e, nI_toInt (by omega)]
    omega
  · exact q

theorem rel_up {V P : VV} {k : Nat} (h : rel V P V P k) : rel V P V P (k + 1) := by
  obtain ⟨N, u, hu, h1⟩ := h
  exact ⟨N, u, by omega, h1⟩

set_option maxHeartbeats 8000000 in
set_option maxRecDepth 100000 in
theorem law_loop {p : Program} {l : Launch} {e : Env} {s : State} {m : MethodId} {below : List Frame} {meth : Method} {c : Code} {D : va_G} {cA : Nat → ClassId} {sh : Nat → Nat} {b L : Nat} {xs : Nat → Int32} (hL : L ≤ 2561) (C0 : lw_At p s m meth c b L xs) (hT : ∀ w ∈ WG, w.before #[Value.ref b] s = true) (hK : va_K D vwCl (tysA cA) s) (hN : JN s) :
    ∀ (n k : Nat) (V P : VV) (H : Heap) (locs : List Loc) (ls : Array Slot), 5 * k ≤ L + 4 → L + 5 ≤ 5 * k + 5 * n → rel V P V P k → JW D s.heap.size cA sh V P H → va_S (hm_A s.heap.size) s.heap H locs → lv_has ls 4 [(3, .int (nI (1 + 5 * k))), (2, .ref (sh 272)), (1, .ref (sh 266)), (0, .ref b)] → W p l e room_1 s m #[Value.ref b] below meth c H locs 278 295424 (lw_Z below #[Value.ref b] s) (F0 m 28 ls []) := by
  obtain ⟨hx, hb, hr, hml, hown, hts, hX, hbl, hlocks, hgv⟩ := C0
  have hbA : ¬ hm_A s.heap.size b := Nat.not_le.mpr hbl
  have hBs : s.heap.size ≤ s.heap.size := Nat.le_refl _
  intro n
  induction n with
  | zero =>
    intro k V P H locs ls h1 h2
    omega
  | succ n ih =>
    intro k V P H locs ls hk1 hk2 hrel hW hS hl
    refine lv_iload_n hx hb d_W_law_28 rfl (lv_at hl 0 rfl) ?_
    refine lv_aload_n hx hb d_W_law_29 rfl (lv_at hl 3 rfl) ?_
    refine va_slen hx hb hX hbl hbA hS d_W_law_30 ?_
    refine lv_iconst (v := 5) hx hb d_W_law_31 (by decide) ?_
    refine lv_isub hx hb d_W_law_32 ?_
    refine lv_icmp_gt (tgt := 342) hx hb d_W_law_33 (by decide) (fun c1 => ?_) (fun c1 => ?_)
    · refine lv_iconst (v := 1) hx hb d_W_law_342 (by decide) ?_
      refine va_forget (fun q hq => hS.2.2 q hq) ?_
      refine W.widen (k := 437166) (n := 7790752) (Nat.le_of_ble_eq_true rfl) (Nat.le_of_ble_eq_true rfl) ?_
      exact lw_ret hx hb hr hlocks d_W_law_343
    · have hlt : 1 + 5 * k + 5 ≤ L := sub5 hL (by omega) c1
      refine lv_aload_n hx hb d_W_law_36 rfl (lv_at hl 3 rfl) ?_
      refine lv_iload_n hx hb d_W_law_37 rfl (lv_at hl 0 rfl) ?_
      refine va_sld hx hb hX hbl hbA hS (vp_in_nI (show 1 + 5 * k < L by omega) (by omega)) d_W_law_38 ?_
      refine lv_bipush (v := 15) hx hb d_W_law_39 (by decide) ?_
      refine lv_iand hx hb d_W_law_41 ?_
      obtain ⟨j, hj, ej⟩ := pk_andE (xs (nI (1 + 5 * k)).toNatClampNeg) (m := 15) 4 (by decide)
      rw [ej]
      by_cases e0 : j = 0
      · rw [e0]
        refine lv_tableIn (x := nI 0) (off := 54) (tgt := 96) hx hb d_W_law_42 (by decide) (by decide) rfl (by decide) ?_
        refine lv_aload_n hx hb d_W_law_96 rfl (lv_at hl 2 rfl) ?_
        refine jw_calli (va_runV (As := []) (rest := []) ⟨hx, hb, hml, hown, hT⟩ (m_V_begin l D s.heap.size cA sh V P (rel_01 hrel)) (cwV 0 hT (gV k142 k143 k144 k1 kc_V_begin) rfl rfl rfl (by decide +kernel) ⟨Nat.le_of_ble_eq_true rfl, Nat.le_of_ble_eq_true rfl⟩) (jw_preV (q := ("BlockVault", T_V, 5)) hW hK hN rfl rfl) rfl rfl hl.1 rfl (lv_room (Nat.le_of_ble_eq_true rfl)) d_W_law_97 ⟨Nat.le_of_ble_eq_true rfl, Nat.le_of_ble_eq_true rfl⟩) hS (fun r2 V3 P4 H locs hw5 hW hS => ?_)
        refine lv_aload_n hx hb d_W_law_100 rfl (lv_at hl 1 rfl) ?_
        refine jw_calli (va_runV (As := []) (rest := [.int r2]) ⟨hx, hb, hml, hown, hT⟩ (m_M_begin l D s.heap.size cA sh V3 P4) (cwV 0 hT (gV k369 k370 k371 k8 kc_M_begin) rfl rfl rfl (by decide +kernel) ⟨Nat.le_of_ble_eq_true rfl, Nat.le_of_ble_eq_true rfl⟩) (jw_preV (q := ("BlockVaultModel", T_M, 15)) hW hK hN rfl rfl) rfl rfl hl.1 rfl (lv_room (Nat.le_of_ble_eq_true rfl)) d_W_law_101 ⟨Nat.le_of_ble_eq_true rfl, Nat.le_of_ble_eq_true rfl⟩) hS (fun r6 V7 P8 H locs hw9 hW hS => ?_)
        obtain ⟨heq, hrel2⟩ := st_begin hrel hw5 hw9
        refine lv_icmp_eq (tgt := 336) hx hb d_W_law_104 (by decide) (fun c10 => ?_) (fun c10 => ?_)
        · refine lv_iinc (v := ((nI (1 + 5 * k)) + 5)) (lv' := [(3, .int ((nI (1 + 5 * k)) + 5)), (2, .ref (sh 272)), (1, .ref (sh 266)), (0, .ref b)]) hx hb d_W_law_336 hl (k := 0) rfl rfl (by decide) rfl (fun ls hl => ?_)
          refine lv_goto (tgt := 28) hx hb d_W_law_339 (by decide) ?_
          refine jw_tight hBs hW ?_
          exact ih (k + 1) V7 P8 H locs ls (by omega) (by omega) hrel2 hW hS (by rw [show nI (1 + 5 * (k + 1)) = nI (1 + 5 * k) + 5 from (nI_add (1 + 5 * k) 5).symm]; exact lv_sub hl [0, 1, 2, 3] rfl)
        · exact absurd heq c10
      by_cases e1 : j = 1
      · rw [e1]
        refine lv_tableIn (x := nI 1) (off := 67) (tgt := 109) hx hb d_W_law_42 (by decide) (by decide) rfl (by decide) ?_
        refine lv_aload_n hx hb d_W_law_109 rfl (lv_at hl 2 rfl) ?_
        refine jw_calli (va_runV (As := []) (rest := []) ⟨hx, hb, hml, hown, hT⟩ (m_V_end l D s.heap.size cA sh V P (rel_01 hrel)) (cwV 0 hT (gV k150 k151 k152 k1 kc_V_end) rfl rfl rfl (by decide +kernel) ⟨Nat.le_of_ble_eq_true rfl, Nat.le_of_ble_eq_true rfl⟩) (jw_preV (q := ("BlockVault", T_V, 5)) hW hK hN rfl rfl) rfl rfl hl.1 rfl (lv_room (Nat.le_of_ble_eq_true rfl)) d_W_law_110 ⟨Nat.le_of_ble_eq_true rfl, Nat.le_of_ble_eq_true rfl⟩) hS (fun r11 V12 P13 H locs hw14 hW hS => ?_)
        refine jw_tight hBs hW ?_
        refine lv_aload_n hx hb d_W_law_113 rfl (lv_at hl 1 rfl) ?_
        obtain ⟨N, hN0, h80⟩ := rel_N hrel
        have hN1 : V12 272 1 = nI N := (congrFun (sr_end hw14) 1).trans hN0
        refine jw_calli (va_runV (As := []) (rest := [.int r11]) ⟨hx, hb, hml, hown, hT⟩ (m_M_end l D s.heap.size cA sh V12 P13 N hN1 h80) (cwV 0 hT (gV k373 k374 k375 k8 kc_M_end) rfl rfl rfl (by decide +kernel) ⟨Nat.le_of_ble_eq_true rfl, Nat.le_of_ble_eq_true rfl⟩) (jw_preV (q := ("BlockVaultModel", T_M, 15)) hW hK hN rfl rfl) rfl rfl hl.1 rfl (lv_room (Nat.le_of_ble_eq_true rfl)) d_W_law_114 ⟨Nat.le_of_ble_eq_true rfl, Nat.le_of_ble_eq_true rfl⟩) hS (fun r15 V16 P17 H locs hw18 hW hS => ?_)
        obtain ⟨heq, hrel2⟩ := st_end hrel hw14 hw18
        refine lv_icmp_eq (tgt := 336) hx hb d_W_law_117 (by decide) (fun c19 => ?_) (fun c19 => ?_)
        · refine lv_iinc (v := ((nI (1 + 5 * k)) + 5)) (lv' := [(3, .int ((nI (1 + 5 * k)) + 5)), (2, .ref (sh 272)), (1, .ref (sh 266)), (0, .ref b)]) hx hb d_W_law_336 hl (k := 0) rfl rfl (by decide) rfl (fun ls hl => ?_)
          refine lv_goto (tgt := 28) hx hb d_W_law_339 (by decide) ?_
          refine jw_tight hBs hW ?_
          exact ih (k + 1) V16 P17 H locs ls (by omega) (by omega) hrel2 hW hS (by rw [show nI (1 + 5 * (k + 1)) = nI (1 + 5 * k) + 5 from (nI_add (1 + 5 * k) 5).symm]; exact lv_sub hl [0, 1, 2, 3] rfl)
        · exact absurd heq c19
      by_cases e2 : j = 2
      · rw [e2]
        refine lv_tableIn (x := nI 2) (off := 80) (tgt := 122) hx hb d_W_law_42 (by decide) (by decide) rfl (by decide) ?_
        refine lv_aload_n hx hb d_W_law_122 rfl (lv_at hl 2 rfl) ?_
        refine jw_calli (va_runV (As := []) (rest := []) ⟨hx, hb, hml, hown, hT⟩ (m_V_flush l D s.heap.size cA sh V P (rel_01 hrel)) (cwV 0 hT (gV k225 k226 k227 k1 kc_V_flush) rfl rfl rfl (by decide +kernel) ⟨Nat.le_of_ble_eq_true rfl, Nat.le_of_ble_eq_true rfl⟩) (jw_preV (q := ("BlockVault", T_V, 5)) hW hK hN rfl rfl) rfl rfl hl.1 rfl (lv_room (Nat.le_of_ble_eq_true rfl)) d_W_law_123 ⟨Nat.le_of_ble_eq_true rfl, Nat.le_of_ble_eq_true rfl⟩) hS (fun r20 V21 P22 H locs hw23 hW hS => ?_)
        refine jw_tight hBs hW ?_
        refine lv_aload_n hx hb d_W_law_126 rfl (lv_at hl 1 rfl) ?_
        obtain ⟨N, hN0, h80⟩ := rel_N hrel
        have hN1 : V21 272 1 = nI N := (congrFun (sr_flush hw23) 1).trans hN0
        refine jw_calli (va_runV (As := []) (rest := [.int r20]) ⟨hx, hb, hml, hown, hT⟩ (m_M_flush l D s.heap.size cA sh V21 P22 N hN1 h80) (cwV 0 hT (gV k392 k393 k394 k8 kc_M_flush) rfl rfl rfl (by decide +kernel) ⟨Nat.le_of_ble_eq_true rfl, Nat.le_of_ble_eq_true rfl⟩) (jw_preV (q := ("BlockVaultModel", T_M, 15)) hW hK hN rfl rfl) rfl rfl hl.1 rfl (lv_room (Nat.le_of_ble_eq_true rfl)) d_W_law_127 ⟨Nat.le_of_ble_eq_true rfl, Nat.le_of_ble_eq_true rfl⟩) hS (fun r24 V25 P26 H locs hw27 hW hS => ?_)
        obtain ⟨heq, hrel2⟩ := st_flush hrel hw23 hw27
        refine lv_icmp_eq (tgt := 336) hx hb d_W_law_130 (by decide) (fun c28 => ?_) (fun c28 => ?_)
        · refine lv_iinc (v := ((nI (1 + 5 * k)) + 5)) (lv' := [(3, .int ((nI (1 + 5 * k)) + 5)), (2, .ref (sh 272)), (1, .ref (sh 266)), (0, .ref b)]) hx hb d_W_law_336 hl (k := 0) rfl rfl (by decide) rfl (fun ls hl => ?_)
          refine lv_goto (tgt := 28) hx hb d_W_law_339 (by decide) ?_
          refine jw_tight hBs hW ?_
          exact ih (k + 1) V25 P26 H locs ls (by omega) (by omega) hrel2 hW hS (by rw [show nI (1 + 5 * (k + 1)) = nI (1 + 5 * k) + 5 from (nI_add (1 + 5 * k) 5).symm]; exact lv_sub hl [0, 1, 2, 3] rfl)
        · exact absurd heq c28
      by_cases e3 : j = 3
      · rw [e3]
        refine lv_tableIn (x := nI 3) (off := 93) (tgt := 135) hx hb d_W_law_42 (by decide) (by decide) rfl (by decide) ?_
        refine lv_aload_n hx hb d_W_law_135 rfl (lv_at hl 2 rfl) ?_
        refine lv_aload_n hx hb d_W_law_136 rfl (lv_at hl 3 rfl) ?_
        refine lv_iload_n hx hb d_W_law_137 rfl (lv_at hl 0 rfl) ?_
        refine lv_iconst (v := 1) hx hb d_W_law_138 (by decide) ?_
        refine lv_iadd hx hb d_W_law_139 ?_
        refine va_sld hx hb hX hbl hbA hS (by rw [show nI (1 + 5 * k) + 1 = nI (1 + 5 * k + 1) from nI_add _ 1]; exact vp_in_nI (by omega) (by omega)) d_W_law_140 ?_
        refine lv_aload_n hx hb d_W_law_141 rfl (lv_at hl 3 rfl) ?_
        refine lv_iload_n hx hb d_W_law_142 rfl (lv_at hl 0 rfl) ?_
        refine lv_iconst (v := 2) hx hb d_W_law_143 (by decide) ?_
        refine lv_iadd hx hb d_W_law_144 ?_
        refine va_sld hx hb hX hbl hbA hS (by rw [show nI (1 + 5 * k) + 2 = nI (1 + 5 * k + 2) from nI_add _ 2]; exact vp_in_nI (by omega) (by omega)) d_W_law_145 ?_
        refine jw_calli (va_runV (As := [.int (xs (((nI (1 + 5 * k)) + 1)).toNatClampNeg), .int (xs (((nI (1 + 5 * k)) + 2)).toNatClampNeg)]) (rest := []) ⟨hx, hb, hml, hown, hT⟩ (m_V_get l D s.heap.size cA sh V P (rel_01 hrel) (rel_h3 hrel) (xs (((nI (1 + 5 * k)) + 1)).toNatClampNeg) (xs (((nI (1 + 5 * k)) + 2)).toNatClampNeg)) (cwV 2 hT (gV k229 k230 k231 k1 kc_V_get) rfl rfl rfl (by decide +kernel) ⟨Nat.le_of_ble_eq_true rfl, Nat.le_of_ble_eq_true rfl⟩) (jw_preV (q := ("BlockVault", T_V, 5)) hW hK hN rfl rfl) rfl rfl hl.1 rfl (lv_room (Nat.le_of_ble_eq_true rfl)) d_W_law_146 ⟨Nat.le_of_ble_eq_true rfl, Nat.le_of_ble_eq_true rfl⟩) hS (fun r29 V30 P31 H locs hw32 hW hS => ?_)
        refine jw_tight hBs hW ?_
        refine lv_aload_n hx hb d_W_law_149 rfl (lv_at hl 1 rfl) ?_
        refine lv_aload_n hx hb d_W_law_150 rfl (lv_at hl 3 rfl) ?_
        refine lv_iload_n hx hb d_W_law_151 rfl (lv_at hl 0 rfl) ?_
        refine lv_iconst (v := 1) hx hb d_W_law_152 (by decide) ?_
        refine lv_iadd hx hb d_W_law_153 ?_
        refine va_sld hx hb hX hbl hbA hS (by rw [show nI (1 + 5 * k) + 1 = nI (1 + 5 * k + 1) from nI_add _ 1]; exact vp_in_nI (by omega) (by omega)) d_W_law_154 ?_
        refine lv_aload_n hx hb d_W_law_155 rfl (lv_at hl 3 rfl) ?_
        refine lv_iload_n hx hb d_W_law_156 rfl (lv_at hl 0 rfl) ?_
        refine lv_iconst (v := 2) hx hb d_W_law_157 (by decide) ?_
        refine lv_iadd hx hb d_W_law_158 ?_
        refine va_sld hx hb hX hbl hbA hS (by rw [show nI (1 + 5 * k) + 2 = nI (1 + 5 * k + 2) from nI_add _ 2]; exact vp_in_nI (by omega) (by omega)) d_W_law_159 ?_
        obtain ⟨N, hN0, h80⟩ := rel_N hrel
        have hsr := sr_get hw32
        have hN1 : V30 272 1 = nI N := (congrFun hsr.1 1).trans hN0
        refine jw_calli (va_runV (As := [.int (xs (((nI (1 + 5 * k)) + 1)).toNatClampNeg), .int (xs (((nI (1 + 5 * k)) + 2)).toNatClampNeg)]) (rest := [.int r29]) ⟨hx, hb, hml, hown, hT⟩ (m_M_get l D s.heap.size cA sh V30 P31 N hN1 h80 (xs (((nI (1 + 5 * k)) + 1)).toNatClampNeg) (xs (((nI (1 + 5 * k)) + 2)).toNatClampNeg) (rel_sc hrel (by omega) hsr)) (cwV 2 hT (gV k396 k397 k398 k8 kc_M_get) rfl rfl rfl (by decide +kernel) ⟨Nat.le_of_ble_eq_true rfl, Nat.le_of_ble_eq_true rfl⟩) (jw_preV (q := ("BlockVaultModel", T_M, 15)) hW hK hN rfl rfl) rfl rfl hl.1 rfl (lv_room (Nat.le_of_ble_eq_true rfl)) d_W_law_160 ⟨Nat.le_of_ble_eq_true rfl, Nat.le_of_ble_eq_true rfl⟩) hS (fun r33 V34 P35 H locs hw36 hW hS => ?_)
        obtain ⟨heq, hrel2⟩ := st_get hrel (by omega) hw32 hw36
        refine lv_icmp_eq (tgt := 336) hx hb d_W_law_163 (by decide) (fun c37 => ?_) (fun c37 => ?_)
        · refine lv_iinc (v := ((nI (1 + 5 * k)) + 5)) (lv' := [(3, .int ((nI (1 + 5 * k)) + 5)), (2, .ref (sh 272)), (1, .ref (sh 266)), (0, .ref b)]) hx hb d_W_law_336 hl (k := 0) rfl rfl (by decide) rfl (fun ls hl => ?_)
          refine lv_goto (tgt := 28) hx hb d_W_law_339 (by decide) ?_
          refine jw_tight hBs hW ?_
          exact ih (k + 1) V34 P35 H locs ls (by omega) (by omega) hrel2 hW hS (by rw [show nI (1 + 5 * (k + 1)) = nI (1 + 5 * k) + 5 from (nI_add (1 + 5 * k) 5).symm]; exact lv_sub hl [0, 1, 2, 3] rfl)
        · exact absurd heq c37
      by_cases e4 : j = 4
      · rw [e4]
        refine lv_tableIn (x := nI 4) (off := 126) (tgt := 168) hx hb d_W_law_42 (by decide) (by decide) rfl (by decide) ?_
        refine lv_aload_n hx hb d_W_law_168 rfl (lv_at hl 2 rfl) ?_
        refine lv_aload_n hx hb d_W_law_169 rfl (lv_at hl 3 rfl) ?_
        refine lv_iload_n hx hb d_W_law_170 rfl (lv_at hl 0 rfl) ?_
        refine lv_iconst (v := 1) hx hb d_W_law_171 (by decide) ?_
        refine lv_iadd hx hb d_W_law_172 ?_
        refine va_sld hx hb hX hbl hbA hS (by rw [show nI (1 + 5 * k) + 1 = nI (1 + 5 * k + 1) from nI_add _ 1]; exact vp_in_nI (by omega) (by omega)) d_W_law_173 ?_
        refine lv_aload_n hx hb d_W_law_174 rfl (lv_at hl 3 rfl) ?_
        refine lv_iload_n hx hb d_W_law_175 rfl (lv_at hl 0 rfl) ?_
        refine lv_iconst (v := 2) hx hb d_W_law_176 (by decide) ?_
        refine lv_iadd hx hb d_W_law_177 ?_
        refine va_sld hx hb hX hbl hbA hS (by rw [show nI (1 + 5 * k) + 2 = nI (1 + 5 * k + 2) from nI_add _ 2]; exact vp_in_nI (by omega) (by omega)) d_W_law_178 ?_
        refine lv_aload_n hx hb d_W_law_179 rfl (lv_at hl 3 rfl) ?_
        refine lv_iload_n hx hb d_W_law_180 rfl (lv_at hl 0 rfl) ?_
        refine lv_iconst (v := 3) hx hb d_W_law_181 (by decide) ?_
        refine lv_iadd hx hb d_W_law_182 ?_
        refine va_sld hx hb hX hbl hbA hS (by rw [show nI (1 + 5 * k) + 3 = nI (1 + 5 * k + 3) from nI_add _ 3]; exact vp_in_nI (by omega) (by omega)) d_W_law_183 ?_
        refine lv_aload_n hx hb d_W_law_184 rfl (lv_at hl 3 rfl) ?_
        refine lv_iload_n hx hb d_W_law_185 rfl (lv_at hl 0 rfl) ?_
        refine lv_iconst (v := 4) hx hb d_W_law_186 (by decide) ?_
        refine lv_iadd hx hb d_W_law_187 ?_
        refine va_sld hx hb hX hbl hbA hS (by rw [show nI (1 + 5 * k) + 4 = nI (1 + 5 * k + 4) from nI_add _ 4]; exact vp_in_nI (by omega) (by omega)) d_W_law_188 ?_
        refine jw_calli (va_runV (As := [.int (xs (((nI (1 + 5 * k)) + 1)).toNatClampNeg), .int (xs (((nI (1 + 5 * k)) + 2)).toNatClampNeg), .int (xs (((nI (1 + 5 * k)) + 3)).toNatClampNeg), .int (xs (((nI (1 + 5 * k)) + 4)).toNatClampNeg)]) (rest := []) ⟨hx, hb, hml, hown, hT⟩ (m_V_fill l D s.heap.size cA sh V P (rel_01 hrel) (rel_h3 hrel) (xs (((nI (1 + 5 * k)) + 1)).toNatClampNeg) (xs (((nI (1 + 5 * k)) + 2)).toNatClampNeg) (xs (((nI (1 + 5 * k)) + 3)).toNatClampNeg) (xs (((nI (1 + 5 * k)) + 4)).toNatClampNeg)) (cwV 4 hT (gV k255 k256 k257 k1 kc_V_fill) rfl rfl rfl (by decide +kernel) ⟨Nat.le_of_ble_eq_true rfl, Nat.le_of_ble_eq_true rfl⟩) (jw_preV (q := ("BlockVault", T_V, 5)) hW hK hN rfl rfl) rfl rfl hl.1 rfl (lv_room (Nat.le_of_ble_eq_true rfl)) d_W_law_189 ⟨Nat.le_of_ble_eq_true rfl, Nat.le_of_ble_eq_true rfl⟩) hS (fun r38 V39 P40 H locs hw41 hW hS => ?_)
        refine jw_tight hBs hW ?_
        refine lv_aload_n hx hb d_W_law_192 rfl (lv_at hl 1 rfl) ?_
        refine lv_aload_n hx hb d_W_law_193 rfl (lv_at hl 3 rfl) ?_
        refine lv_iload_n hx hb d_W_law_194 rfl (lv_at hl 0 rfl) ?_
        refine lv_iconst (v := 1) hx hb d_W_law_195 (by decide) ?_
        refine lv_iadd hx hb d_W_law_196 ?_
        refine va_sld hx hb hX hbl hbA hS (by rw [show nI (1 + 5 * k) + 1 = nI (1 + 5 * k + 1) from nI_add _ 1]; exact vp_in_nI (by omega) (by omega)) d_W_law_197 ?_
        refine lv_aload_n hx hb d_W_law_198 rfl (lv_at hl 3 rfl) ?_
        refine lv_iload_n hx hb d_W_law_199 rfl (lv_at hl 0 rfl) ?_
        refine lv_iconst (v := 2) hx hb d_W_law_200 (by decide) ?_
        refine lv_iadd hx hb d_W_law_201 ?_
        refine va_sld hx hb hX hbl hbA hS (by rw [show nI (1 + 5 * k) + 2 = nI (1 + 5 * k + 2) from nI_add _ 2]; exact vp_in_nI (by omega) (by omega)) d_W_law_202 ?_
        refine lv_aload_n hx hb d_W_law_203 rfl (lv_at hl 3 rfl) ?_
        refine lv_iload_n hx hb d_W_law_204 rfl (lv_at hl 0 rfl) ?_
        refine lv_iconst (v := 3) hx hb d_W_law_205 (by decide) ?_
        refine lv_iadd hx hb d_W_law_206 ?_
        refine va_sld hx hb hX hbl hbA hS (by rw [show nI (1 + 5 * k) + 3 = nI (1 + 5 * k + 3) from nI_add _ 3]; exact vp_in_nI (by omega) (by omega)) d_W_law_207 ?_
        refine lv_aload_n hx hb d_W_law_208 rfl (lv_at hl 3 rfl) ?_
        refine lv_iload_n hx hb d_W_law_209 rfl (lv_at hl 0 rfl) ?_
        refine lv_iconst (v := 4) hx hb d_W_law_210 (by decide) ?_
        refine lv_iadd hx hb d_W_law_211 ?_
        refine va_sld hx hb hX hbl hbA hS (by rw [show nI (1 + 5 * k) + 4 = nI (1 + 5 * k + 4) from nI_add _ 4]; exact vp_in_nI (by omega) (by omega)) d_W_law_212 ?_
        obtain ⟨N, hN0, h80⟩ := rel_N hrel
        have hsr := sr_fill hw41
        have hN1 : V39 272 1 = nI N := (congrFun hsr.1 1).trans hN0
        refine jw_calli (va_runV (As := [.int (xs (((nI (1 + 5 * k)) + 1)).toNatClampNeg), .int (xs (((nI (1 + 5 * k)) + 2)).toNatClampNeg), .int (xs (((nI (1 + 5 * k)) + 3)).toNatClampNeg), .int (xs (((nI (1 + 5 * k)) + 4)).toNatClampNeg)]) (rest := [.int r38]) ⟨hx, hb, hml, hown, hT⟩ (m_M_fill l D s.heap.size cA sh V39 P40 N hN1 h80 (xs (((nI (1 + 5 * k)) + 1)).toNatClampNeg) (xs (((nI (1 + 5 * k)) + 2)).toNatClampNeg) (xs (((nI (1 + 5 * k)) + 3)).toNatClampNeg) (xs (((nI (1 + 5 * k)) + 4)).toNatClampNeg) (rel_sc hrel (by omega) hsr)) (cwV 4 hT (gV k408 k409 k410 k8 kc_M_fill) rfl rfl rfl (by decide +kernel) ⟨Nat.le_of_ble_eq_true rfl, Nat.le_of_ble_eq_true rfl⟩) (jw_preV (q := ("BlockVaultModel", T_M, 15)) hW hK hN rfl rfl) rfl rfl hl.1 rfl (lv_room (Nat.le_of_ble_eq_true rfl)) d_W_law_213 ⟨Nat.le_of_ble_eq_true rfl, Nat.le_of_ble_eq_true rfl⟩) hS (fun r42 V43 P44 H locs hw45 hW hS => ?_)
        obtain ⟨heq, hrel2⟩ := st_fill hrel (by omega) hw41 hw45
        refine lv_icmp_eq (tgt := 336) hx hb d_W_law_216 (by decide) (fun c46 => ?_) (fun c46 => ?_)
        · refine lv_iinc (v := ((nI (1 + 5 * k)) + 5)) (lv' := [(3, .int ((nI (1 + 5 * k)) + 5)), (2, .ref (sh 272)), (1, .ref (sh 266)), (0, .ref b)]) hx hb d_W_law_336 hl (k := 0) rfl rfl (by decide) rfl (fun ls hl => ?_)
          refine lv_goto (tgt := 28) hx hb d_W_law_339 (by decide) ?_
          refine jw_tight hBs hW ?_
          exact ih (k + 1) V43 P44 H locs ls (by omega) (by omega) hrel2 hW hS (by rw [show nI (1 + 5 * (k + 1)) = nI (1 + 5 * k) + 5 from (nI_add (1 + 5 * k) 5).symm]; exact lv_sub hl [0, 1, 2, 3] rfl)
        · exact absurd heq c46
      by_cases e5 : j = 5
      · rw [e5]
        refine lv_tableIn (x := nI 5) (off := 179) (tgt := 221) hx hb d_W_law_42 (by decide) (by decide) rfl (by decide) ?_
        refine lv_aload_n hx hb d_W_law_221 rfl (lv_at hl 2 rfl) ?_
        refine lv_aload_n hx hb d_W_law_222 rfl (lv_at hl 3 rfl) ?_
        refine lv_iload_n hx hb d_W_law_223 rfl (lv_at hl 0 rfl) ?_
        refine lv_iconst (v := 1) hx hb d_W_law_224 (by decide) ?_
        refine lv_iadd hx hb d_W_law_225 ?_
        refine va_sld hx hb hX hbl hbA hS (by rw [show nI (1 + 5 * k) + 1 = nI (1 + 5 * k + 1) from nI_add _ 1]; exact vp_in_nI (by omega) (by omega)) d_W_law_226 ?_
        refine jw_calli (va_runV (As := [.int (xs (((nI (1 + 5 * k)) + 1)).toNatClampNeg)]) (rest := []) ⟨hx, hb, hml, hown, hT⟩ (m_V_cut l D s.heap.size cA sh V P (rel_01 hrel) (xs (((nI (1 + 5 * k)) + 1)).toNatClampNeg)) (cwV 1 hT (gV k270 k271 k272 k1 kc_V_cut) rfl rfl rfl (by decide +kernel) ⟨Nat.le_of_ble_eq_true rfl, Nat.le_of_ble_eq_true rfl⟩) (jw_preV (q := ("BlockVault", T_V, 5)) hW hK hN rfl rfl) rfl rfl hl.1 rfl (lv_room (Nat.le_of_ble_eq_true rfl)) d_W_law_227 ⟨Nat.le_of_ble_eq_true rfl, Nat.le_of_ble_eq_true rfl⟩) hS (fun r47 V48 P49 H locs hw50 hW hS => ?_)
        refine lv_aload_n hx hb d_W_law_230 rfl (lv_at hl 1 rfl) ?_
        refine lv_aload_n hx hb d_W_law_231 rfl (lv_at hl 3 rfl) ?_
        refine lv_iload_n hx hb d_W_law_232 rfl (lv_at hl 0 rfl) ?_
        refine lv_iconst (v := 1) hx hb d_W_law_233 (by decide) ?_
        refine lv_iadd hx hb d_W_law_234 ?_
        refine va_sld hx hb hX hbl hbA hS (by rw [show nI (1 + 5 * k) + 1 = nI (1 + 5 * k + 1) from nI_add _ 1]; exact vp_in_nI (by omega) (by omega)) d_W_law_235 ?_
        refine jw_calli (va_runV (As := [.int (xs (((nI (1 + 5 * k)) + 1)).toNatClampNeg)]) (rest := [.int r47]) ⟨hx, hb, hml, hown, hT⟩ (m_M_cut l D s.heap.size cA sh V48 P49 (xs (((nI (1 + 5 * k)) + 1)).toNatClampNeg)) (cwV 1 hT (gV k412 k413 k414 k8 kc_M_cut) rfl rfl rfl (by decide +kernel) ⟨Nat.le_of_ble_eq_true rfl, Nat.le_of_ble_eq_true rfl⟩) (jw_preV (q := ("BlockVaultModel", T_M, 15)) hW hK hN rfl rfl) rfl rfl hl.1 rfl (lv_room (Nat.le_of_ble_eq_true rfl)) d_W_law_236 ⟨Nat.le_of_ble_eq_true rfl, Nat.le_of_ble_eq_true rfl⟩) hS (fun r51 V52 P53 H locs hw54 hW hS => ?_)
        obtain ⟨heq, hrel2⟩ := st_cut hrel hw50 hw54
        refine lv_icmp_eq (tgt := 336) hx hb d_W_law_239 (by decide) (fun c55 => ?_) (fun c55 => ?_)
        · refine lv_iinc (v := ((nI (1 + 5 * k)) + 5)) (lv' := [(3, .int ((nI (1 + 5 * k)) + 5)), (2, .ref (sh 272)), (1, .ref (sh 266)), (0, .ref b)]) hx hb d_W_law_336 hl (k := 0) rfl rfl (by decide) rfl (fun ls hl => ?_)
          refine lv_goto (tgt := 28) hx hb d_W_law_339 (by decide) ?_
          refine jw_tight hBs hW ?_
          exact ih (k + 1) V52 P53 H locs ls (by omega) (by omega) hrel2 hW hS (by rw [show nI (1 + 5 * (k + 1)) = nI (1 + 5 * k) + 5 from (nI_add (1 + 5 * k) 5).symm]; exact lv_sub hl [0, 1, 2, 3] rfl)
        · exact absurd heq c55
      by_cases e6 : j = 6
      · rw [e6]
        refine lv_tableIn (x := nI 6) (off := 202) (tgt := 244) hx hb d_W_law_42 (by decide) (by decide) rfl (by decide) ?_
        refine lv_aload_n hx hb d_W_law_244 rfl (lv_at hl 2 rfl) ?_
        refine lv_aload_n hx hb d_W_law_245 rfl (lv_at hl 3 rfl) ?_
        refine lv_iload_n hx hb d_W_law_246 rfl (lv_at hl 0 rfl) ?_
        refine lv_iconst (v := 1) hx hb d_W_law_247 (by decide) ?_
        refine lv_iadd hx hb d_W_law_248 ?_
        refine va_sld hx hb hX hbl hbA hS (by rw [show nI (1 + 5 * k) + 1 = nI (1 + 5 * k + 1) from nI_add _ 1]; exact vp_in_nI (by omega) (by omega)) d_W_law_249 ?_
        refine jw_calli (va_runV (As := [.int (xs (((nI (1 + 5 * k)) + 1)).toNatClampNeg)]) (rest := []) ⟨hx, hb, hml, hown, hT⟩ (m_V_power l D s.heap.size cA sh V P (rel_01 hrel) (xs (((nI (1 + 5 * k)) + 1)).toNatClampNeg)) (cwV 1 hT (gV k278 k279 k280 k1 kc_V_power) rfl rfl rfl (by decide +kernel) ⟨Nat.le_of_ble_eq_true rfl, Nat.le_of_ble_eq_true rfl⟩) (jw_preV (q := ("BlockVault", T_V, 5)) hW hK hN rfl rfl) rfl rfl hl.1 rfl (lv_room (Nat.le_of_ble_eq_true rfl)) d_W_law_250 ⟨Nat.le_of_ble_eq_true rfl, Nat.le_of_ble_eq_true rfl⟩) hS (fun r56 V57 P58 H locs hw59 hW hS => ?_)
        refine jw_tight hBs hW ?_
        refine lv_aload_n hx hb d_W_law_253 rfl (lv_at hl 1 rfl) ?_
        refine lv_aload_n hx hb d_W_law_254 rfl (lv_at hl 3 rfl) ?_
        refine lv_iload_n hx hb d_W_law_255 rfl (lv_at hl 0 rfl) ?_
        refine lv_iconst (v := 1) hx hb d_W_law_256 (by decide) ?_
        refine lv_iadd hx hb d_W_law_257 ?_
        refine va_sld hx hb hX hbl hbA hS (by rw [show nI (1 + 5 * k) + 1 = nI (1 + 5 * k + 1) from nI_add _ 1]; exact vp_in_nI (by omega) (by omega)) d_W_law_258 ?_
        refine jw_calli (va_runV (As := [.int (xs (((nI (1 + 5 * k)) + 1)).toNatClampNeg)]) (rest := [.int r56]) ⟨hx, hb, hml, hown, hT⟩ (m_M_power l D s.heap.size cA sh V57 P58 (xs (((nI (1 + 5 * k)) + 1)).toNatClampNeg)) (cwV 1 hT (gV k416 k417 k418 k8 kc_M_power) rfl rfl rfl (by decide +kernel) ⟨Nat.le_of_ble_eq_true rfl, Nat.le_of_ble_eq_true rfl⟩) (jw_preV (q := ("BlockVaultModel", T_M, 15)) hW hK hN rfl rfl) rfl rfl hl.1 rfl (lv_room (Nat.le_of_ble_eq_true rfl)) d_W_law_259 ⟨Nat.le_of_ble_eq_true rfl, Nat.le_of_ble_eq_true rfl⟩) hS (fun r60 V61 P62 H locs hw63 hW hS => ?_)
        obtain ⟨heq, hrel2⟩ := st_power hrel hw59 hw63
        refine lv_icmp_eq (tgt := 336) hx hb d_W_law_262 (by decide) (fun c64 => ?_) (fun c64 => ?_)
        · refine lv_iinc (v := ((nI (1 + 5 * k)) + 5)) (lv' := [(3, .int ((nI (1 + 5 * k)) + 5)), (2, .ref (sh 272)), (1, .ref (sh 266)), (0, .ref b)]) hx hb d_W_law_336 hl (k := 0) rfl rfl (by decide) rfl (fun ls hl => ?_)
          refine lv_goto (tgt := 28) hx hb d_W_law_339 (by decide) ?_
          refine jw_tight hBs hW ?_
          exact ih (k + 1) V61 P62 H locs ls (by omega) (by omega) hrel2 hW hS (by rw [show nI (1 + 5 * (k + 1)) = nI (1 + 5 * k) + 5 from (nI_add (1 + 5 * k) 5).symm]; exact lv_sub hl [0, 1, 2, 3] rfl)
        · exact absurd heq c64
      by_cases e7 : j = 7
      · rw [e7]
        refine lv_tableIn (x := nI 7) (off := 225) (tgt := 267) hx hb d_W_law_42 (by decide) (by decide) rfl (by decide) ?_
        refine lv_aload_n hx hb d_W_law_267 rfl (lv_at hl 2 rfl) ?_
        refine lv_aload_n hx hb d_W_law_268 rfl (lv_at hl 3 rfl) ?_
        refine lv_iload_n hx hb d_W_law_269 rfl (lv_at hl 0 rfl) ?_
        refine lv_iconst (v := 1) hx hb d_W_law_270 (by decide) ?_
        refine lv_iadd hx hb d_W_law_271 ?_
        refine va_sld hx hb hX hbl hbA hS (by rw [show nI (1 + 5 * k) + 1 = nI (1 + 5 * k + 1) from nI_add _ 1]; exact vp_in_nI (by omega) (by omega)) d_W_law_272 ?_
        refine jw_calli (va_runV (As := [.int (xs (((nI (1 + 5 * k)) + 1)).toNatClampNeg)]) (rest := []) ⟨hx, hb, hml, hown, hT⟩ (m_V_count l D s.heap.size cA sh V P (rel_01 hrel) (xs (((nI (1 + 5 * k)) + 1)).toNatClampNeg)) (cwV 1 hT (gV k287 k288 k289 k1 kc_V_count) rfl rfl rfl (by decide +kernel) ⟨Nat.le_of_ble_eq_true rfl, Nat.le_of_ble_eq_true rfl⟩) (jw_preV (q := ("BlockVault", T_V, 5)) hW hK hN rfl rfl) rfl rfl hl.1 rfl (lv_room (Nat.le_of_ble_eq_true rfl)) d_W_law_273 ⟨Nat.le_of_ble_eq_true rfl, Nat.le_of_ble_eq_true rfl⟩) hS (fun r65 V66 P67 H locs hw68 hW hS => ?_)
        obtain ⟨hr1, rfl, rfl⟩ := t3 hw68
        refine lv_aload_n hx hb d_W_law_276 rfl (lv_at hl 1 rfl) ?_
        refine lv_aload_n hx hb d_W_law_277 rfl (lv_at hl 3 rfl) ?_
        refine lv_iload_n hx hb d_W_law_278 rfl (lv_at hl 0 rfl) ?_
        refine lv_iconst (v := 1) hx hb d_W_law_279 (by decide) ?_
        refine lv_iadd hx hb d_W_law_280 ?_
        refine va_sld hx hb hX hbl hbA hS (by rw [show nI (1 + 5 * k) + 1 = nI (1 + 5 * k + 1) from nI_add _ 1]; exact vp_in_nI (by omega) (by omega)) d_W_law_281 ?_
        refine jw_calli (va_runV (As := [.int (xs (((nI (1 + 5 * k)) + 1)).toNatClampNeg)]) (rest := [.int r65]) ⟨hx, hb, hml, hown, hT⟩ (m_M_count l D s.heap.size cA sh V P (xs (((nI (1 + 5 * k)) + 1)).toNatClampNeg)) (cwV 1 hT (gV k420 k421 k422 k8 kc_M_count) rfl rfl rfl (by decide +kernel) ⟨Nat.le_of_ble_eq_true rfl, Nat.le_of_ble_eq_true rfl⟩) (jw_preV (q := ("BlockVaultModel", T_M, 15)) hW hK hN rfl rfl) rfl rfl hl.1 rfl (lv_room (Nat.le_of_ble_eq_true rfl)) d_W_law_282 ⟨Nat.le_of_ble_eq_true rfl, Nat.le_of_ble_eq_true rfl⟩) hS (fun r69 V70 P71 H locs hw72 hW hS => ?_)
        obtain ⟨hr2, rfl, rfl⟩ := t3 hw72
        have heq : r65 = r69 := by rw [← hr1, ← hr2]; exact sim_count hrel (xs (((nI (1 + 5 * k)) + 1)).toNatClampNeg)
        have hrel2 := st_still hrel
        refine lv_icmp_eq (tgt := 336) hx hb d_W_law_285 (by decide) (fun c73 => ?_) (fun c73 => ?_)
        · refine lv_iinc (v := ((nI (1 + 5 * k)) + 5)) (lv' := [(3, .int ((nI (1 + 5 * k)) + 5)), (2, .ref (sh 272)), (1, .ref (sh 266)), (0, .ref b)]) hx hb d_W_law_336 hl (k := 0) rfl rfl (by decide) rfl (fun ls hl => ?_)
          refine lv_goto (tgt := 28) hx hb d_W_law_339 (by decide) ?_
          refine jw_tight hBs hW ?_
          exact ih (k + 1) (r0 V) P H locs ls (by omega) (by omega) hrel2 hW hS (by rw [show nI (1 + 5 * (k + 1)) = nI (1 + 5 * k) + 5 from (nI_add (1 + 5 * k) 5).symm]; exact lv_sub hl [0, 1, 2, 3] rfl)
        · exact absurd heq c73
      by_cases e8 : j = 8
      · rw [e8]
        refine lv_tableIn (x := nI 8) (off := 248) (tgt := 290) hx hb d_W_law_42 (by decide) (by decide) rfl (by decide) ?_
        refine lv_aload_n hx hb d_W_law_290 rfl (lv_at hl 2 rfl) ?_
        refine lv_aload_n hx hb d_W_law_291 rfl (lv_at hl 3 rfl) ?_
        refine lv_iload_n hx hb d_W_law_292 rfl (lv_at hl 0 rfl) ?_
        refine lv_iconst (v := 1) hx hb d_W_law_293 (by decide) ?_
        refine lv_iadd hx hb d_W_law_294 ?_
        refine va_sld hx hb hX hbl hbA hS (by rw [show nI (1 + 5 * k) + 1 = nI (1 + 5 * k + 1) from nI_add _ 1]; exact vp_in_nI (by omega) (by omega)) d_W_law_295 ?_
        refine jw_calli (va_runV (As := [.int (xs (((nI (1 + 5 * k)) + 1)).toNatClampNeg)]) (rest := []) ⟨hx, hb, hml, hown, hT⟩ (m_V_held l D s.heap.size cA sh V P (rel_01 hrel) (xs (((nI (1 + 5 * k)) + 1)).toNatClampNeg)) (cwV 1 hT (gV k303 k304 k305 k1 kc_V_held) rfl rfl rfl (by decide +kernel) ⟨Nat.le_of_ble_eq_true rfl, Nat.le_of_ble_eq_true rfl⟩) (jw_preV (q := ("BlockVault", T_V, 5)) hW hK hN rfl rfl) rfl rfl hl.1 rfl (lv_room (Nat.le_of_ble_eq_true rfl)) d_W_law_296 ⟨Nat.le_of_ble_eq_true rfl, Nat.le_of_ble_eq_true rfl⟩) hS (fun r74 V75 P76 H locs hw77 hW hS => ?_)
        obtain ⟨hr1, rfl, rfl⟩ := t3 hw77
        refine lv_aload_n hx hb d_W_law_299 rfl (lv_at hl 1 rfl) ?_
        refine lv_aload_n hx hb d_W_law_300 rfl (lv_at hl 3 rfl) ?_
        refine lv_iload_n hx hb d_W_law_301 rfl (lv_at hl 0 rfl) ?_
        refine lv_iconst (v := 1) hx hb d_W_law_302 (by decide) ?_
        refine lv_iadd hx hb d_W_law_303 ?_
        refine va_sld hx hb hX hbl hbA hS (by rw [show nI (1 + 5 * k) + 1 = nI (1 + 5 * k + 1) from nI_add _ 1]; exact vp_in_nI (by omega) (by omega)) d_W_law_304 ?_
        obtain ⟨N, hN0, h80⟩ := rel_N hrel
        refine jw_calli (va_runV (As := [.int (xs (((nI (1 + 5 * k)) + 1)).toNatClampNeg)]) (rest := [.int r74]) ⟨hx, hb, hml, hown, hT⟩ (m_M_held l D s.heap.size cA sh V P N hN0 h80 (xs (((nI (1 + 5 * k)) + 1)).toNatClampNeg)) (cwV 1 hT (gV k424 k425 k426 k8 kc_M_held) rfl rfl rfl (by decide +kernel) ⟨Nat.le_of_ble_eq_true rfl, Nat.le_of_ble_eq_true rfl⟩) (jw_preV (q := ("BlockVaultModel", T_M, 15)) hW hK hN rfl rfl) rfl rfl hl.1 rfl (lv_room (Nat.le_of_ble_eq_true rfl)) d_W_law_305 ⟨Nat.le_of_ble_eq_true rfl, Nat.le_of_ble_eq_true rfl⟩) hS (fun r78 V79 P80 H locs hw81 hW hS => ?_)
        obtain ⟨hr2, rfl, rfl⟩ := t3 hw81
        have heq : r74 = r78 := by rw [← hr1, ← hr2]; exact sim_held hrel (xs (((nI (1 + 5 * k)) + 1)).toNatClampNeg)
        have hrel2 := st_still hrel
        refine lv_icmp_eq (tgt := 336) hx hb d_W_law_308 (by decide) (fun c82 => ?_) (fun c82 => ?_)
        · refine lv_iinc (v := ((nI (1 + 5 * k)) + 5)) (lv' := [(3, .int ((nI (1 + 5 * k)) + 5)), (2, .ref (sh 272)), (1, .ref (sh 266)), (0, .ref b)]) hx hb d_W_law_336 hl (k := 0) rfl rfl (by decide) rfl (fun ls hl => ?_)
          refine lv_goto (tgt := 28) hx hb d_W_law_339 (by decide) ?_
          refine jw_tight hBs hW ?_
          exact ih (k + 1) (r0 V) P H locs ls (by omega) (by omega) hrel2 hW hS (by rw [show nI (1 + 5 * (k + 1)) = nI (1 + 5 * k) + 5 from (nI_add (1 + 5 * k) 5).symm]; exact lv_sub hl [0, 1, 2, 3] rfl)
        · exact absurd heq c82
      by_cases e9 : j = 9
      · rw [e9]
        refine lv_tableIn (x := nI 9) (off := 271) (tgt := 313) hx hb d_W_law_42 (by decide) (by decide) rfl (by decide) ?_
        refine lv_aload_n hx hb d_W_law_313 rfl (lv_at hl 2 rfl) ?_
        refine lv_aload_n hx hb d_W_law_314 rfl (lv_at hl 3 rfl) ?_
        refine lv_iload_n hx hb d_W_law_315 rfl (lv_at hl 0 rfl) ?_
        refine lv_iconst (v := 1) hx hb d_W_law_316 (by decide) ?_
        refine lv_iadd hx hb d_W_law_317 ?_
        refine va_sld hx hb hX hbl hbA hS (by rw [show nI (1 + 5 * k) + 1 = nI (1 + 5 * k + 1) from nI_add _ 1]; exact vp_in_nI (by omega) (by omega)) d_W_law_318 ?_
        refine jw_calli (va_runV (As := [.int (xs (((nI (1 + 5 * k)) + 1)).toNatClampNeg)]) (rest := []) ⟨hx, hb, hml, hown, hT⟩ (m_V_cached l D s.heap.size cA sh V P (rel_01 hrel) (xs (((nI (1 + 5 * k)) + 1)).toNatClampNeg)) (cwV 1 hT (gV k307 k308 k309 k1 kc_V_cached) rfl rfl rfl (by decide +kernel) ⟨Nat.le_of_ble_eq_true rfl, Nat.le_of_ble_eq_true rfl⟩) (jw_preV (q := ("BlockVault", T_V, 5)) hW hK hN rfl rfl) rfl rfl hl.1 rfl (lv_room (Nat.le_of_ble_eq_true rfl)) d_W_law_319 ⟨Nat.le_of_ble_eq_true rfl, Nat.le_of_ble_eq_true rfl⟩) hS (fun r83 V84 P85 H locs hw86 hW hS => ?_)
        obtain ⟨hr1, rfl, rfl⟩ := t3 hw86
        refine lv_aload_n hx hb d_W_law_322 rfl (lv_at hl 1 rfl) ?_
        refine lv_aload_n hx hb d_W_law_323 rfl (lv_at hl 3 rfl) ?_
        refine lv_iload_n hx hb d_W_law_324 rfl (lv_at hl 0 rfl) ?_
        refine lv_iconst (v := 1) hx hb d_W_law_325 (by decide) ?_
        refine lv_iadd hx hb d_W_law_326 ?_
        refine va_sld hx hb hX hbl hbA hS (by rw [show nI (1 + 5 * k) + 1 = nI (1 + 5 * k + 1) from nI_add _ 1]; exact vp_in_nI (by omega) (by omega)) d_W_law_327 ?_
        obtain ⟨N, hN0, h80⟩ := rel_N hrel
        refine jw_calli (va_runV (As := [.int (xs (((nI (1 + 5 * k)) + 1)).toNatClampNeg)]) (rest := [.int r83]) ⟨hx, hb, hml, hown, hT⟩ (m_M_cached l D s.heap.size cA sh V P N hN0 h80 (xs (((nI (1 + 5 * k)) + 1)).toNatClampNeg)) (cwV 1 hT (gV k428 k429 k430 k8 kc_M_cached) rfl rfl rfl (by decide +kernel) ⟨Nat.le_of_ble_eq_true rfl, Nat.le_of_ble_eq_true rfl⟩) (jw_preV (q := ("BlockVaultModel", T_M, 15)) hW hK hN rfl rfl) rfl rfl hl.1 rfl (lv_room (Nat.le_of_ble_eq_true rfl)) d_W_law_328 ⟨Nat.le_of_ble_eq_true rfl, Nat.le_of_ble_eq_true rfl⟩) hS (fun r87 V88 P89 H locs hw90 hW hS => ?_)
        obtain ⟨hr2, rfl, rfl⟩ := t3 hw90
        have heq : r83 = r87 := by rw [← hr1, ← hr2]; exact sim_cached hrel (by omega) (xs (((nI (1 + 5 * k)) + 1)).toNatClampNeg)
        have hrel2 := st_still hrel
        refine lv_icmp_eq (tgt := 336) hx hb d_W_law_331 (by decide) (fun c91 => ?_) (fun c91 => ?_)
        · refine lv_iinc (v := ((nI (1 + 5 * k)) + 5)) (lv' := [(3, .int ((nI (1 + 5 * k)) + 5)), (2, .ref (sh 272)), (1, .ref (sh 266)), (0, .ref b)]) hx hb d_W_law_336 hl (k := 0) rfl rfl (by decide) rfl (fun ls hl => ?_)
          refine lv_goto (tgt := 28) hx hb d_W_law_339 (by decide) ?_
          refine jw_tight hBs hW ?_
          exact ih (k + 1) (r0 V) P H locs ls (by omega) (by omega) hrel2 hW hS (by rw [show nI (1 + 5 * (k + 1)) = nI (1 + 5 * k) + 5 from (nI_add (1 + 5 * k) 5).symm]; exact lv_sub hl [0, 1, 2, 3] rfl)
        · exact absurd heq c91
      refine lv_tableOut (tgt := 336) hx hb d_W_law_42 (Or.inr (by rw [nI_toInt (by omega)]; omega)) (by decide) ?_
      have hrel2 := rel_up hrel
      refine lv_iinc (v := ((nI (1 + 5 * k)) + 5)) (lv' := [(3, .int ((nI (1 + 5 * k)) + 5)), (2, .ref (sh 272)), (1, .ref (sh 266)), (0, .ref b)]) hx hb d_W_law_336 hl (k := 0) rfl rfl (by decide) rfl (fun ls hl => ?_)
      refine lv_goto (tgt := 28) hx hb d_W_law_339 (by decide) ?_
      refine jw_tight hBs hW ?_
      exact ih (k + 1) V P H locs ls (by omega) (by omega) hrel2 hW hS (by rw [show nI (1 + 5 * (k + 1)) = nI (1 + 5 * k) + 5 from (nI_add (1 + 5 * k) 5).symm]; exact lv_sub hl [0, 1, 2, 3] rfl)
