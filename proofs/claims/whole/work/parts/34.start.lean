theorem nest_f : ∀ q ∈ nestF, Cond.fieldLinkNest q.1 q.2.1 q.2.2.1 q.2.2.2.1 q.2.2.2.2.1 q.2.2.2.2.2 ∈ lw_tbl := by decide +kernel
theorem nest_m : ∀ q ∈ nestM, Cond.methodLinkNest q.1 q.2.1 q.2.2.1 q.2.2.2 ∈ lw_tbl := by decide +kernel
theorem ao_p : Cond.arrayOver (.object "BlockVault$Page") ∈ lw_tbl := by decide +kernel
theorem ao_r : Cond.arrayOver (.object "BlockVault$Row") ∈ lw_tbl := by decide +kernel
theorem hm_none {D : va_G} {H : Heap} : hm_P D vwCl H.size (fun _ => none) H := ⟨Nat.le_refl _, fun a t e h => (by cases h), fun q h1 h2 => absurd h1 (by omega), fun q q' t e e' h => (by cases h)⟩
theorem arr_prim {s : State} {A : Array Value} {ty : FieldType} (h : (Cond.arrayClass ty).before A s = true) (hp : ∀ c, s.vm.findClass ("[" ++ ty.toString) = some c → va_RA s c ty) : ∃ c : ClassId, ArrOfT s c ty ∧ va_RA s c ty := by
  obtain ⟨c, k, comp, h1, h2, h3⟩ := Cond.arrayClass_spec h
  exact ⟨c, fun n z => ⟨fun k h => (by cases h), k, h2, comp, h3⟩, hp c h1⟩
theorem arr_obj {s : State} {A : Array Value} {C : String} (h : (Cond.arrayOver (.object C)).before A s = true) : ∃ c : ClassId, ArrOfT s c (.object C) ∧ va_RA s c (.object C) := by
  obtain ⟨comp, c, k, g1, g2, g3, g4, g5⟩ := Cond.arrayOver_spec h
  exact ⟨c, fun n z => ⟨fun k h => (by cases h), k, g3, comp, g4⟩, k, comp, g3, g4, g1, g5⟩
set_option maxHeartbeats 4000000 in
set_option maxRecDepth 100000 in
theorem whole_start {p : Program} {e : Env} {s : State} {m : MethodId} {below : List Frame} {meth : Method} {c : Code} (l : Launch) {b L : Nat} {xs : Nat → Int32} (hL : L ≤ 2561) (C0 : lw_At p s m meth c b L xs) : W p l e room_1 s m #[Value.ref b] below meth c s.heap [] 0 0 (lw_Z below #[Value.ref b] s) (entryFrame m ([Value.ref b] : List Value).toArray 4) := by
  obtain ⟨hx, hb, hr, hml, hown, hts, hX, hbl, hlocks, hgv⟩ := id C0
  have hbA : ¬ hm_A s.heap.size b := Nat.not_le.mpr hbl
  have hBs : s.heap.size ≤ s.heap.size := Nat.le_refl _
  have hT : ∀ w ∈ WG, w.before #[Value.ref b] s = true := fun w hw => hts w (List.mem_filter.mp hw).1
  have hN : JN s := ⟨fun q hq => va_Nw.of rfl (hts _ (nest_f q hq)), fun q hq => va_Nw.of rfl (hts _ (nest_m q hq)), va_AO.of (hts _ ao_p), va_AO.of (hts _ ao_r)⟩
  obtain ⟨c0, i0, hKn0⟩ := u_known (C := "BlockVault$Cache") (T := T_C) (N := 3) (n := 3) hT in_C (hT _ k56)
  obtain ⟨c1, i1, hKn1⟩ := u_known (C := "BlockVault$Disk") (T := T_D) (N := 4) (n := 4) hT in_D (hT _ k26)
  obtain ⟨c2, i2, hKn2⟩ := u_known (C := "BlockVault$Log") (T := T_L) (N := 3) (n := 3) hT in_L (hT _ k109)
  obtain ⟨c3, i3, hKn3⟩ := u_known (C := "BlockVault$Page") (T := T_P) (N := 1) (n := 1) hT in_P (hT _ k33)
  obtain ⟨c4, i4, hKn4⟩ := u_known (C := "BlockVault$Row") (T := T_R) (N := 5) (n := 5) hT in_R (hT _ k63)
  obtain ⟨c5, i5, hKn5⟩ := u_known (C := "BlockVault") (T := T_V) (N := 5) (n := 5) hT in_V (hT _ k12)
  obtain ⟨c6, i6, hKn6⟩ := u_known (C := "BlockVaultModel") (T := T_M) (N := 15) (n := 15) hT in_M (hT _ k315)
  obtain ⟨D, hKc⟩ : ∃ D : va_G, ∀ (k : Nat) (q : vw_C), vwCl[k]? = some q → u_Kn s q.1 q.2.1 q.2.2 (D.1 k) (D.2 k) := by
    refine ⟨(fun k => if k = 0 then c0 else if k = 1 then c1 else if k = 2 then c2 else if k = 3 then c3 else if k = 4 then c4 else if k = 5 then c5 else c6, fun k => if k = 0 then i0 else if k = 1 then i1 else if k = 2 then i2 else if k = 3 then i3 else if k = 4 then i4 else if k = 5 then i5 else i6), ?_⟩
    intro k q hq
    match k, hq with
    | 0, hq => cases hq; exact hKn0
    | 1, hq => cases hq; exact hKn1
    | 2, hq => cases hq; exact hKn2
    | 3, hq => cases hq; exact hKn3
    | 4, hq => cases hq; exact hKn4
    | 5, hq => cases hq; exact hKn5
    | 6, hq => cases hq; exact hKn6
    | k + 7, hq => simp [vwCl] at hq
  obtain ⟨a0, b0⟩ := arr_prim (ty := .byte) (hT _ k224) (fun _ h => h)
  obtain ⟨a1, b1⟩ := arr_obj (hts _ ao_p)
  obtain ⟨a2, b2⟩ := arr_obj (hts _ ao_r)
  obtain ⟨a3, b3⟩ := arr_prim (ty := .boolean) (hT _ k367) (fun _ h => h)
  obtain ⟨a4, b4⟩ := arr_prim (ty := .int) (hT _ k368) (fun _ h => h)
  obtain ⟨cA, hKa⟩ : ∃ cA : Nat → ClassId, ∀ (k : Nat) (q : ClassId × FieldType), (tysA cA)[k]? = some q → ArrOfT s q.1 q.2 ∧ va_RA s q.1 q.2 := by
    refine ⟨fun k => if k = 0 then a0 else if k = 1 then a1 else if k = 2 then a2 else if k = 3 then a3 else a4, ?_⟩
    intro k q hq
    match k, hq with
    | 0, hq => cases hq; exact b0
    | 1, hq => cases hq; exact b1
    | 2, hq => cases hq; exact b2
    | 3, hq => cases hq; exact b3
    | 4, hq => cases hq; exact b4
    | k + 5, hq => simp [tysA] at hq
  have hK : va_K D vwCl (tysA cA) s := ⟨hKc, hKa⟩
  have hS : va_S (hm_A s.heap.size) s.heap s.heap [] := va_S.rf
  have hP : hm_P D vwCl s.heap.size (fun _ => none) s.heap := hm_none
  have hl := lv_entry ([.ref b]) (n := 4) (Nat.le_of_ble_eq_true rfl)
  rw [lg_entry_eq]
  generalize (lg_sl ([.ref b]) ++ List.replicate (4 - (lg_sl ([.ref b])).length) Slot.unset).toArray = ls at hl ⊢
  have hl : lv_has ls 4 [(0, .ref b)] := hl
  refine hm_new (ci := 5) (fs := [.int 0, .null, .null, .null, .int 0]) (C := "BlockVault") (T := T_V) (N := 5) hx hb hT in_V t_V t_V_ok hown (hT _ k11) (hT _ k12) (hT _ k1) hK hP hS rfl (by decide +kernel) 266 (by omega) (by unfold hm_mx; (repeat' split) <;> omega) (fun _ _ h => by cases h) (Nat.le_of_ble_eq_true rfl) (Nat.le_of_ble_eq_true rfl) d_W_law_0 (fun a H hqa hP hS => ?_)
  refine lv_dup hx hb d_W_law_3 rfl ?_
  refine lv_aload_n hx hb d_W_law_4 rfl (lv_at hl 0 rfl) ?_
  refine lv_iconst (v := 0) hx hb d_W_law_5 (by decide) ?_
  refine va_calli (va_runS (As := [.ref b, .int 0]) (rest := [.ref a, .ref a]) ⟨hx, hb, hml, hown, hT⟩ (m_W_cell l D s.heap.size cA (hm_up (fun _ => none) a (266, .inr (5, [.int 0, .null, .null, .null, .int 0]))) b L xs hbl (by omega)) (va_cwS 2 hT (gS k311 k312 k0 kc_W_cell) rfl rfl rfl (by decide +kernel) ⟨Nat.le_of_ble_eq_true rfl, Nat.le_of_ble_eq_true rfl⟩) ⟨XC.blind, fun U hU hw => ⟨rfl, ⟨by rw [hU]; exact hP, va_K.moved hw.alike hK, hN.warm hw⟩, by rw [hU]; exact va_X.moved hw.alike (hX.kept (hS.2.1 b hbl hbA))⟩⟩ rfl rfl hl.1 rfl (lv_room (Nat.le_of_ble_eq_true rfl)) d_W_law_6 ⟨Nat.le_of_ble_eq_true rfl, Nat.le_of_ble_eq_true rfl⟩) hS (fun _ _ h => h) (fun _ h => h) (fun r u t H1 locs ht _ hw hB _ _ hS => ?_)
  obtain ⟨rfl, hu⟩ := hw
  have hP := hB.1
  rw [ht, hu] at hP
  clear hB ht
  generalize H1 = H at hP hS ⊢
  have hfx : ∀ j, j < 278 → j ≠ 266 → ∀ (q : Nat) (e : va_E), (hm_up (fun _ => none) a (266, .inr (5, [.int 0, .null, .null, .null, .int 0]))) q ≠ some (j, e) := fun j _ hj => fr_up (fun _ _ h => by cases h) (Ne.symm hj)
  refine hm_callv (va_runI (As := [.int (xs0 L xs)]) (rest := [.ref a]) ⟨hx, hb, hml, hown, hT⟩ (m_V_init l D s.heap.size cA (hm_up (fun _ => none) a (266, .inr (5, [.int 0, .null, .null, .null, .int 0]))) a hm_up_s hfx (xs0 L xs)) (cwI 1 hT (gI kc_V_init) rfl rfl rfl (hT _ k1) (hT _ k13) (hT _ k14) rfl (by decide +kernel) ⟨Nat.le_of_ble_eq_true rfl, Nat.le_of_ble_eq_true rfl⟩) (hn_pre hP hK hN) rfl rfl hl.1 rfl (lv_room (Nat.le_of_ble_eq_true rfl)) d_W_law_9 ⟨Nat.le_of_ble_eq_true rfl, Nat.le_of_ble_eq_true rfl⟩) hS (fun ua H locs hua hP hS => ?_)
  refine hm_tight hBs hP ?_
  obtain ⟨hvt, hag⟩ := hua
  refine lv_astore_n (lv' := [(1, .ref a), (0, .ref b)]) hx hb d_W_law_12 rfl hl (by decide) rfl (fun ls hl => ?_)
  have hfm : ∀ j, 272 ≤ j → j < 278 → ∀ (q : Nat) (e : va_E), ua q ≠ some (j, e) := fun j h1 h2 => hag.no (by first | omega | (dsimp only; omega)) (hfx j h2 (by omega))
  have hnb : ∀ t, 116 ≤ t → t < 232 → ∀ (q : Nat) (e : va_E), ua q ≠ some (t, e) := fun t h1 h2 => hag.no (by first | omega | (dsimp only; omega)) (hfx t (by omega) (by omega))
  refine hm_new (ci := 6) (fs := [.int 0, .int 0, .null, .null, .null, .null, .null, .int 0, .int 0, .int 0, .int 0, .int 0, .int 0, .int 0, .int 0]) (C := "BlockVaultModel") (T := T_M) (N := 15) hx hb hT in_M t_M t_M_ok hown (hT _ k314) (hT _ k315) (hT _ k8) hK hP hS rfl (by decide +kernel) 272 (by omega) (by unfold hm_mx; (repeat' split) <;> omega) (hfm 272 (by omega) (by omega)) (Nat.le_of_ble_eq_true rfl) (Nat.le_of_ble_eq_true rfl) d_W_law_13 (fun a2 H hqa2 hP hS => ?_)
  refine lv_dup hx hb d_W_law_16 rfl ?_
  refine lv_aload_n hx hb d_W_law_17 rfl (lv_at hl 1 rfl) ?_
  refine lv_iconst (v := 0) hx hb d_W_law_18 (by decide) ?_
  refine va_calli (va_runS (As := [.ref b, .int 0]) (rest := [.ref a2, .ref a2]) ⟨hx, hb, hml, hown, hT⟩ (m_W_cell l D s.heap.size cA (hm_up ua a2 (272, .inr (6, [.int 0, .int 0, .null, .null, .null, .null, .null, .int 0, .int 0, .int 0, .int 0, .int 0, .int 0, .int 0, .int 0]))) b L xs hbl (by omega)) (va_cwS 2 hT (gS k311 k312 k0 kc_W_cell) rfl rfl rfl (by decide +kernel) ⟨Nat.le_of_ble_eq_true rfl, Nat.le_of_ble_eq_true rfl⟩) ⟨XC.blind, fun U hU hw => ⟨rfl, ⟨by rw [hU]; exact hP, va_K.moved hw.alike hK, hN.warm hw⟩, by rw [hU]; exact va_X.moved hw.alike (hX.kept (hS.2.1 b hbl hbA))⟩⟩ rfl rfl hl.1 rfl (lv_room (Nat.le_of_ble_eq_true rfl)) d_W_law_19 ⟨Nat.le_of_ble_eq_true rfl, Nat.le_of_ble_eq_true rfl⟩) hS (fun _ _ h => h) (fun _ h => h) (fun r u t H1 locs ht _ hw hB _ _ hS => ?_)
  obtain ⟨rfl, hu⟩ := hw
  have hP := hB.1
  rw [ht, hu] at hP
  clear hB ht
  generalize H1 = H at hP hS ⊢
  have hst : hm_ag (fun t => t = 272) ua (hm_up ua a2 (272, .inr (6, [.int 0, .int 0, .null, .null, .null, .null, .null, .int 0, .int 0, .int 0, .int 0, .int 0, .int 0, .int 0, .int 0]))) := hm_ag.rf.up rfl (Or.inl hqa2)
  refine hm_callv (va_runI (As := [.int (xs0 L xs)]) (rest := [.ref a2]) ⟨hx, hb, hml, hown, hT⟩ (m_M_init l D s.heap.size cA (hm_up ua a2 (272, .inr (6, [.int 0, .int 0, .null, .null, .null, .null, .null, .int 0, .int 0, .int 0, .int 0, .int 0, .int 0, .int 0, .int 0]))) a2 hm_up_s (fun j h1 h2 => fr_up (hfm j (by omega) h1) (by omega)) (xs0 L xs)) (cwI 1 hT (gI kc_M_init) rfl rfl rfl (hT _ k8) (hT _ k316) (hT _ k317) rfl (by decide +kernel) ⟨Nat.le_of_ble_eq_true rfl, Nat.le_of_ble_eq_true rfl⟩) (hn_pre hP hK hN) rfl rfl hl.1 rfl (lv_room (Nat.le_of_ble_eq_true rfl)) d_W_law_22 ⟨Nat.le_of_ble_eq_true rfl, Nat.le_of_ble_eq_true rfl⟩) hS (fun ua2 H locs hua2 hP hS => ?_)
  refine hm_tight hBs hP ?_
  obtain ⟨hmo, hag2⟩ := hua2
  have hst2 : hm_ag (fun t => 272 ≤ t) ua ua2 := hst.tr hag2 (fun t z => (by first | omega | (dsimp only; omega))) (fun t z => z)
  obtain ⟨sh, rfl, rfl, hW⟩ := jw_start hP (hvt.ag hst2 (fun t ht => (by first | omega | (dsimp only; omega)))) hmo (fun t h1 h2 => hst2.no (by first | omega | (dsimp only; omega)) (hnb t h1 h2))
  refine lv_astore_n (lv' := [(2, .ref (sh 272)), (1, .ref (sh 266)), (0, .ref b)]) hx hb d_W_law_25 rfl hl (by decide) rfl (fun ls hl => ?_)
  refine lv_iconst (v := 1) hx hb d_W_law_26 (by decide) ?_
  refine lv_istore_n (lv' := [(3, .int 1), (2, .ref (sh 272)), (1, .ref (sh 266)), (0, .ref b)]) hx hb d_W_law_27 rfl hl (by decide) rfl (fun ls hl => ?_)
  exact law_loop hL C0 hT hK hN (L + 5) 0 _ _ H locs ls (by omega) (by omega) (rel_start (xs0 L xs)) hW hS (lv_sub hl [0, 1, 2, 3] rfl)
