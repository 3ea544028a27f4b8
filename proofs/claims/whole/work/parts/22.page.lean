theorem in_lt {k : Int32} (h1 : ¬ k < 0) (h2 : k < 1024) : k.toNatClampNeg < 1024 := Nat.not_le.mp fun q => in_1024 h1 h2 (Or.inr q)
theorem mByte_lo {g : Nat → Int32} {k : Int32} (h : k < 0) : mByte g k = 0 := by
  unfold mByte
  rw [if_pos (Or.inl h)]
theorem mByte_hi {g : Nat → Int32} {k : Int32} (h : ¬ k < 1024) : mByte g k = 0 := by
  unfold mByte
  rw [if_pos (Or.inr (Int32.not_lt.mp h))]
theorem mByte_in {g : Nat → Int32} {k : Int32} (h1 : ¬ k < 0) (h2 : k < 1024) : mByte g k = g k.toNatClampNeg &&& 255 := by
  unfold mByte
  rw [if_neg (fun q => q.elim h1 (fun w => Int32.not_lt.mpr w h2))]
theorem mPut_no {g : Nat → Int32} {k n v : Int32} (h : ¬ mIsRun k n) : mPut g k n v = g := by
  unfold mPut
  rw [if_neg h]

set_option maxHeartbeats 4000000 in
set_option maxRecDepth 100000 in
theorem m_P_byteAt (l : Launch) (D : va_G) (B : Nat) (cA : Nat → ClassId) (sh : Nat → Nat) (V P : VV) (t : Nat) (ht : t < 116) (k : Int32) : Met l y_P_byteAt w_P_byteAt ({ frames := 0, cells := 0, slots := 0, locals := 0 } : Room) (va_Pc [.ref (sh t), .int k] (JC D B cA sh (V, P))) (va_Qi (fun (r : Int32) (u : VV × VV) => (r, u.1, u.2) = (mByte (P t) k, V, P)) (JC D B cA sh) (hm_A B)) 0 0 (hm_A B) := by
  refine Met.ofW (cc := c_P_byteAt) (maxL := 2) (ret := (some FieldType.int)) (by decide) rfl ?_
  intro p e s m args below meth c s₁ Bd hml hv
  obtain ⟨rfl, hW, hK, hN⟩ := hv
  have hx := Bd.exec
  have hb := Bd.bytes
  have hr := Bd.returns
  have hts := atoms_spec (ws := w_P_byteAt) Bd.pre
  have hT : ∀ w ∈ WG, w.before ([.ref (sh t), .int k] : List Value).toArray s = true := fun w h => hts w (List.mem_cons_of_mem _ h)
  have hown : s.vm.findClass "BlockVault$Page" = some m.cls := findClass_of_methodNamed Bd.named
  have hlocks := Bd.notSynchronized
  have hW : JW D B cA sh V P s.heap := hW
  have hBs : B ≤ s.heap.size := hW.ge
  have hS : va_S (hm_A B) s.heap s.heap [] := va_S.rf
  have hl := lv_entry ([.ref (sh t), .int k]) (n := 2) (Nat.le_of_ble_eq_true rfl)
  rw [lg_entry_eq]
  generalize (lg_sl ([.ref (sh t), .int k]) ++ List.replicate (2 - (lg_sl ([.ref (sh t), .int k])).length) Slot.unset).toArray = ls at hl ⊢
  have hl : lv_has ls 2 [(0, .ref (sh t)), (1, .int k)] := hl
  obtain ⟨h, hP, hJ⟩ := id hW
  rcases hJ.2.2.2.1 t ht with ⟨a1, a2, a3⟩ | ⟨b, g0, a1, a2, a3, a4⟩
  · refine lv_aload_n hx hb d_P_byteAt_0 rfl (lv_at hl 0 rfl) ?_
    refine va_get (D := D) (ci := 3) (v := .null) (C := "BlockVault$Page") (T := T_P) (N := 1) hx hb hT in_P hown hK (hP.one a1) 0 rfl rfl 0 (by decide) (hT _ k38) (fun _ h9 => h9) rfl d_P_byteAt_1 ?_
    refine lv_ifnullN (tgt := 20) hx hb d_P_byteAt_4 (by decide) ?_
    refine lv_iconst (v := 0) hx hb d_P_byteAt_20 (by decide) ?_
    refine W.widen (k := 0) (n := 0) (by omega) (by omega) ?_
    exact W.iret (v := 0) hx hb hr (fun t9 ht9 hwz => ⟨⟨0, (V, P), rfl, (by rw [mByte_0 a2]), by rw [ht9]; exact hW, va_K.moved hwz.alike hK, hN.warm hwz⟩, hS.F ht9⟩) hS.2.2 d_P_byteAt_21
  · refine lv_aload_n hx hb d_P_byteAt_0 rfl (lv_at hl 0 rfl) ?_
    refine va_get (D := D) (ci := 3) (v := .ref b) (C := "BlockVault$Page") (T := T_P) (N := 1) hx hb hT in_P hown hK (hP.one a1) 0 rfl rfl 0 (by decide) (hT _ k38) (fun _ h9 => h9) rfl d_P_byteAt_1 ?_
    refine lv_ifnull hx hb d_P_byteAt_4 ?_
    refine lv_iload_n hx hb d_P_byteAt_7 rfl (lv_at hl 1 rfl) ?_
    refine lv_if_lt (tgt := 20) hx hb d_P_byteAt_8 (by decide) (fun c1 => ?_) (fun c1 => ?_)
    · refine lv_iconst (v := 0) hx hb d_P_byteAt_20 (by decide) ?_
      refine W.widen (k := 0) (n := 0) (by omega) (by omega) ?_
      exact W.iret (v := 0) hx hb hr (fun t9 ht9 hwz => ⟨⟨0, (V, P), rfl, (by rw [mByte_lo c1]), by rw [ht9]; exact hW, va_K.moved hwz.alike hK, hN.warm hwz⟩, hS.F ht9⟩) hS.2.2 d_P_byteAt_21
    · refine lv_iload_n hx hb d_P_byteAt_11 rfl (lv_at hl 1 rfl) ?_
      refine lv_aload_n hx hb d_P_byteAt_12 rfl (lv_at hl 0 rfl) ?_
      refine va_get (D := D) (ci := 3) (v := .ref b) (C := "BlockVault$Page") (T := T_P) (N := 1) hx hb hT in_P hown hK (hP.one a1) 0 rfl rfl 0 (by decide) (hT _ k38) (fun _ h9 => h9) rfl d_P_byteAt_13 ?_
      refine va_alen hx hb hK (hP.one a2) 0 0 rfl rfl (v := 1024) rfl d_P_byteAt_16 ?_
      refine lv_icmp_lt (tgt := 22) hx hb d_P_byteAt_17 (by decide) (fun c2 => ?_) (fun c2 => ?_)
      · refine lv_aload_n hx hb d_P_byteAt_22 rfl (lv_at hl 0 rfl) ?_
        refine va_get (D := D) (ci := 3) (v := .ref b) (C := "BlockVault$Page") (T := T_P) (N := 1) hx hb hT in_P hown hK (hP.one a1) 0 rfl rfl 0 (by decide) (hT _ k38) (fun _ h9 => h9) rfl d_P_byteAt_23 ?_
        refine lv_iload_n hx hb d_P_byteAt_26 rfl (lv_at hl 1 rfl) ?_
        refine va_bald hx hb hK (hP.one a2) 0 0 rfl rfl (in_1024 c1 c2) d_P_byteAt_27 ?_
        refine lv_sipush (v := 255) hx hb d_P_byteAt_28 (by decide) ?_
        refine lv_iand hx hb d_P_byteAt_31 ?_
        refine W.widen (k := 0) (n := 0) (by omega) (by omega) ?_
        exact W.iret (v := ((g0 k.toNatClampNeg) &&& 255)) hx hb hr (fun t9 ht9 hwz => ⟨⟨((g0 k.toNatClampNeg) &&& 255), (V, P), rfl, (by rw [mByte_in c1 c2, ← a3 _ (in_lt c1 c2)]), by rw [ht9]; exact hW, va_K.moved hwz.alike hK, hN.warm hwz⟩, hS.F ht9⟩) hS.2.2 d_P_byteAt_32
      · refine lv_iconst (v := 0) hx hb d_P_byteAt_20 (by decide) ?_
        refine W.widen (k := 0) (n := 0) (by omega) (by omega) ?_
        exact W.iret (v := 0) hx hb hr (fun t9 ht9 hwz => ⟨⟨0, (V, P), rfl, (by rw [mByte_hi c2]), by rw [ht9]; exact hW, va_K.moved hwz.alike hK, hN.warm hwz⟩, hS.F ht9⟩) hS.2.2 d_P_byteAt_21

set_option maxHeartbeats 4000000 in
set_option maxRecDepth 100000 in
theorem m_P_makeZero (l : Launch) (D : va_G) (B : Nat) (cA : Nat → ClassId) (sh : Nat → Nat) (V P : VV) (t : Nat) (ht : t < 116) : Met l y_P_makeZero w_P_makeZero ({ frames := 1, cells := 0, slots := 0, locals := 23 } : Room) (va_Pc [.ref (sh t)] (JC D B cA sh (V, P))) (va_Qv (fun (u : VV × VV) => u = (V, p1 P t (fun _ => 0))) (JC D B cA sh) (hm_A B)) 0 0 (hm_A B) := by
  refine Met.ofW (cc := c_P_makeZero) (maxL := 1) (ret := none) (by decide) rfl ?_
  intro p e s m args below meth c s₁ Bd hml hv
  obtain ⟨rfl, hW, hK, hN⟩ := hv
  have hx := Bd.exec
  have hb := Bd.bytes
  have hr := Bd.returns
  have hts := atoms_spec (ws := w_P_makeZero) Bd.pre
  have hT : ∀ w ∈ WG, w.before ([.ref (sh t)] : List Value).toArray s = true := fun w h => hts w (List.mem_cons_of_mem _ h)
  have hown : s.vm.findClass "BlockVault$Page" = some m.cls := findClass_of_methodNamed Bd.named
  have hlocks := Bd.notSynchronized
  have hW : JW D B cA sh V P s.heap := hW
  have hBs : B ≤ s.heap.size := hW.ge
  have hS : va_S (hm_A B) s.heap s.heap [] := va_S.rf
  have hl := lv_entry ([.ref (sh t)]) (n := 1) (Nat.le_of_ble_eq_true rfl)
  rw [lg_entry_eq]
  generalize (lg_sl ([.ref (sh t)]) ++ List.replicate (1 - (lg_sl ([.ref (sh t)])).length) Slot.unset).toArray = ls at hl ⊢
  have hl : lv_has ls 1 [(0, .ref (sh t))] := hl
  obtain ⟨h, hP, hJ⟩ := id hW
  rcases hJ.2.2.2.1 t ht with ⟨a1, a2, a3⟩ | ⟨b, g0, a1, a2, a3, a4⟩
  · refine lv_aload_n hx hb d_P_makeZero_0 rfl (lv_at hl 0 rfl) ?_
    refine va_get (D := D) (ci := 3) (v := .null) (C := "BlockVault$Page") (T := T_P) (N := 1) hx hb hT in_P hown hK (hP.one a1) 0 rfl rfl 0 (by decide) (hT _ k38) (fun _ h9 => h9) rfl d_P_makeZero_1 ?_
    refine lv_ifnullN (tgt := 15) hx hb d_P_makeZero_4 (by decide) ?_
    have hW : JW D B cA sh V (p1 P t (fun _ => 0)) s.heap := ⟨h, hP, hJ.null ht a1 a3⟩
    refine W.widen (k := 0) (n := 0) (by omega) (by omega) ?_
    exact W.vret hx hb hr (fun t9 ht9 hwz => ⟨⟨(V, (p1 P t (fun _ => 0))), rfl, rfl, by rw [ht9]; exact hW, va_K.moved hwz.alike hK, hN.warm hwz⟩, hS.F ht9⟩) hS.2.2 d_P_makeZero_15
  · refine lv_aload_n hx hb d_P_makeZero_0 rfl (lv_at hl 0 rfl) ?_
    refine va_get (D := D) (ci := 3) (v := .ref b) (C := "BlockVault$Page") (T := T_P) (N := 1) hx hb hT in_P hown hK (hP.one a1) 0 rfl rfl 0 (by decide) (hT _ k38) (fun _ h9 => h9) rfl d_P_makeZero_1 ?_
    refine lv_ifnull hx hb d_P_makeZero_4 ?_
    refine lv_aload_n hx hb d_P_makeZero_7 rfl (lv_at hl 0 rfl) ?_
    refine va_get (D := D) (ci := 3) (v := .ref b) (C := "BlockVault$Page") (T := T_P) (N := 1) hx hb hT in_P hown hK (hP.one a1) 0 rfl rfl 0 (by decide) (hT _ k38) (fun _ h9 => h9) rfl d_P_makeZero_8 ?_
    refine lv_iconst (v := 0) hx hb d_P_makeZero_11 (by decide) ?_
    refine va_callv (va_runS (As := [.ref b, .int 0]) (rest := []) ⟨hx, hb, hml, hown, hT⟩ (m_A_fill l D B cA h b (116 + t) 1024 g0 a2 (by omega) 0) (va_cwS 2 hT (gS k193 k194 k9 kc_A_fill) rfl rfl rfl (by decide +kernel) ⟨Nat.le_of_ble_eq_true rfl, Nat.le_of_ble_eq_true rfl⟩) ⟨HC.blind, fun U hU hw => ⟨rfl, by rw [hU]; exact hP, va_K.moved hw.alike hK⟩⟩ rfl rfl hl.1 rfl (lv_room (Nat.le_of_ble_eq_true rfl)) d_P_makeZero_12 ⟨Nat.le_of_ble_eq_true rfl, Nat.le_of_ble_eq_true rfl⟩) hS (fun _ _ h => h) (fun _ h => h) (fun u t9 H1 locs1 ht9 _ hw hB _ _ hS => ?_)
    subst hw
    have hP1 := hB.1
    rw [ht9] at hP1
    generalize H1 = H at hP1 hS ⊢
    have hW : JW D B cA sh V (p1 P t (fun _ => 0)) H := ⟨_, hP1, hJ.bytes ht a1 a2 (g := fun _ => 0) (fun k hk => by unfold gfill; rw [if_pos hk]; rfl) (fun k hk => by unfold gfill; rw [if_pos hk]; rfl)⟩
    refine W.widen (k := 0) (n := 0) (by omega) (by omega) ?_
    exact W.vret hx hb hr (fun t9 ht9 hwz => ⟨⟨(V, (p1 P t (fun _ => 0))), rfl, rfl, by rw [ht9]; exact hW, va_K.moved hwz.alike hK, hN.warm hwz⟩, hS.F ht9⟩) hS.2.2 d_P_makeZero_15

theorem pgAt.cong {cA : Nat → ClassId} {sh : Nat → Nat} {h : hm_T} {t : Nat} {g g' : Nat → Int32} (hp : pgAt cA sh h t g) (hg : ∀ k, k < 1024 → g k = g' k) : pgAt cA sh h t g' := by
  rcases hp with ⟨a1, a2, a3⟩ | ⟨b, g0, a1, a2, a3, a4⟩
  · exact Or.inl ⟨a1, fun k hk => by rw [← hg k hk]; exact a2 k hk, a3⟩
  · exact Or.inr ⟨b, g0, a1, a2, fun k hk => by rw [a3 k hk]; exact hg k hk, a4⟩
theorem JW.cong {D : va_G} {B : Nat} {cA : Nat → ClassId} {sh : Nat → Nat} {V P : VV} {H : Heap} {t : Nat} {g g' : Nat → Int32} (hW : JW D B cA sh V (p1 P t g) H) (ht : t < 116) (hg : ∀ k, k < 1024 → g k = g' k) : JW D B cA sh V (p1 P t g') H := by
  obtain ⟨h, hP, hJ⟩ := hW
  have hp := hJ.2.2.2.1 t ht
  rw [p1_s] at hp
  have key := hJ.page ht (fun _ _ _ _ _ h => h) (fun _ _ _ _ _ h => h) (hp.cong hg)
  have e : p1 (p1 P t g) t g' = p1 P t g' := by
    funext q
    by_cases hq : q = t
    · rw [hq, p1_s, p1_s]
    · rw [p1_n hq, p1_n hq, p1_n hq]
  rw [e] at key
  exact ⟨h, hP, key⟩
theorem c0_0 : (0 : Int32).toNatClampNeg = 0 := by decide
theorem c1024 : (1024 : Int32).toNatClampNeg = 1024 := by decide
theorem bb_8 (z : Int32) : z.toInt8.toInt32.toInt8.toInt32 = z.toInt8.toInt32 := pk_vb z
theorem mRun_s {G : Nat → Int32} {k i : Nat} {v : Int32} {g0 : Nat → Int32} (h : ∀ j, j < 1024 → g0 j = mRun G k v i j) : ∀ j, j < 1024 → upd g0 (k + i) (v + nI i).toInt8.toInt32 j = mRun G k v (i + 1) j := by
  intro j hj
  unfold upd
  by_cases e : j = k + i
  · rw [if_pos e, mRun_at, if_pos (by omega), e, show k + i - k = i by omega]
  · rw [if_neg e, h j hj, mRun_at, mRun_at]
    by_cases c : k ≤ j ∧ j < k + i
    · rw [if_pos c, if_pos (by omega)]
    · rw [if_neg c, if_neg (by omega)]

set_option maxHeartbeats 4000000 in
set_option maxRecDepth 100000 in
theorem m_P_copyFrom (l : Launch) (D : va_G) (B : Nat) (cA : Nat → ClassId) (sh : Nat → Nat) (V P : VV) (t t2 : Nat) (ht : t < 116) (ht2 : t2 < 116) (hne : t ≠ t2) : Met l y_P_copyFrom w_P_copyFrom ({ frames := 2, cells := 1, slots := 1024, locals := 60 } : Room) (va_Pc [.ref (sh t), .ref (sh t2)] (JC D B cA sh (V, P))) (va_Qv (fun (u : VV × VV) => u = (V, p1 P t (P t2))) (JC D B cA sh) (hm_A B)) 1 1024 (hm_A B) := by
  refine Met.ofW (cc := c_P_copyFrom) (maxL := 2) (ret := none) (by decide) rfl ?_
  intro p e s m args below meth c s₁ Bd hml hv
  obtain ⟨rfl, hW, hK, hN⟩ := hv
  have hx := Bd.exec
  have hb := Bd.bytes
  have hr := Bd.returns
  have hts := atoms_spec (ws := w_P_copyFrom) Bd.pre
  have hT : ∀ w ∈ WG, w.before ([.ref (sh t), .ref (sh t2)] : List Value).toArray s = true := fun w h => hts w (List.mem_cons_of_mem _ h)
  have hown : s.vm.findClass "BlockVault$Page" = some m.cls := findClass_of_methodNamed Bd.named
  have hlocks := Bd.notSynchronized
  have hW : JW D B cA sh V P s.heap := hW
  have hBs : B ≤ s.heap.size := hW.ge
  have hS : va_S (hm_A B) s.heap s.heap [] := va_S.rf
  have hl := lv_entry ([.ref (sh t), .ref (sh t2)]) (n := 2) (Nat.le_of_ble_eq_true rfl)
  rw [lg_entry_eq]
  generalize (lg_sl ([.ref (sh t), .ref (sh t2)]) ++ List.replicate (2 - (lg_sl ([.ref (sh t), .ref (sh t2)])).length) Slot.unset).toArray = ls at hl ⊢
  have hl : lv_has ls 2 [(0, .ref (sh t)), (1, .ref (sh t2))] := hl
  obtain ⟨h, hP, hJ⟩ := id hW
  rcases hJ.2.2.2.1 t2 ht2 with ⟨d1, d2, d3⟩ | ⟨b2, g2, d1, d2, d3, d4⟩
  · refine lv_aload_n hx hb d_P_copyFrom_0 rfl (lv_at hl 1 rfl) ?_
    refine va_get (D := D) (ci := 3) (v := .null) (C := "BlockVault$Page") (T := T_P) (N := 1) hx hb hT in_P hown hK (hP.one d1) 0 rfl rfl 0 (by decide) (hT _ k38) (fun _ h9 => h9) rfl d_P_copyFrom_1 ?_
    refine lv_ifnonnullN hx hb d_P_copyFrom_4 ?_
    refine lv_aload_n hx hb d_P_copyFrom_7 rfl (lv_at hl 0 rfl) ?_
    refine jw_callv (va_runV (As := []) (rest := []) ⟨hx, hb, hml, hown, hT⟩ (m_P_makeZero l D B cA sh V P t ht) (cwV 0 hT (gV k189 k190 k191 k4 kc_P_makeZero) rfl rfl rfl (by decide +kernel) ⟨Nat.le_of_ble_eq_true rfl, Nat.le_of_ble_eq_true rfl⟩) (jw_preP (q := ("BlockVault$Page", T_P, 1)) hW hK hN (by omega) rfl) rfl rfl hl.1 rfl (lv_room (Nat.le_of_ble_eq_true rfl)) d_P_copyFrom_8 ⟨Nat.le_of_ble_eq_true rfl, Nat.le_of_ble_eq_true rfl⟩) hS (fun V2 P3 H locs hw4 hW hS => ?_)
    cases hw4
    have hW := hW.cong ht (g' := P t2) (fun k hk => (d2 k hk).symm)
    refine W.widen (k := 1) (n := 1024) (by omega) (by omega) ?_
    exact W.vret hx hb hr (fun t9 ht9 hwz => ⟨⟨(V, (p1 P t (P t2))), rfl, rfl, by rw [ht9]; exact hW, va_K.moved hwz.alike hK, hN.warm hwz⟩, hS.F ht9⟩) hS.2.2 d_P_copyFrom_11
  · rcases hJ.2.2.2.1 t ht with ⟨a1, a2, a3⟩ | ⟨b, g0, a1, a2, a3, a4⟩
    · refine lv_aload_n hx hb d_P_copyFrom_0 rfl (lv_at hl 1 rfl) ?_
      refine va_get (D := D) (ci := 3) (v := .ref b2) (C := "BlockVault$Page") (T := T_P) (N := 1) hx hb hT in_P hown hK (hP.one d1) 0 rfl rfl 0 (by decide) (hT _ k38) (fun _ h9 => h9) rfl d_P_copyFrom_1 ?_
      refine lv_ifnonnull (tgt := 12) hx hb d_P_copyFrom_4 (by decide) ?_
      refine lv_aload_n hx hb d_P_copyFrom_12 rfl (lv_at hl 0 rfl) ?_
      refine va_get (D := D) (ci := 3) (v := .null) (C := "BlockVault$Page") (T := T_P) (N := 1) hx hb hT in_P hown hK (hP.one a1) 0 rfl rfl 0 (by decide) (hT _ k38) (fun _ h9 => h9) rfl d_P_copyFrom_13 ?_
      refine lv_ifnonnullN hx hb d_P_copyFrom_16 ?_
      refine lv_aload_n hx hb d_P_copyFrom_19 rfl (lv_at hl 0 rfl) ?_
      refine lv_sipush (v := 1024) hx hb d_P_copyFrom_20 (by decide) ?_
      refine hm_newb hx hb (hT _ k224) hK hP hS (N' := 1024) (by decide) (by decide) (by omega) (116 + t) (by omega) (by unfold hm_mx; rw [if_neg (by omega), if_pos (by omega)]; omega) a3 (Nat.le_of_ble_eq_true rfl) (Nat.le_of_ble_eq_true rfl) d_P_copyFrom_23 (fun q H hq hP hS => ?_)
      have n1 : sh t ≠ q := hm_nn a1 hq
      refine hm_put (ci := 3) (v := .ref q) (ty := .array .byte) (C := "BlockVault$Page") (T := T_P) (N := 1) hx hb hT in_P t_P t_P_ok n_P hown hK hP hS (by rw [hm_up_n n1]; exact a1) rfl 0 (by decide) (hT _ k38) (fun _ h9 => h9) rfl (by decide +kernel) rfl rfl (Nat.le_of_ble_eq_true rfl) d_P_copyFrom_25 (fun H locs hP hS => ?_)
      have hJ := hJ.made ht a1 a2 hq
      rw [show hm_up (hm_up h q (116 + t, aInt (cA 0) 1024 (fun _ => 0))) (sh t) (t, .inr (3, [Value.null].set 0 (.ref q))) = hm_up (hm_up h q (116 + t, aInt (cA 0) 1024 (fun _ => 0))) (sh t) (t, .inr (3, [.ref q])) from rfl] at hP
      have d1 : hm_up (hm_up h q (116 + t, aInt (cA 0) 1024 (fun _ => 0))) (sh t) (t, .inr (3, [.ref q])) (sh t2) = some (t2, .inr (3, [.ref b2])) := by rw [hm_up_n (hm_ne d1 a1 (Ne.symm hne)), hm_up_n (hm_nn d1 hq)]; exact d1
      have d2 : hm_up (hm_up h q (116 + t, aInt (cA 0) 1024 (fun _ => 0))) (sh t) (t, .inr (3, [.ref q])) b2 = some (116 + t2, aInt (cA 0) 1024 g2) := by rw [hm_up_n (hm_ne d2 a1 (by omega)), hm_up_n (hm_nn d2 hq)]; exact d2
      have a1 : hm_up (hm_up h q (116 + t, aInt (cA 0) 1024 (fun _ => 0))) (sh t) (t, .inr (3, [.ref q])) (sh t) = some (t, .inr (3, [.ref q])) := hm_up_s
      have a9 : hm_up (hm_up h q (116 + t, aInt (cA 0) 1024 (fun _ => 0))) (sh t) (t, .inr (3, [.ref q])) q = some (116 + t, aInt (cA 0) 1024 (fun _ => 0)) := by rw [hm_up_n (Ne.symm n1), hm_up_s]
      have a3 : ∀ k, k < 1024 → (fun _ : Nat => (0 : Int32)) k = P t k := fun k hk => (a2 k hk).symm
      have a4 : bfit (fun _ => 0) 1024 := fun k _ => rfl
      have a2 := a9
      generalize hm_up (hm_up h q (116 + t, aInt (cA 0) 1024 (fun _ => 0))) (sh t) (t, .inr (3, [.ref q])) = h at hP hJ a1 a2 d1 d2
      generalize (fun _ : Nat => (0 : Int32)) = g0 at a2 a3 a4
      generalize q = b at a1 a2
      refine lv_aload_n hx hb d_P_copyFrom_28 rfl (lv_at hl 1 rfl) ?_
      refine va_get (D := D) (ci := 3) (v := .ref b2) (C := "BlockVault$Page") (T := T_P) (N := 1) hx hb hT in_P hown hK (hP.one d1) 0 rfl rfl 0 (by decide) (hT _ k38) (fun _ h9 => h9) rfl d_P_copyFrom_29 ?_
      refine lv_iconst (v := 0) hx hb d_P_copyFrom_32 (by decide) ?_
      refine lv_aload_n hx hb d_P_copyFrom_33 rfl (lv_at hl 0 rfl) ?_
      refine va_get (D := D) (ci := 3) (v := .ref b) (C := "BlockVault$Page") (T := T_P) (N := 1) hx hb hT in_P hown hK (hP.one a1) 0 rfl rfl 0 (by decide) (hT _ k38) (fun _ h9 => h9) rfl d_P_copyFrom_34 ?_
      refine lv_iconst (v := 0) hx hb d_P_copyFrom_37 (by decide) ?_
      refine lv_sipush (v := 1024) hx hb d_P_copyFrom_38 (by decide) ?_
      refine hm_copyb hx hb (by rw [hml]; exact hl.1.symm) hown (hT _ k196) (hT _ k198) (hT _ k197) (hT _ k10) (hK.2 0 (cA 0, .byte) rfl).1 hP hS d2 a2 (by decide) (by decide) (by decide) (by rw [c0_0, c1024]; omega) (by rw [c0_0, c1024]; omega) (fun i hi => by rw [c1024] at hi; rw [c0_0, Nat.zero_add]; exact d4 i hi) (Nat.le_of_ble_eq_true rfl) (Nat.le_of_ble_eq_true rfl) d_P_copyFrom_41 (fun H locs hP hS => ?_)
      rw [c0_0, c1024] at hP
      have hW : JW D B cA sh V (p1 P t (P t2)) H := ⟨_, hP, hJ.bytes ht a1 a2 (fun k hk => by rw [sb_cpy0 hk]; exact d3 k hk) (fun k hk => by rw [sb_cpy0 hk]; exact d4 k hk)⟩
      refine W.widen (k := 1) (n := 1024) (by omega) (by omega) ?_
      exact W.vret hx hb hr (fun t9 ht9 hwz => ⟨⟨(V, (p1 P t (P t2))), rfl, rfl, by rw [ht9]; exact hW, va_K.moved hwz.alike hK, hN.warm hwz⟩, hS.F ht9⟩) hS.2.2 d_P_copyFrom_44
    · refine lv_aload_n hx hb d_P_copyFrom_0 rfl (lv_at hl 1 rfl) ?_
      refine va_get (D := D) (ci := 3) (v := .ref b2) (C := "BlockVault$Page") (T := T_P) (N := 1) hx hb hT in_P hown hK (hP.one d1) 0 rfl rfl 0 (by decide) (hT _ k38) (fun _ h9 => h9) rfl d_P_copyFrom_1 ?_
      refine lv_ifnonnull (tgt := 12) hx hb d_P_copyFrom_4 (by decide) ?_
      refine lv_aload_n hx hb d_P_copyFrom_12 rfl (lv_at hl 0 rfl) ?_
      refine va_get (D := D) (ci := 3) (v := .ref b) (C := "BlockVault$Page") (T := T_P) (N := 1) hx hb hT in_P hown hK (hP.one a1) 0 rfl rfl 0 (by decide) (hT _ k38) (fun _ h9 => h9) rfl d_P_copyFrom_13 ?_
      refine lv_ifnonnull (tgt := 28) hx hb d_P_copyFrom_16 (by decide) ?_
      refine lv_aload_n hx hb d_P_copyFrom_28 rfl (lv_at hl 1 rfl) ?_
      refine va_get (D := D) (ci := 3) (v := .ref b2) (C := "BlockVault$Page") (T := T_P) (N := 1) hx hb hT in_P hown hK (hP.one d1) 0 rfl rfl 0 (by decide) (hT _ k38) (fun _ h9 => h9) rfl d_P_copyFrom_29 ?_
      refine lv_iconst (v := 0) hx hb d_P_copyFrom_32 (by decide) ?_
      refine lv_aload_n hx hb d_P_copyFrom_33 rfl (lv_at hl 0 rfl) ?_
      refine va_get (D := D) (ci := 3) (v := .ref b) (C := "BlockVault$Page") (T := T_P) (N := 1) hx hb hT in_P hown hK (hP.one a1) 0 rfl rfl 0 (by decide) (hT _ k38) (fun _ h9 => h9) rfl d_P_copyFrom_34 ?_
      refine lv_iconst (v := 0) hx hb d_P_copyFrom_37 (by decide) ?_
      refine lv_sipush (v := 1024) hx hb d_P_copyFrom_38 (by decide) ?_
      refine hm_copyb hx hb (by rw [hml]; exact hl.1.symm) hown (hT _ k196) (hT _ k198) (hT _ k197) (hT _ k10) (hK.2 0 (cA 0, .byte) rfl).1 hP hS d2 a2 (by decide) (by decide) (by decide) (by rw [c0_0, c1024]; omega) (by rw [c0_0, c1024]; omega) (fun i hi => by rw [c1024] at hi; rw [c0_0, Nat.zero_add]; exact d4 i hi) (Nat.le_of_ble_eq_true rfl) (Nat.le_of_ble_eq_true rfl) d_P_copyFrom_41 (fun H locs hP hS => ?_)
      rw [c0_0, c1024] at hP
      have hW : JW D B cA sh V (p1 P t (P t2)) H := ⟨_, hP, hJ.bytes ht a1 a2 (fun k hk => by rw [sb_cpy0 hk]; exact d3 k hk) (fun k hk => by rw [sb_cpy0 hk]; exact d4 k hk)⟩
      refine W.widen (k := 1) (n := 1024) (by omega) (by omega) ?_
      exact W.vret hx hb hr (fun t9 ht9 hwz => ⟨⟨(V, (p1 P t (P t2))), rfl, rfl, by rw [ht9]; exact hW, va_K.moved hwz.alike hK, hN.warm hwz⟩, hS.F ht9⟩) hS.2.2 d_P_copyFrom_44

set_option maxHeartbeats 4000000 in
set_option maxRecDepth 100000 in
theorem lp_putRun {p : Program} {l : Launch} {e : Env} {R : Room} {s : State} {m : MethodId} {args : Array Value} {below : List Frame} {meth : Method} {c : Code} {cells slots : Nat} {Q : State → Prop} {D : va_G} {B : Nat} {cA : Nat → ClassId} {sh : Nat → Nat} {H0 : Heap} {h : hm_T} {t b kk nn : Nat} {v : Int32} {G : Nat → Int32} {e0 : va_E} (hx : p.tables.exec = Jvm.exec) (hb : c.code = c_P_putRun) (hT : ∀ w ∈ WG, w.before args s = true) (hown : s.vm.findClass "BlockVault$Page" = some m.cls) (hK : va_K D vwCl (tysA cA) s) (a1 : h (sh t) = some (t, .inr (3, [.ref b]))) (a2 : h b = some (116 + t, e0)) (hkn : kk + nn ≤ 1024)
    (fin : ∀ (g0 : Nat → Int32) (H : Heap) (locs : List Loc) (ls : Array Slot), (∀ j, j < 1024 → g0 j = mRun G kk v nn j) → bfit g0 1024 → hm_P D vwCl B (hm_up h b (116 + t, aInt (cA 0) 1024 g0)) H → va_S (hm_A B) H0 H locs → W p l e R s m args below meth c H locs cells slots Q (F0 m 54 ls [])) :
    ∀ (n i : Nat) (g0 : Nat → Int32) (H : Heap) (locs : List Loc) (ls : Array Slot), i + n = nn → (∀ j, j < 1024 → g0 j = mRun G kk v i j) → bfit g0 1024 → hm_P D vwCl B (hm_up h b (116 + t, aInt (cA 0) 1024 g0)) H → va_S (hm_A B) H0 H locs → lv_has ls 5 [(4, .int (nI i)), (0, .ref (sh t)), (1, .int (nI kk)), (2, .int (nI nn)), (3, .int v)] → W p l e R s m args below meth c H locs cells slots Q (F0 m 28 ls []) := by
  have n1 : sh t ≠ b := hm_ne a1 a2 (by omega)
  intro n
  induction n with
  | zero =>
    intro i g0 H locs ls hin hg hf hP hS hl
    obtain rfl : i = nn := by omega
    refine lv_iload hx hb d_P_putRun_28 (lv_at hl 0 rfl) ?_
    refine lv_iload_n hx hb d_P_putRun_30 rfl (lv_at hl 3 rfl) ?_
    refine lv_icmp_ge (tgt := 54) hx hb d_P_putRun_31 (by decide) (fun c1 => ?_) (fun c1 => ?_)
    · exact fin g0 H locs ls hg hf hP hS
    · exact absurd (Int32.le_refl _) c1
  | succ n ih =>
    intro i g0 H locs ls hin hg hf hP hS hl
    refine lv_iload hx hb d_P_putRun_28 (lv_at hl 0 rfl) ?_
    refine lv_iload_n hx hb d_P_putRun_30 rfl (lv_at hl 3 rfl) ?_
    refine lv_icmp_ge (tgt := 54) hx hb d_P_putRun_31 (by decide) (fun c1 => ?_) (fun c1 => ?_)
    · exact absurd c1 (nI_ge (by omega) (by omega))
    · refine lv_aload_n hx hb d_P_putRun_34 rfl (lv_at hl 1 rfl) ?_
      refine va_get (D := D) (ci := 3) (v := .ref b) (C := "BlockVault$Page") (T := T_P) (N := 1) hx hb hT in_P hown hK (hP.one (show hm_up h b (116 + t, aInt (cA 0) 1024 g0) (sh t) = some (t, .inr (3, [.ref b])) by rw [hm_up_n n1]; exact a1)) 0 rfl rfl 0 (by decide) (hT _ k38) (fun _ h9 => h9) rfl d_P_putRun_35 ?_
      refine lv_iload_n hx hb d_P_putRun_38 rfl (lv_at hl 2 rfl) ?_
      refine lv_iload hx hb d_P_putRun_39 (lv_at hl 0 rfl) ?_
      refine lv_iadd hx hb d_P_putRun_41 ?_
      refine lv_iload_n hx hb d_P_putRun_42 rfl (lv_at hl 4 rfl) ?_
      refine lv_iload hx hb d_P_putRun_43 (lv_at hl 0 rfl) ?_
      refine lv_iadd hx hb d_P_putRun_45 ?_
      refine lv_i2b (v := (v + nI i).toInt8.toInt32) hx hb d_P_putRun_46 rfl ?_
      rw [nI_add]
      refine hm_bast hx hb (hK.2 0 (cA 0, .byte) rfl).1 hP hm_up_s hS (vp_in_nI (show kk + i < 1024 by omega) (by omega)) d_P_putRun_47 (fun H locs hP hS => ?_)
      rw [hm_up_up, nI_clamp (by omega), bb_8] at hP
      refine lv_iinc (v := (nI i + 1)) (lv' := [(4, .int (nI i + 1)), (0, .ref (sh t)), (1, .int (nI kk)), (2, .int (nI nn)), (3, .int v)]) hx hb d_P_putRun_48 hl (k := 0) rfl rfl (by decide) rfl (fun ls hl => ?_)
      refine lv_goto (tgt := 28) hx hb d_P_putRun_51 (by decide) ?_
      exact ih (i + 1) _ H locs ls (by omega) (mRun_s hg) (fun k hk => by
        by_cases e : k = kk + i
        · rw [e, pk_us]
          exact pk_fb _
        · rw [pk_un e]
          exact hf k hk) hP hS (by rw [← nI_1]; exact lv_sub hl [0, 1, 2, 3, 4] rfl)

set_option maxHeartbeats 4000000 in
set_option maxRecDepth 100000 in
theorem m_P_putRun (l : Launch) (D : va_G) (B : Nat) (cA : Nat → ClassId) (sh : Nat → Nat) (V P : VV) (t : Nat) (ht : t < 116) (k n v : Int32) : Met l y_P_putRun w_P_putRun ({ frames := 1, cells := 1, slots := 1024, locals := 30 } : Room) (va_Pc [.ref (sh t), .int k, .int n, .int v] (JC D B cA sh (V, P))) (va_Qv (fun (u : VV × VV) => u = (V, p1 P t (mPut (P t) k n v))) (JC D B cA sh) (hm_A B)) 1 1024 (hm_A B) := by
  refine Met.ofW (cc := c_P_putRun) (maxL := 5) (ret := none) (by decide) rfl ?_
  intro p e s m args below meth c s₁ Bd hml hv
  obtain ⟨rfl, hW, hK, hN⟩ := hv
  have hx := Bd.exec
  have hb := Bd.bytes
  have hr := Bd.returns
  have hts := atoms_spec (ws := w_P_putRun) Bd.pre
  have hT : ∀ w ∈ WG, w.before ([.ref (sh t), .int k, .int n, .int v] : List Value).toArray s = true := fun w h => hts w (List.mem_cons_of_mem _ h)
  have hown : s.vm.findClass "BlockVault$Page" = some m.cls := findClass_of_methodNamed Bd.named
  have hlocks := Bd.notSynchronized
  have hW : JW D B cA sh V P s.heap := hW
  have hBs : B ≤ s.heap.size := hW.ge
  have hS : va_S (hm_A B) s.heap s.heap [] := va_S.rf
  have hl := lv_entry ([.ref (sh t), .int k, .int n, .int v]) (n := 5) (Nat.le_of_ble_eq_true rfl)
  rw [lg_entry_eq]
  generalize (lg_sl ([.ref (sh t), .int k, .int n, .int v]) ++ List.replicate (5 - (lg_sl ([.ref (sh t), .int k, .int n, .int v])).length) Slot.unset).toArray = ls at hl ⊢
  have hl : lv_has ls 5 [(0, .ref (sh t)), (1, .int k), (2, .int n), (3, .int v)] := hl
  refine lv_iload_n hx hb d_P_putRun_0 rfl (lv_at hl 1 rfl) ?_
  refine lv_iload_n hx hb d_P_putRun_1 rfl (lv_at hl 2 rfl) ?_
  refine jw_calli (va_runSN (As := [.int k, .int n]) (rest := []) ⟨hx, hb, hml, hown, hT⟩ (m_V_isRun l D B cA sh V P k n) ⟨va_cnB 2 hT (gI kc_V_isRun) rfl rfl rfl (nm3 hN) (hT _ k1) (by decide +kernel) ⟨Nat.le_of_ble_eq_true rfl, Nat.le_of_ble_eq_true rfl⟩, hT _ k179, trivial⟩ (jw_preS hW hK hN) rfl rfl hl.1 rfl (lv_room (Nat.le_of_ble_eq_true rfl)) d_P_putRun_2 ⟨Nat.le_of_ble_eq_true rfl, Nat.le_of_ble_eq_true rfl⟩) hS (fun r1 V2 P3 H locs hw4 hW hS => ?_)
  obtain ⟨hr5, rfl, rfl⟩ := t3 hw4
  refine lv_if_ne (tgt := 9) hx hb d_P_putRun_5 (by decide) (fun c6 => ?_) (fun c6 => ?_)
  · have hrun : mIsRun k n := Decidable.byContradiction fun q => by rw [if_neg q] at hr5; exact c6 hr5.symm
    obtain ⟨kk, nn, rfl, rfl, hn1, hkn⟩ := mIsRun_n hrun
    have hput : mRun (P t) kk v nn = mPut (P t) (nI kk) (nI nn) v := by unfold mPut; rw [if_pos hrun, nI_clamp (by omega), nI_clamp (by omega)]
    obtain ⟨h, hP, hJ⟩ := id hW
    rcases hJ.2.2.2.1 t ht with ⟨a1, a2, a3⟩ | ⟨b, g0, a1, a2, a3, a4⟩
    · refine lv_aload_n hx hb d_P_putRun_9 rfl (lv_at hl 0 rfl) ?_
      refine va_get (D := D) (ci := 3) (v := .null) (C := "BlockVault$Page") (T := T_P) (N := 1) hx hb hT in_P hown hK (hP.one a1) 0 rfl rfl 0 (by decide) (hT _ k38) (fun _ h9 => h9) rfl d_P_putRun_10 ?_
      refine lv_ifnonnullN hx hb d_P_putRun_13 ?_
      refine lv_aload_n hx hb d_P_putRun_16 rfl (lv_at hl 0 rfl) ?_
      refine lv_sipush (v := 1024) hx hb d_P_putRun_17 (by decide) ?_
      refine hm_newb hx hb (hT _ k224) hK hP hS (N' := 1024) (by decide) (by decide) (by omega) (116 + t) (by omega) (by unfold hm_mx; rw [if_neg (by omega), if_pos (by omega)]; omega) a3 (Nat.le_of_ble_eq_true rfl) (Nat.le_of_ble_eq_true rfl) d_P_putRun_20 (fun q H hq hP hS => ?_)
      have n1 : sh t ≠ q := hm_nn a1 hq
      refine hm_put (ci := 3) (v := .ref q) (ty := .array .byte) (C := "BlockVault$Page") (T := T_P) (N := 1) hx hb hT in_P t_P t_P_ok n_P hown hK hP hS (by rw [hm_up_n n1]; exact a1) rfl 0 (by decide) (hT _ k38) (fun _ h9 => h9) rfl (by decide +kernel) rfl rfl (Nat.le_of_ble_eq_true rfl) d_P_putRun_22 (fun H locs hP hS => ?_)
      have hJ := hJ.made ht a1 a2 hq
      rw [show hm_up (hm_up h q (116 + t, aInt (cA 0) 1024 (fun _ => 0))) (sh t) (t, .inr (3, [Value.null].set 0 (.ref q))) = hm_up (hm_up h q (116 + t, aInt (cA 0) 1024 (fun _ => 0))) (sh t) (t, .inr (3, [.ref q])) from rfl] at hP
      have a1 : hm_up (hm_up h q (116 + t, aInt (cA 0) 1024 (fun _ => 0))) (sh t) (t, .inr (3, [.ref q])) (sh t) = some (t, .inr (3, [.ref q])) := hm_up_s
      have a9 : hm_up (hm_up h q (116 + t, aInt (cA 0) 1024 (fun _ => 0))) (sh t) (t, .inr (3, [.ref q])) q = some (116 + t, aInt (cA 0) 1024 (fun _ => 0)) := by rw [hm_up_n (Ne.symm n1), hm_up_s]
      have a3 : ∀ k, k < 1024 → (fun _ : Nat => (0 : Int32)) k = P t k := fun k hk => (a2 k hk).symm
      have a4 : bfit (fun _ => 0) 1024 := fun k _ => rfl
      have a2 := a9
      generalize hm_up (hm_up h q (116 + t, aInt (cA 0) 1024 (fun _ => 0))) (sh t) (t, .inr (3, [.ref q])) = h at hP hJ a1 a2
      generalize (fun _ : Nat => (0 : Int32)) = g0 at a2 a3 a4
      generalize q = b at a1 a2
      refine lv_iconst (v := 0) hx hb d_P_putRun_25 (by decide) ?_
      refine lv_istore (lv' := [(4, .int 0), (0, .ref (sh t)), (1, .int (nI kk)), (2, .int (nI nn)), (3, .int v)]) hx hb d_P_putRun_26 hl (by decide) rfl (fun ls hl => ?_)
      refine lp_putRun (G := P t) (nn := nn) hx hb hT hown hK a1 a2 hkn (fun g0 H locs ls hg hf hP hS => ?_) nn 0 g0 _ _ ls (by omega) (fun j hj => by rw [mRun_at, if_neg (by omega)]; exact a3 j hj) a4 (by rw [hm_up_id a2]; exact hP) hS (lv_sub hl [0, 1, 2, 3, 4] rfl)
      have hW : JW D B cA sh V (p1 P t (mPut (P t) (nI kk) (nI nn) v)) H := by rw [← hput]; exact ⟨_, hP, hJ.bytes ht a1 a2 hg hf⟩
      refine W.widen (k := 1) (n := 1024) (by omega) (by omega) ?_
      exact W.vret hx hb hr (fun t9 ht9 hwz => ⟨⟨(V, (p1 P t (mPut (P t) (nI kk) (nI nn) v))), rfl, rfl, by rw [ht9]; exact hW, va_K.moved hwz.alike hK, hN.warm hwz⟩, hS.F ht9⟩) hS.2.2 d_P_putRun_54
    · refine lv_aload_n hx hb d_P_putRun_9 rfl (lv_at hl 0 rfl) ?_
      refine va_get (D := D) (ci := 3) (v := .ref b) (C := "BlockVault$Page") (T := T_P) (N := 1) hx hb hT in_P hown hK (hP.one a1) 0 rfl rfl 0 (by decide) (hT _ k38) (fun _ h9 => h9) rfl d_P_putRun_10 ?_
      refine lv_ifnonnull (tgt := 25) hx hb d_P_putRun_13 (by decide) ?_
      refine lv_iconst (v := 0) hx hb d_P_putRun_25 (by decide) ?_
      refine lv_istore (lv' := [(4, .int 0), (0, .ref (sh t)), (1, .int (nI kk)), (2, .int (nI nn)), (3, .int v)]) hx hb d_P_putRun_26 hl (by decide) rfl (fun ls hl => ?_)
      refine lp_putRun (G := P t) (nn := nn) hx hb hT hown hK a1 a2 hkn (fun g0 H locs ls hg hf hP hS => ?_) nn 0 g0 _ _ ls (by omega) (fun j hj => by rw [mRun_at, if_neg (by omega)]; exact a3 j hj) a4 (by rw [hm_up_id a2]; exact hP) hS (lv_sub hl [0, 1, 2, 3, 4] rfl)
      have hW : JW D B cA sh V (p1 P t (mPut (P t) (nI kk) (nI nn) v)) H := by rw [← hput]; exact ⟨_, hP, hJ.bytes ht a1 a2 hg hf⟩
      refine W.widen (k := 1) (n := 1024) (by omega) (by omega) ?_
      exact W.vret hx hb hr (fun t9 ht9 hwz => ⟨⟨(V, (p1 P t (mPut (P t) (nI kk) (nI nn) v))), rfl, rfl, by rw [ht9]; exact hW, va_K.moved hwz.alike hK, hN.warm hwz⟩, hS.F ht9⟩) hS.2.2 d_P_putRun_54
  · have hnr : ¬ mIsRun k n := fun q => by rw [if_pos q] at hr5; rw [← hr5] at c6; exact absurd c6 (by decide)
    have hW : JW D B cA sh V (p1 P t (mPut (P t) k n v)) H := by rw [mPut_no hnr, p1_id]; exact hW
    refine W.widen (k := 1) (n := 1024) (by omega) (by omega) ?_
    exact W.vret hx hb hr (fun t9 ht9 hwz => ⟨⟨(V, (p1 P t (mPut (P t) k n v))), rfl, rfl, by rw [ht9]; exact hW, va_K.moved hwz.alike hK, hN.warm hwz⟩, hS.F ht9⟩) hS.2.2 d_P_putRun_8
