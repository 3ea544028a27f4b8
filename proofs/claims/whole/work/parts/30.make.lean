section HMV
variable {p : Program} {l : Launch} {e : Env} {R : Room} {s : State} {m : MethodId} {args : Array Value} {below : List Frame} {meth : Method} {c : Code} {H : Heap} {locs : List Loc} {cells slots : Nat} {Q : State → Prop}
variable {pc : Nat} {ls : Array Slot} {rest : List Value} {D : va_G} {B : Nat} {cA : Nat → ClassId} {H0 : Heap}
theorem hm_callv {post : hm_T → Prop} {st0 : List Value} {a : Array Value} {mc ms : Nat} (hr : va_Run p l e R s m args below meth c H locs cells slots mc ms (F0 m pc ls st0) rest (va_Qv post (HN D B cA) (hm_A B) a) (hm_A B)) (hS : va_S (hm_A B) H0 H locs)
    (kk : ∀ (u : hm_T) (H1 : Heap) (locs1 : List Loc), post u → hm_P D vwCl B u H1 → va_S (hm_A B) H0 H1 locs1 → W p l e R s m args below meth c H1 locs1 (cells + mc) (slots + ms) Q (F0 m (pc + 3) ls rest)) : W p l e R s m args below meth c H locs cells slots Q (F0 m pc ls st0) :=
  va_callv hr hS (fun _ _ h => h) (fun _ h => h) (fun u t H1 locs1 ht _ hw hB _ _ hS1 => kk u H1 locs1 hw (by rw [← ht]; exact hB.1) hS1)
end HMV
theorem fr_up {g : hm_T} {a t t' : Nat} {x : va_E} (h : ∀ (q : Nat) (e : va_E), g q ≠ some (t, e)) (hn : t' ≠ t) : ∀ (q : Nat) (e : va_E), hm_up g a (t', x) q ≠ some (t, e) := fun q e z => by
  by_cases c : q = a
  · subst c
    rw [hm_up_s] at z
    cases z
    exact hn rfl
  · rw [hm_up_n c] at z
    exact h q e z

set_option maxHeartbeats 4000000 in
set_option maxRecDepth 100000 in
theorem m_P_init (l : Launch) (D : va_G) (B : Nat) (cA : Nat → ClassId) (h : hm_T) (a : Nat) : Met l y_P_init w_P_init ({ frames := 1, cells := 0, slots := 0, locals := 20 } : Room) (va_Pc [.ref a] (HN D B cA h)) (va_Qv (fun (u : hm_T) => u = h) (HN D B cA) (hm_A B)) 0 0 (hm_A B) := by
  refine Met.ofW (cc := c_P_init) (maxL := 1) (ret := none) (by decide) rfl ?_
  intro p e s m args below meth c s₁ Bd hml hv
  obtain ⟨rfl, hP, hK, hN⟩ := hv
  have hx := Bd.exec
  have hb := Bd.bytes
  have hr := Bd.returns
  have hts := atoms_spec (ws := w_P_init) Bd.pre
  have hT : ∀ w ∈ WG, w.before ([.ref a] : List Value).toArray s = true := fun w h => hts w (List.mem_cons_of_mem _ h)
  have hown : s.vm.findClass "BlockVault$Page" = some m.cls := findClass_of_methodNamed Bd.named
  have hin : meth.name = "<init>" := (name_of_methodNamed Bd.named Bd.method).1
  have hBs : B ≤ s.heap.size := hP.1
  have hS : va_S (hm_A B) s.heap s.heap [] := va_S.rf
  have hag : hm_ag (fun t => False) h h := hm_ag.rf
  have hl := lv_entry ([.ref a]) (n := 1) (Nat.le_of_ble_eq_true rfl)
  rw [lg_entry_eq]
  generalize (lg_sl ([.ref a]) ++ List.replicate (1 - (lg_sl ([.ref a])).length) Slot.unset).toArray = ls at hl ⊢
  have hl : lv_has ls 1 [(0, .ref a)] := hl
  refine lv_aload_n hx hb d_P_init_0 rfl (lv_at hl 0 rfl) ?_
  refine W.objInit hx hb hown (hT _ k37) (hT _ k17) (hT _ k18) rfl (by rw [hml]; exact hl.1) rfl d_P_init_1 (Nat.le_of_ble_eq_true rfl) (Nat.le_of_ble_eq_true rfl) ?_
  refine W.widen (k := 0) (n := 0) (by omega) (by omega) ?_
  exact W.vret hx hb hr (fun t9 ht9 hwz => ⟨⟨h, rfl, rfl, by rw [ht9]; exact hP, va_K.moved hwz.alike hK, hN.warm hwz⟩, hS.F ht9⟩) hS.2.2 d_P_init_4

set_option maxHeartbeats 4000000 in
set_option maxRecDepth 100000 in
theorem m_R_init (l : Launch) (D : va_G) (B : Nat) (cA : Nat → ClassId) (h : hm_T) (i : Nat) (hi : i < 34) (a : Nat) (ha : h a = some (232 + i, .inr (4, [.null, .int 0, .int 0, .int 0, .int 0]))) (hf : ∀ (q : Nat) (e : va_E), h q ≠ some (80 + i, e)) : Met l y_R_init w_R_init ({ frames := 2, cells := 1, slots := 1, locals := 45 } : Room) (va_Pc [.ref a] (HN D B cA h)) (va_Qv (fun (u : hm_T) => rwM i h u a) (HN D B cA) (hm_A B)) 1 1 (hm_A B) := by
  refine Met.ofW (cc := c_R_init) (maxL := 1) (ret := none) (by decide) rfl ?_
  intro p e s m args below meth c s₁ Bd hml hv
  obtain ⟨rfl, hP, hK, hN⟩ := hv
  have hx := Bd.exec
  have hb := Bd.bytes
  have hr := Bd.returns
  have hts := atoms_spec (ws := w_R_init) Bd.pre
  have hT : ∀ w ∈ WG, w.before ([.ref a] : List Value).toArray s = true := fun w h => hts w (List.mem_cons_of_mem _ h)
  have hown : s.vm.findClass "BlockVault$Row" = some m.cls := findClass_of_methodNamed Bd.named
  have hin : meth.name = "<init>" := (name_of_methodNamed Bd.named Bd.method).1
  have hBs : B ≤ s.heap.size := hP.1
  have hS : va_S (hm_A B) s.heap s.heap [] := va_S.rf
  have hag : hm_ag (fun t => t = 232 + i ∨ t = 80 + i) h h := hm_ag.rf
  have hl := lv_entry ([.ref a]) (n := 1) (Nat.le_of_ble_eq_true rfl)
  rw [lg_entry_eq]
  generalize (lg_sl ([.ref a]) ++ List.replicate (1 - (lg_sl ([.ref a])).length) Slot.unset).toArray = ls at hl ⊢
  have hl : lv_has ls 1 [(0, .ref a)] := hl
  refine lv_aload_n hx hb d_R_init_0 rfl (lv_at hl 0 rfl) ?_
  refine W.objInit hx hb hown (hT _ k67) (hT _ k17) (hT _ k18) rfl (by rw [hml]; exact hl.1) rfl d_R_init_1 (Nat.le_of_ble_eq_true rfl) (Nat.le_of_ble_eq_true rfl) ?_
  refine lv_aload_n hx hb d_R_init_4 rfl (lv_at hl 0 rfl) ?_
  refine hm_new (ci := 3) (fs := [.null]) (C := "BlockVault$Page") (T := T_P) (N := 1) hx hb hT in_P t_P t_P_ok hown (hT _ k68) (hT _ k33) (hT _ k4) hK hP hS rfl (by decide +kernel) (80 + i) (by omega) (by unfold hm_mx; (repeat' split) <;> omega) hf (Nat.le_of_ble_eq_true rfl) (Nat.le_of_ble_eq_true rfl) d_R_init_5 (fun q1 H hq2 hP hS => ?_)
  have ha : (hm_up h q1 (80 + i, .inr (3, [.null]))) a = some (232 + i, .inr (4, [.null, .int 0, .int 0, .int 0, .int 0])) := by rw [hm_up_n (hm_nn ha hq2)]; exact ha
  have hag := hag.up (e := .inr (3, [.null])) (show 80 + i = 232 + i ∨ 80 + i = 80 + i by omega) (Or.inl hq2)
  have f3 : (hm_up h q1 (80 + i, .inr (3, [.null]))) q1 = some (80 + i, .inr (3, [.null])) := hm_up_s
  generalize hm_up h q1 (80 + i, .inr (3, [.null])) = g at hP hag ha f3
  refine lv_dup hx hb d_R_init_8 rfl ?_
  refine hm_callv (va_runIN (As := []) (rest := [.ref q1, .ref a]) ⟨hx, hb, hml, hown, hT⟩ (m_P_init l D B cA g q1) ⟨va_cnB 0 hT (gI kc_P_init) rfl rfl rfl (nm1 hN) (hT _ k4) (by decide +kernel) ⟨Nat.le_of_ble_eq_true rfl, Nat.le_of_ble_eq_true rfl⟩, rfl, hT _ k35⟩ (hn_pre hP hK hN) rfl rfl hl.1 rfl (lv_room (Nat.le_of_ble_eq_true rfl)) d_R_init_9 ⟨Nat.le_of_ble_eq_true rfl, Nat.le_of_ble_eq_true rfl⟩) hS (fun u H locs hu hP hS => ?_)
  rw [hu] at hP
  refine hm_putF (ci := 4) (v := .ref q1) (ty := .object "BlockVault$Page") (C := "BlockVault$Row") (T := T_R) (N := 5) hx hb hT in_R t_R t_R_ok n_R hown hK hP hS ha rfl 0 (by decide) (hT _ k70) (fun _ h9 => h9) rfl hin rfl (by decide +kernel) rfl rfl (Nat.le_of_ble_eq_true rfl) d_R_init_12 (fun H locs hP hS => ?_)
  have hP : hm_P D vwCl B (hm_up g a (232 + i, .inr (4, [.ref q1, .int 0, .int 0, .int 0, .int 0]))) H := hP
  have f3 : (hm_up g a (232 + i, .inr (4, [.ref q1, .int 0, .int 0, .int 0, .int 0]))) q1 = some (80 + i, .inr (3, [.null])) := by rw [hm_up_n (hm_ne f3 ha (by omega))]; exact f3
  have hag := hag.up (e := .inr (4, [.ref q1, .int 0, .int 0, .int 0, .int 0])) (show 232 + i = 232 + i ∨ 232 + i = 80 + i by omega) (Or.inr ⟨_, ha⟩)
  have ha : (hm_up g a (232 + i, .inr (4, [.ref q1, .int 0, .int 0, .int 0, .int 0]))) a = some (232 + i, .inr (4, [.ref q1, .int 0, .int 0, .int 0, .int 0])) := hm_up_s
  generalize hm_up g a (232 + i, .inr (4, [.ref q1, .int 0, .int 0, .int 0, .int 0])) = g at hP hag f3 ha
  refine lv_aload_n hx hb d_R_init_15 rfl (lv_at hl 0 rfl) ?_
  refine lv_iconst (v := (-1)) hx hb d_R_init_16 (by decide) ?_
  refine hm_put (ci := 4) (v := .int (-1)) (ty := .int) (C := "BlockVault$Row") (T := T_R) (N := 5) hx hb hT in_R t_R t_R_ok n_R hown hK hP hS ha rfl 1 (by decide) (hT _ k74) (fun _ h9 => h9) rfl (by decide +kernel) rfl rfl (Nat.le_of_ble_eq_true rfl) d_R_init_17 (fun H locs hP hS => ?_)
  have hP : hm_P D vwCl B (hm_up g a (232 + i, .inr (4, [.ref q1, .int (-1), .int 0, .int 0, .int 0]))) H := hP
  have f3 : (hm_up g a (232 + i, .inr (4, [.ref q1, .int (-1), .int 0, .int 0, .int 0]))) q1 = some (80 + i, .inr (3, [.null])) := by rw [hm_up_n (hm_ne f3 ha (by omega))]; exact f3
  have hag := hag.up (e := .inr (4, [.ref q1, .int (-1), .int 0, .int 0, .int 0])) (show 232 + i = 232 + i ∨ 232 + i = 80 + i by omega) (Or.inr ⟨_, ha⟩)
  have ha : (hm_up g a (232 + i, .inr (4, [.ref q1, .int (-1), .int 0, .int 0, .int 0]))) a = some (232 + i, .inr (4, [.ref q1, .int (-1), .int 0, .int 0, .int 0])) := hm_up_s
  generalize hm_up g a (232 + i, .inr (4, [.ref q1, .int (-1), .int 0, .int 0, .int 0])) = g at hP hag f3 ha
  refine lv_aload_n hx hb d_R_init_20 rfl (lv_at hl 0 rfl) ?_
  refine lv_iconst (v := 0) hx hb d_R_init_21 (by decide) ?_
  refine hm_put (ci := 4) (v := .int 0) (ty := .int) (C := "BlockVault$Row") (T := T_R) (N := 5) hx hb hT in_R t_R t_R_ok n_R hown hK hP hS ha rfl 2 (by decide) (hT _ k77) (fun _ h9 => h9) rfl (by decide +kernel) rfl rfl (Nat.le_of_ble_eq_true rfl) d_R_init_22 (fun H locs hP hS => ?_)
  have hP : hm_P D vwCl B (hm_up g a (232 + i, .inr (4, [.ref q1, .int (-1), .int 0, .int 0, .int 0]))) H := hP
  have f3 : (hm_up g a (232 + i, .inr (4, [.ref q1, .int (-1), .int 0, .int 0, .int 0]))) q1 = some (80 + i, .inr (3, [.null])) := by rw [hm_up_n (hm_ne f3 ha (by omega))]; exact f3
  have hag := hag.up (e := .inr (4, [.ref q1, .int (-1), .int 0, .int 0, .int 0])) (show 232 + i = 232 + i ∨ 232 + i = 80 + i by omega) (Or.inr ⟨_, ha⟩)
  have ha : (hm_up g a (232 + i, .inr (4, [.ref q1, .int (-1), .int 0, .int 0, .int 0]))) a = some (232 + i, .inr (4, [.ref q1, .int (-1), .int 0, .int 0, .int 0])) := hm_up_s
  generalize hm_up g a (232 + i, .inr (4, [.ref q1, .int (-1), .int 0, .int 0, .int 0])) = g at hP hag f3 ha
  refine lv_aload_n hx hb d_R_init_25 rfl (lv_at hl 0 rfl) ?_
  refine lv_iconst (v := 0) hx hb d_R_init_26 (by decide) ?_
  refine hm_put (ci := 4) (v := .int 0) (ty := .boolean) (C := "BlockVault$Row") (T := T_R) (N := 5) hx hb hT in_R t_R t_R_ok n_R hown hK hP hS ha rfl 3 (by decide) (hT _ k79) (fun _ h9 => h9) rfl (by decide +kernel) rfl rfl (Nat.le_of_ble_eq_true rfl) d_R_init_27 (fun H locs hP hS => ?_)
  have hP : hm_P D vwCl B (hm_up g a (232 + i, .inr (4, [.ref q1, .int (-1), .int 0, .int 0, .int 0]))) H := hP
  have f3 : (hm_up g a (232 + i, .inr (4, [.ref q1, .int (-1), .int 0, .int 0, .int 0]))) q1 = some (80 + i, .inr (3, [.null])) := by rw [hm_up_n (hm_ne f3 ha (by omega))]; exact f3
  have hag := hag.up (e := .inr (4, [.ref q1, .int (-1), .int 0, .int 0, .int 0])) (show 232 + i = 232 + i ∨ 232 + i = 80 + i by omega) (Or.inr ⟨_, ha⟩)
  have ha : (hm_up g a (232 + i, .inr (4, [.ref q1, .int (-1), .int 0, .int 0, .int 0]))) a = some (232 + i, .inr (4, [.ref q1, .int (-1), .int 0, .int 0, .int 0])) := hm_up_s
  generalize hm_up g a (232 + i, .inr (4, [.ref q1, .int (-1), .int 0, .int 0, .int 0])) = g at hP hag f3 ha
  refine lv_aload_n hx hb d_R_init_30 rfl (lv_at hl 0 rfl) ?_
  refine lv_iconst (v := 0) hx hb d_R_init_31 (by decide) ?_
  refine hm_put (ci := 4) (v := .int 0) (ty := .boolean) (C := "BlockVault$Row") (T := T_R) (N := 5) hx hb hT in_R t_R t_R_ok n_R hown hK hP hS ha rfl 4 (by decide) (hT _ k83) (fun _ h9 => h9) rfl (by decide +kernel) rfl rfl (Nat.le_of_ble_eq_true rfl) d_R_init_32 (fun H locs hP hS => ?_)
  have hP : hm_P D vwCl B (hm_up g a (232 + i, .inr (4, [.ref q1, .int (-1), .int 0, .int 0, .int 0]))) H := hP
  have f3 : (hm_up g a (232 + i, .inr (4, [.ref q1, .int (-1), .int 0, .int 0, .int 0]))) q1 = some (80 + i, .inr (3, [.null])) := by rw [hm_up_n (hm_ne f3 ha (by omega))]; exact f3
  have hag := hag.up (e := .inr (4, [.ref q1, .int (-1), .int 0, .int 0, .int 0])) (show 232 + i = 232 + i ∨ 232 + i = 80 + i by omega) (Or.inr ⟨_, ha⟩)
  have ha : (hm_up g a (232 + i, .inr (4, [.ref q1, .int (-1), .int 0, .int 0, .int 0]))) a = some (232 + i, .inr (4, [.ref q1, .int (-1), .int 0, .int 0, .int 0])) := hm_up_s
  generalize hm_up g a (232 + i, .inr (4, [.ref q1, .int (-1), .int 0, .int 0, .int 0])) = g at hP hag f3 ha
  refine W.widen (k := 1) (n := 1) (by omega) (by omega) ?_
  exact W.vret hx hb hr (fun t9 ht9 hwz => ⟨⟨g, rfl, ⟨_, ha, f3, hag⟩, by rw [ht9]; exact hP, va_K.moved hwz.alike hK, hN.warm hwz⟩, hS.F ht9⟩) hS.2.2 d_R_init_35

set_option maxHeartbeats 4000000 in
set_option maxRecDepth 100000 in
theorem m_L_init (l : Launch) (D : va_G) (B : Nat) (cA : Nat → ClassId) (h : hm_T) (a : Nat) (ha : h a = some (269, .inr (2, [.null, .null, .int 0]))) (hf : ∀ (q : Nat) (e : va_E), h q ≠ some (114, e)) (hf2 : ∀ (q : Nat) (e : va_E), h q ≠ some (115, e)) : Met l y_L_init w_L_init ({ frames := 2, cells := 2, slots := 2, locals := 45 } : Room) (va_Pc [.ref a] (HN D B cA h)) (va_Qv (fun (u : hm_T) => lgM u a ∧ hm_ag (fun t => t = 269 ∨ t = 114 ∨ t = 115) h u) (HN D B cA) (hm_A B)) 2 2 (hm_A B) := by
  refine Met.ofW (cc := c_L_init) (maxL := 1) (ret := none) (by decide) rfl ?_
  intro p e s m args below meth c s₁ Bd hml hv
  obtain ⟨rfl, hP, hK, hN⟩ := hv
  have hx := Bd.exec
  have hb := Bd.bytes
  have hr := Bd.returns
  have hts := atoms_spec (ws := w_L_init) Bd.pre
  have hT : ∀ w ∈ WG, w.before ([.ref a] : List Value).toArray s = true := fun w h => hts w (List.mem_cons_of_mem _ h)
  have hown : s.vm.findClass "BlockVault$Log" = some m.cls := findClass_of_methodNamed Bd.named
  have hin : meth.name = "<init>" := (name_of_methodNamed Bd.named Bd.method).1
  have hBs : B ≤ s.heap.size := hP.1
  have hS : va_S (hm_A B) s.heap s.heap [] := va_S.rf
  have hag : hm_ag (fun t => t = 269 ∨ t = 114 ∨ t = 115) h h := hm_ag.rf
  have hl := lv_entry ([.ref a]) (n := 1) (Nat.le_of_ble_eq_true rfl)
  rw [lg_entry_eq]
  generalize (lg_sl ([.ref a]) ++ List.replicate (1 - (lg_sl ([.ref a])).length) Slot.unset).toArray = ls at hl ⊢
  have hl : lv_has ls 1 [(0, .ref a)] := hl
  refine lv_aload_n hx hb d_L_init_0 rfl (lv_at hl 0 rfl) ?_
  refine W.objInit hx hb hown (hT _ k113) (hT _ k17) (hT _ k18) rfl (by rw [hml]; exact hl.1) rfl d_L_init_1 (Nat.le_of_ble_eq_true rfl) (Nat.le_of_ble_eq_true rfl) ?_
  refine lv_aload_n hx hb d_L_init_4 rfl (lv_at hl 0 rfl) ?_
  refine hm_new (ci := 3) (fs := [.null]) (C := "BlockVault$Page") (T := T_P) (N := 1) hx hb hT in_P t_P t_P_ok hown (hT _ k114) (hT _ k33) (hT _ k4) hK hP hS rfl (by decide +kernel) (114) (by omega) (by unfold hm_mx; (repeat' split) <;> omega) hf (Nat.le_of_ble_eq_true rfl) (Nat.le_of_ble_eq_true rfl) d_L_init_5 (fun q1 H hq2 hP hS => ?_)
  have ha : (hm_up h q1 (114, .inr (3, [.null]))) a = some (269, .inr (2, [.null, .null, .int 0])) := by rw [hm_up_n (hm_nn ha hq2)]; exact ha
  have hag := hag.up (e := .inr (3, [.null])) (show 114 = 269 ∨ 114 = 114 ∨ 114 = 115 by omega) (Or.inl hq2)
  have hf2 : ∀ (q : Nat) (e : va_E), (hm_up h q1 (114, .inr (3, [.null]))) q ≠ some (115, e) := fr_up hf2 (by omega)
  have f3 : (hm_up h q1 (114, .inr (3, [.null]))) q1 = some (114, .inr (3, [.null])) := hm_up_s
  generalize hm_up h q1 (114, .inr (3, [.null])) = g at hP hag ha hf2 f3
  refine lv_dup hx hb d_L_init_8 rfl ?_
  refine hm_callv (va_runIN (As := []) (rest := [.ref q1, .ref a]) ⟨hx, hb, hml, hown, hT⟩ (m_P_init l D B cA g q1) ⟨va_cnB 0 hT (gI kc_P_init) rfl rfl rfl (nm2 hN) (hT _ k4) (by decide +kernel) ⟨Nat.le_of_ble_eq_true rfl, Nat.le_of_ble_eq_true rfl⟩, rfl, hT _ k35⟩ (hn_pre hP hK hN) rfl rfl hl.1 rfl (lv_room (Nat.le_of_ble_eq_true rfl)) d_L_init_9 ⟨Nat.le_of_ble_eq_true rfl, Nat.le_of_ble_eq_true rfl⟩) hS (fun u H locs hu hP hS => ?_)
  rw [hu] at hP
  refine hm_putF (ci := 2) (v := .ref q1) (ty := .object "BlockVault$Page") (C := "BlockVault$Log") (T := T_L) (N := 3) hx hb hT in_L t_L t_L_ok n_L hown hK hP hS ha rfl 0 (by decide) (hT _ k116) (fun _ h9 => h9) rfl hin rfl (by decide +kernel) rfl rfl (Nat.le_of_ble_eq_true rfl) d_L_init_12 (fun H locs hP hS => ?_)
  have hP : hm_P D vwCl B (hm_up g a (269, .inr (2, [.ref q1, .null, .int 0]))) H := hP
  have f3 : (hm_up g a (269, .inr (2, [.ref q1, .null, .int 0]))) q1 = some (114, .inr (3, [.null])) := by rw [hm_up_n (hm_ne f3 ha (by omega))]; exact f3
  have hag := hag.up (e := .inr (2, [.ref q1, .null, .int 0])) (show 269 = 269 ∨ 269 = 114 ∨ 269 = 115 by omega) (Or.inr ⟨_, ha⟩)
  have hf2 : ∀ (q : Nat) (e : va_E), (hm_up g a (269, .inr (2, [.ref q1, .null, .int 0]))) q ≠ some (115, e) := fr_up hf2 (by omega)
  have ha : (hm_up g a (269, .inr (2, [.ref q1, .null, .int 0]))) a = some (269, .inr (2, [.ref q1, .null, .int 0])) := hm_up_s
  generalize hm_up g a (269, .inr (2, [.ref q1, .null, .int 0])) = g at hP hag f3 hf2 ha
  refine lv_aload_n hx hb d_L_init_15 rfl (lv_at hl 0 rfl) ?_
  refine hm_new (ci := 3) (fs := [.null]) (C := "BlockVault$Page") (T := T_P) (N := 1) hx hb hT in_P t_P t_P_ok hown (hT _ k114) (hT _ k33) (hT _ k4) hK hP hS rfl (by decide +kernel) (115) (by omega) (by unfold hm_mx; (repeat' split) <;> omega) hf2 (Nat.le_of_ble_eq_true rfl) (Nat.le_of_ble_eq_true rfl) d_L_init_16 (fun q4 H hq5 hP hS => ?_)
  have f3 : (hm_up g q4 (115, .inr (3, [.null]))) q1 = some (114, .inr (3, [.null])) := by rw [hm_up_n (hm_nn f3 hq5)]; exact f3
  have ha : (hm_up g q4 (115, .inr (3, [.null]))) a = some (269, .inr (2, [.ref q1, .null, .int 0])) := by rw [hm_up_n (hm_nn ha hq5)]; exact ha
  have hag := hag.up (e := .inr (3, [.null])) (show 115 = 269 ∨ 115 = 114 ∨ 115 = 115 by omega) (Or.inl hq5)
  have f6 : (hm_up g q4 (115, .inr (3, [.null]))) q4 = some (115, .inr (3, [.null])) := hm_up_s
  generalize hm_up g q4 (115, .inr (3, [.null])) = g at hP hag f3 ha f6
  refine lv_dup hx hb d_L_init_19 rfl ?_
  refine hm_callv (va_runIN (As := []) (rest := [.ref q4, .ref a]) ⟨hx, hb, hml, hown, hT⟩ (m_P_init l D B cA g q4) ⟨va_cnB 0 hT (gI kc_P_init) rfl rfl rfl (nm2 hN) (hT _ k4) (by decide +kernel) ⟨Nat.le_of_ble_eq_true rfl, Nat.le_of_ble_eq_true rfl⟩, rfl, hT _ k35⟩ (hn_pre hP hK hN) rfl rfl hl.1 rfl (lv_room (Nat.le_of_ble_eq_true rfl)) d_L_init_20 ⟨Nat.le_of_ble_eq_true rfl, Nat.le_of_ble_eq_true rfl⟩) hS (fun u H locs hu hP hS => ?_)
  rw [hu] at hP
  refine hm_putF (ci := 2) (v := .ref q4) (ty := .object "BlockVault$Page") (C := "BlockVault$Log") (T := T_L) (N := 3) hx hb hT in_L t_L t_L_ok n_L hown hK hP hS ha rfl 1 (by decide) (hT _ k117) (fun _ h9 => h9) rfl hin rfl (by decide +kernel) rfl rfl (Nat.le_of_ble_eq_true rfl) d_L_init_23 (fun H locs hP hS => ?_)
  have hP : hm_P D vwCl B (hm_up g a (269, .inr (2, [.ref q1, .ref q4, .int 0]))) H := hP
  have f3 : (hm_up g a (269, .inr (2, [.ref q1, .ref q4, .int 0]))) q1 = some (114, .inr (3, [.null])) := by rw [hm_up_n (hm_ne f3 ha (by omega))]; exact f3
  have f6 : (hm_up g a (269, .inr (2, [.ref q1, .ref q4, .int 0]))) q4 = some (115, .inr (3, [.null])) := by rw [hm_up_n (hm_ne f6 ha (by omega))]; exact f6
  have hag := hag.up (e := .inr (2, [.ref q1, .ref q4, .int 0])) (show 269 = 269 ∨ 269 = 114 ∨ 269 = 115 by omega) (Or.inr ⟨_, ha⟩)
  have ha : (hm_up g a (269, .inr (2, [.ref q1, .ref q4, .int 0]))) a = some (269, .inr (2, [.ref q1, .ref q4, .int 0])) := hm_up_s
  generalize hm_up g a (269, .inr (2, [.ref q1, .ref q4, .int 0])) = g at hP hag f3 f6 ha
  refine lv_aload_n hx hb d_L_init_26 rfl (lv_at hl 0 rfl) ?_
  refine lv_iconst (v := 0) hx hb d_L_init_27 (by decide) ?_
  refine hm_put (ci := 2) (v := .int 0) (ty := .int) (C := "BlockVault$Log") (T := T_L) (N := 3) hx hb hT in_L t_L t_L_ok n_L hown hK hP hS ha rfl 2 (by decide) (hT _ k118) (fun _ h9 => h9) rfl (by decide +kernel) rfl rfl (Nat.le_of_ble_eq_true rfl) d_L_init_28 (fun H locs hP hS => ?_)
  have hP : hm_P D vwCl B (hm_up g a (269, .inr (2, [.ref q1, .ref q4, .int 0]))) H := hP
  have f3 : (hm_up g a (269, .inr (2, [.ref q1, .ref q4, .int 0]))) q1 = some (114, .inr (3, [.null])) := by rw [hm_up_n (hm_ne f3 ha (by omega))]; exact f3
  have f6 : (hm_up g a (269, .inr (2, [.ref q1, .ref q4, .int 0]))) q4 = some (115, .inr (3, [.null])) := by rw [hm_up_n (hm_ne f6 ha (by omega))]; exact f6
  have hag := hag.up (e := .inr (2, [.ref q1, .ref q4, .int 0])) (show 269 = 269 ∨ 269 = 114 ∨ 269 = 115 by omega) (Or.inr ⟨_, ha⟩)
  have ha : (hm_up g a (269, .inr (2, [.ref q1, .ref q4, .int 0]))) a = some (269, .inr (2, [.ref q1, .ref q4, .int 0])) := hm_up_s
  generalize hm_up g a (269, .inr (2, [.ref q1, .ref q4, .int 0])) = g at hP hag f3 f6 ha
  refine W.widen (k := 2) (n := 2) (by omega) (by omega) ?_
  exact W.vret hx hb hr (fun t9 ht9 hwz => ⟨⟨g, rfl, ⟨⟨_, _, ha, f3, f6⟩, hag⟩, by rw [ht9]; exact hP, va_K.moved hwz.alike hK, hN.warm hwz⟩, hS.F ht9⟩) hS.2.2 d_L_init_31
