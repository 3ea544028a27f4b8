section HMV
variable {p : Program} {l : Launch} {e : Env} {R : Room} {s : State} {m : MethodId} {args : Array Value} {below : List Frame} {meth : Method} {c : Code} {H : Heap} {locs : List Loc} {cells slots : Nat} {Q : State → Prop}
variable {pc : Nat} {ls : Array Slot} {rest : List Value} {D : va_G} {B : Nat} {cA : Nat → ClassId} {H0 : Heap}
theorem hm_callv {post : hm_T → Prop} {st0 : List Value} {a : Array Value} {mc ms : Nat} (hr : va_Run p l e R s m args below meth c H locs cells slots mc ms (F0 m pc ls st0) rest (va_Qv post (HN D B cA) (hm_A B) a) (hm_A B)) (hS : va_S (hm_A B) H0 H locs)
    (kk : ∀ (u : hm_T) (H1 : Heap) (locs1 : List Loc), post u → hm_P D vwCl B u H1 → va_S (hm_A B) H0 H1 locs1 → W p l e R s m args below meth c H1 locs1 (cells + mc) (slots + ms) Q (F0 m (pc + 3) ls rest)) : W p l e R s m args below meth c H locs cells slots Q (F0 m pc ls st0) :=
  va_callv hr hS (fun _ _ h => h) (fun _ h => h) (fun u t H1 locs1 ht _ hw hB _ _ hS1 => kk u H1 locs1 hw (by rw [← ht]; exact hB.1) hS1)
end HMV
theorem fr_up {g : hm_T} {a t t' : Nat} {x : va_E} (h : ∀ (q : Nat) (e : va_E), g q ≠ some (t, e)) (hn : t' ≠ t) : ∀ (q : Nat) (e : va_E), hm_up g a (t', x) q ≠ some (t, e) := fun q e z => by
  by_cases c : q = a
  · subst c
    rw [hm_up_s] at z
    cases z
    exact hn rfl
  · rw [hm_up_n c] at z
    exact h q e z

set_option maxHeartbeats 4000000 in
set_option maxRecDepth 100000 in
theorem m_P_init (l : Launch) (D : va_G) (B : Nat) (cA : Nat → ClassId) (h : hm_T) (a : Nat) : Met l y_P_init w_P_init ({ frames := 1, cells := 0, slots := 0, locals := 20 } : Room) (va_Pc [.ref a] (HN D B cA h)) (va_Qv (fun (u : hm_T) => u = h) (HN D B cA) (hm_A B)) 0 0 (hm_A B) := by
  refine Met.ofW (cc := c_P_init) (maxL := 1) (ret := none) (by decide) rfl ?_
  intro p e s m args below meth c s₁ Bd hml hv
  obtain ⟨rfl, hP, hK, hN⟩ := hv
  have hx := Bd.exec
  have hb := Bd.bytes
  have hr := Bd.returns
  have hts := atoms_spec (ws := w_P_init) Bd.pre
  have hT : ∀ w ∈ WG, w.before ([.ref a] : List Value).toArray s = true := fun w h => hts w (List.mem_cons_of_mem _ h)
  have hown : s.vm.findClass "BlockVault$Page" = some m.cls := findClass_of_methodNamed Bd.named
  have hin : meth.name = "<init>" := (name_of_methodNamed Bd.named Bd.method).1
  have hBs : B ≤ s.heap.size := hP.1
  have hS : va_S (hm_A B) s.heap s.heap [] := va_S.rf
  have hag : hm_ag (fun t => False) h h := hm_ag.rf
  have hl := lv_entry ([.ref a]) (n := 1) (Nat.le_of_ble_eq_true rfl)
  rw [lg_entry_eq]
  generalize (lg_sl ([.ref a]) ++ List.replicate (1 - (lg_sl ([.ref a])).length) Slot.unset).toArray = ls at hl ⊢
  have hl : lv_has ls 1 [(0, .ref a)] := hl
  refine lv_aload_n hx hb d_P_init_0 rfl (lv_at hl 0 rfl) ?_
  refine W.objInit hx hb hown (hT _ k37) (hT _ k17) (hT _ k18) rfl (by rw [hml]; exact hl.1) rfl d_P_init_1 (Nat.le_of_ble_eq_true rfl) (Nat.le_of_ble_eq_true rfl) ?_
  refine W.widen (k := 0) (n := 0) (by omega) (by omega) ?_
  exact W.vret hx hb hr (fun t9 ht9 hwz => ⟨⟨h, rfl, rfl, by rw [ht9]; exact hP, va_K.moved hwz.alike hK, hN.warm hwz⟩, hS.F ht9⟩) hS.2.2 d_P_init_4

set_option maxHeartbeats 4000000 in
set_option maxRecDepth 100000 in
theorem m_R_init (l : Launch) (D : va_G) (B : Nat) (cA : Nat → ClassId) (h : hm_T) (i : Nat) (hi : i < 34) (a : Nat) (ha : h a = some (232 + i, .inr (4, [.null, .int 0, .int 0, .int 0, .int 0]))) (hf : ∀ (q : Nat) (e : va_E), h q ≠ some (80 + i, e)) : Met l y_R_init w_R_init ({ frames := 2, cells := 1, slots := 1, locals := 45 } : Room) (va_Pc [.ref a] (HN D B cA h)) (va_Qv (fun (u : hm_T) => rwM i h u a) (HN D B cA) (hm_A B)) 1 1 (hm_A B) := by
  refine Met.ofW (cc := c_R_init) (maxL := 1) (ret := none) (by decide) rfl ?_
  intro p e s m args below meth c s₁ Bd hml hv
  obtain ⟨rfl, hP, hK, hN⟩ := hv
  have hx := Bd.exec
  have hb := Bd.bytes
  have hr := Bd.returns
  have hts := atoms_spec (ws := w_R_init) Bd.pre
  have hT : ∀ w ∈ WG, w.before ([.ref a] : List Value).toArray s = true := fun w h => hts w (List.mem_cons_of_mem _ h)
  have hown : s.vm.findClass "BlockVault$Row" = some m.cls := findClass_of_methodNamed Bd.named
  have hin : meth.name = "<init>" := (name_of_methodNamed Bd.named Bd.method).1
  have hBs : B ≤ s.heap.size := hP.1
  have hS : va_S (hm_A B) s.heap s.heap [] := va_S.rf
  have hag : hm_ag (fun t => t = 232 + i ∨ t = 80 + i) h h := hm_ag.rf
  have hl := lv_entry ([.ref a]) (n := 1) (Nat.le_of_ble_eq_true rfl)
  rw [lg_entry_eq]
  generalize (lg_sl ([.ref a]) ++ List.replicate (1 - (lg_sl ([.ref a])).length) Slot.unset).toArray = ls at hl ⊢
  have hl : lv_has ls 1 [(0, .ref a)] := hl
  refine lv_aload_n hx hb d_R_init_0 rfl (lv_at hl 0 rfl) ?_
  refine W.objInit hx hb hown (hT _ k67) (hT _ k17) (hT _ k18) rfl (by rw [hml]; exact hl.1) rfl d_R_init_1 (Nat.le_of_ble_eq_true rfl) (Nat.le_of_ble_eq_true rfl) ?_
  refine lv_aload_n hx hb d_R_init_4 rfl (lv_at hl 0 rfl) ?_
  refine hm_new (ci := 3) (fs := [.null]) (C := "BlockVault$Page") (T := T_P) (N := 1) hx hb hT in_P t_P t_P_ok hown (hT _ k68) (hT _ k33) (hT _ k4) hK hP hS rfl (by decide +kernel) (80 + i) (by omega) (by unfold hm_mx; (repeat' split) <;> omega) hf (Nat.le_of_ble_eq_true rfl) (Nat.le_of_ble_eq_true rfl) d_R_init_5 (fun q1 H hq2 hP hS => ?_)
  have ha : (hm_up h q1 (80 + i, .inr (3, [.null]))) a = some (232 + i, .inr (4, [.null, .int 0, .int 0, .int 0, .int 0])) := by rw [hm_up_n (hm_nn ha hq2)]; exact ha
  have hag := hag.up (e := .inr (3, [.null])) (show 80 + i = 232 + i ∨ 80 + i = 80 + i by omega) (Or.inl hq2)
  have f3 : (hm_up h q1 (80 + i, .inr (3, [.null]))) q1 = some (80 + i, .inr (3, [.null])) := hm_up_s
  generalize hm_up h q1 (80 + i, .inr (3, [.null])) = g at hP hag ha f3
  refine lv_dup hx hb d_R_init_8 rfl ?_
  refine hm_callv (va_runIN (As := []) (rest := [.ref q1, .ref a]) ⟨hx, hb, hml, hown, hT⟩ (m_P_init l D B cA g q1) ⟨va_cnB 0 hT (gI kc_P_init) rfl rfl rfl (nm1 hN) (hT _ k4) (by decide +kernel) ⟨Nat.le_of_ble_eq_true rfl, Nat.le_of_ble_eq_true rfl⟩, rfl, hT _ k35⟩ (hn_pre hP hK hN) rfl rfl hl.1 rfl (lv_room (Nat.le_of_ble_eq_true rfl)) d_R_init_9 ⟨Nat.le_of_ble_eq_true rfl, Nat.le_of_ble_eq_true rfl⟩) hS (fun u H locs hu hP hS => ?_)
  rw [hu] at hP
  refine hm_putF (ci := 4) (v := .ref q1) (ty := .object "BlockVault$Page") (C := "BlockVault$Row") (T := T_R) (N := 5) hx hb hT in_R t_R t_R_ok n_R hown hK hP hS ha rfl 0 (by decide) (hT _ k70) (fun _ h9 => h9) rfl hin rfl (by decide +kernel) rfl rfl (Nat.le_of_ble_eq_true rfl) d_R_init_12 (fun H locs hP hS => ?_)
  have hP : hm_P D vwCl B (hm_up g a (232 + i, .inr (4, [.ref q1, .int 0, .int 0, .int 0, .int 0]))) H := hP
  have f3 : (hm_up g a (232 + i, .inr (4, [.ref q1, .int 0, .int 0, .int 0, .int 0]))) q1 = some (80 + i, .inr (3, [.null])) := by rw [hm_up_n (hm_ne f3 ha (by omega))]; exact f3
  have hag := hag.up (e := .inr (4, [.ref q1, .int 0, .int 0, .int 0, .int 0])) (show 232 + i = 232 + i ∨ 232 + i = 80 + i by omega) (Or.inr ⟨_, ha⟩)
  have ha : (hm_up g a (232 + i, .inr (4, [.ref q1, .int 0, .int 0, .int 0, .int 0]))) a = some (232 + i, .inr (4, [.ref q1, .int 0, .int 0, .int 0, .int 0])) := hm_up_s
  generalize hm_up g a (232 + i, .inr (4, [.ref q1, .int 0, .int 0, .int 0, .int 0])) = g at hP hag f3 ha
  refine lv_aload_n hx hb d_R_init_15 rfl (lv_at hl 0 rfl) ?_
  refine lv_iconst (v := (-1)) hx hb d_R_init_16 (by decide) ?_
  refine hm_put (ci := 4) (v := .int (-1)) (ty := .int) (C := "BlockVault$Row") (T := T_R) (N := 5) hx hb hT in_R t_R t_R_ok n_R hown hK hP hS ha rfl 1 (by decide) (hT _ k74) (fun _ h9 => h9) rfl (by decide +kernel) rfl rfl (Nat.le_of_ble_eq_true rfl) d_R_init_17 (fun H locs hP hS => ?_)
  have hP : hm_P D vwCl B (hm_up g a (232 + i, .inr (4, [.ref q1, .int (-1), .int 0, .int 0, .int 0]))) H := hP
  have f3 : (hm_up g a (232 + i, .inr (4, [.ref q1, .int (-1), .int 0, .int 0, .int 0]))) q1 = some (80 + i, .inr (3, [.null])) := by rw [hm_up_n (hm_ne f3 ha (by omega))]; exact f3
  have hag := hag.up (e := .inr (4, [.ref q1, .int (-1), .int 0, .int 0, .int 0])) (show 232 + i = 232 + i ∨ 232 + i = 80 + i by omega) (Or.inr ⟨_, ha⟩)
  have ha : (hm_up g a (232 + i, .inr (4, [.ref q1, .int (-1), .int 0, .int 0, .int 0]))) a = some (232 + i, .inr (4, [.ref q1, .int (-1), .int 0, .int 0, .int 0])) := hm_up_s
  generalize hm_up g a (232 + i, .inr (4, [.ref q1, .int (-1), .int 0, .int 0, .int 0])) = g at hP hag f3 ha
  refine lv_aload_n hx hb d_R_init_20 rfl (lv_at hl 0 rfl) ?_
  refine lv_iconst (v := 0) hx hb d_R_init_21 (by decide) ?_
  refine hm_put (ci := 4) (v := .int 0) (ty := .int) (C := "BlockVault$Row") (T := T_R) (N := 5) hx hb hT in_R t_R t_R_ok n_R hown hK hP hS ha rfl 2 (by decide) (hT _ k77) (fun _ h9 => h9) rfl (by decide +kernel) rfl rfl (Nat.le_of_ble_eq_true rfl) d_R_init_22 (fun H locs hP hS => ?_)
  have hP : hm_P D vwCl B (hm_up g a (232 + i, .inr (4, [.ref q1, .int (-1), .int 0, .int 0, .int 0]))) H := hP
  have f3 : (hm_up g a (232 + i, .inr (4, [.ref q1, .int (-1), .int 0, .int 0, .int 0]))) q1 = some (80 + i, .inr (3, [.null])) := by rw [hm_up_n (hm_ne f3 ha (by omega))]; exact f3
  have hag := hag.up (e := .inr (4, [.ref q1, .int (-1), .int 0, .int 0, .int 0])) (show 232 + i = 232 + i ∨ 232 + i = 80 + i by omega) (Or.inr ⟨_, ha⟩)
  have ha : (hm_up g a (232 + i, .inr (4, [.ref q1, .int (-1), .int 0, .int 0, .int 0]))) a = some (232 + i, .inr (4, [.ref q1, .int (-1), .int 0, .int 0, .int 0])) := hm_up_s
  generalize hm_up g a (232 + i, .inr (4, [.ref q1, .int (-1), .int 0, .int 0, .int 0])) = g at hP hag f3 ha
  refine lv_aload_n hx hb d_R_init_25 rfl (lv_at hl 0 rfl) ?_
  refine lv_iconst (v := 0) hx hb d_R_init_26 (by decide) ?_
  refine hm_put (ci := 4) (v := .int 0) (ty := .boolean) (C := "BlockVault$Row") (T := T_R) (N := 5) hx hb hT in_R t_R t_R_ok n_R hown hK hP hS ha rfl 3 (by decide) (hT _ k79) (fun _ h9 => h9) rfl (by decide +kernel) rfl rfl (Nat.le_of_ble_eq_true rfl) d_R_init_27 (fun H locs hP hS => ?_)
  have hP : hm_P D vwCl B (hm_up g a (232 + i, .inr (4, [.ref q1, .int (-1), .int 0, .int 0, .int 0]))) H := hP
  have f3 : (hm_up g a (232 + i, .inr (4, [.ref q1, .int (-1), .int 0, .int 0, .int 0]))) q1 = some (80 + i, .inr (3, [.null])) := by rw [hm_up_n (hm_ne f3 ha (by omega))]; exact f3
  have hag := hag.up (e := .inr (4, [.ref q1, .int (-1), .int 0, .int 0, .int 0])) (show 232 + i = 232 + i ∨ 232 + i = 80 + i by omega) (Or.inr ⟨_, ha⟩)
  have ha : (hm_up g a (232 + i, .inr (4, [.ref q1, .int (-1), .int 0, .int 0, .int 0]))) a = some (232 + i, .inr (4, [.ref q1, .int (-1), .int 0, .int 0, .int 0])) := hm_up_s
  generalize hm_up g a (232 + i, .inr (4, [.ref q1, .int (-1), .int 0, .int 0, .int 0])) = g at hP hag f3 ha
  refine lv_aload_n hx hb d_R_init_30 rfl (lv_at hl 0 rfl) ?_
  refine lv_iconst (v := 0) hx hb d_R_init_31 (by decide) ?_
  refine hm_put (ci := 4) (v := .int 0) (ty := .boolean) (C := "BlockVault$Row") (T := T_R) (N := 5) hx hb hT in_R t_R t_R_ok n_R hown hK hP hS ha rfl 4 (by decide) (hT _ k83) (fun _ h9 => h9) rfl (by decide +kernel) rfl rfl (Nat.le_of_ble_eq_true rfl) d_R_init_32 (fun H locs hP hS => ?_)
  have hP : hm_P D vwCl B (hm_up g a (232 + i, .inr (4, [.ref q1, .int (-1), .int 0, .int 0, .int 0]))) H := hP
  have f3 : (hm_up g a (232 + i, .inr (4, [.ref q1, .int (-1), .int 0, .int 0, .int 0]))) q1 = some (80 + i, .inr (3, [.null])) := by rw [hm_up_n (hm_ne f3 ha (by omega))]; exact f3
  have hag := hag.up (e := .inr (4, [.ref q1, .int (-1), .int 0, .int 0, .int 0])) (show 232 + i = 232 + i ∨ 232 + i = 80 + i by omega) (Or.inr ⟨_, ha⟩)
  have ha : (hm_up g a (232 + i, .inr (4, [.ref q1, .int (-1), .int 0, .int 0, .int 0]))) a = some (232 + i, .inr (4, [.ref q1, .int (-1), .int 0, .int 0, .int 0])) := hm_up_s
  generalize hm_up g a (232 + i, .inr (4, [.ref q1, .int (-1), .int 0, .int 0, .int 0])) = g at hP hag f3 ha
  refine W.widen (k := 1) (n := 1) (by omega) (by omega) ?_
  exact W.vret hx hb hr (fun t9 ht9 hwz => ⟨⟨g, rfl, ⟨_, ha, f3, hag⟩, by rw [ht9]; exact hP, va_K.moved hwz.alike hK, hN.warm hwz⟩, hS.F ht9⟩) hS.2.2 d_R_init_35

set_option maxHeartbeats 4000000 in
set_option maxRecDepth 100000 in
theorem m_L_init (l : Launch) (D : va_G) (B : Nat) (cA : Nat → ClassId) (h : hm_T) (a : Nat) (ha : h a = some (269, .inr (2, [.null, .null, .int 0]))) (hf : ∀ (q : Nat) (e : va_E), h q ≠ some (114, e)) (hf2 : ∀ (q : Nat) (e : va_E), h q ≠ some (115, e)) : Met l y_L_init w_L_init ({ frames := 2, cells := 2, slots := 2, locals := 45 } : Room) (va_Pc [.ref a] (HN D B cA h)) (va_Qv (fun (u : hm_T) => lgM u a ∧ hm_ag (fun t => t = 269 ∨ t = 114 ∨ t = 115) h u) (HN D B cA) (hm_A B)) 2 2 (hm_A B) := by
  refine Met.ofW (cc := c_L_init) (maxL := 1) (ret := none) (by decide) rfl ?_
  intro p e s m args below meth c s₁ Bd hml hv
  obtain ⟨rfl, hP, hK, hN⟩ := hv
  have hx := Bd.exec
  have hb := Bd.bytes
  have hr := Bd.returns
  have hts := atoms_spec (ws := w_L_init) Bd.pre
  have hT : ∀ w ∈ WG, w.before ([.ref a] : List Value).toArray s = true := fun w h => hts w (List.mem_cons_of_mem _ h)
  have hown : s.vm.findClass "BlockVault$Log" = some m.cls := findClass_of_methodNamed Bd.named
  have hin : meth.name = "<init>" := (name_of_methodNamed Bd.named Bd.method).1
  have hBs : B ≤ s.heap.size := hP.1
  have hS : va_S (hm_A B) s.heap s.heap [] := va_S.rf
  have hag : hm_ag (fun t => t = 269 ∨ t = 114 ∨ t = 115) h h := hm_ag.rf
  have hl := lv_entry ([.ref a]) (n := 1) (Nat.le_of_ble_eq_true rfl)
  rw [lg_entry_eq]
  generalize (lg_sl ([.ref a]) ++ List.replicate (1 - (lg_sl ([.ref a])).length) Slot.unset).toArray = ls at hl ⊢
  have hl : lv_has ls 1 [(0, .ref a)] := hl
  refine lv_aload_n hx hb d_L_init_0 rfl (lv_at hl 0 rfl) ?_
  refine W.objInit hx hb hown (hT _ k113) (hT _ k17) (hT _ k18) rfl (by rw [hml]; exact hl.1) rfl d_L_init_1 (Nat.le_of_ble_eq_true rfl) (Nat.le_of_ble_eq_true rfl) ?_
  refine lv_aload_n hx hb d_L_init_4 rfl (lv_at hl 0 rfl) ?_
  refine hm_new (ci := 3) (fs := [.null]) (C := "BlockVault$Page") (T := T_P) (N := 1) hx hb hT in_P t_P t_P_ok hown (hT _ k114) (hT _ k33) (hT _ k4) hK hP hS rfl (by decide +kernel) (114) (by omega) (by unfold hm_mx; (repeat' split) <;> omega) hf (Nat.le_of_ble_eq_true rfl) (Nat.le_of_ble_eq_true rfl) d_L_init_5 (fun q1 H hq2 hP hS => ?_)
  have ha : (hm_up h q1 (114, .inr (3, [.null]))) a = some (269, .inr (2, [.null, .null, .int 0])) := by rw [hm_up_n (hm_nn ha hq2)]; exact ha
  have hag := hag.up (e := .inr (3, [.null])) (show 114 = 269 ∨ 114 = 114 ∨ 114 = 115 by omega) (Or.inl hq2)
  have hf2 : ∀ (q : Nat) (e : va_E), (hm_up h q1 (114, .inr (3, [.null]))) q ≠ some (115, e) := fr_up hf2 (by omega)
  have f3 : (hm_up h q1 (114, .inr (3, [.null]))) q1 = some (114, .inr (3, [.null])) := hm_up_s
  generalize hm_up h q1 (114, .inr (3, [.null])) = g at hP hag ha hf2 f3
  refine lv_dup hx hb d_L_init_8 rfl ?_
  refine hm_callv (va_runIN (As := []) (rest := [.ref q1, .ref a]) ⟨hx, hb, hml, hown, hT⟩ (m_P_init l D B cA g q1) ⟨va_cnB 0 hT (gI kc_P_init) rfl rfl rfl (nm2 hN) (hT _ k4) (by decide +kernel) ⟨Nat.le_of_ble_eq_true rfl, Nat.le_of_ble_eq_true rfl⟩, rfl, hT _ k35⟩ (hn_pre hP hK hN) rfl rfl hl.1 rfl (lv_room (Nat.le_of_ble_eq_true rfl)) d_L_init_9 ⟨Nat.le_of_ble_eq_true rfl, Nat.le_of_ble_eq_true rfl⟩) hS (fun u H locs hu hP hS => ?_)
  rw [hu] at hP
  refine hm_putF (ci := 2) (v := .ref q1) (ty := .object "BlockVault$Page") (C := "BlockVault$Log") (T := T_L) (N := 3) hx hb hT in_L t_L t_L_ok n_L hown hK hP hS ha rfl 0 (by decide) (hT _ k116) (fun _ h9 => h9) rfl hin rfl (by decide +kernel) rfl rfl (Nat.le_of_ble_eq_true rfl) d_L_init_12 (fun H locs hP hS => ?_)
  have hP : hm_P D vwCl B (hm_up g a (269, .inr (2, [.ref q1, .null, .int 0]))) H := hP
  have f3 : (hm_up g a (269, .inr (2, [.ref q1, .null, .int 0]))) q1 = some (114, .inr (3, [.null])) := by rw [hm_up_n (hm_ne f3 ha (by omega))]; exact f3
  have hag := hag.up (e := .inr (2, [.ref q1, .null, .int 0])) (show 269 = 269 ∨ 269 = 114 ∨ 269 = 115 by omega) (Or.inr ⟨_, ha⟩)
  have hf2 : ∀ (q : Nat) (e : va_E), (hm_up g a (269, .inr (2, [.ref q1, .null, .int 0]))) q ≠ some (115, e) := fr_up hf2 (by omega)
  have ha : (hm_up g a (269, .inr (2, [.ref q1, .null, .int 0]))) a = some (269, .inr (2, [.ref q1, .null, .int 0])) := hm_up_s
  generalize hm_up g a (269, .inr (2, [.ref q1, .null, .int 0])) = g at hP hag f3 hf2 ha
  refine lv_aload_n hx hb d_L_init_15 rfl (lv_at hl 0 rfl) ?_
  refine hm_new (ci := 3) (fs := [.null]) (C := "BlockVault$Page") (T := T_P) (N := 1) hx hb hT in_P t_P t_P_ok hown (hT _ k114) (hT _ k33) (hT _ k4) hK hP hS rfl (by decide +kernel) (115) (by omega) (by unfold hm_mx; (repeat' split) <;> omega) hf2 (Nat.le_of_ble_eq_true rfl) (Nat.le_of_ble_eq_true rfl) d_L_init_16 (fun q4 H hq5 hP hS => ?_)
  have f3 : (hm_up g q4 (115, .inr (3, [.null]))) q1 = some (114, .inr (3, [.null])) := by rw [hm_up_n (hm_nn f3 hq5)]; exact f3
  have ha : (hm_up g q4 (115, .inr (3, [.null]))) a = some (269, .inr (2, [.ref q1, .null, .int 0])) := by rw [hm_up_n (hm_nn ha hq5)]; exact ha
  have hag := hag.up (e := .inr (3, [.null])) (show 115 = 269 ∨ 115 = 114 ∨ 115 = 115 by omega) (Or.inl hq5)
  have f6 : (hm_up g q4 (115, .inr (3, [.null]))) q4 = some (115, .inr (3, [.null])) := hm_up_s
  generalize hm_up g q4 (115, .inr (3, [.null])) = g at hP hag f3 ha f6
  refine lv_dup hx hb d_L_init_19 rfl ?_
  refine hm_callv (va_runIN (As := []) (rest := [.ref q4, .ref a]) ⟨hx, hb, hml, hown, hT⟩ (m_P_init l D B cA g q4) ⟨va_cnB 0 hT (gI kc_P_init) rfl rfl rfl (nm2 hN) (hT _ k4) (by decide +kernel) ⟨Nat.le_of_ble_eq_true rfl, Nat.le_of_ble_eq_true rfl⟩, rfl, hT _ k35⟩ (hn_pre hP hK hN) rfl rfl hl.1 rfl (lv_room (Nat.le_of_ble_eq_true rfl)) d_L_init_20 ⟨Nat.le_of_ble_eq_true rfl, Nat.le_of_ble_eq_true rfl⟩) hS (fun u H locs hu hP hS => ?_)
  rw [hu] at hP
  refine hm_putF (ci := 2) (v := .ref q4) (ty := .object "BlockVault$Page") (C := "BlockVault$Log") (T := T_L) (N := 3) hx hb hT in_L t_L t_L_ok n_L hown hK hP hS ha rfl 1 (by decide) (hT _ k117) (fun _ h9 => h9) rfl hin rfl (by decide +kernel) rfl rfl (Nat.le_of_ble_eq_true rfl) d_L_init_23 (fun H locs hP hS => ?_)
  have hP : hm_P D vwCl B (hm_up g a (269, .inr (2, [.ref q1, .ref q4, .int 0]))) H := hP
  have f3 : (hm_up g a (269, .inr (2, [.ref q1, .ref q4, .int 0]))) q1 = some (114, .inr (3, [.null])) := by rw [hm_up_n (hm_ne f3 ha (by omega))]; exact f3
  have f6 : (hm_up g a (269, .inr (2, [.ref q1, .ref q4, .int 0]))) q4 = some (115, .inr (3, [.null])) := by rw [hm_up_n (hm_ne f6 ha (by omega))]; exact f6
  have hag := hag.up (e := .inr (2, [.ref q1, .ref q4, .int 0])) (show 269 = 269 ∨ 269 = 114 ∨ 269 = 115 by omega) (Or.inr ⟨_, ha⟩)
  have ha : (hm_up g a (269, .inr (2, [.ref q1, .ref q4, .int 0]))) a = some (269, .inr (2, [.ref q1, .ref q4, .int 0])) := hm_up_s
  generalize hm_up g a (269, .inr (2, [.ref q1, .ref q4, .int 0])) = g at hP hag f3 f6 ha
  refine lv_aload_n hx hb d_L_init_26 rfl (lv_at hl 0 rfl) ?_
  refine lv_iconst (v := 0) hx hb d_L_init_27 (by decide) ?_
  refine hm_put (ci := 2) (v := .int 0) (ty := .int) (C := "BlockVault$Log") (T := T_L) (N := 3) hx hb hT in_L t_L t_L_ok n_L hown hK hP hS ha rfl 2 (by decide) (hT _ k118) (fun _ h9 => h9) rfl (by decide +kernel) rfl rfl (Nat.le_of_ble_eq_true rfl) d_L_init_28 (fun H locs hP hS => ?_)
  have hP : hm_P D vwCl B (hm_up g a (269, .inr (2, [.ref q1, .ref q4, .int 0]))) H := hP
  have f3 : (hm_up g a (269, .inr (2, [.ref q1, .ref q4, .int 0]))) q1 = some (114, .inr (3, [.null])) := by rw [hm_up_n (hm_ne f3 ha (by omega))]; exact f3
  have f6 : (hm_up g a (269, .inr (2, [.ref q1, .ref q4, .int 0]))) q4 = some (115, .inr (3, [.null])) := by rw [hm_up_n (hm_ne f6 ha (by omega))]; exact f6
  have hag := hag.up (e := .inr (2, [.ref q1, .ref q4, .int 0])) (show 269 = 269 ∨ 269 = 114 ∨ 269 = 115 by omega) (Or.inr ⟨_, ha⟩)
  have ha : (hm_up g a (269, .inr (2, [.ref q1, .ref q4, .int 0]))) a = some (269, .inr (2, [.ref q1, .ref q4, .int 0])) := hm_up_s
  generalize hm_up g a (269, .inr (2, [.ref q1, .ref q4, .int 0])) = g at hP hag f3 f6 ha
  refine W.widen (k := 2) (n := 2) (by omega) (by omega) ?_
  exact W.vret hx hb hr (fun t9 ht9 hwz => ⟨⟨g, rfl, ⟨⟨_, _, ha, f3, f6⟩, hag⟩, by rw [ht9]; exact hP, va_K.moved hwz.alike hK, hN.warm hwz⟩, hS.F ht9⟩) hS.2.2 d_L_init_31

set_option maxHeartbeats 4000000 in
set_option maxRecDepth 100000 in
theorem m_D_init (l : Launch) (D : va_G) (B : Nat) (cA : Nat → ClassId) (h : hm_T) (a : Nat) (ha : h a = some (267, .inr (1, [.null, .int 0, .int 0, .int 0]))) (hf : ∀ (q : Nat) (e : va_E), h q ≠ some (270, e)) (hfp : ∀ j, j < 80 → ∀ (q : Nat) (e : va_E), h q ≠ some (j, e)) : Met l y_D_init w_D_init ({ frames := 2, cells := 557, slots := 591872, locals := 45 } : Room) (va_Pc [.ref a] (HN D B cA h)) (va_Qv (fun (u : hm_T) => dkM cA u a ∧ hm_ag (fun t => t < 80 ∨ t = 267 ∨ t = 270) h u) (HN D B cA) (hm_A B)) 557 591872 (hm_A B) := by
  refine Met.ofW (cc := c_D_init) (maxL := 2) (ret := none) (by decide) rfl ?_
  intro p e s m args below meth c s₁ Bd hml hv
  obtain ⟨rfl, hP, hK, hN⟩ := hv
  have hx := Bd.exec
  have hb := Bd.bytes
  have hr := Bd.returns
  have hts := atoms_spec (ws := w_D_init) Bd.pre
  have hT : ∀ w ∈ WG, w.before ([.ref a] : List Value).toArray s = true := fun w h => hts w (List.mem_cons_of_mem _ h)
  have hown : s.vm.findClass "BlockVault$Disk" = some m.cls := findClass_of_methodNamed Bd.named
  have hin : meth.name = "<init>" := (name_of_methodNamed Bd.named Bd.method).1
  have hBs : B ≤ s.heap.size := hP.1
  have hS : va_S (hm_A B) s.heap s.heap [] := va_S.rf
  have hag : hm_ag (fun t => t < 80 ∨ t = 267 ∨ t = 270) h h := hm_ag.rf
  have hl := lv_entry ([.ref a]) (n := 2) (Nat.le_of_ble_eq_true rfl)
  rw [lg_entry_eq]
  generalize (lg_sl ([.ref a]) ++ List.replicate (2 - (lg_sl ([.ref a])).length) Slot.unset).toArray = ls at hl ⊢
  have hl : lv_has ls 2 [(0, .ref a)] := hl
  refine lv_aload_n hx hb d_D_init_0 rfl (lv_at hl 0 rfl) ?_
  refine W.objInit hx hb hown (hT _ k30) (hT _ k17) (hT _ k18) rfl (by rw [hml]; exact hl.1) rfl d_D_init_1 (Nat.le_of_ble_eq_true rfl) (Nat.le_of_ble_eq_true rfl) ?_
  refine lv_aload_n hx hb d_D_init_4 rfl (lv_at hl 0 rfl) ?_
  refine lv_bipush (v := 80) hx hb d_D_init_5 (by decide) ?_
  refine hm_newq hx hb hown (hT _ k31) hN.2.2.1 hK 1 rfl hP hS (N' := 80) (by decide) (by decide) (by decide) (270) (by omega) (by unfold hm_mx; (repeat' split) <;> omega) hf (Nat.le_of_ble_eq_true rfl) (Nat.le_of_ble_eq_true rfl) d_D_init_7 (fun ar H hq1 hP hS => ?_)
  have ha : (hm_up h ar (270, aRef (cA 1) 80 (fun _ => none))) a = some (267, .inr (1, [.null, .int 0, .int 0, .int 0])) := by rw [hm_up_n (hm_nn ha hq1)]; exact ha
  have hag := hag.up (e := aRef (cA 1) 80 (fun _ => none)) (show 270 < 80 ∨ 270 = 267 ∨ 270 = 270 by omega) (Or.inl hq1)
  have hfp : ∀ j, j < 80 → ∀ (q : Nat) (e : va_E), (hm_up h ar (270, aRef (cA 1) 80 (fun _ => none))) q ≠ some (j, e) := fun j hj => fr_up (hfp j hj) (by omega)
  have far : (hm_up h ar (270, aRef (cA 1) 80 (fun _ => none))) ar = some (270, aRef (cA 1) 80 (fun _ => none)) := hm_up_s
  generalize hm_up h ar (270, aRef (cA 1) 80 (fun _ => none)) = g at hP hag ha hfp far
  refine hm_putF (ci := 1) (v := .ref ar) (ty := .array (.object "BlockVault$Page")) (C := "BlockVault$Disk") (T := T_D) (N := 4) hx hb hT in_D t_D t_D_ok n_D hown hK hP hS ha rfl 0 (by decide) (hT _ k42) (fun _ h9 => h9) rfl hin rfl (by decide +kernel) rfl rfl (Nat.le_of_ble_eq_true rfl) d_D_init_10 (fun H locs hP hS => ?_)
  have hP : hm_P D vwCl B (hm_up g a (267, .inr (1, [.ref ar, .int 0, .int 0, .int 0]))) H := hP
  have far : (hm_up g a (267, .inr (1, [.ref ar, .int 0, .int 0, .int 0]))) ar = some (270, aRef (cA 1) 80 (fun _ => none)) := by rw [hm_up_n (hm_ne far ha (by omega))]; exact far
  have hag := hag.up (e := .inr (1, [.ref ar, .int 0, .int 0, .int 0])) (show 267 < 80 ∨ 267 = 267 ∨ 267 = 270 by omega) (Or.inr ⟨_, ha⟩)
  have hfp : ∀ j, j < 80 → ∀ (q : Nat) (e : va_E), (hm_up g a (267, .inr (1, [.ref ar, .int 0, .int 0, .int 0]))) q ≠ some (j, e) := fun j hj => fr_up (hfp j hj) (by omega)
  have ha : (hm_up g a (267, .inr (1, [.ref ar, .int 0, .int 0, .int 0]))) a = some (267, .inr (1, [.ref ar, .int 0, .int 0, .int 0])) := hm_up_s
  generalize hm_up g a (267, .inr (1, [.ref ar, .int 0, .int 0, .int 0])) = g at hP hag far hfp ha
  refine lv_iconst (v := 0) hx hb d_D_init_13 (by decide) ?_
  refine lv_istore_n (lv' := [(1, .int 0), (0, .ref a)]) hx hb d_D_init_14 rfl hl (by decide) rfl (fun ls hl => ?_)
  have hL : dkL cA h g a ar 0 := ⟨ha, ⟨_, far, fun j hj => absurd hj (by omega)⟩, fun j _ hj => hfp j hj, hag⟩
  refine hm_tight hBs hP ?_
  have loop : ∀ (n i : Nat) (g : hm_T) (H : Heap) (locs : List Loc) (ls : Array Slot), i + n = 80 → dkL cA h g a ar i → hm_P D vwCl B g H → va_S (hm_A B) s.heap H locs → lv_has ls 2 [(1, .int (nI i)), (0, .ref a)] → W p l e (headSpec w_D_init ({ frames := 2, cells := 557, slots := 591872, locals := 45 } : Room)).room s m ([.ref a] : List Value).toArray below meth c H locs 278 295424 (MQ below (va_Qv (fun (u : hm_T) => dkM cA u a ∧ hm_ag (fun t => t < 80 ∨ t = 267 ∨ t = 270) h u) (HN D B cA) (hm_A B)) ([.ref a] : List Value).toArray s 557 591872 (hm_A B)) (F0 m 15 ls []) := by
    intro n
    induction n with
    | zero =>
      intro i g H locs ls hin0 hL hP hS hl
      obtain rfl : i = 80 := by omega
      obtain ⟨ha, ⟨f, far, hfj⟩, hno, hag⟩ := hL
      refine lv_iload_n hx hb d_D_init_15 rfl (lv_at hl 0 rfl) ?_
      refine lv_aload_n hx hb d_D_init_16 rfl (lv_at hl 1 rfl) ?_
      refine va_get (D := D) (ci := 1) (v := .ref ar) (C := "BlockVault$Disk") (T := T_D) (N := 4) hx hb hT in_D hown hK (hP.one ha) 0 rfl rfl 0 (by decide) (hT _ k42) (fun _ h9 => h9) rfl d_D_init_17 ?_
      refine va_alen hx hb hK (hP.one far) 0 1 rfl rfl (v := 80) rfl d_D_init_20 ?_
      refine lv_icmp_ge (tgt := 43) hx hb d_D_init_21 (by decide) (fun c2 => ?_) (fun c2 => ?_)
      · refine lv_aload_n hx hb d_D_init_43 rfl (lv_at hl 1 rfl) ?_
        refine lv_iconst (v := 1) hx hb d_D_init_44 (by decide) ?_
        refine hm_put (ci := 1) (v := .int 1) (ty := .boolean) (C := "BlockVault$Disk") (T := T_D) (N := 4) hx hb hT in_D t_D t_D_ok n_D hown hK hP hS ha rfl 1 (by decide) (hT _ k43) (fun _ h9 => h9) rfl (by decide +kernel) rfl rfl (Nat.le_of_ble_eq_true rfl) d_D_init_45 (fun H locs hP hS => ?_)
        have hP : hm_P D vwCl B (hm_up g a (267, .inr (1, [.ref ar, .int 1, .int 0, .int 0]))) H := hP
        have far : (hm_up g a (267, .inr (1, [.ref ar, .int 1, .int 0, .int 0]))) ar = some (270, aRef (cA 1) 80 f) := by rw [hm_up_n (hm_ne far ha (by omega))]; exact far
        have hag := hag.up (e := .inr (1, [.ref ar, .int 1, .int 0, .int 0])) (show 267 < 80 ∨ 267 = 267 ∨ 267 = 270 by omega) (Or.inr ⟨_, ha⟩)
        have hfj : ∀ j, j < 80 → ∃ q, f j = some q ∧ (hm_up g a (267, .inr (1, [.ref ar, .int 1, .int 0, .int 0]))) q = some (j, pg0) := fun j hj => by obtain ⟨q, z1, z2⟩ := hfj j hj; exact ⟨q, z1, by rw [hm_up_n (hm_ne z2 ha (by omega))]; exact z2⟩
        have ha : (hm_up g a (267, .inr (1, [.ref ar, .int 1, .int 0, .int 0]))) a = some (267, .inr (1, [.ref ar, .int 1, .int 0, .int 0])) := hm_up_s
        generalize hm_up g a (267, .inr (1, [.ref ar, .int 1, .int 0, .int 0])) = g at hP hag far hfj ha
        refine lv_aload_n hx hb d_D_init_48 rfl (lv_at hl 1 rfl) ?_
        refine lv_iconst (v := (-1)) hx hb d_D_init_49 (by decide) ?_
        refine hm_put (ci := 1) (v := .int (-1)) (ty := .int) (C := "BlockVault$Disk") (T := T_D) (N := 4) hx hb hT in_D t_D t_D_ok n_D hown hK hP hS ha rfl 2 (by decide) (hT _ k44) (fun _ h9 => h9) rfl (by decide +kernel) rfl rfl (Nat.le_of_ble_eq_true rfl) d_D_init_50 (fun H locs hP hS => ?_)
        have hP : hm_P D vwCl B (hm_up g a (267, .inr (1, [.ref ar, .int 1, .int (-1), .int 0]))) H := hP
        have far : (hm_up g a (267, .inr (1, [.ref ar, .int 1, .int (-1), .int 0]))) ar = some (270, aRef (cA 1) 80 f) := by rw [hm_up_n (hm_ne far ha (by omega))]; exact far
        have hag := hag.up (e := .inr (1, [.ref ar, .int 1, .int (-1), .int 0])) (show 267 < 80 ∨ 267 = 267 ∨ 267 = 270 by omega) (Or.inr ⟨_, ha⟩)
        have hfj : ∀ j, j < 80 → ∃ q, f j = some q ∧ (hm_up g a (267, .inr (1, [.ref ar, .int 1, .int (-1), .int 0]))) q = some (j, pg0) := fun j hj => by obtain ⟨q, z1, z2⟩ := hfj j hj; exact ⟨q, z1, by rw [hm_up_n (hm_ne z2 ha (by omega))]; exact z2⟩
        have ha : (hm_up g a (267, .inr (1, [.ref ar, .int 1, .int (-1), .int 0]))) a = some (267, .inr (1, [.ref ar, .int 1, .int (-1), .int 0])) := hm_up_s
        generalize hm_up g a (267, .inr (1, [.ref ar, .int 1, .int (-1), .int 0])) = g at hP hag far hfj ha
        refine lv_aload_n hx hb d_D_init_53 rfl (lv_at hl 1 rfl) ?_
        refine lv_iconst (v := 0) hx hb d_D_init_54 (by decide) ?_
        refine hm_put (ci := 1) (v := .int 0) (ty := .int) (C := "BlockVault$Disk") (T := T_D) (N := 4) hx hb hT in_D t_D t_D_ok n_D hown hK hP hS ha rfl 3 (by decide) (hT _ k45) (fun _ h9 => h9) rfl (by decide +kernel) rfl rfl (Nat.le_of_ble_eq_true rfl) d_D_init_55 (fun H locs hP hS => ?_)
        have hP : hm_P D vwCl B (hm_up g a (267, .inr (1, [.ref ar, .int 1, .int (-1), .int 0]))) H := hP
        have far : (hm_up g a (267, .inr (1, [.ref ar, .int 1, .int (-1), .int 0]))) ar = some (270, aRef (cA 1) 80 f) := by rw [hm_up_n (hm_ne far ha (by omega))]; exact far
        have hag := hag.up (e := .inr (1, [.ref ar, .int 1, .int (-1), .int 0])) (show 267 < 80 ∨ 267 = 267 ∨ 267 = 270 by omega) (Or.inr ⟨_, ha⟩)
        have hfj : ∀ j, j < 80 → ∃ q, f j = some q ∧ (hm_up g a (267, .inr (1, [.ref ar, .int 1, .int (-1), .int 0]))) q = some (j, pg0) := fun j hj => by obtain ⟨q, z1, z2⟩ := hfj j hj; exact ⟨q, z1, by rw [hm_up_n (hm_ne z2 ha (by omega))]; exact z2⟩
        have ha : (hm_up g a (267, .inr (1, [.ref ar, .int 1, .int (-1), .int 0]))) a = some (267, .inr (1, [.ref ar, .int 1, .int (-1), .int 0])) := hm_up_s
        generalize hm_up g a (267, .inr (1, [.ref ar, .int 1, .int (-1), .int 0])) = g at hP hag far hfj ha
        refine W.widen (k := 557) (n := 591872) (by omega) (by omega) ?_
        exact W.vret hx hb hr (fun t9 ht9 hwz => ⟨⟨g, rfl, ⟨⟨_, _, ha, far, hfj⟩, hag⟩, by rw [ht9]; exact hP, va_K.moved hwz.alike hK, hN.warm hwz⟩, hS.F ht9⟩) hS.2.2 d_D_init_58
      · exact absurd (by decide) c2
    | succ n ih =>
      intro i g H locs ls hin0 hL hP hS hl
      have hi : i < 80 := by omega
      obtain ⟨ha, ⟨f, far, hfj⟩, hno, hag⟩ := id hL
      refine lv_iload_n hx hb d_D_init_15 rfl (lv_at hl 0 rfl) ?_
      refine lv_aload_n hx hb d_D_init_16 rfl (lv_at hl 1 rfl) ?_
      refine va_get (D := D) (ci := 1) (v := .ref ar) (C := "BlockVault$Disk") (T := T_D) (N := 4) hx hb hT in_D hown hK (hP.one ha) 0 rfl rfl 0 (by decide) (hT _ k42) (fun _ h9 => h9) rfl d_D_init_17 ?_
      refine va_alen hx hb hK (hP.one far) 0 1 rfl rfl (v := 80) rfl d_D_init_20 ?_
      refine lv_icmp_ge (tgt := 43) hx hb d_D_init_21 (by decide) (fun c3 => ?_) (fun c3 => ?_)
      · exact absurd c3 (nI_ge (b := 80) (by omega) (by omega))
      · refine lv_aload_n hx hb d_D_init_24 rfl (lv_at hl 1 rfl) ?_
        refine va_get (D := D) (ci := 1) (v := .ref ar) (C := "BlockVault$Disk") (T := T_D) (N := 4) hx hb hT in_D hown hK (hP.one ha) 0 rfl rfl 0 (by decide) (hT _ k42) (fun _ h9 => h9) rfl d_D_init_25 ?_
        refine lv_iload_n hx hb d_D_init_28 rfl (lv_at hl 0 rfl) ?_
        refine hm_new (ci := 3) (fs := [.null]) (C := "BlockVault$Page") (T := T_P) (N := 1) hx hb hT in_P t_P t_P_ok hown (hT _ k31) (hT _ k33) (hT _ k4) hK hP hS rfl (by decide +kernel) (i) (by omega) (by unfold hm_mx; (repeat' split) <;> omega) (hno i (Nat.le_refl i) hi) (Nat.le_of_ble_eq_true rfl) (Nat.le_of_ble_eq_true rfl) d_D_init_29 (fun q4 H hq5 hP hS => ?_)
        refine lv_dup hx hb d_D_init_32 rfl ?_
        refine hm_callv (va_runIN (As := []) (rest := [.ref q4, .int (nI i), .ref ar]) ⟨hx, hb, hml, hown, hT⟩ (m_P_init l D B cA (hm_up g q4 (i, .inr (3, [.null]))) q4) ⟨va_cnB 0 hT (gI kc_P_init) rfl rfl rfl (nm0 hN) (hT _ k4) (by decide +kernel) ⟨Nat.le_of_ble_eq_true rfl, Nat.le_of_ble_eq_true rfl⟩, rfl, hT _ k35⟩ (hn_pre hP hK hN) rfl rfl hl.1 rfl (lv_room (Nat.le_of_ble_eq_true rfl)) d_D_init_33 ⟨Nat.le_of_ble_eq_true rfl, Nat.le_of_ble_eq_true rfl⟩) hS (fun u H locs hu hP hS => ?_)
        rw [hu] at hP
        refine hm_astq hx hb hK hP hS 1 3 (r := ("BlockVault$Page", T_P, 1)) (show (hm_up g q4 (i, .inr (3, [.null]))) ar = some (270, aRef (cA 1) 80 f) by rw [hm_up_n (hm_nn far hq5)]; exact far) rfl hm_up_s rfl (vp_in_nI hi (by omega)) d_D_init_36 (fun H locs hP hS => ?_)
        rw [nI_clamp (by omega)] at hP
        refine hm_tight hBs hP ?_
        refine lv_iinc (v := ((nI i) + 1)) (lv' := [(1, .int ((nI i) + 1)), (0, .ref a)]) hx hb d_D_init_37 hl (k := 0) rfl rfl (by decide) rfl (fun ls hl => ?_)
        refine lv_goto (tgt := 15) hx hb d_D_init_40 (by decide) ?_
        exact ih (i + 1) _ H locs ls (by omega) (hL.step hi far hq5) hP hS (by rw [← nI_1]; exact lv_sub hl [0, 1] rfl)
  exact loop 80 0 g _ _ ls (by omega) hL hP hS (lv_sub hl [0, 1] rfl)

set_option maxHeartbeats 4000000 in
set_option maxRecDepth 100000 in
theorem m_C_init (l : Launch) (D : va_G) (B : Nat) (cA : Nat → ClassId) (h : hm_T) (a : Nat) (ha : h a = some (268, .inr (0, [.null, .int 0, .int 0]))) (hf : ∀ (q : Nat) (e : va_E), h q ≠ some (271, e)) (hfr : ∀ j, j < 34 → ∀ (q : Nat) (e : va_E), h q ≠ some (232 + j, e)) (hfp : ∀ j, j < 34 → ∀ (q : Nat) (e : va_E), h q ≠ some (80 + j, e)) : Met l y_C_init w_C_init ({ frames := 3, cells := 557, slots := 591872, locals := 70 } : Room) (va_Pc [.ref a] (HN D B cA h)) (va_Qv (fun (u : hm_T) => caM cA u a ∧ hm_ag (fun t => (80 ≤ t ∧ t < 114) ∨ (232 ≤ t ∧ t < 266) ∨ t = 268 ∨ t = 271) h u) (HN D B cA) (hm_A B)) 557 591872 (hm_A B) := by
  refine Met.ofW (cc := c_C_init) (maxL := 2) (ret := none) (by decide) rfl ?_
  intro p e s m args below meth c s₁ Bd hml hv
  obtain ⟨rfl, hP, hK, hN⟩ := hv
  have hx := Bd.exec
  have hb := Bd.bytes
  have hr := Bd.returns
  have hts := atoms_spec (ws := w_C_init) Bd.pre
  have hT : ∀ w ∈ WG, w.before ([.ref a] : List Value).toArray s = true := fun w h => hts w (List.mem_cons_of_mem _ h)
  have hown : s.vm.findClass "BlockVault$Cache" = some m.cls := findClass_of_methodNamed Bd.named
  have hin : meth.name = "<init>" := (name_of_methodNamed Bd.named Bd.method).1
  have hBs : B ≤ s.heap.size := hP.1
  have hS : va_S (hm_A B) s.heap s.heap [] := va_S.rf
  have hag : hm_ag (fun t => (80 ≤ t ∧ t < 114) ∨ (232 ≤ t ∧ t < 266) ∨ t = 268 ∨ t = 271) h h := hm_ag.rf
  have hl := lv_entry ([.ref a]) (n := 2) (Nat.le_of_ble_eq_true rfl)
  rw [lg_entry_eq]
  generalize (lg_sl ([.ref a]) ++ List.replicate (2 - (lg_sl ([.ref a])).length) Slot.unset).toArray = ls at hl ⊢
  have hl : lv_has ls 2 [(0, .ref a)] := hl
  refine lv_aload_n hx hb d_C_init_0 rfl (lv_at hl 0 rfl) ?_
  refine W.objInit hx hb hown (hT _ k60) (hT _ k17) (hT _ k18) rfl (by rw [hml]; exact hl.1) rfl d_C_init_1 (Nat.le_of_ble_eq_true rfl) (Nat.le_of_ble_eq_true rfl) ?_
  refine lv_aload_n hx hb d_C_init_4 rfl (lv_at hl 0 rfl) ?_
  refine lv_bipush (v := 34) hx hb d_C_init_5 (by decide) ?_
  refine hm_newq hx hb hown (hT _ k61) hN.2.2.2 hK 2 rfl hP hS (N' := 34) (by decide) (by decide) (by decide) (271) (by omega) (by unfold hm_mx; (repeat' split) <;> omega) hf (Nat.le_of_ble_eq_true rfl) (Nat.le_of_ble_eq_true rfl) d_C_init_7 (fun ar H hq1 hP hS => ?_)
  have ha : (hm_up h ar (271, aRef (cA 2) 34 (fun _ => none))) a = some (268, .inr (0, [.null, .int 0, .int 0])) := by rw [hm_up_n (hm_nn ha hq1)]; exact ha
  have hag := hag.up (e := aRef (cA 2) 34 (fun _ => none)) (show (80 ≤ 271 ∧ 271 < 114) ∨ (232 ≤ 271 ∧ 271 < 266) ∨ 271 = 268 ∨ 271 = 271 by omega) (Or.inl hq1)
  have hfr : ∀ j, j < 34 → ∀ (q : Nat) (e : va_E), (hm_up h ar (271, aRef (cA 2) 34 (fun _ => none))) q ≠ some (232 + j, e) := fun j hj => fr_up (hfr j hj) (by omega)
  have hfp : ∀ j, j < 34 → ∀ (q : Nat) (e : va_E), (hm_up h ar (271, aRef (cA 2) 34 (fun _ => none))) q ≠ some (80 + j, e) := fun j hj => fr_up (hfp j hj) (by omega)
  have far : (hm_up h ar (271, aRef (cA 2) 34 (fun _ => none))) ar = some (271, aRef (cA 2) 34 (fun _ => none)) := hm_up_s
  generalize hm_up h ar (271, aRef (cA 2) 34 (fun _ => none)) = g at hP hag ha hfr hfp far
  refine hm_putF (ci := 0) (v := .ref ar) (ty := .array (.object "BlockVault$Row")) (C := "BlockVault$Cache") (T := T_C) (N := 3) hx hb hT in_C t_C t_C_ok n_C hown hK hP hS ha rfl 0 (by decide) (hT _ k97) (fun _ h9 => h9) rfl hin rfl (by decide +kernel) rfl rfl (Nat.le_of_ble_eq_true rfl) d_C_init_10 (fun H locs hP hS => ?_)
  have hP : hm_P D vwCl B (hm_up g a (268, .inr (0, [.ref ar, .int 0, .int 0]))) H := hP
  have far : (hm_up g a (268, .inr (0, [.ref ar, .int 0, .int 0]))) ar = some (271, aRef (cA 2) 34 (fun _ => none)) := by rw [hm_up_n (hm_ne far ha (by omega))]; exact far
  have hag := hag.up (e := .inr (0, [.ref ar, .int 0, .int 0])) (show (80 ≤ 268 ∧ 268 < 114) ∨ (232 ≤ 268 ∧ 268 < 266) ∨ 268 = 268 ∨ 268 = 271 by omega) (Or.inr ⟨_, ha⟩)
  have hfr : ∀ j, j < 34 → ∀ (q : Nat) (e : va_E), (hm_up g a (268, .inr (0, [.ref ar, .int 0, .int 0]))) q ≠ some (232 + j, e) := fun j hj => fr_up (hfr j hj) (by omega)
  have hfp : ∀ j, j < 34 → ∀ (q : Nat) (e : va_E), (hm_up g a (268, .inr (0, [.ref ar, .int 0, .int 0]))) q ≠ some (80 + j, e) := fun j hj => fr_up (hfp j hj) (by omega)
  have ha : (hm_up g a (268, .inr (0, [.ref ar, .int 0, .int 0]))) a = some (268, .inr (0, [.ref ar, .int 0, .int 0])) := hm_up_s
  generalize hm_up g a (268, .inr (0, [.ref ar, .int 0, .int 0])) = g at hP hag far hfr hfp ha
  refine lv_iconst (v := 0) hx hb d_C_init_13 (by decide) ?_
  refine lv_istore_n (lv' := [(1, .int 0), (0, .ref a)]) hx hb d_C_init_14 rfl hl (by decide) rfl (fun ls hl => ?_)
  have hL : caL cA h g a ar 0 := ⟨ha, ⟨_, far, fun j hj => absurd hj (by omega)⟩, fun j _ hj q e => ⟨hfr j hj q e, hfp j hj q e⟩, hag⟩
  refine hm_tight hBs hP ?_
  have loop : ∀ (n i : Nat) (g : hm_T) (H : Heap) (locs : List Loc) (ls : Array Slot), i + n = 34 → caL cA h g a ar i → hm_P D vwCl B g H → va_S (hm_A B) s.heap H locs → lv_has ls 2 [(1, .int (nI i)), (0, .ref a)] → W p l e (headSpec w_C_init ({ frames := 3, cells := 557, slots := 591872, locals := 70 } : Room)).room s m ([.ref a] : List Value).toArray below meth c H locs 278 295424 (MQ below (va_Qv (fun (u : hm_T) => caM cA u a ∧ hm_ag (fun t => (80 ≤ t ∧ t < 114) ∨ (232 ≤ t ∧ t < 266) ∨ t = 268 ∨ t = 271) h u) (HN D B cA) (hm_A B)) ([.ref a] : List Value).toArray s 557 591872 (hm_A B)) (F0 m 15 ls []) := by
    intro n
    induction n with
    | zero =>
      intro i g H locs ls hin0 hL hP hS hl
      obtain rfl : i = 34 := by omega
      obtain ⟨ha, ⟨f, far, hfj⟩, hno, hag⟩ := hL
      refine lv_iload_n hx hb d_C_init_15 rfl (lv_at hl 0 rfl) ?_
      refine lv_aload_n hx hb d_C_init_16 rfl (lv_at hl 1 rfl) ?_
      refine va_get (D := D) (ci := 0) (v := .ref ar) (C := "BlockVault$Cache") (T := T_C) (N := 3) hx hb hT in_C hown hK (hP.one ha) 0 rfl rfl 0 (by decide) (hT _ k97) (fun _ h9 => h9) rfl d_C_init_17 ?_
      refine va_alen hx hb hK (hP.one far) 0 2 rfl rfl (v := 34) rfl d_C_init_20 ?_
      refine lv_icmp_ge (tgt := 43) hx hb d_C_init_21 (by decide) (fun c2 => ?_) (fun c2 => ?_)
      · refine lv_aload_n hx hb d_C_init_43 rfl (lv_at hl 1 rfl) ?_
        refine lv_iconst (v := 0) hx hb d_C_init_44 (by decide) ?_
        refine hm_put (ci := 0) (v := .int 0) (ty := .int) (C := "BlockVault$Cache") (T := T_C) (N := 3) hx hb hT in_C t_C t_C_ok n_C hown hK hP hS ha rfl 1 (by decide) (hT _ k99) (fun _ h9 => h9) rfl (by decide +kernel) rfl rfl (Nat.le_of_ble_eq_true rfl) d_C_init_45 (fun H locs hP hS => ?_)
        have hP : hm_P D vwCl B (hm_up g a (268, .inr (0, [.ref ar, .int 0, .int 0]))) H := hP
        have far : (hm_up g a (268, .inr (0, [.ref ar, .int 0, .int 0]))) ar = some (271, aRef (cA 2) 34 f) := by rw [hm_up_n (hm_ne far ha (by omega))]; exact far
        have hag := hag.up (e := .inr (0, [.ref ar, .int 0, .int 0])) (show (80 ≤ 268 ∧ 268 < 114) ∨ (232 ≤ 268 ∧ 268 < 266) ∨ 268 = 268 ∨ 268 = 271 by omega) (Or.inr ⟨_, ha⟩)
        have hfj : ∀ j, j < 34 → ∃ q p, f j = some q ∧ (hm_up g a (268, .inr (0, [.ref ar, .int 0, .int 0]))) q = some (232 + j, rw0 p) ∧ (hm_up g a (268, .inr (0, [.ref ar, .int 0, .int 0]))) p = some (80 + j, pg0) := fun j hj => by obtain ⟨q, p, z1, z2, z3⟩ := hfj j hj; exact ⟨q, p, z1, by rw [hm_up_n (hm_ne z2 ha (by omega))]; exact z2, by rw [hm_up_n (hm_ne z3 ha (by omega))]; exact z3⟩
        have ha : (hm_up g a (268, .inr (0, [.ref ar, .int 0, .int 0]))) a = some (268, .inr (0, [.ref ar, .int 0, .int 0])) := hm_up_s
        generalize hm_up g a (268, .inr (0, [.ref ar, .int 0, .int 0])) = g at hP hag far hfj ha
        refine lv_aload_n hx hb d_C_init_48 rfl (lv_at hl 1 rfl) ?_
        refine lv_iconst (v := 0) hx hb d_C_init_49 (by decide) ?_
        refine hm_put (ci := 0) (v := .int 0) (ty := .int) (C := "BlockVault$Cache") (T := T_C) (N := 3) hx hb hT in_C t_C t_C_ok n_C hown hK hP hS ha rfl 2 (by decide) (hT _ k100) (fun _ h9 => h9) rfl (by decide +kernel) rfl rfl (Nat.le_of_ble_eq_true rfl) d_C_init_50 (fun H locs hP hS => ?_)
        have hP : hm_P D vwCl B (hm_up g a (268, .inr (0, [.ref ar, .int 0, .int 0]))) H := hP
        have far : (hm_up g a (268, .inr (0, [.ref ar, .int 0, .int 0]))) ar = some (271, aRef (cA 2) 34 f) := by rw [hm_up_n (hm_ne far ha (by omega))]; exact far
        have hag := hag.up (e := .inr (0, [.ref ar, .int 0, .int 0])) (show (80 ≤ 268 ∧ 268 < 114) ∨ (232 ≤ 268 ∧ 268 < 266) ∨ 268 = 268 ∨ 268 = 271 by omega) (Or.inr ⟨_, ha⟩)
        have hfj : ∀ j, j < 34 → ∃ q p, f j = some q ∧ (hm_up g a (268, .inr (0, [.ref ar, .int 0, .int 0]))) q = some (232 + j, rw0 p) ∧ (hm_up g a (268, .inr (0, [.ref ar, .int 0, .int 0]))) p = some (80 + j, pg0) := fun j hj => by obtain ⟨q, p, z1, z2, z3⟩ := hfj j hj; exact ⟨q, p, z1, by rw [hm_up_n (hm_ne z2 ha (by omega))]; exact z2, by rw [hm_up_n (hm_ne z3 ha (by omega))]; exact z3⟩
        have ha : (hm_up g a (268, .inr (0, [.ref ar, .int 0, .int 0]))) a = some (268, .inr (0, [.ref ar, .int 0, .int 0])) := hm_up_s
        generalize hm_up g a (268, .inr (0, [.ref ar, .int 0, .int 0])) = g at hP hag far hfj ha
        refine W.widen (k := 557) (n := 591872) (by omega) (by omega) ?_
        exact W.vret hx hb hr (fun t9 ht9 hwz => ⟨⟨g, rfl, ⟨⟨_, _, ha, far, hfj⟩, hag⟩, by rw [ht9]; exact hP, va_K.moved hwz.alike hK, hN.warm hwz⟩, hS.F ht9⟩) hS.2.2 d_C_init_53
      · exact absurd (by decide) c2
    | succ n ih =>
      intro i g H locs ls hin0 hL hP hS hl
      have hi : i < 34 := by omega
      obtain ⟨ha, ⟨f, far, hfj⟩, hno, hag⟩ := id hL
      refine lv_iload_n hx hb d_C_init_15 rfl (lv_at hl 0 rfl) ?_
      refine lv_aload_n hx hb d_C_init_16 rfl (lv_at hl 1 rfl) ?_
      refine va_get (D := D) (ci := 0) (v := .ref ar) (C := "BlockVault$Cache") (T := T_C) (N := 3) hx hb hT in_C hown hK (hP.one ha) 0 rfl rfl 0 (by decide) (hT _ k97) (fun _ h9 => h9) rfl d_C_init_17 ?_
      refine va_alen hx hb hK (hP.one far) 0 2 rfl rfl (v := 34) rfl d_C_init_20 ?_
      refine lv_icmp_ge (tgt := 43) hx hb d_C_init_21 (by decide) (fun c3 => ?_) (fun c3 => ?_)
      · exact absurd c3 (nI_ge (b := 34) (by omega) (by omega))
      · refine lv_aload_n hx hb d_C_init_24 rfl (lv_at hl 1 rfl) ?_
        refine va_get (D := D) (ci := 0) (v := .ref ar) (C := "BlockVault$Cache") (T := T_C) (N := 3) hx hb hT in_C hown hK (hP.one ha) 0 rfl rfl 0 (by decide) (hT _ k97) (fun _ h9 => h9) rfl d_C_init_25 ?_
        refine lv_iload_n hx hb d_C_init_28 rfl (lv_at hl 0 rfl) ?_
        refine hm_new (ci := 4) (fs := [.null, .int 0, .int 0, .int 0, .int 0]) (C := "BlockVault$Row") (T := T_R) (N := 5) hx hb hT in_R t_R t_R_ok hown (hT _ k61) (hT _ k63) (hT _ k6) hK hP hS rfl (by decide +kernel) (232 + i) (by omega) (by unfold hm_mx; (repeat' split) <;> omega) (fun q e => (hno i (Nat.le_refl i) hi q e).1) (Nat.le_of_ble_eq_true rfl) (Nat.le_of_ble_eq_true rfl) d_C_init_29 (fun q4 H hq5 hP hS => ?_)
        refine lv_dup hx hb d_C_init_32 rfl ?_
        refine hm_callv (va_runI (As := []) (rest := [.ref q4, .int (nI i), .ref ar]) ⟨hx, hb, hml, hown, hT⟩ (m_R_init l D B cA (hm_up g q4 (232 + i, .inr (4, [.null, .int 0, .int 0, .int 0, .int 0]))) i hi q4 hm_up_s (fr_up (fun q e => (hno i (Nat.le_refl i) hi q e).2) (by omega))) (cwI 0 hT (gI kc_R_init) rfl rfl rfl (hT _ k6) (hT _ k64) (hT _ k65) rfl (by decide +kernel) ⟨Nat.le_of_ble_eq_true rfl, Nat.le_of_ble_eq_true rfl⟩) (hn_pre hP hK hN) rfl rfl hl.1 rfl (lv_room (Nat.le_of_ble_eq_true rfl)) d_C_init_33 ⟨Nat.le_of_ble_eq_true rfl, Nat.le_of_ble_eq_true rfl⟩) hS (fun u H locs hu hP hS => ?_)
        obtain ⟨uar, hL1⟩ := hL.step hi far hq5 hu
        obtain ⟨pq, ua, -⟩ := id hu
        refine hm_astq hx hb hK hP hS 2 4 (r := ("BlockVault$Row", T_R, 5)) uar rfl ua rfl (vp_in_nI hi (by omega)) d_C_init_36 (fun H locs hP hS => ?_)
        rw [nI_clamp (by omega)] at hP
        refine hm_tight hBs hP ?_
        refine lv_iinc (v := ((nI i) + 1)) (lv' := [(1, .int ((nI i) + 1)), (0, .ref a)]) hx hb d_C_init_37 hl (k := 0) rfl rfl (by decide) rfl (fun ls hl => ?_)
        refine lv_goto (tgt := 15) hx hb d_C_init_40 (by decide) ?_
        exact ih (i + 1) _ H locs ls (by omega) hL1 hP hS (by rw [← nI_1]; exact lv_sub hl [0, 1] rfl)
  exact loop 34 0 g _ _ ls (by omega) hL hP hS (lv_sub hl [0, 1] rfl)

/-- the number of blocks -/
def clN (x : Int32) : Int32 := if x < 40 then 40 else if 80 < x then 80 else x
theorem clN_n (x : Int32) : ∃ N, 40 ≤ N ∧ N ≤ 80 ∧ clN x = nI N := by
  unfold clN
  by_cases c : x < 40
  · rw [if_pos c]
    exact ⟨40, by omega, by omega, rfl⟩
  · rw [if_neg c]
    by_cases d : 80 < x
    · rw [if_pos d]
      exact ⟨80, by omega, by omega, rfl⟩
    · rw [if_neg d]
      have h0 : ¬ x < 0 := fun q => c (Int32.lt_iff_toInt_lt.mpr (by
        have h1 := Int32.lt_iff_toInt_lt.mp q
        have e1 : (0 : Int32).toInt = 0 := by decide
        have e2 : (40 : Int32).toInt = 40 := by decide
        omega))
      obtain ⟨j, j1, rfl⟩ := nI_of h0
      refine ⟨j, ?_, ?_, rfl⟩
      · exact Nat.not_lt.mp fun q => c (nI_lt (b := 40) q (by omega))
      · exact Nat.not_lt.mp fun q => d (nI_lt (a := 80) q j1)
theorem clN_mm (x : Int32) : (if (40 : Int32) < (if x < 80 then x else 80) then (if x < 80 then x else 80) else 40) = clN x := by
  unfold clN
  have e1 : (40 : Int32).toInt = 40 := by decide
  have e2 : (80 : Int32).toInt = 80 := by decide
  by_cases c : x < 80
  · rw [if_pos c]
    have c' := Int32.lt_iff_toInt_lt.mp c
    rw [if_neg (show ¬ 80 < x from fun q => by have := Int32.lt_iff_toInt_lt.mp q; omega)]
    by_cases d : (40 : Int32) < x
    · have d' := Int32.lt_iff_toInt_lt.mp d
      rw [if_pos d, if_neg (show ¬ x < 40 from fun q => by have := Int32.lt_iff_toInt_lt.mp q; omega)]
    · rw [if_neg d]
      by_cases f : x < 40
      · rw [if_pos f]
      · rw [if_neg f]
        apply Int32.toInt_inj.mp
        have d' : ¬ (40 : Int32).toInt < x.toInt := fun q => d (Int32.lt_iff_toInt_lt.mpr q)
        have f' : ¬ x.toInt < (40 : Int32).toInt := fun q => f (Int32.lt_iff_toInt_lt.mpr q)
        omega
  · have c' : ¬ x.toInt < (80 : Int32).toInt := fun q => c (Int32.lt_iff_toInt_lt.mpr q)
    rw [if_neg c, if_pos (by decide), if_neg (show ¬ x < 40 from fun q => by have := Int32.lt_iff_toInt_lt.mp q; omega)]
    by_cases d : 80 < x
    · rw [if_pos d]
    · rw [if_neg d]
      apply Int32.toInt_inj.mp
      have d' : ¬ (80 : Int32).toInt < x.toInt := fun q => d (Int32.lt_iff_toInt_lt.mpr q)
      omega
def vtM (cA : Nat → ClassId) (g : hm_T) (a : Nat) (x : Int32) : Prop := ∃ d c lg, g a = some (266, .inr (5, [.int (clN x), .ref d, .ref c, .ref lg, .int 0])) ∧ dkM cA g d ∧ caM cA g c ∧ lgM g lg
def moM (cA : Nat → ClassId) (g : hm_T) (a : Nat) (x : Int32) : Prop := ∃ q3 q4 q5 q6 q7, g a = some (272, .inr (6, [.int 0, .int (clN x), .ref q3, .ref q4, .ref q5, .ref q6, .ref q7, .int 0, .int 1, .int 0, .int (-1), .int 0, .int 0, .int 0, .int (-1)])) ∧ g q3 = some (273, aInt (cA 0) 81920 (fun _ => 0)) ∧ g q4 = some (274, aInt (cA 0) 81920 (fun _ => 0)) ∧ g q5 = some (275, aInt (cA 3) 80 (fun _ => 0)) ∧ g q6 = some (276, aInt (cA 3) 80 (fun _ => 0)) ∧ g q7 = some (277, aInt (cA 4) 80 (fun _ => 0))

set_option maxHeartbeats 4000000 in
set_option maxRecDepth 100000 in
theorem m_V_init (l : Launch) (D : va_G) (B : Nat) (cA : Nat → ClassId) (h : hm_T) (a : Nat) (ha : h a = some (266, .inr (5, [.int 0, .null, .null, .null, .int 0]))) (hfx : ∀ j, j < 278 → j ≠ 266 → ∀ (q : Nat) (e : va_E), h q ≠ some (j, e)) (x : Int32) : Met l y_V_init w_V_init ({ frames := 4, cells := 1000, slots := 900000, locals := 95 } : Room) (va_Pc [.ref a, .int x] (HN D B cA h)) (va_Qv (fun (u : hm_T) => vtM cA u a x ∧ hm_ag (fun t => t < 116 ∨ (232 ≤ t ∧ t < 272)) h u) (HN D B cA) (hm_A B)) 1000 900000 (hm_A B) := by
  refine Met.ofW (cc := c_V_init) (maxL := 2) (ret := none) (by decide) rfl ?_
  intro p e s m args below meth c s₁ Bd hml hv
  obtain ⟨rfl, hP, hK, hN⟩ := hv
  have hx := Bd.exec
  have hb := Bd.bytes
  have hr := Bd.returns
  have hts := atoms_spec (ws := w_V_init) Bd.pre
  have hT : ∀ w ∈ WG, w.before ([.ref a, .int x] : List Value).toArray s = true := fun w h => hts w (List.mem_cons_of_mem _ h)
  have hown : s.vm.findClass "BlockVault" = some m.cls := findClass_of_methodNamed Bd.named
  have hin : meth.name = "<init>" := (name_of_methodNamed Bd.named Bd.method).1
  have hBs : B ≤ s.heap.size := hP.1
  have hS : va_S (hm_A B) s.heap s.heap [] := va_S.rf
  have hag : hm_ag (fun t => t < 116 ∨ (232 ≤ t ∧ t < 272)) h h := hm_ag.rf
  have hl := lv_entry ([.ref a, .int x]) (n := 2) (Nat.le_of_ble_eq_true rfl)
  rw [lg_entry_eq]
  generalize (lg_sl ([.ref a, .int x]) ++ List.replicate (2 - (lg_sl ([.ref a, .int x])).length) Slot.unset).toArray = ls at hl ⊢
  have hl : lv_has ls 2 [(0, .ref a), (1, .int x)] := hl
  have hf267 : ∀ (q : Nat) (e : va_E), h q ≠ some (267, e) := hfx 267 (by omega) (by omega)
  have hf268 : ∀ (q : Nat) (e : va_E), h q ≠ some (268, e) := hfx 268 (by omega) (by omega)
  have hf269 : ∀ (q : Nat) (e : va_E), h q ≠ some (269, e) := hfx 269 (by omega) (by omega)
  have hf270 : ∀ (q : Nat) (e : va_E), h q ≠ some (270, e) := hfx 270 (by omega) (by omega)
  have hf271 : ∀ (q : Nat) (e : va_E), h q ≠ some (271, e) := hfx 271 (by omega) (by omega)
  have hf114 : ∀ (q : Nat) (e : va_E), h q ≠ some (114, e) := hfx 114 (by omega) (by omega)
  have hf115 : ∀ (q : Nat) (e : va_E), h q ≠ some (115, e) := hfx 115 (by omega) (by omega)
  have hfd : ∀ j, j < 80 → ∀ (q : Nat) (e : va_E), h q ≠ some (j, e) := fun j hj => hfx (j) (by omega) (by omega)
  have hfr : ∀ j, j < 34 → ∀ (q : Nat) (e : va_E), h q ≠ some (232 + j, e) := fun j hj => hfx (232 + j) (by omega) (by omega)
  have hfp : ∀ j, j < 34 → ∀ (q : Nat) (e : va_E), h q ≠ some (80 + j, e) := fun j hj => hfx (80 + j) (by omega) (by omega)
  refine lv_aload_n hx hb d_V_init_0 rfl (lv_at hl 0 rfl) ?_
  refine W.objInit hx hb hown (hT _ k16) (hT _ k17) (hT _ k18) rfl (by rw [hml]; exact hl.1) rfl d_V_init_1 (Nat.le_of_ble_eq_true rfl) (Nat.le_of_ble_eq_true rfl) ?_
  refine lv_aload_n hx hb d_V_init_4 rfl (lv_at hl 0 rfl) ?_
  refine lv_bipush (v := 40) hx hb d_V_init_5 (by decide) ?_
  refine lv_bipush (v := 80) hx hb d_V_init_7 (by decide) ?_
  refine lv_iload_n hx hb d_V_init_9 rfl (lv_at hl 1 rfl) ?_
  refine va_mmin hx hb (by rw [hml]; exact hl.1.symm) hown (hT _ k19) (hT _ k20) (hT _ k2) (hT _ k_min) (Nat.le_of_ble_eq_true rfl) (Nat.le_of_ble_eq_true rfl) (Nat.le_of_ble_eq_true rfl) (Nat.le_of_ble_eq_true rfl) d_V_init_10 ?_
  refine va_mmax hx hb (by rw [hml]; exact hl.1.symm) hown (hT _ k22) (hT _ k23) (hT _ k2) (hT _ k_max) (Nat.le_of_ble_eq_true rfl) (Nat.le_of_ble_eq_true rfl) (Nat.le_of_ble_eq_true rfl) (Nat.le_of_ble_eq_true rfl) d_V_init_13 ?_
  rw [clN_mm x]
  refine hm_putF (ci := 5) (v := .int (clN x)) (ty := .int) (C := "BlockVault") (T := T_V) (N := 5) hx hb hT in_V t_V t_V_ok n_V hown hK hP hS ha rfl 0 (by decide) (hT _ k126) (fun _ h9 => h9) rfl hin rfl (by decide +kernel) rfl rfl (Nat.le_of_ble_eq_true rfl) d_V_init_16 (fun H locs hP hS => ?_)
  have hP : hm_P D vwCl B (hm_up h a (266, .inr (5, [.int (clN x), .null, .null, .null, .int 0]))) H := hP
  have hag := hag.up (e := .inr (5, [.int (clN x), .null, .null, .null, .int 0])) (show 266 < 116 ∨ (232 ≤ 266 ∧ 266 < 272) by omega) (Or.inr ⟨_, ha⟩)
  have hf267 : ∀ (q : Nat) (e : va_E), (hm_up h a (266, .inr (5, [.int (clN x), .null, .null, .null, .int 0]))) q ≠ some (267, e) := fr_up hf267 (by omega)
  have hf268 : ∀ (q : Nat) (e : va_E), (hm_up h a (266, .inr (5, [.int (clN x), .null, .null, .null, .int 0]))) q ≠ some (268, e) := fr_up hf268 (by omega)
  have hf269 : ∀ (q : Nat) (e : va_E), (hm_up h a (266, .inr (5, [.int (clN x), .null, .null, .null, .int 0]))) q ≠ some (269, e) := fr_up hf269 (by omega)
  have hf270 : ∀ (q : Nat) (e : va_E), (hm_up h a (266, .inr (5, [.int (clN x), .null, .null, .null, .int 0]))) q ≠ some (270, e) := fr_up hf270 (by omega)
  have hf271 : ∀ (q : Nat) (e : va_E), (hm_up h a (266, .inr (5, [.int (clN x), .null, .null, .null, .int 0]))) q ≠ some (271, e) := fr_up hf271 (by omega)
  have hf114 : ∀ (q : Nat) (e : va_E), (hm_up h a (266, .inr (5, [.int (clN x), .null, .null, .null, .int 0]))) q ≠ some (114, e) := fr_up hf114 (by omega)
  have hf115 : ∀ (q : Nat) (e : va_E), (hm_up h a (266, .inr (5, [.int (clN x), .null, .null, .null, .int 0]))) q ≠ some (115, e) := fr_up hf115 (by omega)
  have hfd : ∀ j, j < 80 → ∀ (q : Nat) (e : va_E), (hm_up h a (266, .inr (5, [.int (clN x), .null, .null, .null, .int 0]))) q ≠ some (j, e) := fun j hj => fr_up (hfd j hj) (by omega)
  have hfr : ∀ j, j < 34 → ∀ (q : Nat) (e : va_E), (hm_up h a (266, .inr (5, [.int (clN x), .null, .null, .null, .int 0]))) q ≠ some (232 + j, e) := fun j hj => fr_up (hfr j hj) (by omega)
  have hfp : ∀ j, j < 34 → ∀ (q : Nat) (e : va_E), (hm_up h a (266, .inr (5, [.int (clN x), .null, .null, .null, .int 0]))) q ≠ some (80 + j, e) := fun j hj => fr_up (hfp j hj) (by omega)
  have ha : (hm_up h a (266, .inr (5, [.int (clN x), .null, .null, .null, .int 0]))) a = some (266, .inr (5, [.int (clN x), .null, .null, .null, .int 0])) := hm_up_s
  generalize hm_up h a (266, .inr (5, [.int (clN x), .null, .null, .null, .int 0])) = g at hP hag hf267 hf268 hf269 hf270 hf271 hf114 hf115 hfd hfr hfp ha
  refine lv_aload_n hx hb d_V_init_19 rfl (lv_at hl 0 rfl) ?_
  refine hm_new (ci := 1) (fs := [.null, .int 0, .int 0, .int 0]) (C := "BlockVault$Disk") (T := T_D) (N := 4) hx hb hT in_D t_D t_D_ok hown (hT _ k25) (hT _ k26) (hT _ k3) hK hP hS rfl (by decide +kernel) (267) (by omega) (by unfold hm_mx; (repeat' split) <;> omega) hf267 (Nat.le_of_ble_eq_true rfl) (Nat.le_of_ble_eq_true rfl) d_V_init_20 (fun q1 H hq2 hP hS => ?_)
  have ha : (hm_up g q1 (267, .inr (1, [.null, .int 0, .int 0, .int 0]))) a = some (266, .inr (5, [.int (clN x), .null, .null, .null, .int 0])) := by rw [hm_up_n (hm_nn ha hq2)]; exact ha
  have hag := hag.up (e := .inr (1, [.null, .int 0, .int 0, .int 0])) (show 267 < 116 ∨ (232 ≤ 267 ∧ 267 < 272) by omega) (Or.inl hq2)
  have hf268 : ∀ (q : Nat) (e : va_E), (hm_up g q1 (267, .inr (1, [.null, .int 0, .int 0, .int 0]))) q ≠ some (268, e) := fr_up hf268 (by omega)
  have hf269 : ∀ (q : Nat) (e : va_E), (hm_up g q1 (267, .inr (1, [.null, .int 0, .int 0, .int 0]))) q ≠ some (269, e) := fr_up hf269 (by omega)
  have hf270 : ∀ (q : Nat) (e : va_E), (hm_up g q1 (267, .inr (1, [.null, .int 0, .int 0, .int 0]))) q ≠ some (270, e) := fr_up hf270 (by omega)
  have hf271 : ∀ (q : Nat) (e : va_E), (hm_up g q1 (267, .inr (1, [.null, .int 0, .int 0, .int 0]))) q ≠ some (271, e) := fr_up hf271 (by omega)
  have hf114 : ∀ (q : Nat) (e : va_E), (hm_up g q1 (267, .inr (1, [.null, .int 0, .int 0, .int 0]))) q ≠ some (114, e) := fr_up hf114 (by omega)
  have hf115 : ∀ (q : Nat) (e : va_E), (hm_up g q1 (267, .inr (1, [.null, .int 0, .int 0, .int 0]))) q ≠ some (115, e) := fr_up hf115 (by omega)
  have hfd : ∀ j, j < 80 → ∀ (q : Nat) (e : va_E), (hm_up g q1 (267, .inr (1, [.null, .int 0, .int 0, .int 0]))) q ≠ some (j, e) := fun j hj => fr_up (hfd j hj) (by omega)
  have hfr : ∀ j, j < 34 → ∀ (q : Nat) (e : va_E), (hm_up g q1 (267, .inr (1, [.null, .int 0, .int 0, .int 0]))) q ≠ some (232 + j, e) := fun j hj => fr_up (hfr j hj) (by omega)
  have hfp : ∀ j, j < 34 → ∀ (q : Nat) (e : va_E), (hm_up g q1 (267, .inr (1, [.null, .int 0, .int 0, .int 0]))) q ≠ some (80 + j, e) := fun j hj => fr_up (hfp j hj) (by omega)
  have f3 : (hm_up g q1 (267, .inr (1, [.null, .int 0, .int 0, .int 0]))) q1 = some (267, .inr (1, [.null, .int 0, .int 0, .int 0])) := hm_up_s
  generalize hm_up g q1 (267, .inr (1, [.null, .int 0, .int 0, .int 0])) = g at hP hag ha hf268 hf269 hf270 hf271 hf114 hf115 hfd hfr hfp f3
  refine lv_dup hx hb d_V_init_23 rfl ?_
  refine hm_callv (va_runI (As := []) (rest := [.ref q1, .ref a]) ⟨hx, hb, hml, hown, hT⟩ (m_D_init l D B cA g q1 f3 hf270 hfd) (cwI 0 hT (gI kc_D_init) rfl rfl rfl (hT _ k3) (hT _ k27) (hT _ k28) rfl (by decide +kernel) ⟨Nat.le_of_ble_eq_true rfl, Nat.le_of_ble_eq_true rfl⟩) (hn_pre hP hK hN) rfl rfl hl.1 rfl (lv_room (Nat.le_of_ble_eq_true rfl)) d_V_init_24 ⟨Nat.le_of_ble_eq_true rfl, Nat.le_of_ble_eq_true rfl⟩) hS (fun u H locs hu hP hS => ?_)
  obtain ⟨hd, hst⟩ := hu
  refine hm_tight hBs hP ?_
  have ha : u a = some (266, .inr (5, [.int (clN x), .null, .null, .null, .int 0])) := hst.at (by first | omega | (dsimp only; omega)) ha
  have hf268 : ∀ (q : Nat) (e : va_E), u q ≠ some (268, e) := hst.no (by first | omega | (dsimp only; omega)) hf268
  have hf269 : ∀ (q : Nat) (e : va_E), u q ≠ some (269, e) := hst.no (by first | omega | (dsimp only; omega)) hf269
  have hf271 : ∀ (q : Nat) (e : va_E), u q ≠ some (271, e) := hst.no (by first | omega | (dsimp only; omega)) hf271
  have hf114 : ∀ (q : Nat) (e : va_E), u q ≠ some (114, e) := hst.no (by first | omega | (dsimp only; omega)) hf114
  have hf115 : ∀ (q : Nat) (e : va_E), u q ≠ some (115, e) := hst.no (by first | omega | (dsimp only; omega)) hf115
  have hfr : ∀ j, j < 34 → ∀ (q : Nat) (e : va_E), u q ≠ some (232 + j, e) := fun j hj => hst.no (by first | omega | (dsimp only; omega)) (hfr j hj)
  have hfp : ∀ j, j < 34 → ∀ (q : Nat) (e : va_E), u q ≠ some (80 + j, e) := fun j hj => hst.no (by first | omega | (dsimp only; omega)) (hfp j hj)
  have hag : hm_ag (fun t => t < 116 ∨ (232 ≤ t ∧ t < 272)) h u := hag.tr hst (fun _ z => z) (fun t z => (by first | omega | (dsimp only; omega)))
  clear hst
  generalize u = g at hP hag ha hf268 hf269 hf271 hf114 hf115 hfr hfp hd
  refine hm_putF (ci := 5) (v := .ref q1) (ty := .object "BlockVault$Disk") (C := "BlockVault") (T := T_V) (N := 5) hx hb hT in_V t_V t_V_ok n_V hown hK hP hS ha rfl 1 (by decide) (hT _ k127) (fun _ h9 => h9) rfl hin rfl (by decide +kernel) rfl rfl (Nat.le_of_ble_eq_true rfl) d_V_init_27 (fun H locs hP hS => ?_)
  have hP : hm_P D vwCl B (hm_up g a (266, .inr (5, [.int (clN x), .ref q1, .null, .null, .int 0]))) H := hP
  have hag := hag.up (e := .inr (5, [.int (clN x), .ref q1, .null, .null, .int 0])) (show 266 < 116 ∨ (232 ≤ 266 ∧ 266 < 272) by omega) (Or.inr ⟨_, ha⟩)
  have hf268 : ∀ (q : Nat) (e : va_E), (hm_up g a (266, .inr (5, [.int (clN x), .ref q1, .null, .null, .int 0]))) q ≠ some (268, e) := fr_up hf268 (by omega)
  have hf269 : ∀ (q : Nat) (e : va_E), (hm_up g a (266, .inr (5, [.int (clN x), .ref q1, .null, .null, .int 0]))) q ≠ some (269, e) := fr_up hf269 (by omega)
  have hf271 : ∀ (q : Nat) (e : va_E), (hm_up g a (266, .inr (5, [.int (clN x), .ref q1, .null, .null, .int 0]))) q ≠ some (271, e) := fr_up hf271 (by omega)
  have hf114 : ∀ (q : Nat) (e : va_E), (hm_up g a (266, .inr (5, [.int (clN x), .ref q1, .null, .null, .int 0]))) q ≠ some (114, e) := fr_up hf114 (by omega)
  have hf115 : ∀ (q : Nat) (e : va_E), (hm_up g a (266, .inr (5, [.int (clN x), .ref q1, .null, .null, .int 0]))) q ≠ some (115, e) := fr_up hf115 (by omega)
  have hfr : ∀ j, j < 34 → ∀ (q : Nat) (e : va_E), (hm_up g a (266, .inr (5, [.int (clN x), .ref q1, .null, .null, .int 0]))) q ≠ some (232 + j, e) := fun j hj => fr_up (hfr j hj) (by omega)
  have hfp : ∀ j, j < 34 → ∀ (q : Nat) (e : va_E), (hm_up g a (266, .inr (5, [.int (clN x), .ref q1, .null, .null, .int 0]))) q ≠ some (80 + j, e) := fun j hj => fr_up (hfp j hj) (by omega)
  have hst : hm_ag (fun t => t = 266) g (hm_up g a (266, .inr (5, [.int (clN x), .ref q1, .null, .null, .int 0]))) := hm_ag.rf.up rfl (Or.inr ⟨_, ha⟩)
  have hd : dkM cA (hm_up g a (266, .inr (5, [.int (clN x), .ref q1, .null, .null, .int 0]))) q1 := hd.ag hst (by first | omega | (dsimp only; omega)) (by first | omega | (dsimp only; omega)) (fun t ht => (by first | omega | (dsimp only; omega)))
  have ha : (hm_up g a (266, .inr (5, [.int (clN x), .ref q1, .null, .null, .int 0]))) a = some (266, .inr (5, [.int (clN x), .ref q1, .null, .null, .int 0])) := hm_up_s
  clear hst
  generalize hm_up g a (266, .inr (5, [.int (clN x), .ref q1, .null, .null, .int 0])) = g at hP hag hf268 hf269 hf271 hf114 hf115 hfr hfp hd ha
  refine lv_aload_n hx hb d_V_init_30 rfl (lv_at hl 0 rfl) ?_
  refine hm_new (ci := 0) (fs := [.null, .int 0, .int 0]) (C := "BlockVault$Cache") (T := T_C) (N := 3) hx hb hT in_C t_C t_C_ok hown (hT _ k55) (hT _ k56) (hT _ k5) hK hP hS rfl (by decide +kernel) (268) (by omega) (by unfold hm_mx; (repeat' split) <;> omega) hf268 (Nat.le_of_ble_eq_true rfl) (Nat.le_of_ble_eq_true rfl) d_V_init_31 (fun q4 H hq5 hP hS => ?_)
  have ha : (hm_up g q4 (268, .inr (0, [.null, .int 0, .int 0]))) a = some (266, .inr (5, [.int (clN x), .ref q1, .null, .null, .int 0])) := by rw [hm_up_n (hm_nn ha hq5)]; exact ha
  have hag := hag.up (e := .inr (0, [.null, .int 0, .int 0])) (show 268 < 116 ∨ (232 ≤ 268 ∧ 268 < 272) by omega) (Or.inl hq5)
  have hf269 : ∀ (q : Nat) (e : va_E), (hm_up g q4 (268, .inr (0, [.null, .int 0, .int 0]))) q ≠ some (269, e) := fr_up hf269 (by omega)
  have hf271 : ∀ (q : Nat) (e : va_E), (hm_up g q4 (268, .inr (0, [.null, .int 0, .int 0]))) q ≠ some (271, e) := fr_up hf271 (by omega)
  have hf114 : ∀ (q : Nat) (e : va_E), (hm_up g q4 (268, .inr (0, [.null, .int 0, .int 0]))) q ≠ some (114, e) := fr_up hf114 (by omega)
  have hf115 : ∀ (q : Nat) (e : va_E), (hm_up g q4 (268, .inr (0, [.null, .int 0, .int 0]))) q ≠ some (115, e) := fr_up hf115 (by omega)
  have hfr : ∀ j, j < 34 → ∀ (q : Nat) (e : va_E), (hm_up g q4 (268, .inr (0, [.null, .int 0, .int 0]))) q ≠ some (232 + j, e) := fun j hj => fr_up (hfr j hj) (by omega)
  have hfp : ∀ j, j < 34 → ∀ (q : Nat) (e : va_E), (hm_up g q4 (268, .inr (0, [.null, .int 0, .int 0]))) q ≠ some (80 + j, e) := fun j hj => fr_up (hfp j hj) (by omega)
  have hst : hm_ag (fun t => t = 268) g (hm_up g q4 (268, .inr (0, [.null, .int 0, .int 0]))) := hm_ag.rf.up rfl (Or.inl hq5)
  have hd : dkM cA (hm_up g q4 (268, .inr (0, [.null, .int 0, .int 0]))) q1 := hd.ag hst (by first | omega | (dsimp only; omega)) (by first | omega | (dsimp only; omega)) (fun t ht => (by first | omega | (dsimp only; omega)))
  have f6 : (hm_up g q4 (268, .inr (0, [.null, .int 0, .int 0]))) q4 = some (268, .inr (0, [.null, .int 0, .int 0])) := hm_up_s
  clear hst
  generalize hm_up g q4 (268, .inr (0, [.null, .int 0, .int 0])) = g at hP hag ha hf269 hf271 hf114 hf115 hfr hfp hd f6
  refine lv_dup hx hb d_V_init_34 rfl ?_
  refine hm_callv (va_runI (As := []) (rest := [.ref q4, .ref a]) ⟨hx, hb, hml, hown, hT⟩ (m_C_init l D B cA g q4 f6 hf271 hfr hfp) (cwI 0 hT (gI kc_C_init) rfl rfl rfl (hT _ k5) (hT _ k57) (hT _ k58) rfl (by decide +kernel) ⟨Nat.le_of_ble_eq_true rfl, Nat.le_of_ble_eq_true rfl⟩) (hn_pre hP hK hN) rfl rfl hl.1 rfl (lv_room (Nat.le_of_ble_eq_true rfl)) d_V_init_35 ⟨Nat.le_of_ble_eq_true rfl, Nat.le_of_ble_eq_true rfl⟩) hS (fun u H locs hu hP hS => ?_)
  obtain ⟨hc, hst⟩ := hu
  refine hm_tight hBs hP ?_
  have ha : u a = some (266, .inr (5, [.int (clN x), .ref q1, .null, .null, .int 0])) := hst.at (by first | omega | (dsimp only; omega)) ha
  have hf269 : ∀ (q : Nat) (e : va_E), u q ≠ some (269, e) := hst.no (by first | omega | (dsimp only; omega)) hf269
  have hf114 : ∀ (q : Nat) (e : va_E), u q ≠ some (114, e) := hst.no (by first | omega | (dsimp only; omega)) hf114
  have hf115 : ∀ (q : Nat) (e : va_E), u q ≠ some (115, e) := hst.no (by first | omega | (dsimp only; omega)) hf115
  have hd : dkM cA u q1 := hd.ag hst (by first | omega | (dsimp only; omega)) (by first | omega | (dsimp only; omega)) (fun t ht => (by first | omega | (dsimp only; omega)))
  have hag : hm_ag (fun t => t < 116 ∨ (232 ≤ t ∧ t < 272)) h u := hag.tr hst (fun _ z => z) (fun t z => (by first | omega | (dsimp only; omega)))
  clear hst
  generalize u = g at hP hag ha hf269 hf114 hf115 hd hc
  refine hm_putF (ci := 5) (v := .ref q4) (ty := .object "BlockVault$Cache") (C := "BlockVault") (T := T_V) (N := 5) hx hb hT in_V t_V t_V_ok n_V hown hK hP hS ha rfl 2 (by decide) (hT _ k128) (fun _ h9 => h9) rfl hin rfl (by decide +kernel) rfl rfl (Nat.le_of_ble_eq_true rfl) d_V_init_38 (fun H locs hP hS => ?_)
  have hP : hm_P D vwCl B (hm_up g a (266, .inr (5, [.int (clN x), .ref q1, .ref q4, .null, .int 0]))) H := hP
  have hag := hag.up (e := .inr (5, [.int (clN x), .ref q1, .ref q4, .null, .int 0])) (show 266 < 116 ∨ (232 ≤ 266 ∧ 266 < 272) by omega) (Or.inr ⟨_, ha⟩)
  have hf269 : ∀ (q : Nat) (e : va_E), (hm_up g a (266, .inr (5, [.int (clN x), .ref q1, .ref q4, .null, .int 0]))) q ≠ some (269, e) := fr_up hf269 (by omega)
  have hf114 : ∀ (q : Nat) (e : va_E), (hm_up g a (266, .inr (5, [.int (clN x), .ref q1, .ref q4, .null, .int 0]))) q ≠ some (114, e) := fr_up hf114 (by omega)
  have hf115 : ∀ (q : Nat) (e : va_E), (hm_up g a (266, .inr (5, [.int (clN x), .ref q1, .ref q4, .null, .int 0]))) q ≠ some (115, e) := fr_up hf115 (by omega)
  have hst : hm_ag (fun t => t = 266) g (hm_up g a (266, .inr (5, [.int (clN x), .ref q1, .ref q4, .null, .int 0]))) := hm_ag.rf.up rfl (Or.inr ⟨_, ha⟩)
  have hd : dkM cA (hm_up g a (266, .inr (5, [.int (clN x), .ref q1, .ref q4, .null, .int 0]))) q1 := hd.ag hst (by first | omega | (dsimp only; omega)) (by first | omega | (dsimp only; omega)) (fun t ht => (by first | omega | (dsimp only; omega)))
  have hc : caM cA (hm_up g a (266, .inr (5, [.int (clN x), .ref q1, .ref q4, .null, .int 0]))) q4 := hc.ag hst (by first | omega | (dsimp only; omega)) (by first | omega | (dsimp only; omega)) (fun t ht => ⟨(by first | omega | (dsimp only; omega)), (by first | omega | (dsimp only; omega))⟩)
  have ha : (hm_up g a (266, .inr (5, [.int (clN x), .ref q1, .ref q4, .null, .int 0]))) a = some (266, .inr (5, [.int (clN x), .ref q1, .ref q4, .null, .int 0])) := hm_up_s
  clear hst
  generalize hm_up g a (266, .inr (5, [.int (clN x), .ref q1, .ref q4, .null, .int 0])) = g at hP hag hf269 hf114 hf115 hd hc ha
  refine lv_aload_n hx hb d_V_init_41 rfl (lv_at hl 0 rfl) ?_
  refine hm_new (ci := 2) (fs := [.null, .null, .int 0]) (C := "BlockVault$Log") (T := T_L) (N := 3) hx hb hT in_L t_L t_L_ok hown (hT _ k108) (hT _ k109) (hT _ k7) hK hP hS rfl (by decide +kernel) (269) (by omega) (by unfold hm_mx; (repeat' split) <;> omega) hf269 (Nat.le_of_ble_eq_true rfl) (Nat.le_of_ble_eq_true rfl) d_V_init_42 (fun q7 H hq8 hP hS => ?_)
  have ha : (hm_up g q7 (269, .inr (2, [.null, .null, .int 0]))) a = some (266, .inr (5, [.int (clN x), .ref q1, .ref q4, .null, .int 0])) := by rw [hm_up_n (hm_nn ha hq8)]; exact ha
  have hag := hag.up (e := .inr (2, [.null, .null, .int 0])) (show 269 < 116 ∨ (232 ≤ 269 ∧ 269 < 272) by omega) (Or.inl hq8)
  have hf114 : ∀ (q : Nat) (e : va_E), (hm_up g q7 (269, .inr (2, [.null, .null, .int 0]))) q ≠ some (114, e) := fr_up hf114 (by omega)
  have hf115 : ∀ (q : Nat) (e : va_E), (hm_up g q7 (269, .inr (2, [.null, .null, .int 0]))) q ≠ some (115, e) := fr_up hf115 (by omega)
  have hst : hm_ag (fun t => t = 269) g (hm_up g q7 (269, .inr (2, [.null, .null, .int 0]))) := hm_ag.rf.up rfl (Or.inl hq8)
  have hd : dkM cA (hm_up g q7 (269, .inr (2, [.null, .null, .int 0]))) q1 := hd.ag hst (by first | omega | (dsimp only; omega)) (by first | omega | (dsimp only; omega)) (fun t ht => (by first | omega | (dsimp only; omega)))
  have hc : caM cA (hm_up g q7 (269, .inr (2, [.null, .null, .int 0]))) q4 := hc.ag hst (by first | omega | (dsimp only; omega)) (by first | omega | (dsimp only; omega)) (fun t ht => ⟨(by first | omega | (dsimp only; omega)), (by first | omega | (dsimp only; omega))⟩)
  have f9 : (hm_up g q7 (269, .inr (2, [.null, .null, .int 0]))) q7 = some (269, .inr (2, [.null, .null, .int 0])) := hm_up_s
  clear hst
  generalize hm_up g q7 (269, .inr (2, [.null, .null, .int 0])) = g at hP hag ha hf114 hf115 hd hc f9
  refine lv_dup hx hb d_V_init_45 rfl ?_
  refine hm_callv (va_runI (As := []) (rest := [.ref q7, .ref a]) ⟨hx, hb, hml, hown, hT⟩ (m_L_init l D B cA g q7 f9 hf114 hf115) (cwI 0 hT (gI kc_L_init) rfl rfl rfl (hT _ k7) (hT _ k110) (hT _ k111) rfl (by decide +kernel) ⟨Nat.le_of_ble_eq_true rfl, Nat.le_of_ble_eq_true rfl⟩) (hn_pre hP hK hN) rfl rfl hl.1 rfl (lv_room (Nat.le_of_ble_eq_true rfl)) d_V_init_46 ⟨Nat.le_of_ble_eq_true rfl, Nat.le_of_ble_eq_true rfl⟩) hS (fun u H locs hu hP hS => ?_)
  obtain ⟨hlg, hst⟩ := hu
  refine hm_tight hBs hP ?_
  have ha : u a = some (266, .inr (5, [.int (clN x), .ref q1, .ref q4, .null, .int 0])) := hst.at (by first | omega | (dsimp only; omega)) ha
  have hd : dkM cA u q1 := hd.ag hst (by first | omega | (dsimp only; omega)) (by first | omega | (dsimp only; omega)) (fun t ht => (by first | omega | (dsimp only; omega)))
  have hc : caM cA u q4 := hc.ag hst (by first | omega | (dsimp only; omega)) (by first | omega | (dsimp only; omega)) (fun t ht => ⟨(by first | omega | (dsimp only; omega)), (by first | omega | (dsimp only; omega))⟩)
  have hag : hm_ag (fun t => t < 116 ∨ (232 ≤ t ∧ t < 272)) h u := hag.tr hst (fun _ z => z) (fun t z => (by first | omega | (dsimp only; omega)))
  clear hst
  generalize u = g at hP hag ha hd hc hlg
  refine hm_putF (ci := 5) (v := .ref q7) (ty := .object "BlockVault$Log") (C := "BlockVault") (T := T_V) (N := 5) hx hb hT in_V t_V t_V_ok n_V hown hK hP hS ha rfl 3 (by decide) (hT _ k129) (fun _ h9 => h9) rfl hin rfl (by decide +kernel) rfl rfl (Nat.le_of_ble_eq_true rfl) d_V_init_49 (fun H locs hP hS => ?_)
  have hP : hm_P D vwCl B (hm_up g a (266, .inr (5, [.int (clN x), .ref q1, .ref q4, .ref q7, .int 0]))) H := hP
  have hag := hag.up (e := .inr (5, [.int (clN x), .ref q1, .ref q4, .ref q7, .int 0])) (show 266 < 116 ∨ (232 ≤ 266 ∧ 266 < 272) by omega) (Or.inr ⟨_, ha⟩)
  have hst : hm_ag (fun t => t = 266) g (hm_up g a (266, .inr (5, [.int (clN x), .ref q1, .ref q4, .ref q7, .int 0]))) := hm_ag.rf.up rfl (Or.inr ⟨_, ha⟩)
  have hd : dkM cA (hm_up g a (266, .inr (5, [.int (clN x), .ref q1, .ref q4, .ref q7, .int 0]))) q1 := hd.ag hst (by first | omega | (dsimp only; omega)) (by first | omega | (dsimp only; omega)) (fun t ht => (by first | omega | (dsimp only; omega)))
  have hc : caM cA (hm_up g a (266, .inr (5, [.int (clN x), .ref q1, .ref q4, .ref q7, .int 0]))) q4 := hc.ag hst (by first | omega | (dsimp only; omega)) (by first | omega | (dsimp only; omega)) (fun t ht => ⟨(by first | omega | (dsimp only; omega)), (by first | omega | (dsimp only; omega))⟩)
  have hlg : lgM (hm_up g a (266, .inr (5, [.int (clN x), .ref q1, .ref q4, .ref q7, .int 0]))) q7 := hlg.ag hst (by first | omega | (dsimp only; omega)) (by first | omega | (dsimp only; omega)) (by first | omega | (dsimp only; omega))
  have ha : (hm_up g a (266, .inr (5, [.int (clN x), .ref q1, .ref q4, .ref q7, .int 0]))) a = some (266, .inr (5, [.int (clN x), .ref q1, .ref q4, .ref q7, .int 0])) := hm_up_s
  clear hst
  generalize hm_up g a (266, .inr (5, [.int (clN x), .ref q1, .ref q4, .ref q7, .int 0])) = g at hP hag hd hc hlg ha
  refine lv_aload_n hx hb d_V_init_52 rfl (lv_at hl 0 rfl) ?_
  refine lv_iconst (v := 0) hx hb d_V_init_53 (by decide) ?_
  refine hm_put (ci := 5) (v := .int 0) (ty := .boolean) (C := "BlockVault") (T := T_V) (N := 5) hx hb hT in_V t_V t_V_ok n_V hown hK hP hS ha rfl 4 (by decide) (hT _ k130) (fun _ h9 => h9) rfl (by decide +kernel) rfl rfl (Nat.le_of_ble_eq_true rfl) d_V_init_54 (fun H locs hP hS => ?_)
  have hP : hm_P D vwCl B (hm_up g a (266, .inr (5, [.int (clN x), .ref q1, .ref q4, .ref q7, .int 0]))) H := hP
  have hag := hag.up (e := .inr (5, [.int (clN x), .ref q1, .ref q4, .ref q7, .int 0])) (show 266 < 116 ∨ (232 ≤ 266 ∧ 266 < 272) by omega) (Or.inr ⟨_, ha⟩)
  have hst : hm_ag (fun t => t = 266) g (hm_up g a (266, .inr (5, [.int (clN x), .ref q1, .ref q4, .ref q7, .int 0]))) := hm_ag.rf.up rfl (Or.inr ⟨_, ha⟩)
  have hd : dkM cA (hm_up g a (266, .inr (5, [.int (clN x), .ref q1, .ref q4, .ref q7, .int 0]))) q1 := hd.ag hst (by first | omega | (dsimp only; omega)) (by first | omega | (dsimp only; omega)) (fun t ht => (by first | omega | (dsimp only; omega)))
  have hc : caM cA (hm_up g a (266, .inr (5, [.int (clN x), .ref q1, .ref q4, .ref q7, .int 0]))) q4 := hc.ag hst (by first | omega | (dsimp only; omega)) (by first | omega | (dsimp only; omega)) (fun t ht => ⟨(by first | omega | (dsimp only; omega)), (by first | omega | (dsimp only; omega))⟩)
  have hlg : lgM (hm_up g a (266, .inr (5, [.int (clN x), .ref q1, .ref q4, .ref q7, .int 0]))) q7 := hlg.ag hst (by first | omega | (dsimp only; omega)) (by first | omega | (dsimp only; omega)) (by first | omega | (dsimp only; omega))
  have ha : (hm_up g a (266, .inr (5, [.int (clN x), .ref q1, .ref q4, .ref q7, .int 0]))) a = some (266, .inr (5, [.int (clN x), .ref q1, .ref q4, .ref q7, .int 0])) := hm_up_s
  clear hst
  generalize hm_up g a (266, .inr (5, [.int (clN x), .ref q1, .ref q4, .ref q7, .int 0])) = g at hP hag hd hc hlg ha
  refine W.widen (k := 1000) (n := 900000) (by omega) (by omega) ?_
  exact W.vret hx hb hr (fun t9 ht9 hwz => ⟨⟨g, rfl, ⟨⟨_, _, _, ha, hd, hc, hlg⟩, hag⟩, by rw [ht9]; exact hP, va_K.moved hwz.alike hK, hN.warm hwz⟩, hS.F ht9⟩) hS.2.2 d_V_init_57

set_option maxHeartbeats 4000000 in
set_option maxRecDepth 100000 in
theorem m_M_init (l : Launch) (D : va_G) (B : Nat) (cA : Nat → ClassId) (h : hm_T) (a : Nat) (ha : h a = some (272, .inr (6, [.int 0, .int 0, .null, .null, .null, .null, .null, .int 0, .int 0, .int 0, .int 0, .int 0, .int 0, .int 0, .int 0]))) (hfx : ∀ j, j < 278 → 272 < j → ∀ (q : Nat) (e : va_E), h q ≠ some (j, e)) (x : Int32) : Met l y_M_init w_M_init ({ frames := 1, cells := 5, slots := 164080, locals := 20 } : Room) (va_Pc [.ref a, .int x] (HN D B cA h)) (va_Qv (fun (u : hm_T) => moM cA u a x ∧ hm_ag (fun t => 272 ≤ t) h u) (HN D B cA) (hm_A B)) 5 164080 (hm_A B) := by
  refine Met.ofW (cc := c_M_init) (maxL := 2) (ret := none) (by decide) rfl ?_
  intro p e s m args below meth c s₁ Bd hml hv
  obtain ⟨rfl, hP, hK, hN⟩ := hv
  have hx := Bd.exec
  have hb := Bd.bytes
  have hr := Bd.returns
  have hts := atoms_spec (ws := w_M_init) Bd.pre
  have hT : ∀ w ∈ WG, w.before ([.ref a, .int x] : List Value).toArray s = true := fun w h => hts w (List.mem_cons_of_mem _ h)
  have hown : s.vm.findClass "BlockVaultModel" = some m.cls := findClass_of_methodNamed Bd.named
  have hin : meth.name = "<init>" := (name_of_methodNamed Bd.named Bd.method).1
  have hBs : B ≤ s.heap.size := hP.1
  have hS : va_S (hm_A B) s.heap s.heap [] := va_S.rf
  have hag : hm_ag (fun t => 272 ≤ t) h h := hm_ag.rf
  have hl := lv_entry ([.ref a, .int x]) (n := 2) (Nat.le_of_ble_eq_true rfl)
  rw [lg_entry_eq]
  generalize (lg_sl ([.ref a, .int x]) ++ List.replicate (2 - (lg_sl ([.ref a, .int x])).length) Slot.unset).toArray = ls at hl ⊢
  have hl : lv_has ls 2 [(0, .ref a), (1, .int x)] := hl
  have hf273 : ∀ (q : Nat) (e : va_E), h q ≠ some (273, e) := hfx 273 (by omega) (by omega)
  have hf274 : ∀ (q : Nat) (e : va_E), h q ≠ some (274, e) := hfx 274 (by omega) (by omega)
  have hf275 : ∀ (q : Nat) (e : va_E), h q ≠ some (275, e) := hfx 275 (by omega) (by omega)
  have hf276 : ∀ (q : Nat) (e : va_E), h q ≠ some (276, e) := hfx 276 (by omega) (by omega)
  have hf277 : ∀ (q : Nat) (e : va_E), h q ≠ some (277, e) := hfx 277 (by omega) (by omega)
  refine lv_aload_n hx hb d_M_init_0 rfl (lv_at hl 0 rfl) ?_
  refine W.objInit hx hb hown (hT _ k319) (hT _ k17) (hT _ k18) rfl (by rw [hml]; exact hl.1) rfl d_M_init_1 (Nat.le_of_ble_eq_true rfl) (Nat.le_of_ble_eq_true rfl) ?_
  refine lv_aload_n hx hb d_M_init_4 rfl (lv_at hl 0 rfl) ?_
  refine lv_ldc (v := 81920) hx hb hown (hT _ k320) d_M_init_5 ?_
  refine hm_newa 0 (atype := .byte) hx hb (hT _ k224) rfl (fun c0 hc0 => Option.some.inj (hc0.symm.trans (hK.2 0 (cA 0, .byte) rfl).2)) hP hS (N' := 81920) (by decide) (by decide) (by decide) (273) (by omega) (by unfold hm_mx; (repeat' split) <;> omega) hf273 (Nat.le_of_ble_eq_true rfl) (Nat.le_of_ble_eq_true rfl) d_M_init_7 (fun q1 H hq2 hP hS => ?_)
  have ha : (hm_up h q1 (273, aInt (cA 0) 81920 (fun _ => 0))) a = some (272, .inr (6, [.int 0, .int 0, .null, .null, .null, .null, .null, .int 0, .int 0, .int 0, .int 0, .int 0, .int 0, .int 0, .int 0])) := by rw [hm_up_n (hm_nn ha hq2)]; exact ha
  have hag := hag.up (e := aInt (cA 0) 81920 (fun _ => 0)) (show 272 ≤ 273 by omega) (Or.inl hq2)
  have hf274 : ∀ (q : Nat) (e : va_E), (hm_up h q1 (273, aInt (cA 0) 81920 (fun _ => 0))) q ≠ some (274, e) := fr_up hf274 (by omega)
  have hf275 : ∀ (q : Nat) (e : va_E), (hm_up h q1 (273, aInt (cA 0) 81920 (fun _ => 0))) q ≠ some (275, e) := fr_up hf275 (by omega)
  have hf276 : ∀ (q : Nat) (e : va_E), (hm_up h q1 (273, aInt (cA 0) 81920 (fun _ => 0))) q ≠ some (276, e) := fr_up hf276 (by omega)
  have hf277 : ∀ (q : Nat) (e : va_E), (hm_up h q1 (273, aInt (cA 0) 81920 (fun _ => 0))) q ≠ some (277, e) := fr_up hf277 (by omega)
  have f3 : (hm_up h q1 (273, aInt (cA 0) 81920 (fun _ => 0))) q1 = some (273, aInt (cA 0) 81920 (fun _ => 0)) := hm_up_s
  generalize hm_up h q1 (273, aInt (cA 0) 81920 (fun _ => 0)) = g at hP hag ha hf274 hf275 hf276 hf277 f3
  refine hm_putF (ci := 6) (v := .ref q1) (ty := .array .byte) (C := "BlockVaultModel") (T := T_M) (N := 15) hx hb hT in_M t_M t_M_ok n_M hown hK hP hS ha rfl 2 (by decide) (hT _ k323) (fun _ h9 => h9) rfl hin rfl (by decide +kernel) rfl rfl (Nat.le_of_ble_eq_true rfl) d_M_init_9 (fun H locs hP hS => ?_)
  have hP : hm_P D vwCl B (hm_up g a (272, .inr (6, [.int 0, .int 0, .ref q1, .null, .null, .null, .null, .int 0, .int 0, .int 0, .int 0, .int 0, .int 0, .int 0, .int 0]))) H := hP
  have f3 : (hm_up g a (272, .inr (6, [.int 0, .int 0, .ref q1, .null, .null, .null, .null, .int 0, .int 0, .int 0, .int 0, .int 0, .int 0, .int 0, .int 0]))) q1 = some (273, aInt (cA 0) 81920 (fun _ => 0)) := by rw [hm_up_n (hm_ne f3 ha (by omega))]; exact f3
  have hag := hag.up (e := .inr (6, [.int 0, .int 0, .ref q1, .null, .null, .null, .null, .int 0, .int 0, .int 0, .int 0, .int 0, .int 0, .int 0, .int 0])) (show 272 ≤ 272 by omega) (Or.inr ⟨_, ha⟩)
  have hf274 : ∀ (q : Nat) (e : va_E), (hm_up g a (272, .inr (6, [.int 0, .int 0, .ref q1, .null, .null, .null, .null, .int 0, .int 0, .int 0, .int 0, .int 0, .int 0, .int 0, .int 0]))) q ≠ some (274, e) := fr_up hf274 (by omega)
  have hf275 : ∀ (q : Nat) (e : va_E), (hm_up g a (272, .inr (6, [.int 0, .int 0, .ref q1, .null, .null, .null, .null, .int 0, .int 0, .int 0, .int 0, .int 0, .int 0, .int 0, .int 0]))) q ≠ some (275, e) := fr_up hf275 (by omega)
  have hf276 : ∀ (q : Nat) (e : va_E), (hm_up g a (272, .inr (6, [.int 0, .int 0, .ref q1, .null, .null, .null, .null, .int 0, .int 0, .int 0, .int 0, .int 0, .int 0, .int 0, .int 0]))) q ≠ some (276, e) := fr_up hf276 (by omega)
  have hf277 : ∀ (q : Nat) (e : va_E), (hm_up g a (272, .inr (6, [.int 0, .int 0, .ref q1, .null, .null, .null, .null, .int 0, .int 0, .int 0, .int 0, .int 0, .int 0, .int 0, .int 0]))) q ≠ some (277, e) := fr_up hf277 (by omega)
  have ha : (hm_up g a (272, .inr (6, [.int 0, .int 0, .ref q1, .null, .null, .null, .null, .int 0, .int 0, .int 0, .int 0, .int 0, .int 0, .int 0, .int 0]))) a = some (272, .inr (6, [.int 0, .int 0, .ref q1, .null, .null, .null, .null, .int 0, .int 0, .int 0, .int 0, .int 0, .int 0, .int 0, .int 0])) := hm_up_s
  generalize hm_up g a (272, .inr (6, [.int 0, .int 0, .ref q1, .null, .null, .null, .null, .int 0, .int 0, .int 0, .int 0, .int 0, .int 0, .int 0, .int 0])) = g at hP hag f3 hf274 hf275 hf276 hf277 ha
  refine lv_aload_n hx hb d_M_init_12 rfl (lv_at hl 0 rfl) ?_
  refine lv_ldc (v := 81920) hx hb hown (hT _ k320) d_M_init_13 ?_
  refine hm_newa 0 (atype := .byte) hx hb (hT _ k224) rfl (fun c0 hc0 => Option.some.inj (hc0.symm.trans (hK.2 0 (cA 0, .byte) rfl).2)) hP hS (N' := 81920) (by decide) (by decide) (by decide) (274) (by omega) (by unfold hm_mx; (repeat' split) <;> omega) hf274 (Nat.le_of_ble_eq_true rfl) (Nat.le_of_ble_eq_true rfl) d_M_init_15 (fun q4 H hq5 hP hS => ?_)
  have f3 : (hm_up g q4 (274, aInt (cA 0) 81920 (fun _ => 0))) q1 = some (273, aInt (cA 0) 81920 (fun _ => 0)) := by rw [hm_up_n (hm_nn f3 hq5)]; exact f3
  have ha : (hm_up g q4 (274, aInt (cA 0) 81920 (fun _ => 0))) a = some (272, .inr (6, [.int 0, .int 0, .ref q1, .null, .null, .null, .null, .int 0, .int 0, .int 0, .int 0, .int 0, .int 0, .int 0, .int 0])) := by rw [hm_up_n (hm_nn ha hq5)]; exact ha
  have hag := hag.up (e := aInt (cA 0) 81920 (fun _ => 0)) (show 272 ≤ 274 by omega) (Or.inl hq5)
  have hf275 : ∀ (q : Nat) (e : va_E), (hm_up g q4 (274, aInt (cA 0) 81920 (fun _ => 0))) q ≠ some (275, e) := fr_up hf275 (by omega)
  have hf276 : ∀ (q : Nat) (e : va_E), (hm_up g q4 (274, aInt (cA 0) 81920 (fun _ => 0))) q ≠ some (276, e) := fr_up hf276 (by omega)
  have hf277 : ∀ (q : Nat) (e : va_E), (hm_up g q4 (274, aInt (cA 0) 81920 (fun _ => 0))) q ≠ some (277, e) := fr_up hf277 (by omega)
  have f6 : (hm_up g q4 (274, aInt (cA 0) 81920 (fun _ => 0))) q4 = some (274, aInt (cA 0) 81920 (fun _ => 0)) := hm_up_s
  generalize hm_up g q4 (274, aInt (cA 0) 81920 (fun _ => 0)) = g at hP hag f3 ha hf275 hf276 hf277 f6
  refine hm_putF (ci := 6) (v := .ref q4) (ty := .array .byte) (C := "BlockVaultModel") (T := T_M) (N := 15) hx hb hT in_M t_M t_M_ok n_M hown hK hP hS ha rfl 3 (by decide) (hT _ k324) (fun _ h9 => h9) rfl hin rfl (by decide +kernel) rfl rfl (Nat.le_of_ble_eq_true rfl) d_M_init_17 (fun H locs hP hS => ?_)
  have hP : hm_P D vwCl B (hm_up g a (272, .inr (6, [.int 0, .int 0, .ref q1, .ref q4, .null, .null, .null, .int 0, .int 0, .int 0, .int 0, .int 0, .int 0, .int 0, .int 0]))) H := hP
  have f3 : (hm_up g a (272, .inr (6, [.int 0, .int 0, .ref q1, .ref q4, .null, .null, .null, .int 0, .int 0, .int 0, .int 0, .int 0, .int 0, .int 0, .int 0]))) q1 = some (273, aInt (cA 0) 81920 (fun _ => 0)) := by rw [hm_up_n (hm_ne f3 ha (by omega))]; exact f3
  have f6 : (hm_up g a (272, .inr (6, [.int 0, .int 0, .ref q1, .ref q4, .null, .null, .null, .int 0, .int 0, .int 0, .int 0, .int 0, .int 0, .int 0, .int 0]))) q4 = some (274, aInt (cA 0) 81920 (fun _ => 0)) := by rw [hm_up_n (hm_ne f6 ha (by omega))]; exact f6
  have hag := hag.up (e := .inr (6, [.int 0, .int 0, .ref q1, .ref q4, .null, .null, .null, .int 0, .int 0, .int 0, .int 0, .int 0, .int 0, .int 0, .int 0])) (show 272 ≤ 272 by omega) (Or.inr ⟨_, ha⟩)
  have hf275 : ∀ (q : Nat) (e : va_E), (hm_up g a (272, .inr (6, [.int 0, .int 0, .ref q1, .ref q4, .null, .null, .null, .int 0, .int 0, .int 0, .int 0, .int 0, .int 0, .int 0, .int 0]))) q ≠ some (275, e) := fr_up hf275 (by omega)
  have hf276 : ∀ (q : Nat) (e : va_E), (hm_up g a (272, .inr (6, [.int 0, .int 0, .ref q1, .ref q4, .null, .null, .null, .int 0, .int 0, .int 0, .int 0, .int 0, .int 0, .int 0, .int 0]))) q ≠ some (276, e) := fr_up hf276 (by omega)
  have hf277 : ∀ (q : Nat) (e : va_E), (hm_up g a (272, .inr (6, [.int 0, .int 0, .ref q1, .ref q4, .null, .null, .null, .int 0, .int 0, .int 0, .int 0, .int 0, .int 0, .int 0, .int 0]))) q ≠ some (277, e) := fr_up hf277 (by omega)
  have ha : (hm_up g a (272, .inr (6, [.int 0, .int 0, .ref q1, .ref q4, .null, .null, .null, .int 0, .int 0, .int 0, .int 0, .int 0, .int 0, .int 0, .int 0]))) a = some (272, .inr (6, [.int 0, .int 0, .ref q1, .ref q4, .null, .null, .null, .int 0, .int 0, .int 0, .int 0, .int 0, .int 0, .int 0, .int 0])) := hm_up_s
  generalize hm_up g a (272, .inr (6, [.int 0, .int 0, .ref q1, .ref q4, .null, .null, .null, .int 0, .int 0, .int 0, .int 0, .int 0, .int 0, .int 0, .int 0])) = g at hP hag f3 f6 hf275 hf276 hf277 ha
  refine lv_aload_n hx hb d_M_init_20 rfl (lv_at hl 0 rfl) ?_
  refine lv_bipush (v := 80) hx hb d_M_init_21 (by decide) ?_
  refine hm_newa 3 (atype := .boolean) hx hb (hT _ k367) rfl (fun c0 hc0 => Option.some.inj (hc0.symm.trans (hK.2 3 (cA 3, .boolean) rfl).2)) hP hS (N' := 80) (by decide) (by decide) (by decide) (275) (by omega) (by unfold hm_mx; (repeat' split) <;> omega) hf275 (Nat.le_of_ble_eq_true rfl) (Nat.le_of_ble_eq_true rfl) d_M_init_23 (fun q7 H hq8 hP hS => ?_)
  have f3 : (hm_up g q7 (275, aInt (cA 3) 80 (fun _ => 0))) q1 = some (273, aInt (cA 0) 81920 (fun _ => 0)) := by rw [hm_up_n (hm_nn f3 hq8)]; exact f3
  have f6 : (hm_up g q7 (275, aInt (cA 3) 80 (fun _ => 0))) q4 = some (274, aInt (cA 0) 81920 (fun _ => 0)) := by rw [hm_up_n (hm_nn f6 hq8)]; exact f6
  have ha : (hm_up g q7 (275, aInt (cA 3) 80 (fun _ => 0))) a = some (272, .inr (6, [.int 0, .int 0, .ref q1, .ref q4, .null, .null, .null, .int 0, .int 0, .int 0, .int 0, .int 0, .int 0, .int 0, .int 0])) := by rw [hm_up_n (hm_nn ha hq8)]; exact ha
  have hag := hag.up (e := aInt (cA 3) 80 (fun _ => 0)) (show 272 ≤ 275 by omega) (Or.inl hq8)
  have hf276 : ∀ (q : Nat) (e : va_E), (hm_up g q7 (275, aInt (cA 3) 80 (fun _ => 0))) q ≠ some (276, e) := fr_up hf276 (by omega)
  have hf277 : ∀ (q : Nat) (e : va_E), (hm_up g q7 (275, aInt (cA 3) 80 (fun _ => 0))) q ≠ some (277, e) := fr_up hf277 (by omega)
  have f9 : (hm_up g q7 (275, aInt (cA 3) 80 (fun _ => 0))) q7 = some (275, aInt (cA 3) 80 (fun _ => 0)) := hm_up_s
  generalize hm_up g q7 (275, aInt (cA 3) 80 (fun _ => 0)) = g at hP hag f3 f6 ha hf276 hf277 f9
  refine hm_putF (ci := 6) (v := .ref q7) (ty := .array .boolean) (C := "BlockVaultModel") (T := T_M) (N := 15) hx hb hT in_M t_M t_M_ok n_M hown hK hP hS ha rfl 4 (by decide) (hT _ k325) (fun _ h9 => h9) rfl hin rfl (by decide +kernel) rfl rfl (Nat.le_of_ble_eq_true rfl) d_M_init_25 (fun H locs hP hS => ?_)
  have hP : hm_P D vwCl B (hm_up g a (272, .inr (6, [.int 0, .int 0, .ref q1, .ref q4, .ref q7, .null, .null, .int 0, .int 0, .int 0, .int 0, .int 0, .int 0, .int 0, .int 0]))) H := hP
  have f3 : (hm_up g a (272, .inr (6, [.int 0, .int 0, .ref q1, .ref q4, .ref q7, .null, .null, .int 0, .int 0, .int 0, .int 0, .int 0, .int 0, .int 0, .int 0]))) q1 = some (273, aInt (cA 0) 81920 (fun _ => 0)) := by rw [hm_up_n (hm_ne f3 ha (by omega))]; exact f3
  have f6 : (hm_up g a (272, .inr (6, [.int 0, .int 0, .ref q1, .ref q4, .ref q7, .null, .null, .int 0, .int 0, .int 0, .int 0, .int 0, .int 0, .int 0, .int 0]))) q4 = some (274, aInt (cA 0) 81920 (fun _ => 0)) := by rw [hm_up_n (hm_ne f6 ha (by omega))]; exact f6
  have f9 : (hm_up g a (272, .inr (6, [.int 0, .int 0, .ref q1, .ref q4, .ref q7, .null, .null, .int 0, .int 0, .int 0, .int 0, .int 0, .int 0, .int 0, .int 0]))) q7 = some (275, aInt (cA 3) 80 (fun _ => 0)) := by rw [hm_up_n (hm_ne f9 ha (by omega))]; exact f9
  have hag := hag.up (e := .inr (6, [.int 0, .int 0, .ref q1, .ref q4, .ref q7, .null, .null, .int 0, .int 0, .int 0, .int 0, .int 0, .int 0, .int 0, .int 0])) (show 272 ≤ 272 by omega) (Or.inr ⟨_, ha⟩)
  have hf276 : ∀ (q : Nat) (e : va_E), (hm_up g a (272, .inr (6, [.int 0, .int 0, .ref q1, .ref q4, .ref q7, .null, .null, .int 0, .int 0, .int 0, .int 0, .int 0, .int 0, .int 0, .int 0]))) q ≠ some (276, e) := fr_up hf276 (by omega)
  have hf277 : ∀ (q : Nat) (e : va_E), (hm_up g a (272, .inr (6, [.int 0, .int 0, .ref q1, .ref q4, .ref q7, .null, .null, .int 0, .int 0, .int 0, .int 0, .int 0, .int 0, .int 0, .int 0]))) q ≠ some (277, e) := fr_up hf277 (by omega)
  have ha : (hm_up g a (272, .inr (6, [.int 0, .int 0, .ref q1, .ref q4, .ref q7, .null, .null, .int 0, .int 0, .int 0, .int 0, .int 0, .int 0, .int 0, .int 0]))) a = some (272, .inr (6, [.int 0, .int 0, .ref q1, .ref q4, .ref q7, .null, .null, .int 0, .int 0, .int 0, .int 0, .int 0, .int 0, .int 0, .int 0])) := hm_up_s
  generalize hm_up g a (272, .inr (6, [.int 0, .int 0, .ref q1, .ref q4, .ref q7, .null, .null, .int 0, .int 0, .int 0, .int 0, .int 0, .int 0, .int 0, .int 0])) = g at hP hag f3 f6 f9 hf276 hf277 ha
  refine lv_aload_n hx hb d_M_init_28 rfl (lv_at hl 0 rfl) ?_
  refine lv_bipush (v := 80) hx hb d_M_init_29 (by decide) ?_
  refine hm_newa 3 (atype := .boolean) hx hb (hT _ k367) rfl (fun c0 hc0 => Option.some.inj (hc0.symm.trans (hK.2 3 (cA 3, .boolean) rfl).2)) hP hS (N' := 80) (by decide) (by decide) (by decide) (276) (by omega) (by unfold hm_mx; (repeat' split) <;> omega) hf276 (Nat.le_of_ble_eq_true rfl) (Nat.le_of_ble_eq_true rfl) d_M_init_31 (fun q10 H hq11 hP hS => ?_)
  have f3 : (hm_up g q10 (276, aInt (cA 3) 80 (fun _ => 0))) q1 = some (273, aInt (cA 0) 81920 (fun _ => 0)) := by rw [hm_up_n (hm_nn f3 hq11)]; exact f3
  have f6 : (hm_up g q10 (276, aInt (cA 3) 80 (fun _ => 0))) q4 = some (274, aInt (cA 0) 81920 (fun _ => 0)) := by rw [hm_up_n (hm_nn f6 hq11)]; exact f6
  have f9 : (hm_up g q10 (276, aInt (cA 3) 80 (fun _ => 0))) q7 = some (275, aInt (cA 3) 80 (fun _ => 0)) := by rw [hm_up_n (hm_nn f9 hq11)]; exact f9
  have ha : (hm_up g q10 (276, aInt (cA 3) 80 (fun _ => 0))) a = some (272, .inr (6, [.int 0, .int 0, .ref q1, .ref q4, .ref q7, .null, .null, .int 0, .int 0, .int 0, .int 0, .int 0, .int 0, .int 0, .int 0])) := by rw [hm_up_n (hm_nn ha hq11)]; exact ha
  have hag := hag.up (e := aInt (cA 3) 80 (fun _ => 0)) (show 272 ≤ 276 by omega) (Or.inl hq11)
  have hf277 : ∀ (q : Nat) (e : va_E), (hm_up g q10 (276, aInt (cA 3) 80 (fun _ => 0))) q ≠ some (277, e) := fr_up hf277 (by omega)
  have f12 : (hm_up g q10 (276, aInt (cA 3) 80 (fun _ => 0))) q10 = some (276, aInt (cA 3) 80 (fun _ => 0)) := hm_up_s
  generalize hm_up g q10 (276, aInt (cA 3) 80 (fun _ => 0)) = g at hP hag f3 f6 f9 ha hf277 f12
  refine hm_putF (ci := 6) (v := .ref q10) (ty := .array .boolean) (C := "BlockVaultModel") (T := T_M) (N := 15) hx hb hT in_M t_M t_M_ok n_M hown hK hP hS ha rfl 5 (by decide) (hT _ k326) (fun _ h9 => h9) rfl hin rfl (by decide +kernel) rfl rfl (Nat.le_of_ble_eq_true rfl) d_M_init_33 (fun H locs hP hS => ?_)
  have hP : hm_P D vwCl B (hm_up g a (272, .inr (6, [.int 0, .int 0, .ref q1, .ref q4, .ref q7, .ref q10, .null, .int 0, .int 0, .int 0, .int 0, .int 0, .int 0, .int 0, .int 0]))) H := hP
  have f3 : (hm_up g a (272, .inr (6, [.int 0, .int 0, .ref q1, .ref q4, .ref q7, .ref q10, .null, .int 0, .int 0, .int 0, .int 0, .int 0, .int 0, .int 0, .int 0]))) q1 = some (273, aInt (cA 0) 81920 (fun _ => 0)) := by rw [hm_up_n (hm_ne f3 ha (by omega))]; exact f3
  have f6 : (hm_up g a (272, .inr (6, [.int 0, .int 0, .ref q1, .ref q4, .ref q7, .ref q10, .null, .int 0, .int 0, .int 0, .int 0, .int 0, .int 0, .int 0, .int 0]))) q4 = some (274, aInt (cA 0) 81920 (fun _ => 0)) := by rw [hm_up_n (hm_ne f6 ha (by omega))]; exact f6
  have f9 : (hm_up g a (272, .inr (6, [.int 0, .int 0, .ref q1, .ref q4, .ref q7, .ref q10, .null, .int 0, .int 0, .int 0, .int 0, .int 0, .int 0, .int 0, .int 0]))) q7 = some (275, aInt (cA 3) 80 (fun _ => 0)) := by rw [hm_up_n (hm_ne f9 ha (by omega))]; exact f9
  have f12 : (hm_up g a (272, .inr (6, [.int 0, .int 0, .ref q1, .ref q4, .ref q7, .ref q10, .null, .int 0, .int 0, .int 0, .int 0, .int 0, .int 0, .int 0, .int 0]))) q10 = some (276, aInt (cA 3) 80 (fun _ => 0)) := by rw [hm_up_n (hm_ne f12 ha (by omega))]; exact f12
  have hag := hag.up (e := .inr (6, [.int 0, .int 0, .ref q1, .ref q4, .ref q7, .ref q10, .null, .int 0, .int 0, .int 0, .int 0, .int 0, .int 0, .int 0, .int 0])) (show 272 ≤ 272 by omega) (Or.inr ⟨_, ha⟩)
  have hf277 : ∀ (q : Nat) (e : va_E), (hm_up g a (272, .inr (6, [.int 0, .int 0, .ref q1, .ref q4, .ref q7, .ref q10, .null, .int 0, .int 0, .int 0, .int 0, .int 0, .int 0, .int 0, .int 0]))) q ≠ some (277, e) := fr_up hf277 (by omega)
  have ha : (hm_up g a (272, .inr (6, [.int 0, .int 0, .ref q1, .ref q4, .ref q7, .ref q10, .null, .int 0, .int 0, .int 0, .int 0, .int 0, .int 0, .int 0, .int 0]))) a = some (272, .inr (6, [.int 0, .int 0, .ref q1, .ref q4, .ref q7, .ref q10, .null, .int 0, .int 0, .int 0, .int 0, .int 0, .int 0, .int 0, .int 0])) := hm_up_s
  generalize hm_up g a (272, .inr (6, [.int 0, .int 0, .ref q1, .ref q4, .ref q7, .ref q10, .null, .int 0, .int 0, .int 0, .int 0, .int 0, .int 0, .int 0, .int 0])) = g at hP hag f3 f6 f9 f12 hf277 ha
  refine lv_aload_n hx hb d_M_init_36 rfl (lv_at hl 0 rfl) ?_
  refine lv_bipush (v := 80) hx hb d_M_init_37 (by decide) ?_
  refine hm_newa 4 (atype := .int) hx hb (hT _ k368) rfl (fun c0 hc0 => Option.some.inj (hc0.symm.trans (hK.2 4 (cA 4, .int) rfl).2)) hP hS (N' := 80) (by decide) (by decide) (by decide) (277) (by omega) (by unfold hm_mx; (repeat' split) <;> omega) hf277 (Nat.le_of_ble_eq_true rfl) (Nat.le_of_ble_eq_true rfl) d_M_init_39 (fun q13 H hq14 hP hS => ?_)
  have f3 : (hm_up g q13 (277, aInt (cA 4) 80 (fun _ => 0))) q1 = some (273, aInt (cA 0) 81920 (fun _ => 0)) := by rw [hm_up_n (hm_nn f3 hq14)]; exact f3
  have f6 : (hm_up g q13 (277, aInt (cA 4) 80 (fun _ => 0))) q4 = some (274, aInt (cA 0) 81920 (fun _ => 0)) := by rw [hm_up_n (hm_nn f6 hq14)]; exact f6
  have f9 : (hm_up g q13 (277, aInt (cA 4) 80 (fun _ => 0))) q7 = some (275, aInt (cA 3) 80 (fun _ => 0)) := by rw [hm_up_n (hm_nn f9 hq14)]; exact f9
  have f12 : (hm_up g q13 (277, aInt (cA 4) 80 (fun _ => 0))) q10 = some (276, aInt (cA 3) 80 (fun _ => 0)) := by rw [hm_up_n (hm_nn f12 hq14)]; exact f12
  have ha : (hm_up g q13 (277, aInt (cA 4) 80 (fun _ => 0))) a = some (272, .inr (6, [.int 0, .int 0, .ref q1, .ref q4, .ref q7, .ref q10, .null, .int 0, .int 0, .int 0, .int 0, .int 0, .int 0, .int 0, .int 0])) := by rw [hm_up_n (hm_nn ha hq14)]; exact ha
  have hag := hag.up (e := aInt (cA 4) 80 (fun _ => 0)) (show 272 ≤ 277 by omega) (Or.inl hq14)
  have f15 : (hm_up g q13 (277, aInt (cA 4) 80 (fun _ => 0))) q13 = some (277, aInt (cA 4) 80 (fun _ => 0)) := hm_up_s
  generalize hm_up g q13 (277, aInt (cA 4) 80 (fun _ => 0)) = g at hP hag f3 f6 f9 f12 ha f15
  refine hm_putF (ci := 6) (v := .ref q13) (ty := .array .int) (C := "BlockVaultModel") (T := T_M) (N := 15) hx hb hT in_M t_M t_M_ok n_M hown hK hP hS ha rfl 6 (by decide) (hT _ k327) (fun _ h9 => h9) rfl hin rfl (by decide +kernel) rfl rfl (Nat.le_of_ble_eq_true rfl) d_M_init_41 (fun H locs hP hS => ?_)
  have hP : hm_P D vwCl B (hm_up g a (272, .inr (6, [.int 0, .int 0, .ref q1, .ref q4, .ref q7, .ref q10, .ref q13, .int 0, .int 0, .int 0, .int 0, .int 0, .int 0, .int 0, .int 0]))) H := hP
  have f3 : (hm_up g a (272, .inr (6, [.int 0, .int 0, .ref q1, .ref q4, .ref q7, .ref q10, .ref q13, .int 0, .int 0, .int 0, .int 0, .int 0, .int 0, .int 0, .int 0]))) q1 = some (273, aInt (cA 0) 81920 (fun _ => 0)) := by rw [hm_up_n (hm_ne f3 ha (by omega))]; exact f3
  have f6 : (hm_up g a (272, .inr (6, [.int 0, .int 0, .ref q1, .ref q4, .ref q7, .ref q10, .ref q13, .int 0, .int 0, .int 0, .int 0, .int 0, .int 0, .int 0, .int 0]))) q4 = some (274, aInt (cA 0) 81920 (fun _ => 0)) := by rw [hm_up_n (hm_ne f6 ha (by omega))]; exact f6
  have f9 : (hm_up g a (272, .inr (6, [.int 0, .int 0, .ref q1, .ref q4, .ref q7, .ref q10, .ref q13, .int 0, .int 0, .int 0, .int 0, .int 0, .int 0, .int 0, .int 0]))) q7 = some (275, aInt (cA 3) 80 (fun _ => 0)) := by rw [hm_up_n (hm_ne f9 ha (by omega))]; exact f9
  have f12 : (hm_up g a (272, .inr (6, [.int 0, .int 0, .ref q1, .ref q4, .ref q7, .ref q10, .ref q13, .int 0, .int 0, .int 0, .int 0, .int 0, .int 0, .int 0, .int 0]))) q10 = some (276, aInt (cA 3) 80 (fun _ => 0)) := by rw [hm_up_n (hm_ne f12 ha (by omega))]; exact f12
  have f15 : (hm_up g a (272, .inr (6, [.int 0, .int 0, .ref q1, .ref q4, .ref q7, .ref q10, .ref q13, .int 0, .int 0, .int 0, .int 0, .int 0, .int 0, .int 0, .int 0]))) q13 = some (277, aInt (cA 4) 80 (fun _ => 0)) := by rw [hm_up_n (hm_ne f15 ha (by omega))]; exact f15
  have hag := hag.up (e := .inr (6, [.int 0, .int 0, .ref q1, .ref q4, .ref q7, .ref q10, .ref q13, .int 0, .int 0, .int 0, .int 0, .int 0, .int 0, .int 0, .int 0])) (show 272 ≤ 272 by omega) (Or.inr ⟨_, ha⟩)
  have ha : (hm_up g a (272, .inr (6, [.int 0, .int 0, .ref q1, .ref q4, .ref q7, .ref q10, .ref q13, .int 0, .int 0, .int 0, .int 0, .int 0, .int 0, .int 0, .int 0]))) a = some (272, .inr (6, [.int 0, .int 0, .ref q1, .ref q4, .ref q7, .ref q10, .ref q13, .int 0, .int 0, .int 0, .int 0, .int 0, .int 0, .int 0, .int 0])) := hm_up_s
  generalize hm_up g a (272, .inr (6, [.int 0, .int 0, .ref q1, .ref q4, .ref q7, .ref q10, .ref q13, .int 0, .int 0, .int 0, .int 0, .int 0, .int 0, .int 0, .int 0])) = g at hP hag f3 f6 f9 f12 f15 ha
  refine lv_aload_n hx hb d_M_init_44 rfl (lv_at hl 0 rfl) ?_
  refine lv_iconst (v := 1) hx hb d_M_init_45 (by decide) ?_
  refine hm_put (ci := 6) (v := .int 1) (ty := .boolean) (C := "BlockVaultModel") (T := T_M) (N := 15) hx hb hT in_M t_M t_M_ok n_M hown hK hP hS ha rfl 8 (by decide) (hT _ k329) (fun _ h9 => h9) rfl (by decide +kernel) rfl rfl (Nat.le_of_ble_eq_true rfl) d_M_init_46 (fun H locs hP hS => ?_)
  have hP : hm_P D vwCl B (hm_up g a (272, .inr (6, [.int 0, .int 0, .ref q1, .ref q4, .ref q7, .ref q10, .ref q13, .int 0, .int 1, .int 0, .int 0, .int 0, .int 0, .int 0, .int 0]))) H := hP
  have f3 : (hm_up g a (272, .inr (6, [.int 0, .int 0, .ref q1, .ref q4, .ref q7, .ref q10, .ref q13, .int 0, .int 1, .int 0, .int 0, .int 0, .int 0, .int 0, .int 0]))) q1 = some (273, aInt (cA 0) 81920 (fun _ => 0)) := by rw [hm_up_n (hm_ne f3 ha (by omega))]; exact f3
  have f6 : (hm_up g a (272, .inr (6, [.int 0, .int 0, .ref q1, .ref q4, .ref q7, .ref q10, .ref q13, .int 0, .int 1, .int 0, .int 0, .int 0, .int 0, .int 0, .int 0]))) q4 = some (274, aInt (cA 0) 81920 (fun _ => 0)) := by rw [hm_up_n (hm_ne f6 ha (by omega))]; exact f6
  have f9 : (hm_up g a (272, .inr (6, [.int 0, .int 0, .ref q1, .ref q4, .ref q7, .ref q10, .ref q13, .int 0, .int 1, .int 0, .int 0, .int 0, .int 0, .int 0, .int 0]))) q7 = some (275, aInt (cA 3) 80 (fun _ => 0)) := by rw [hm_up_n (hm_ne f9 ha (by omega))]; exact f9
  have f12 : (hm_up g a (272, .inr (6, [.int 0, .int 0, .ref q1, .ref q4, .ref q7, .ref q10, .ref q13, .int 0, .int 1, .int 0, .int 0, .int 0, .int 0, .int 0, .int 0]))) q10 = some (276, aInt (cA 3) 80 (fun _ => 0)) := by rw [hm_up_n (hm_ne f12 ha (by omega))]; exact f12
  have f15 : (hm_up g a (272, .inr (6, [.int 0, .int 0, .ref q1, .ref q4, .ref q7, .ref q10, .ref q13, .int 0, .int 1, .int 0, .int 0, .int 0, .int 0, .int 0, .int 0]))) q13 = some (277, aInt (cA 4) 80 (fun _ => 0)) := by rw [hm_up_n (hm_ne f15 ha (by omega))]; exact f15
  have hag := hag.up (e := .inr (6, [.int 0, .int 0, .ref q1, .ref q4, .ref q7, .ref q10, .ref q13, .int 0, .int 1, .int 0, .int 0, .int 0, .int 0, .int 0, .int 0])) (show 272 ≤ 272 by omega) (Or.inr ⟨_, ha⟩)
  have ha : (hm_up g a (272, .inr (6, [.int 0, .int 0, .ref q1, .ref q4, .ref q7, .ref q10, .ref q13, .int 0, .int 1, .int 0, .int 0, .int 0, .int 0, .int 0, .int 0]))) a = some (272, .inr (6, [.int 0, .int 0, .ref q1, .ref q4, .ref q7, .ref q10, .ref q13, .int 0, .int 1, .int 0, .int 0, .int 0, .int 0, .int 0, .int 0])) := hm_up_s
  generalize hm_up g a (272, .inr (6, [.int 0, .int 0, .ref q1, .ref q4, .ref q7, .ref q10, .ref q13, .int 0, .int 1, .int 0, .int 0, .int 0, .int 0, .int 0, .int 0])) = g at hP hag f3 f6 f9 f12 f15 ha
  refine lv_aload_n hx hb d_M_init_49 rfl (lv_at hl 0 rfl) ?_
  refine lv_iconst (v := (-1)) hx hb d_M_init_50 (by decide) ?_
  refine hm_put (ci := 6) (v := .int (-1)) (ty := .int) (C := "BlockVaultModel") (T := T_M) (N := 15) hx hb hT in_M t_M t_M_ok n_M hown hK hP hS ha rfl 10 (by decide) (hT _ k331) (fun _ h9 => h9) rfl (by decide +kernel) rfl rfl (Nat.le_of_ble_eq_true rfl) d_M_init_51 (fun H locs hP hS => ?_)
  have hP : hm_P D vwCl B (hm_up g a (272, .inr (6, [.int 0, .int 0, .ref q1, .ref q4, .ref q7, .ref q10, .ref q13, .int 0, .int 1, .int 0, .int (-1), .int 0, .int 0, .int 0, .int 0]))) H := hP
  have f3 : (hm_up g a (272, .inr (6, [.int 0, .int 0, .ref q1, .ref q4, .ref q7, .ref q10, .ref q13, .int 0, .int 1, .int 0, .int (-1), .int 0, .int 0, .int 0, .int 0]))) q1 = some (273, aInt (cA 0) 81920 (fun _ => 0)) := by rw [hm_up_n (hm_ne f3 ha (by omega))]; exact f3
  have f6 : (hm_up g a (272, .inr (6, [.int 0, .int 0, .ref q1, .ref q4, .ref q7, .ref q10, .ref q13, .int 0, .int 1, .int 0, .int (-1), .int 0, .int 0, .int 0, .int 0]))) q4 = some (274, aInt (cA 0) 81920 (fun _ => 0)) := by rw [hm_up_n (hm_ne f6 ha (by omega))]; exact f6
  have f9 : (hm_up g a (272, .inr (6, [.int 0, .int 0, .ref q1, .ref q4, .ref q7, .ref q10, .ref q13, .int 0, .int 1, .int 0, .int (-1), .int 0, .int 0, .int 0, .int 0]))) q7 = some (275, aInt (cA 3) 80 (fun _ => 0)) := by rw [hm_up_n (hm_ne f9 ha (by omega))]; exact f9
  have f12 : (hm_up g a (272, .inr (6, [.int 0, .int 0, .ref q1, .ref q4, .ref q7, .ref q10, .ref q13, .int 0, .int 1, .int 0, .int (-1), .int 0, .int 0, .int 0, .int 0]))) q10 = some (276, aInt (cA 3) 80 (fun _ => 0)) := by rw [hm_up_n (hm_ne f12 ha (by omega))]; exact f12
  have f15 : (hm_up g a (272, .inr (6, [.int 0, .int 0, .ref q1, .ref q4, .ref q7, .ref q10, .ref q13, .int 0, .int 1, .int 0, .int (-1), .int 0, .int 0, .int 0, .int 0]))) q13 = some (277, aInt (cA 4) 80 (fun _ => 0)) := by rw [hm_up_n (hm_ne f15 ha (by omega))]; exact f15
  have hag := hag.up (e := .inr (6, [.int 0, .int 0, .ref q1, .ref q4, .ref q7, .ref q10, .ref q13, .int 0, .int 1, .int 0, .int (-1), .int 0, .int 0, .int 0, .int 0])) (show 272 ≤ 272 by omega) (Or.inr ⟨_, ha⟩)
  have ha : (hm_up g a (272, .inr (6, [.int 0, .int 0, .ref q1, .ref q4, .ref q7, .ref q10, .ref q13, .int 0, .int 1, .int 0, .int (-1), .int 0, .int 0, .int 0, .int 0]))) a = some (272, .inr (6, [.int 0, .int 0, .ref q1, .ref q4, .ref q7, .ref q10, .ref q13, .int 0, .int 1, .int 0, .int (-1), .int 0, .int 0, .int 0, .int 0])) := hm_up_s
  generalize hm_up g a (272, .inr (6, [.int 0, .int 0, .ref q1, .ref q4, .ref q7, .ref q10, .ref q13, .int 0, .int 1, .int 0, .int (-1), .int 0, .int 0, .int 0, .int 0])) = g at hP hag f3 f6 f9 f12 f15 ha
  refine lv_aload_n hx hb d_M_init_54 rfl (lv_at hl 0 rfl) ?_
  refine lv_iconst (v := (-1)) hx hb d_M_init_55 (by decide) ?_
  refine hm_put (ci := 6) (v := .int (-1)) (ty := .int) (C := "BlockVaultModel") (T := T_M) (N := 15) hx hb hT in_M t_M t_M_ok n_M hown hK hP hS ha rfl 14 (by decide) (hT _ k335) (fun _ h9 => h9) rfl (by decide +kernel) rfl rfl (Nat.le_of_ble_eq_true rfl) d_M_init_56 (fun H locs hP hS => ?_)
  have hP : hm_P D vwCl B (hm_up g a (272, .inr (6, [.int 0, .int 0, .ref q1, .ref q4, .ref q7, .ref q10, .ref q13, .int 0, .int 1, .int 0, .int (-1), .int 0, .int 0, .int 0, .int (-1)]))) H := hP
  have f3 : (hm_up g a (272, .inr (6, [.int 0, .int 0, .ref q1, .ref q4, .ref q7, .ref q10, .ref q13, .int 0, .int 1, .int 0, .int (-1), .int 0, .int 0, .int 0, .int (-1)]))) q1 = some (273, aInt (cA 0) 81920 (fun _ => 0)) := by rw [hm_up_n (hm_ne f3 ha (by omega))]; exact f3
  have f6 : (hm_up g a (272, .inr (6, [.int 0, .int 0, .ref q1, .ref q4, .ref q7, .ref q10, .ref q13, .int 0, .int 1, .int 0, .int (-1), .int 0, .int 0, .int 0, .int (-1)]))) q4 = some (274, aInt (cA 0) 81920 (fun _ => 0)) := by rw [hm_up_n (hm_ne f6 ha (by omega))]; exact f6
  have f9 : (hm_up g a (272, .inr (6, [.int 0, .int 0, .ref q1, .ref q4, .ref q7, .ref q10, .ref q13, .int 0, .int 1, .int 0, .int (-1), .int 0, .int 0, .int 0, .int (-1)]))) q7 = some (275, aInt (cA 3) 80 (fun _ => 0)) := by rw [hm_up_n (hm_ne f9 ha (by omega))]; exact f9
  have f12 : (hm_up g a (272, .inr (6, [.int 0, .int 0, .ref q1, .ref q4, .ref q7, .ref q10, .ref q13, .int 0, .int 1, .int 0, .int (-1), .int 0, .int 0, .int 0, .int (-1)]))) q10 = some (276, aInt (cA 3) 80 (fun _ => 0)) := by rw [hm_up_n (hm_ne f12 ha (by omega))]; exact f12
  have f15 : (hm_up g a (272, .inr (6, [.int 0, .int 0, .ref q1, .ref q4, .ref q7, .ref q10, .ref q13, .int 0, .int 1, .int 0, .int (-1), .int 0, .int 0, .int 0, .int (-1)]))) q13 = some (277, aInt (cA 4) 80 (fun _ => 0)) := by rw [hm_up_n (hm_ne f15 ha (by omega))]; exact f15
  have hag := hag.up (e := .inr (6, [.int 0, .int 0, .ref q1, .ref q4, .ref q7, .ref q10, .ref q13, .int 0, .int 1, .int 0, .int (-1), .int 0, .int 0, .int 0, .int (-1)])) (show 272 ≤ 272 by omega) (Or.inr ⟨_, ha⟩)
  have ha : (hm_up g a (272, .inr (6, [.int 0, .int 0, .ref q1, .ref q4, .ref q7, .ref q10, .ref q13, .int 0, .int 1, .int 0, .int (-1), .int 0, .int 0, .int 0, .int (-1)]))) a = some (272, .inr (6, [.int 0, .int 0, .ref q1, .ref q4, .ref q7, .ref q10, .ref q13, .int 0, .int 1, .int 0, .int (-1), .int 0, .int 0, .int 0, .int (-1)])) := hm_up_s
  generalize hm_up g a (272, .inr (6, [.int 0, .int 0, .ref q1, .ref q4, .ref q7, .ref q10, .ref q13, .int 0, .int 1, .int 0, .int (-1), .int 0, .int 0, .int 0, .int (-1)])) = g at hP hag f3 f6 f9 f12 f15 ha
  refine lv_aload_n hx hb d_M_init_59 rfl (lv_at hl 0 rfl) ?_
  refine lv_iload_n hx hb d_M_init_60 rfl (lv_at hl 1 rfl) ?_
  refine lv_bipush (v := 40) hx hb d_M_init_61 (by decide) ?_
  refine lv_icmp_ge (tgt := 71) hx hb d_M_init_63 rfl (fun c16 => ?_) (fun c16 => ?_)
  · refine lv_iload_n hx hb d_M_init_71 rfl (lv_at hl 1 rfl) ?_
    refine lv_bipush (v := 80) hx hb d_M_init_72 (by decide) ?_
    refine lv_icmp_le (tgt := 82) hx hb d_M_init_74 rfl (fun c17 => ?_) (fun c17 => ?_)
    · refine lv_iload_n hx hb d_M_init_82 rfl (lv_at hl 1 rfl) ?_
      refine hm_putF (ci := 6) (v := .int x) (ty := .int) (C := "BlockVaultModel") (T := T_M) (N := 15) hx hb hT in_M t_M t_M_ok n_M hown hK hP hS ha rfl 1 (by decide) (hT _ k322) (fun _ h9 => h9) rfl hin rfl (by decide +kernel) rfl rfl (Nat.le_of_ble_eq_true rfl) d_M_init_83 (fun H locs hP hS => ?_)
      have hP : hm_P D vwCl B (hm_up g a (272, .inr (6, [.int 0, .int x, .ref q1, .ref q4, .ref q7, .ref q10, .ref q13, .int 0, .int 1, .int 0, .int (-1), .int 0, .int 0, .int 0, .int (-1)]))) H := hP
      have f3 : (hm_up g a (272, .inr (6, [.int 0, .int x, .ref q1, .ref q4, .ref q7, .ref q10, .ref q13, .int 0, .int 1, .int 0, .int (-1), .int 0, .int 0, .int 0, .int (-1)]))) q1 = some (273, aInt (cA 0) 81920 (fun _ => 0)) := by rw [hm_up_n (hm_ne f3 ha (by omega))]; exact f3
      have f6 : (hm_up g a (272, .inr (6, [.int 0, .int x, .ref q1, .ref q4, .ref q7, .ref q10, .ref q13, .int 0, .int 1, .int 0, .int (-1), .int 0, .int 0, .int 0, .int (-1)]))) q4 = some (274, aInt (cA 0) 81920 (fun _ => 0)) := by rw [hm_up_n (hm_ne f6 ha (by omega))]; exact f6
      have f9 : (hm_up g a (272, .inr (6, [.int 0, .int x, .ref q1, .ref q4, .ref q7, .ref q10, .ref q13, .int 0, .int 1, .int 0, .int (-1), .int 0, .int 0, .int 0, .int (-1)]))) q7 = some (275, aInt (cA 3) 80 (fun _ => 0)) := by rw [hm_up_n (hm_ne f9 ha (by omega))]; exact f9
      have f12 : (hm_up g a (272, .inr (6, [.int 0, .int x, .ref q1, .ref q4, .ref q7, .ref q10, .ref q13, .int 0, .int 1, .int 0, .int (-1), .int 0, .int 0, .int 0, .int (-1)]))) q10 = some (276, aInt (cA 3) 80 (fun _ => 0)) := by rw [hm_up_n (hm_ne f12 ha (by omega))]; exact f12
      have f15 : (hm_up g a (272, .inr (6, [.int 0, .int x, .ref q1, .ref q4, .ref q7, .ref q10, .ref q13, .int 0, .int 1, .int 0, .int (-1), .int 0, .int 0, .int 0, .int (-1)]))) q13 = some (277, aInt (cA 4) 80 (fun _ => 0)) := by rw [hm_up_n (hm_ne f15 ha (by omega))]; exact f15
      have hag := hag.up (e := .inr (6, [.int 0, .int x, .ref q1, .ref q4, .ref q7, .ref q10, .ref q13, .int 0, .int 1, .int 0, .int (-1), .int 0, .int 0, .int 0, .int (-1)])) (show 272 ≤ 272 by omega) (Or.inr ⟨_, ha⟩)
      have ha : (hm_up g a (272, .inr (6, [.int 0, .int x, .ref q1, .ref q4, .ref q7, .ref q10, .ref q13, .int 0, .int 1, .int 0, .int (-1), .int 0, .int 0, .int 0, .int (-1)]))) a = some (272, .inr (6, [.int 0, .int x, .ref q1, .ref q4, .ref q7, .ref q10, .ref q13, .int 0, .int 1, .int 0, .int (-1), .int 0, .int 0, .int 0, .int (-1)])) := hm_up_s
      generalize hm_up g a (272, .inr (6, [.int 0, .int x, .ref q1, .ref q4, .ref q7, .ref q10, .ref q13, .int 0, .int 1, .int 0, .int (-1), .int 0, .int 0, .int 0, .int (-1)])) = g at hP hag f3 f6 f9 f12 f15 ha
      refine W.widen (k := 5) (n := 164080) (by omega) (by omega) ?_
      exact W.vret hx hb hr (fun t9 ht9 hwz => ⟨⟨g, rfl, ⟨⟨_, _, _, _, _, by rw [show clN x = x from by unfold clN; rw [if_neg (Int32.not_lt.mpr c16), if_neg (Int32.not_lt.mpr c17)]]; exact ha, f3, f6, f9, f12, f15⟩, hag⟩, by rw [ht9]; exact hP, va_K.moved hwz.alike hK, hN.warm hwz⟩, hS.F ht9⟩) hS.2.2 d_M_init_86
    · refine lv_bipush (v := 80) hx hb d_M_init_77 (by decide) ?_
      refine lv_goto (tgt := 83) hx hb d_M_init_79 rfl ?_
      refine hm_putF (ci := 6) (v := .int 80) (ty := .int) (C := "BlockVaultModel") (T := T_M) (N := 15) hx hb hT in_M t_M t_M_ok n_M hown hK hP hS ha rfl 1 (by decide) (hT _ k322) (fun _ h9 => h9) rfl hin rfl (by decide +kernel) rfl rfl (Nat.le_of_ble_eq_true rfl) d_M_init_83 (fun H locs hP hS => ?_)
      have hP : hm_P D vwCl B (hm_up g a (272, .inr (6, [.int 0, .int 80, .ref q1, .ref q4, .ref q7, .ref q10, .ref q13, .int 0, .int 1, .int 0, .int (-1), .int 0, .int 0, .int 0, .int (-1)]))) H := hP
      have f3 : (hm_up g a (272, .inr (6, [.int 0, .int 80, .ref q1, .ref q4, .ref q7, .ref q10, .ref q13, .int 0, .int 1, .int 0, .int (-1), .int 0, .int 0, .int 0, .int (-1)]))) q1 = some (273, aInt (cA 0) 81920 (fun _ => 0)) := by rw [hm_up_n (hm_ne f3 ha (by omega))]; exact f3
      have f6 : (hm_up g a (272, .inr (6, [.int 0, .int 80, .ref q1, .ref q4, .ref q7, .ref q10, .ref q13, .int 0, .int 1, .int 0, .int (-1), .int 0, .int 0, .int 0, .int (-1)]))) q4 = some (274, aInt (cA 0) 81920 (fun _ => 0)) := by rw [hm_up_n (hm_ne f6 ha (by omega))]; exact f6
      have f9 : (hm_up g a (272, .inr (6, [.int 0, .int 80, .ref q1, .ref q4, .ref q7, .ref q10, .ref q13, .int 0, .int 1, .int 0, .int (-1), .int 0, .int 0, .int 0, .int (-1)]))) q7 = some (275, aInt (cA 3) 80 (fun _ => 0)) := by rw [hm_up_n (hm_ne f9 ha (by omega))]; exact f9
      have f12 : (hm_up g a (272, .inr (6, [.int 0, .int 80, .ref q1, .ref q4, .ref q7, .ref q10, .ref q13, .int 0, .int 1, .int 0, .int (-1), .int 0, .int 0, .int 0, .int (-1)]))) q10 = some (276, aInt (cA 3) 80 (fun _ => 0)) := by rw [hm_up_n (hm_ne f12 ha (by omega))]; exact f12
      have f15 : (hm_up g a (272, .inr (6, [.int 0, .int 80, .ref q1, .ref q4, .ref q7, .ref q10, .ref q13, .int 0, .int 1, .int 0, .int (-1), .int 0, .int 0, .int 0, .int (-1)]))) q13 = some (277, aInt (cA 4) 80 (fun _ => 0)) := by rw [hm_up_n (hm_ne f15 ha (by omega))]; exact f15
      have hag := hag.up (e := .inr (6, [.int 0, .int 80, .ref q1, .ref q4, .ref q7, .ref q10, .ref q13, .int 0, .int 1, .int 0, .int (-1), .int 0, .int 0, .int 0, .int (-1)])) (show 272 ≤ 272 by omega) (Or.inr ⟨_, ha⟩)
      have ha : (hm_up g a (272, .inr (6, [.int 0, .int 80, .ref q1, .ref q4, .ref q7, .ref q10, .ref q13, .int 0, .int 1, .int 0, .int (-1), .int 0, .int 0, .int 0, .int (-1)]))) a = some (272, .inr (6, [.int 0, .int 80, .ref q1, .ref q4, .ref q7, .ref q10, .ref q13, .int 0, .int 1, .int 0, .int (-1), .int 0, .int 0, .int 0, .int (-1)])) := hm_up_s
      generalize hm_up g a (272, .inr (6, [.int 0, .int 80, .ref q1, .ref q4, .ref q7, .ref q10, .ref q13, .int 0, .int 1, .int 0, .int (-1), .int 0, .int 0, .int 0, .int (-1)])) = g at hP hag f3 f6 f9 f12 f15 ha
      refine W.widen (k := 5) (n := 164080) (by omega) (by omega) ?_
      exact W.vret hx hb hr (fun t9 ht9 hwz => ⟨⟨g, rfl, ⟨⟨_, _, _, _, _, by rw [show clN x = 80 from by unfold clN; rw [if_neg (Int32.not_lt.mpr c16), if_pos (Int32.not_le.mp c17)]]; exact ha, f3, f6, f9, f12, f15⟩, hag⟩, by rw [ht9]; exact hP, va_K.moved hwz.alike hK, hN.warm hwz⟩, hS.F ht9⟩) hS.2.2 d_M_init_86
  · refine lv_bipush (v := 40) hx hb d_M_init_66 (by decide) ?_
    refine lv_goto (tgt := 83) hx hb d_M_init_68 rfl ?_
    refine hm_putF (ci := 6) (v := .int 40) (ty := .int) (C := "BlockVaultModel") (T := T_M) (N := 15) hx hb hT in_M t_M t_M_ok n_M hown hK hP hS ha rfl 1 (by decide) (hT _ k322) (fun _ h9 => h9) rfl hin rfl (by decide +kernel) rfl rfl (Nat.le_of_ble_eq_true rfl) d_M_init_83 (fun H locs hP hS => ?_)
    have hP : hm_P D vwCl B (hm_up g a (272, .inr (6, [.int 0, .int 40, .ref q1, .ref q4, .ref q7, .ref q10, .ref q13, .int 0, .int 1, .int 0, .int (-1), .int 0, .int 0, .int 0, .int (-1)]))) H := hP
    have f3 : (hm_up g a (272, .inr (6, [.int 0, .int 40, .ref q1, .ref q4, .ref q7, .ref q10, .ref q13, .int 0, .int 1, .int 0, .int (-1), .int 0, .int 0, .int 0, .int (-1)]))) q1 = some (273, aInt (cA 0) 81920 (fun _ => 0)) := by rw [hm_up_n (hm_ne f3 ha (by omega))]; exact f3
    have f6 : (hm_up g a (272, .inr (6, [.int 0, .int 40, .ref q1, .ref q4, .ref q7, .ref q10, .ref q13, .int 0, .int 1, .int 0, .int (-1), .int 0, .int 0, .int 0, .int (-1)]))) q4 = some (274, aInt (cA 0) 81920 (fun _ => 0)) := by rw [hm_up_n (hm_ne f6 ha (by omega))]; exact f6
    have f9 : (hm_up g a (272, .inr (6, [.int 0, .int 40, .ref q1, .ref q4, .ref q7, .ref q10, .ref q13, .int 0, .int 1, .int 0, .int (-1), .int 0, .int 0, .int 0, .int (-1)]))) q7 = some (275, aInt (cA 3) 80 (fun _ => 0)) := by rw [hm_up_n (hm_ne f9 ha (by omega))]; exact f9
    have f12 : (hm_up g a (272, .inr (6, [.int 0, .int 40, .ref q1, .ref q4, .ref q7, .ref q10, .ref q13, .int 0, .int 1, .int 0, .int (-1), .int 0, .int 0, .int 0, .int (-1)]))) q10 = some (276, aInt (cA 3) 80 (fun _ => 0)) := by rw [hm_up_n (hm_ne f12 ha (by omega))]; exact f12
    have f15 : (hm_up g a (272, .inr (6, [.int 0, .int 40, .ref q1, .ref q4, .ref q7, .ref q10, .ref q13, .int 0, .int 1, .int 0, .int (-1), .int 0, .int 0, .int 0, .int (-1)]))) q13 = some (277, aInt (cA 4) 80 (fun _ => 0)) := by rw [hm_up_n (hm_ne f15 ha (by omega))]; exact f15
    have hag := hag.up (e := .inr (6, [.int 0, .int 40, .ref q1, .ref q4, .ref q7, .ref q10, .ref q13, .int 0, .int 1, .int 0, .int (-1), .int 0, .int 0, .int 0, .int (-1)])) (show 272 ≤ 272 by omega) (Or.inr ⟨_, ha⟩)
    have ha : (hm_up g a (272, .inr (6, [.int 0, .int 40, .ref q1, .ref q4, .ref q7, .ref q10, .ref q13, .int 0, .int 1, .int 0, .int (-1), .int 0, .int 0, .int 0, .int (-1)]))) a = some (272, .inr (6, [.int 0, .int 40, .ref q1, .ref q4, .ref q7, .ref q10, .ref q13, .int 0, .int 1, .int 0, .int (-1), .int 0, .int 0, .int 0, .int (-1)])) := hm_up_s
    generalize hm_up g a (272, .inr (6, [.int 0, .int 40, .ref q1, .ref q4, .ref q7, .ref q10, .ref q13, .int 0, .int 1, .int 0, .int (-1), .int 0, .int 0, .int 0, .int (-1)])) = g at hP hag f3 f6 f9 f12 f15 ha
    refine W.widen (k := 5) (n := 164080) (by omega) (by omega) ?_
    exact W.vret hx hb hr (fun t9 ht9 hwz => ⟨⟨g, rfl, ⟨⟨_, _, _, _, _, by rw [show clN x = 40 from by unfold clN; rw [if_pos (Int32.not_le.mp c16)]]; exact ha, f3, f6, f9, f12, f15⟩, hag⟩, by rw [ht9]; exact hP, va_K.moved hwz.alike hK, hN.warm hwz⟩, hS.F ht9⟩) hS.2.2 d_M_init_86
