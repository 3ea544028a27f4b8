/-! WHAT THE CONSTRUCTORS MAKE -/
def HN (D : va_G) (B : Nat) (cA : Nat → ClassId) (h : hm_T) (U : State) : Prop := hm_P D vwCl B h U.heap ∧ va_K D vwCl (tysA cA) U ∧ JN U
theorem HN.blind {D : va_G} {B : Nat} {cA : Nat → ClassId} {h : hm_T} {av : List Value} : FrameBlind (va_Pc av (HN D B cA h)) := fun a U g mk q =>
  ⟨q.1, q.2.1, va_K.moved (u := U) (U := U.calling g mk a) (Vm.Alike.refl U.vm) q.2.2.1, q.2.2.2.same rfl⟩
theorem hn_pre {D : va_G} {B : Nat} {cA : Nat → ClassId} {h : hm_T} {H : Heap} {s : State} {As : List Value} (hP : hm_P D vwCl B h H) (hK : va_K D vwCl (tysA cA) s) (hN : JN s) : PreS s H (va_Pc As (HN D B cA h)) As :=
  ⟨HN.blind, fun U hU hw => ⟨rfl, by rw [hU]; exact hP, va_K.moved hw.alike hK, hN.warm hw⟩⟩
/-- outside T two maps agree -/
def hm_ag (T : Nat → Prop) (h g : hm_T) : Prop := ∀ (q t : Nat) (e : va_E), ¬ T t → (h q = some (t, e) ↔ g q = some (t, e))
theorem hm_ag.rf {T : Nat → Prop} {h : hm_T} : hm_ag T h h := fun _ _ _ _ => Iff.rfl
theorem hm_ag.up {T : Nat → Prop} {h g : hm_T} (H : hm_ag T h g) {q t : Nat} {e : va_E} (hT : T t) (hq : g q = none ∨ ∃ e0, g q = some (t, e0)) : hm_ag T h (hm_up g q (t, e)) := fun q' t' e' ht' => by
  rw [H q' t' e' ht']
  by_cases c : q' = q
  · subst c
    rw [hm_up_s]
    constructor
    · intro z
      rcases hq with hq | ⟨e0, hq⟩
      · rw [hq] at z
        cases z
      · rw [hq] at z
        cases z
        exact absurd hT ht'
    · intro z
      cases z
      exact absurd hT ht'
  · rw [hm_up_n c]
theorem hm_ag.tr {T T1 T2 : Nat → Prop} {h g k : hm_T} (H1 : hm_ag T1 h g) (H2 : hm_ag T2 g k) (h1 : ∀ t, T1 t → T t) (h2 : ∀ t, T2 t → T t) : hm_ag T h k := fun q t e ht => (H1 q t e (fun z => ht (h1 t z))).trans (H2 q t e (fun z => ht (h2 t z)))
theorem hm_ag.no {T : Nat → Prop} {h g : hm_T} (H : hm_ag T h g) {t : Nat} (ht : ¬ T t) (hn : ∀ (q : Nat) (e : va_E), h q ≠ some (t, e)) : ∀ (q : Nat) (e : va_E), g q ≠ some (t, e) := fun q e z => hn q e ((H q t e ht).mpr z)
theorem hm_ag.at {T : Nat → Prop} {h g : hm_T} (H : hm_ag T h g) {q t : Nat} {e : va_E} (ht : ¬ T t) (hq : h q = some (t, e)) : g q = some (t, e) := (H q t e ht).mp hq
abbrev pg0 : va_E := .inr (3, [.null])
abbrev rw0 (p : Nat) : va_E := .inr (4, [.ref p, .int (-1), .int 0, .int 0, .int 0])
/-- the disk, the cache, the log, as they are made -/
def dkM (cA : Nat → ClassId) (g : hm_T) (a : Nat) : Prop := ∃ (ar : Nat) (f : Nat → Option Nat), g a = some (267, .inr (1, [.ref ar, .int 1, .int (-1), .int 0])) ∧ g ar = some (270, aRef (cA 1) 80 f) ∧ ∀ j, j < 80 → ∃ q, f j = some q ∧ g q = some (j, pg0)
def caM (cA : Nat → ClassId) (g : hm_T) (a : Nat) : Prop := ∃ (ar : Nat) (f : Nat → Option Nat), g a = some (268, .inr (0, [.ref ar, .int 0, .int 0])) ∧ g ar = some (271, aRef (cA 2) 34 f) ∧ ∀ j, j < 34 → ∃ q p, f j = some q ∧ g q = some (232 + j, rw0 p) ∧ g p = some (80 + j, pg0)
def lgM (g : hm_T) (a : Nat) : Prop := ∃ q p, g a = some (269, .inr (2, [.ref q, .ref p, .int 0])) ∧ g q = some (114, pg0) ∧ g p = some (115, pg0)
theorem dkM.ag {cA : Nat → ClassId} {T : Nat → Prop} {g k : hm_T} {a : Nat} (h : dkM cA g a) (H : hm_ag T g k) (n1 : ¬ T 267) (n2 : ¬ T 270) (n3 : ∀ t, t < 80 → ¬ T t) : dkM cA k a := by
  obtain ⟨ar, f, h1, h2, h3⟩ := h
  refine ⟨ar, f, H.at n1 h1, H.at n2 h2, fun j hj => ?_⟩
  obtain ⟨q, q1, q2⟩ := h3 j hj
  exact ⟨q, q1, H.at (n3 j hj) q2⟩
theorem caM.ag {cA : Nat → ClassId} {T : Nat → Prop} {g k : hm_T} {a : Nat} (h : caM cA g a) (H : hm_ag T g k) (n1 : ¬ T 268) (n2 : ¬ T 271) (n3 : ∀ t, t < 34 → ¬ T (232 + t) ∧ ¬ T (80 + t)) : caM cA k a := by
  obtain ⟨ar, f, h1, h2, h3⟩ := h
  refine ⟨ar, f, H.at n1 h1, H.at n2 h2, fun j hj => ?_⟩
  obtain ⟨q, p, q1, q2, q3⟩ := h3 j hj
  exact ⟨q, p, q1, H.at (n3 j hj).1 q2, H.at (n3 j hj).2 q3⟩
theorem lgM.ag {T : Nat → Prop} {g k : hm_T} {a : Nat} (h : lgM g a) (H : hm_ag T g k) (n1 : ¬ T 269) (n2 : ¬ T 114) (n3 : ¬ T 115) : lgM k a := by
  obtain ⟨q, p, h1, h2, h3⟩ := h
  exact ⟨q, p, H.at n1 h1, H.at n2 h2, H.at n3 h3⟩
/-- one page more on the disk -/
def dkL (cA : Nat → ClassId) (h g : hm_T) (a ar i : Nat) : Prop := g a = some (267, .inr (1, [.ref ar, .int 0, .int 0, .int 0])) ∧ (∃ f, g ar = some (270, aRef (cA 1) 80 f) ∧ ∀ j, j < i → ∃ q, f j = some q ∧ g q = some (j, pg0)) ∧ (∀ j, i ≤ j → j < 80 → ∀ (q : Nat) (e : va_E), g q ≠ some (j, e)) ∧ hm_ag (fun t => t < 80 ∨ t = 267 ∨ t = 270) h g
theorem dkL.step {cA : Nat → ClassId} {h g : hm_T} {a ar i q : Nat} {f : Nat → Option Nat} (hL : dkL cA h g a ar i) (hi : i < 80) (hf : g ar = some (270, aRef (cA 1) 80 f)) (hq : g q = none) : dkL cA h (hm_up (hm_up g q (i, pg0)) ar (270, aRef (cA 1) 80 (va_up f i (some q)))) a ar (i + 1) := by
  obtain ⟨h1, ⟨f', h2, h3⟩, h4, h5⟩ := hL
  rw [hf] at h2
  cases h2
  have na : ar ≠ q := hm_nn hf hq
  refine ⟨?_, ⟨_, hm_up_s, fun j hj => ?_⟩, fun j j1 j2 q' e z => ?_, ?_⟩
  · rw [hm_up_n (hm_ne h1 hf (by omega)), hm_up_n (hm_nn h1 hq)]
    exact h1
  · by_cases e : j = i
    · subst e
      refine ⟨q, by simp [va_up], ?_⟩
      rw [hm_up_n (Ne.symm na), hm_up_s]
    · obtain ⟨q', z1, z2⟩ := h3 j (by omega)
      refine ⟨q', by simp [va_up, e]; exact z1, ?_⟩
      rw [hm_up_n (hm_ne z2 hf (by omega)), hm_up_n (hm_nn z2 hq)]
      exact z2
  · by_cases c : q' = ar
    · subst c
      rw [hm_up_s] at z
      cases z
      omega
    · rw [hm_up_n c] at z
      by_cases d : q' = q
      · subst d
        rw [hm_up_s] at z
        cases z
        omega
      · rw [hm_up_n d] at z
        exact h4 j (by omega) j2 q' e z
  · exact (h5.up (Or.inl hi) (Or.inl hq)).up (Or.inr (Or.inr rfl)) (Or.inr ⟨_, by rw [hm_up_n na]; exact hf⟩)
def caL (cA : Nat → ClassId) (h g : hm_T) (a ar i : Nat) : Prop := g a = some (268, .inr (0, [.ref ar, .int 0, .int 0])) ∧ (∃ f, g ar = some (271, aRef (cA 2) 34 f) ∧ ∀ j, j < i → ∃ q p, f j = some q ∧ g q = some (232 + j, rw0 p) ∧ g p = some (80 + j, pg0)) ∧ (∀ j, i ≤ j → j < 34 → ∀ (q : Nat) (e : va_E), g q ≠ some (232 + j, e) ∧ g q ≠ some (80 + j, e)) ∧ hm_ag (fun t => (80 ≤ t ∧ t < 114) ∨ (232 ≤ t ∧ t < 266) ∨ t = 268 ∨ t = 271) h g
/-- what Row's constructor leaves -/
def rwM (i : Nat) (h g : hm_T) (a : Nat) : Prop := ∃ p, g a = some (232 + i, rw0 p) ∧ g p = some (80 + i, pg0) ∧ hm_ag (fun t => t = 232 + i ∨ t = 80 + i) h g
theorem caL.step {cA : Nat → ClassId} {h g u : hm_T} {a ar i q : Nat} {f : Nat → Option Nat} (hL : caL cA h g a ar i) (hi : i < 34) (hf : g ar = some (271, aRef (cA 2) 34 f)) (hq : g q = none) (hu : rwM i (hm_up g q (232 + i, .inr (4, [.null, .int 0, .int 0, .int 0, .int 0]))) u q) : u ar = some (271, aRef (cA 2) 34 f) ∧ caL cA h (hm_up u ar (271, aRef (cA 2) 34 (va_up f i (some q)))) a ar (i + 1) := by
  obtain ⟨h1, ⟨f', h2, h3⟩, h4, h5⟩ := hL
  rw [hf] at h2
  cases h2
  obtain ⟨p, u1, u2, u3⟩ := hu
  have g1 : ∀ (x t : Nat) (e : va_E), ¬ (t = 232 + i ∨ t = 80 + i) → g x = some (t, e) → u x = some (t, e) := fun x t e ht hx => u3.at ht (by rw [hm_up_n (hm_nn hx hq)]; exact hx)
  have uar := g1 _ _ _ (by omega) hf
  refine ⟨uar, ?_, ⟨_, hm_up_s, fun j hj => ?_⟩, fun j j1 j2 x e => ?_, ?_⟩
  · have z := g1 _ _ _ (by omega) h1
    rw [hm_up_n (hm_ne z uar (by omega))]
    exact z
  · by_cases e : j = i
    · subst e
      refine ⟨q, p, by simp [va_up], ?_, ?_⟩
      · rw [hm_up_n (hm_ne u1 uar (by omega))]
        exact u1
      · rw [hm_up_n (hm_ne u2 uar (by omega))]
        exact u2
    · obtain ⟨x, y, z1, z2, z3⟩ := h3 j (by omega)
      have y2 := g1 _ _ _ (by omega) z2
      have y3 := g1 _ _ _ (by omega) z3
      refine ⟨x, y, by simp [va_up, e]; exact z1, ?_, ?_⟩
      · rw [hm_up_n (hm_ne y2 uar (by omega))]
        exact y2
      · rw [hm_up_n (hm_ne y3 uar (by omega))]
        exact y3
  · have key : ∀ t : Nat, t ≠ 271 → ¬ (t = 232 + i ∨ t = 80 + i) → (∀ (x : Nat) (e : va_E), g x ≠ some (t, e)) → ∀ (x : Nat) (e : va_E), hm_up u ar (271, aRef (cA 2) 34 (va_up f i (some q))) x ≠ some (t, e) := fun t ht1 ht2 hn x e z => by
      by_cases c : x = ar
      · subst c
        rw [hm_up_s] at z
        cases z
        exact ht1 rfl
      · rw [hm_up_n c] at z
        refine (u3.no ht2 (fun x e w => ?_)) x e z
        by_cases d : x = q
        · subst d
          rw [hm_up_s] at w
          cases w
          exact ht2 (Or.inl rfl)
        · rw [hm_up_n d] at w
          exact hn x e w
    exact ⟨key _ (by omega) (by omega) (fun x e => (h4 j (by omega) j2 x e).1) x e, key _ (by omega) (by omega) (fun x e => (h4 j (by omega) j2 x e).2) x e⟩
  · have e1 : hm_ag (fun t => (80 ≤ t ∧ t < 114) ∨ (232 ≤ t ∧ t < 266) ∨ t = 268 ∨ t = 271) h u := (h5.up (e := .inr (4, [.null, .int 0, .int 0, .int 0, .int 0])) (show (80 ≤ 232 + i ∧ 232 + i < 114) ∨ (232 ≤ 232 + i ∧ 232 + i < 266) ∨ 232 + i = 268 ∨ 232 + i = 271 by omega) (Or.inl hq)).tr u3 (fun _ z => z) (fun t z => by omega)
    exact e1.up (Or.inr (Or.inr (Or.inr rfl))) (Or.inr ⟨_, uar⟩)
section HMQ
variable {p : Program} {l : Launch} {e : Env} {R : Room} {s : State} {m : MethodId} {args : Array Value} {below : List Frame} {meth : Method} {c : Code} {H : Heap} {locs : List Loc} {cells slots : Nat} {Q : State → Prop}
variable {cc : ByteArray} {pc : Nat} {ls : Array Slot} {rest : List Value} {D : va_G} {B : Nat} {cA : Nat → ClassId} {h : hm_T} {H0 : Heap}
theorem hm_newq (hexec : p.tables.exec = Jvm.exec) (hb : c.code = cc) {own C : String} {index : Nat} (hown : s.vm.findClass own = some m.cls) (hclink : (Cond.classLink own index C).before args s = true) (hover : va_AO C s) (hK : va_K D vwCl (tysA cA) s) (k : Nat) (hk : (tysA cA)[k]? = some (cA k, .object C)) (hP : hm_P D vwCl B h H) (hS : va_S (hm_A B) H0 H locs)
    {n : Int32} {N' : Nat} (hn : ¬ n < 0) (hN : n.toNatClampNeg = N') (hbytes : N' * 4 ≤ 536870912) (t : Nat) (ht : t < 278) (hm : N' ≤ hm_mx t) (hfr : ∀ (q : Nat) (e' : va_E), h q ≠ some (t, e')) (hcells : cells + 1 ≤ R.cells) (hslots : slots + N' ≤ R.slots) (hdg : decode cc pc = .ok (.anewarray index, 3))
    (kk : ∀ (q : Nat) (H1 : Heap), h q = none → hm_P D vwCl B (hm_up h q (t, aRef (cA k) N' (fun _ => none))) H1 → va_S (hm_A B) H0 H1 locs →
      W p l e R s m args below meth c H1 locs (cells + 1) (slots + N') Q (F0 m (pc + 3) ls (.ref q :: rest))) : W p l e R s m args below meth c H locs cells slots Q (F0 m pc ls (.int n :: rest)) := by
  subst hN
  refine W.anew hexec hb hown hclink (va_AO.use hover) rfl hdg rfl hn hbytes hcells hslots fun cB kA comp f1 f2 f3 f4 => ?_
  obtain ⟨_, _, _, _, _, g1⟩ := (hK.2 k _ hk).2
  have ec : cB = cA k := Option.some.inj (f1.symm.trans g1)
  subst ec
  generalize hH1 : H.push ({ cls := cA k, slots := Array.replicate n.toNatClampNeg .null, vm := .none } : Cell) = H1
  have z1 : H1.size = H.size + 1 := by rw [← hH1, Array.size_push]
  have e1 : H1[H.size]? = some (arrV (cA k) n.toNatClampNeg (fun _ => .null)) := by rw [← hH1, Array.getElem?_push_size, ← arrV_new]
  have o1 : ∀ q : Nat, q < H.size → H1[q]? = H[q]? := fun q hq => by rw [← hH1, Array.getElem?_push, if_neg (Nat.ne_of_lt hq)]
  exact kk H.size H1 hP.fresh (hP.push (cell := arrV (cA k) n.toNatClampNeg (fun _ => .null)) e1 e1 (by rw [arrV_size]; exact hm) ht hfr z1 o1) (hS.nw (by omega) o1)
theorem hm_newa (k : Nat) {atype : ArrayType} (hexec : p.tables.exec = Jvm.exec) (hb : c.code = cc) (harr : (Cond.arrayClass (newarray.typeOf atype)).before args s = true) (hdef : defaultValue (newarray.typeOf atype) = .int 0) (hcl : ∀ c0, s.vm.findClass ("[" ++ (newarray.typeOf atype).toString) = some c0 → c0 = cA k) (hP : hm_P D vwCl B h H) (hS : va_S (hm_A B) H0 H locs)
    {n : Int32} {N' : Nat} (hn : ¬ n < 0) (hN : n.toNatClampNeg = N') (hbytes : N' * componentBytes (newarray.typeOf atype) ≤ 536870912) (t : Nat) (ht : t < 278) (hm : N' ≤ hm_mx t) (hfr : ∀ (q : Nat) (e' : va_E), h q ≠ some (t, e')) (hcells : cells + 1 ≤ R.cells) (hslots : slots + N' ≤ R.slots) (hdg : decode cc pc = .ok (.newarray atype, 2))
    (kk : ∀ (q : Nat) (H1 : Heap), h q = none → hm_P D vwCl B (hm_up h q (t, aInt (cA k) N' (fun _ => 0))) H1 → va_S (hm_A B) H0 H1 locs →
      W p l e R s m args below meth c H1 locs (cells + 1) (slots + N') Q (F0 m (pc + 2) ls (.ref q :: rest))) : W p l e R s m args below meth c H locs cells slots Q (F0 m pc ls (.int n :: rest)) := by
  refine va_newaK (atype := atype) hexec hb harr rfl hdg rfl hn hN hbytes hcells hslots rfl fun H1 c0 e1 z1 o1 hAr hNm => ?_
  have ec : c0 = cA k := hcl c0 hNm
  subst ec
  rw [hdef] at e1
  exact kk H.size H1 hP.fresh (hP.push (cell := arrV (cA k) N' (fun _ => .int 0)) e1 e1 (by rw [arrV_size]; exact hm) ht hfr z1 o1) (hS.nw (by omega) o1)
theorem hm_astq (hexec : p.tables.exec = Jvm.exec) (hb : c.code = cc) (hK : va_K D vwCl (tysA cA) s) (hP : hm_P D vwCl B h H) (hS : va_S (hm_A B) H0 H locs) (k ci : Nat) {r : vw_C} {n v a t tv : Nat} {vs : List Value} {f : Nat → Option Nat} (ha : h a = some (t, aRef (cA k) n f)) (hk : (tysA cA)[k]? = some (cA k, .object r.1)) (hv : h v = some (tv, .inr (ci, vs))) (hc : vwCl[ci]? = some r) {i : Int32} (hin : vp_in i n) (hdg : decode cc pc = .ok (.aastore, 1))
    (kk : ∀ (H1 : Heap) (locs1 : List Loc), hm_P D vwCl B (hm_up h a (t, aRef (cA k) n (va_up f i.toNatClampNeg (some v)))) H1 → va_S (hm_A B) H0 H1 locs1 → W p l e R s m args below meth c H1 locs1 cells slots Q (F0 m (pc + 1) ls rest)) : W p l e R s m args below meth c H locs cells slots Q (F0 m pc ls (.ref v :: .int i :: .ref a :: rest)) := by
  have hlt : i.toNatClampNeg < n := Nat.not_le.mp fun q => hin (Or.inr q)
  have h0 : ¬ i < 0 := fun q => hin (Or.inl q)
  obtain ⟨r', hr', cellV, g1, g2, g3, -⟩ := (hP.2.1 _ _ _ hv).2.2
  have hcls := (hK.1 ci r hc).2
  obtain ⟨kA, comp, k1, k2, k3, -⟩ := (hK.2 k _ hk).2
  have hcomp : comp = D.1 ci := Option.some.inj (k3.symm.trans hcls.1)
  subst hcomp
  obtain ⟨kC, hkC, -⟩ := hcls.2
  have hc0 : H[a]? = some (vp_cell (cA k) (n, .inr (.inr (.inr (.inr f))))) := (hP.2.1 _ _ _ ha).2.2
  refine W.aast hexec hb hc0 (fun q h => by cases h) (fun h => by cases h) k1 k2 rfl hkC ⟨h0, by show _ < (arrV _ _ _).slots.size; rw [arrV_size]; exact hlt⟩ g1 (fun q h => by rw [g3] at h; cases h) (by rw [g2]; exact hkC) (by rw [g2]; exact va_assign hcls) rfl rfl hdg fun H1 e z oq => ?_
  have e' : H1[a]? = some (vp_cell (cA k) (n, .inr (.inr (.inr (.inr (va_up f i.toNatClampNeg (some v))))))) := by
    rw [e]
    rw [vp_cell_q, vp_cell_q, arrV_store]
    congr 2
    funext q
    by_cases hq : q = i.toNatClampNeg
    · subst hq
      simp [updV, va_up, va_rf]
    · simp [updV, va_up, hq]
  exact kk H1 _ (hP.set (e := aRef (cA k) n (va_up f i.toNatClampNeg (some v))) ha e' z oq (fun c0 c1 g0 g1 => by rw [hc0] at g0; rw [e'] at g1; cases g0; cases g1; rw [vp_cell_q, vp_cell_q, arrV_size, arrV_size])) (hS.put z oq (hP.ge ha))
end HMQ
