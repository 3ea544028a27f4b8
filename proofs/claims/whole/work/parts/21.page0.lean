/-! PAGES: their two cells -/
theorem hm_up_id {h : hm_T} {a : Nat} {x : Nat × va_E} (ha : h a = some x) : hm_up h a x = h := by
  funext q
  by_cases hq : q = a
  · rw [hq, hm_up_s, ha]
  · rw [hm_up_n hq]
theorem p1_id {P : VV} {t : Nat} : p1 P t (P t) = P := by
  funext q
  by_cases hq : q = t
  · rw [hq, p1_s]
  · rw [p1_n hq]
def HC (D : va_G) (B : Nat) (cA : Nat → ClassId) (h : hm_T) (U : State) : Prop := hm_P D vwCl B h U.heap ∧ va_K D vwCl (tysA cA) U
theorem HC.blind {D : va_G} {B : Nat} {cA : Nat → ClassId} {h : hm_T} {av : List Value} : FrameBlind (va_Pc av (HC D B cA h)) := fun a U g mk q =>
  ⟨q.1, q.2.1, va_K.moved (u := U) (U := U.calling g mk a) (Vm.Alike.refl U.vm) q.2.2⟩
def gfill (x : Int32) (i : Nat) (g : Nat → Int32) : Nat → Int32 := fun j => if j < i then x.toInt8.toInt32 else g j
theorem gfill_s {x : Int32} {i : Nat} {g : Nat → Int32} : upd (gfill x i g) i x.toInt8.toInt32 = gfill x (i + 1) g := by
  funext j
  unfold upd gfill
  by_cases h1 : j = i
  · rw [if_pos h1, if_pos (by omega)]
  · rw [if_neg h1]
    by_cases h2 : j < i
    · rw [if_pos h2, if_pos (by omega)]
    · rw [if_neg h2, if_neg (by omega)]
theorem gfill_0 {x : Int32} {g : Nat → Int32} : gfill x 0 g = g := by
  funext j
  unfold gfill
  rw [if_neg (by omega)]
/-- the bytes of a page change -/
theorem JH.bytes {cA : Nat → ClassId} {sh : Nat → Nat} {V P : VV} {h : hm_T} (hJ : JH cA sh V P h) {t b : Nat} (ht : t < 116) {e0 : va_E} (a1 : h (sh t) = some (t, .inr (3, [.ref b]))) (a2 : h b = some (116 + t, e0)) {g1 g : Nat → Int32} (hg : ∀ k, k < 1024 → g1 k = g k) (hf : bfit g1 1024) : JH cA sh V (p1 P t g) (hm_up h b (116 + t, aInt (cA 0) 1024 g1)) := by
  refine hJ.page ht (fun q t' e h1 h2 hq => ?_) (fun q t' e h1 h2 hq => ?_) (Or.inr ⟨b, g1, ?_, hm_up_s, hg, hf⟩)
  · rw [hm_up_n (hm_ne hq a2 h2)]
    exact hq
  · by_cases hqb : q = b
    · subst hqb
      rw [hm_up_s] at hq
      cases hq
      exact absurd rfl h2
    · rw [hm_up_n hqb] at hq
      exact hq
  · rw [hm_up_n (hm_ne a1 a2 (by omega))]
    exact a1
/-- a page that had none gets its bytes -/
theorem JH.made {cA : Nat → ClassId} {sh : Nat → Nat} {V P : VV} {h : hm_T} (hJ : JH cA sh V P h) {t q : Nat} (ht : t < 116) (a1 : h (sh t) = some (t, .inr (3, [.null]))) (a2 : ∀ k, k < 1024 → P t k = 0) (hq : h q = none) : JH cA sh V P (hm_up (hm_up h q (116 + t, aInt (cA 0) 1024 (fun _ => 0))) (sh t) (t, .inr (3, [.ref q]))) := by
  have n1 : sh t ≠ q := hm_nn a1 hq
  have key : JH cA sh V (p1 P t (P t)) (hm_up (hm_up h q (116 + t, aInt (cA 0) 1024 (fun _ => 0))) (sh t) (t, .inr (3, [.ref q]))) := by
    refine hJ.page ht (fun x t' e h1 h2 hx => ?_) (fun x t' e h1 h2 hx => ?_) (Or.inr ⟨q, fun _ => 0, hm_up_s, ?_, fun k hk => (a2 k hk).symm, fun k _ => rfl⟩)
    · rw [hm_up_n (hm_ne hx a1 h1), hm_up_n (hm_nn hx hq)]
      exact hx
    · by_cases hxt : x = sh t
      · subst hxt
        rw [hm_up_s] at hx
        cases hx
        exact absurd rfl h1
      · rw [hm_up_n hxt] at hx
        by_cases hxq : x = q
        · subst hxq
          rw [hm_up_s] at hx
          cases hx
          exact absurd rfl h2
        · rw [hm_up_n hxq] at hx
          exact hx
    · rw [hm_up_n (Ne.symm n1), hm_up_s]
  rw [p1_id] at key
  exact key
theorem JH.null {cA : Nat → ClassId} {sh : Nat → Nat} {V P : VV} {h : hm_T} (hJ : JH cA sh V P h) {t : Nat} (ht : t < 116) (a1 : h (sh t) = some (t, .inr (3, [.null]))) (a3 : ∀ (q : Nat) (e : va_E), h q ≠ some (116 + t, e)) : JH cA sh V (p1 P t (fun _ => 0)) h :=
  hJ.page ht (fun _ _ _ _ _ h => h) (fun _ _ _ _ _ h => h) (Or.inl ⟨a1, fun _ _ => rfl, a3⟩)
theorem mByte_0 {g : Nat → Int32} {k : Int32} (h : ∀ k, k < 1024 → g k = 0) : mByte g k = 0 := by
  unfold mByte
  by_cases c : k < 0 ∨ 1024 ≤ k
  · rw [if_pos c]
  · rw [if_neg c]
    obtain ⟨x, x1, x2⟩ := nI_of (x := k) (fun q => c (Or.inl q))
    subst x2
    have hx : x < 1024 := by
      rcases Nat.lt_or_ge x 1024 with q | q
      · exact q
      · exact absurd (nI_le (a := 1024) q x1) (fun w => c (Or.inr w))
    rw [nI_clamp x1, h x hx]
    rfl
theorem in_1024 {k : Int32} (h1 : ¬ k < 0) (h2 : k < 1024) : vp_in k 1024 := by
  obtain ⟨x, x1, x2⟩ := nI_of h1
  subst x2
  exact vp_in_nI ((nI_ltI (b := 1024) x1 (by omega)).mp h2) (by omega)
/-- Arrays.fill over bytes -/
theorem m_A_fill (l : Launch) (D : va_G) (B : Nat) (cA : Nat → ClassId) (h : hm_T) (b t n : Nat) (g : Nat → Int32) (hbt : h b = some (t, aInt (cA 0) n g)) (hn : n < 2 ^ 31) (x : Int32) : Met l y_A_fill w_A_fill ({ frames := 0, cells := 0, slots := 0, locals := 0 } : Room) (va_Pc [.ref b, .int x] (HC D B cA h)) (va_Qv (fun (h' : hm_T) => h' = hm_up h b (t, aInt (cA 0) n (gfill x n g))) (HC D B cA) (hm_A B)) 0 0 (hm_A B) := by
  refine Met.ofW (cc := c_A_fill) (maxL := 4) (ret := none) (by decide) rfl ?_
  intro p e s m args below meth c s₁ Bd hml hv
  obtain ⟨rfl, hP, hK⟩ := hv
  have hx := Bd.exec
  have hb := Bd.bytes
  have hr := Bd.returns
  have hlocks := Bd.notSynchronized
  have hS : va_S (hm_A B) s.heap s.heap [] := va_S.rf
  have hl := lv_entry ([.ref b, .int x]) (n := 4) (Nat.le_of_ble_eq_true rfl)
  rw [lg_entry_eq]
  generalize (lg_sl ([.ref b, .int x]) ++ List.replicate (4 - (lg_sl ([.ref b, .int x])).length) Slot.unset).toArray = ls at hl ⊢
  have hl : lv_has ls 4 [(0, .ref b), (1, .int x)] := hl
  refine lv_iconst (v := 0) hx hb d_A_fill_0 (by decide) ?_
  refine lv_istore_n (lv' := [(2, .int 0), (0, .ref b), (1, .int x)]) hx hb d_A_fill_1 rfl hl (by decide) rfl (fun ls hl => ?_)
  refine lv_aload_n hx hb d_A_fill_2 rfl (lv_at hl 1 rfl) ?_
  refine va_alen hx hb hK (hP.one hbt) 0 0 rfl rfl (v := nI n) rfl d_A_fill_3 ?_
  refine lv_istore_n (lv' := [(3, .int (nI n)), (2, .int 0), (0, .ref b), (1, .int x)]) hx hb d_A_fill_4 rfl hl (by decide) rfl (fun ls hl => ?_)
  have loop : ∀ (k i : Nat) (H : Heap) (locs : List Loc) (ls : Array Slot), i + k = n → hm_P D vwCl B (hm_up h b (t, aInt (cA 0) n (gfill x i g))) H → va_S (hm_A B) s.heap H locs → lv_has ls 4 [(2, .int (nI i)), (3, .int (nI n)), (0, .ref b), (1, .int x)] →
      W p l e (headSpec w_A_fill ({ frames := 0, cells := 0, slots := 0, locals := 0 } : Room)).room s m ([.ref b, .int x] : List Value).toArray below meth c H locs 0 0 (MQ below (va_Qv (fun (h' : hm_T) => h' = hm_up h b (t, aInt (cA 0) n (gfill x n g))) (HC D B cA) (hm_A B)) ([.ref b, .int x] : List Value).toArray s 0 0 (hm_A B)) (F0 m 5 ls []) := by
    intro k
    induction k with
    | zero =>
      intro i H locs ls hin hP hS hl
      obtain rfl : i = n := by omega
      refine lv_iload_n hx hb d_A_fill_5 rfl (lv_at hl 0 rfl) ?_
      refine lv_iload_n hx hb d_A_fill_6 rfl (lv_at hl 1 rfl) ?_
      refine lv_icmp_ge (tgt := 20) hx hb d_A_fill_7 (by decide) (fun c1 => ?_) (fun c1 => ?_)
      · exact W.vret hx hb hr (fun t' ht hw9 => ⟨⟨_, rfl, rfl, by rw [ht]; exact hP, va_K.moved hw9.alike hK⟩, hS.F ht⟩) hS.2.2 d_A_fill_20
      · exact absurd (Int32.le_refl _) c1
    | succ k ih =>
      intro i H locs ls hin hP hS hl
      refine lv_iload_n hx hb d_A_fill_5 rfl (lv_at hl 0 rfl) ?_
      refine lv_iload_n hx hb d_A_fill_6 rfl (lv_at hl 1 rfl) ?_
      refine lv_icmp_ge (tgt := 20) hx hb d_A_fill_7 (by decide) (fun c1 => ?_) (fun c1 => ?_)
      · exact absurd c1 (nI_ge (by omega) hn)
      · refine lv_aload_n hx hb d_A_fill_10 rfl (lv_at hl 2 rfl) ?_
        refine lv_iload_n hx hb d_A_fill_11 rfl (lv_at hl 0 rfl) ?_
        refine lv_iload_n hx hb d_A_fill_12 rfl (lv_at hl 3 rfl) ?_
        refine hm_bast hx hb (hK.2 0 (cA 0, .byte) rfl).1 hP hm_up_s hS (vp_in_nI (show i < n by omega) hn) d_A_fill_13 (fun H locs hP hS => ?_)
        rw [hm_up_up, nI_clamp (by omega), gfill_s] at hP
        refine lv_iinc (v := (nI i + 1)) (lv' := [(2, .int (nI i + 1)), (3, .int (nI n)), (0, .ref b), (1, .int x)]) hx hb d_A_fill_14 hl (k := 0) rfl rfl (by decide) rfl (fun ls hl => ?_)
        refine lv_goto (tgt := 5) hx hb d_A_fill_17 (by decide) ?_
        exact ih (i + 1) H locs ls (by omega) hP hS (by rw [← nI_1]; exact lv_sub hl [0, 1, 2, 3] rfl)
  exact loop n 0 _ _ ls (by omega) (by rw [gfill_0, hm_up_id hbt]; exact hP) hS (lv_sub hl [1, 0, 2, 3] rfl)
