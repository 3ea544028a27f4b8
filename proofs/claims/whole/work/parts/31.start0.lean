/-! THE START: the world that the constructors leave, and what the relation says of each call's premises -/
theorem sh_ex {D : va_G} {B : Nat} {h : hm_T} {H : Heap} (hP : hm_P D vwCl B h H) : ∃ sh : Nat → Nat, ∀ (q t : Nat) (e : va_E), h q = some (t, e) → sh t = q := by
  refine ⟨fun t => Classical.epsilon (fun q => ∃ e, h q = some (t, e)), fun q t e hq => ?_⟩
  have hx : ∃ q, ∃ e, h q = some (t, e) := ⟨q, e, hq⟩
  obtain ⟨e', he'⟩ := Classical.epsilon_spec hx
  exact hP.2.2.2 _ _ _ _ _ he' hq
def V0 (x : Int32) : VV := fun t k =>
  if t = 266 then (if k = 0 then clN x else 0)
  else if t = 267 then (if k = 1 then 1 else if k = 2 then -1 else 0)
  else if t = 272 then (if k = 1 then clN x else if k = 8 then 1 else if k = 10 then -1 else if k = 14 then -1 else 0)
  else if 232 ≤ t ∧ t < 266 then (if k = 1 then -1 else 0)
  else 0
def P0 : VV := fun _ _ => 0
theorem V0_row (x : Int32) {i : Nat} (hi : i < 34) (k : Nat) : V0 x (232 + i) k = if k = 1 then -1 else 0 := by
  unfold V0
  rw [if_neg (by omega), if_neg (by omega), if_neg (by omega), if_pos (by omega)]
theorem lay_cases {t ci : Nat} {fl : List (Option Nat)} (h : lay t = some (ci, fl)) : t = 266 ∨ t = 267 ∨ t = 268 ∨ t = 269 ∨ t = 272 ∨ ∃ i, i < 34 ∧ t = 232 + i := by
  by_cases h1 : t = 266
  · exact Or.inl h1
  · by_cases h2 : t = 267
    · exact Or.inr (Or.inl h2)
    · by_cases h3 : t = 268
      · exact Or.inr (Or.inr (Or.inl h3))
      · by_cases h4 : t = 269
        · exact Or.inr (Or.inr (Or.inr (Or.inl h4)))
        · by_cases h5 : t = 272
          · exact Or.inr (Or.inr (Or.inr (Or.inr (Or.inl h5))))
          · by_cases h6 : 232 ≤ t ∧ t < 266
            · exact Or.inr (Or.inr (Or.inr (Or.inr (Or.inr ⟨t - 232, by omega, by omega⟩))))
            · unfold lay at h
              rw [if_neg h1, if_neg h2, if_neg h3, if_neg h4, if_neg h5, if_neg h6] at h
              cases h
theorem jw_start {D : va_G} {B : Nat} {cA : Nat → ClassId} {g : hm_T} {H : Heap} {a a2 : Nat} {x : Int32} (hP : hm_P D vwCl B g H) (hv : vtM cA g a x) (hm : moM cA g a2 x) (hno : ∀ t, 116 ≤ t → t < 232 → ∀ (q : Nat) (e : va_E), g q ≠ some (t, e)) : ∃ sh : Nat → Nat, sh 266 = a ∧ sh 272 = a2 ∧ JW D B cA sh (V0 x) P0 H := by
  obtain ⟨sh, hsh⟩ := sh_ex hP
  obtain ⟨d, c, lg, v1, ⟨ar, f, d1, d2, d3⟩, ⟨cr, cf, c1, c2, c3⟩, ⟨lq, lp, l1, l2, l3⟩⟩ := hv
  obtain ⟨q3, q4, q5, q6, q7, m1, m3, m4, m5, m6, m7⟩ := hm
  have e266 := hsh _ _ _ v1
  have e267 := hsh _ _ _ d1
  have e268 := hsh _ _ _ c1
  have e269 := hsh _ _ _ l1
  have e270 := hsh _ _ _ d2
  have e271 := hsh _ _ _ c2
  have e272 := hsh _ _ _ m1
  have e273 := hsh _ _ _ m3
  have e274 := hsh _ _ _ m4
  have e275 := hsh _ _ _ m5
  have e276 := hsh _ _ _ m6
  have e277 := hsh _ _ _ m7
  have e114 := hsh _ _ _ l2
  have e115 := hsh _ _ _ l3
  refine ⟨sh, e266, e272, g, hP, ?_, ⟨f, by rw [e270]; exact d2, fun i hi => ?_⟩, ⟨cf, by rw [e271]; exact c2, fun i hi => ?_⟩, fun t ht => Or.inl ⟨?_, fun _ _ => rfl, hno _ (by omega) (by omega)⟩, ?_, fun _ _ => rfl, fun _ _ => rfl⟩
  · intro t ci fl hl
    rcases lay_cases hl with rfl | rfl | rfl | rfl | rfl | ⟨i, hi, rfl⟩
    · cases hl
      rw [e266, v1]
      simp only [fvals, e267, e268, e269]
      rfl
    · cases hl
      rw [e267, d1]
      simp only [fvals, e270]
      rfl
    · cases hl
      rw [e268, c1]
      simp only [fvals, e271]
      rfl
    · cases hl
      rw [e269, l1]
      simp only [fvals, e114, e115]
      rfl
    · cases hl
      rw [e272, m1]
      simp only [fvals, e273, e274, e275, e276, e277]
      rfl
    · rw [lay_row hi] at hl
      cases hl
      obtain ⟨q, p, z1, z2, z3⟩ := c3 i hi
      rw [hsh _ _ _ z2, z2]
      simp only [fvals, hsh _ _ _ z3, V0_row x hi]
      rfl
  · obtain ⟨q, z1, z2⟩ := d3 i hi
    rw [z1, hsh _ _ _ z2]
  · obtain ⟨q, p, z1, z2, z3⟩ := c3 i hi
    rw [z1, hsh _ _ _ z2]
  · by_cases h1 : t < 80
    · obtain ⟨q, z1, z2⟩ := d3 t h1
      rw [hsh _ _ _ z2]
      exact z2
    · by_cases h2 : t < 114
      · obtain ⟨q, p, z1, z2, z3⟩ := c3 (t - 80) (by omega)
        rw [show 80 + (t - 80) = t by omega] at z3
        rw [hsh _ _ _ z3]
        exact z3
      · rcases (show t = 114 ∨ t = 115 by omega) with rfl | rfl
        · rw [e114]
          exact l2
        · rw [e115]
          exact l3
  · intro t n k hm
    have hr := mar_spec hm
    rcases (show t = 273 ∨ t = 274 ∨ t = 275 ∨ t = 276 ∨ t = 277 by omega) with rfl | rfl | rfl | rfl | rfl
    · cases hm
      rw [e273]
      exact m3
    · cases hm
      rw [e274]
      exact m4
    · cases hm
      rw [e275]
      exact m5
    · cases hm
      rw [e276]
      exact m6
    · cases hm
      rw [e277]
      exact m7
theorem rel_start (x : Int32) : rel (V0 x) P0 (V0 x) P0 0 := by
  obtain ⟨N, h1, h2, h3⟩ := clN_n x
  refine ⟨N, 0, Nat.le_refl 0, ⟨h3, h3, h1, h2, rfl, rfl, rfl, rfl, rfl, rfl, rfl, Or.inl rfl, Or.inr rfl⟩, fun _ => ?_, fun q => absurd (show (1 : Int32) = 0 from q) (by decide)⟩
  exact on_empty rfl (Or.inl ⟨show (-1 : Int32) < 0 by decide, rfl⟩) rfl (fun i hi => ⟨by rw [V0_row x hi]; rfl, by rw [V0_row x hi]; rfl, by rw [V0_row x hi]; rfl, by rw [V0_row x hi]; rfl⟩) (fun _ _ => rfl) (fun _ _ => rfl) ⟨rfl, fun _ _ _ _ => rfl⟩ (fun _ _ _ _ => rfl)
/-! what the calls ask -/
theorem rel_01 {V P : VV} {k : Nat} (h : rel V P V P k) : V 267 1 = 0 ∨ V 267 1 = 1 := by
  obtain ⟨N, u, hu, hA, h2, h3⟩ := h
  exact hA.2.2.2.2.2.2.2.2.2.2.2.2
theorem rel_h3 {V P : VV} {k : Nat} (h : rel V P V P k) : ∀ i, i < 34 → V (232 + i) 3 = 0 ∨ V (232 + i) 3 = 1 := by
  intro i hi
  have hon := rel_01 h
  obtain ⟨N, u, hu, hA, h2, h3⟩ := h
  rcases hon with q | q
  · exact Or.inl ((h3 q).2.1 i hi).2.2.1
  · obtain ⟨a1, a2, ⟨b1, b2, b3, b4, b5, b6⟩, -⟩ := h2 q
    rcases b1 i hi with w | ⟨b, w⟩
    · exact Or.inl w.2.2.1
    · have hN := hA.2.2.2.1
      have hb := w.1.1
      rw [w.2.2.2.2.1]
      exact (b6 b (by omega)).1
theorem rel_N {V P : VV} {k : Nat} (h : rel V P V P k) : ∃ N, V 272 1 = nI N ∧ N ≤ 80 := by
  obtain ⟨N, u, hu, hA, h2, h3⟩ := h
  exact ⟨N, hA.2.1, hA.2.2.2.1⟩
theorem rel_sc {V P V1 P1 : VV} {k : Nat} {b : Int32} (h : rel V P V P k) (hk : k + 1 < 2 ^ 31) (hs : sameR V P V1 P1) : V1 272 8 = 0 ∨ ¬ rIsBlock V1 b ∨ (P1 277 b.toNatClampNeg = 0 → (rScan (r0 V1) P1).1 = 34 → ¬ (rScan (r0 V1) P1).2 < 0) := by
  obtain ⟨N, u, hu, hA, h2, h3⟩ := rel_R h hs
  have hA' := hA
  obtain ⟨p1', p2, p3, p4, p5, p6, p7, p8, p9, p10, p11, p12, p13⟩ := hA'
  by_cases hoff : V1 272 8 = 0
  · exact Or.inl hoff
  · refine Or.inr ?_
    have hon : V 267 1 = 1 := by
      rcases p13 with q | q
      · rw [p11] at hoff
        exact absurd q hoff
      · exact q
    by_cases hb : rIsBlock V1 b
    · refine Or.inr fun hz hsc => ?_
      obtain ⟨x, xN, rfl⟩ := rIsBlock_n p2 p4 hb
      rw [nI_clamp (by omega)] at hz
      have hB : isB N x := ⟨xN, by
        rcases hb.2.2 with q | q
        · exact Or.inl ((nI_ltI (b := 2) (by omega) (by omega)).mp q)
        · refine Or.inr ?_
          rcases Nat.lt_or_ge 32 x with w | w
          · exact w
          · exact absurd (nI_le (b := 32) w (by omega)) q⟩
      have hO := h2 hon
      obtain ⟨-, -, -, -, -, -, key⟩ := sim_look hA hon hO hB (by omega) (held30 hO.2.2.2.1)
      obtain ⟨y, y1, y2⟩ := key hsc hz
      rw [y2]
      exact nI_pos (by omega)
    · exact Or.inl hb
theorem sr_get {V P V1 P1 : VV} {r1 b x : Int32} (h1 : (r1, V1, P1) = mGet V P b x) : sameR V P V1 P1 := by
  have e1 : V1 = (mGet V P b x).2.1 := congrArg (fun x => x.2.1) h1
  have e2 : P1 = (mGet V P b x).2.2 := congrArg (fun x => x.2.2) h1
  rw [e1, e2]
  unfold mGet
  split
  · exact sameR.rf
  · exact sR_look
theorem sr_fill {V P V1 P1 : VV} {r1 b x n v : Int32} (h1 : (r1, V1, P1) = mFill V P b x n v) : sameR V P V1 P1 := by
  have e1 : V1 = (mFill V P b x n v).2.1 := congrArg (fun x => x.2.1) h1
  have e2 : P1 = (mFill V P b x n v).2.2 := congrArg (fun x => x.2.2) h1
  rw [e1, e2]
  unfold mFill
  split
  · exact sameR.rf
  · have := mLook_lt V P b
    exact ((sR_look.tr (sR_v (by omega))).tr (sR_v (by omega))).tr (sR_p (by omega))
theorem sr_end {V P V1 P1 : VV} {r1 : Int32} (h1 : (r1, V1, P1) = mEnd V P) : V1 272 = V 272 := by
  have s1 : sameR V P V1 P1 := by
    have e1 : V1 = (mEnd V P).2.1 := congrArg (fun x => x.2.1) h1
    have e2 : P1 = (mEnd V P).2.2 := congrArg (fun x => x.2.2) h1
    rw [e1, e2]
    unfold mEnd
    split
    · exact sameR.rf
    · split
      · exact sR_close.tr sR_commit
      · exact sR_close
  exact s1.1
theorem sr_flush {V P V1 P1 : VV} {r1 : Int32} (h1 : (r1, V1, P1) = mFlush V P) : V1 272 = V 272 := by
  have s1 : sameR V P V1 P1 := by
    have e1 : V1 = (mFlush V P).2.1 := congrArg (fun x => x.2.1) h1
    have e2 : P1 = (mFlush V P).2.2 := congrArg (fun x => x.2.2) h1
    rw [e1, e2]
    unfold mFlush
    split
    · exact sameR.rf
    · split
      · exact sameR.rf
      · exact sR_commit
  exact s1.1
