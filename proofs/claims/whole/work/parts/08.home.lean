/-! BRINGING HOME, pure -/
theorem mRead_n {P : VV} {b t : Nat} (hb : b < 80) : mRead P (nI b) t = p1 P t (P b) := by
  unfold mRead
  rw [if_neg, nI_clamp (by omega)]
  intro h
  rcases h with h | h
  · exact nI_pos (by omega) h
  · exact nI_ge (b := 80) hb (by omega) h
theorem bhL_spec {N : Nat} (hN : N ≤ 80) (S : Nat → Nat → Int32) (n : Int32) (blk : Nat → Nat) : ∀ (r i : Nat) (V P : VV), i + r ≤ 31 → 1 ≤ i → ¬ V 267 1 = 0 → (∀ x, i ≤ x → x < i + r → isB N (blk x) ∧ P 114 x = nI (blk x) ∧ ∀ j, j < 1024 → P (2 + x) j = S (blk x) j) →
    (∃ V' P' : VV, bhL n r i V P = (n, V', P') ∧ okW V V' (r + 1) ∧ P' 2 0 = 0 ∧ (∀ b, isB N b → (∀ x, i ≤ x → x < i + r → ¬ blk x = b) → P' b = P b) ∧ (∀ b, isB N b → (∃ x, i ≤ x ∧ x < i + r ∧ blk x = b) → ∀ j, j < 1024 → P' b j = S b j) ∧ ∀ t, 80 ≤ t → t ≠ 114 → t ≠ 115 → P' t = P t) ∨
    (∃ (V' P' : VV) (m : Nat), bhL n r i V P = (-1, V', P') ∧ m < r + 1 ∧ noW V V' m ∧ (∀ t, 2 ≤ t → t ≤ 32 → P' t = P t) ∧ (∀ b, isB N b → (∀ x, i ≤ x → x < i + r → ¬ blk x = b) → P' b = P b) ∧ ∀ t, 80 ≤ t → t ≠ 114 → t ≠ 115 → P' t = P t)
  | 0, i, V, P, hi, h1, hon, hx => by
    simp only [bhL, mFin]
    rcases mWrite_on (V := V) (P := p1 P 114 (mPut (P 114) 0 1 0)) (b := 2) (t := 114) hon (by omega) with ⟨V1, w1, w2⟩ | ⟨V1, w1, w2⟩
    · have w1' : mWrite V (p1 P 114 (mPut (P 114) 0 1 0)) 2 114 = (1, V1, p1 (p1 P 114 (mPut (P 114) 0 1 0)) 2 ((p1 P 114 (mPut (P 114) 0 1 0)) 114)) := w1
      rw [w1']
      simp only
      rw [if_neg (by decide)]
      left
      refine ⟨V1, _, rfl, w2, ?_, fun b hb _ => ?_, fun b _ hx => ?_, fun t h2 h3 h4 => ?_⟩
      · rw [p1_s, p1_s]
        have := mPut_s (g := P 114) (x := 0) (b := 0) (by omega) (by omega)
        rw [nI_0] at this
        exact this
      · rw [p1_n (by omega), p1_n (by omega)]
      · obtain ⟨x, a1, a2, -⟩ := hx
        omega
      · rw [p1_n (by omega), p1_n h3]
    · have w1' : mWrite V (p1 P 114 (mPut (P 114) 0 1 0)) 2 114 = (0, V1, p1 P 114 (mPut (P 114) 0 1 0)) := w1
      rw [w1']
      simp only
      rw [if_pos trivial]
      right
      exact ⟨V1, _, 0, rfl, by omega, w2, fun t h2 h3 => p1_n (by omega), fun b hb _ => p1_n (by omega), fun t h2 h3 h4 => p1_n h3⟩
  | r + 1, i, V, P, hi, h1, hon, hx => by
    simp only [bhL]
    obtain ⟨hb, hp, hs⟩ := hx i (Nat.le_refl i) (by omega)
    have e2 : 2 + nI i = nI (2 + i) := nI_add 2 i
    rw [e2, mRead_n (by omega), p1_n (show (114 : Nat) ≠ 115 by omega), mByte_n (x := i) (b := blk i) (by omega) (by omega) hp]
    rcases mWrite_on (V := V) (P := p1 P 115 (P (2 + i))) (b := blk i) (t := 115) hon (by omega) with ⟨V1, w1, w2⟩ | ⟨V1, w1, w2⟩
    · rw [w1]
      simp only
      rw [if_neg (by decide), p1_s]
      generalize hP1 : p1 (p1 P 115 (P (2 + i))) (blk i) (P (2 + i)) = P1
      have pb : P1 (blk i) = P (2 + i) := by rw [← hP1, p1_s]
      have pn : ∀ t, t ≠ 115 → t ≠ blk i → P1 t = P t := fun t h1 h2 => by rw [← hP1, p1_n h2, p1_n h1]
      rcases bhL_spec hN S n blk r (i + 1) V1 P1 (by omega) (by omega) (by rw [w2.on]; exact hon) (fun x h2 h3 => by
        obtain ⟨a1, a2, a3⟩ := hx x (by omega) (by omega)
        refine ⟨a1, ?_, fun j hj => ?_⟩
        · rw [pn 114 (by omega) (by omega)]
          exact a2
        · rw [pn (2 + x) (by omega) (by omega)]
          exact a3 j hj) with ⟨V', P', q1, q2, q3, q4, q5, q6⟩ | ⟨V', P', m, q1, q2, q3, q4, q5, q6⟩
      · left
        refine ⟨V', P', q1, ?_, q3, fun b hb' hn => ?_, fun b hb' he => ?_, fun t h2 h3 h4 => ?_⟩
        · have := w2.tr q2
          rw [show 1 + (r + 1) = r + 1 + 1 by omega] at this
          exact this
        · rw [q4 b hb' (fun x h2 h3 => hn x (by omega) (by omega)), pn b (by omega) (fun q => hn i (Nat.le_refl i) (by omega) q.symm)]
        · by_cases hl : ∃ x, i + 1 ≤ x ∧ x < i + 1 + r ∧ blk x = b
          · exact q5 b hb' hl
          · intro j hj
            obtain ⟨x, a1, a2, a3⟩ := he
            have ex : x = i := by
              rcases Nat.lt_or_ge i x with w | w
              · exact absurd ⟨x, by omega, by omega, a3⟩ hl
              · omega
            subst ex
            rw [q4 b hb' (fun x h2 h3 h4 => hl ⟨x, h2, h3, h4⟩), ← a3, pb]
            exact hs j hj
        · rw [q6 t h2 h3 h4, pn t h4 (by omega)]
      · right
        refine ⟨V', P', 1 + m, q1, by omega, w2.no q3, fun t h2 h3 => ?_, fun b hb' hn => ?_, fun t h2 h3 h4 => ?_⟩
        · rw [q4 t h2 h3, pn t (by omega) (by omega)]
        · rw [q5 b hb' (fun x h2 h3 => hn x (by omega) (by omega)), pn b (by omega) (fun q => hn i (Nat.le_refl i) (by omega) q.symm)]
        · rw [q6 t h2 h3 h4, pn t h4 (by omega)]
    · rw [w1]
      simp only
      rw [if_pos trivial]
      right
      exact ⟨V1, _, 0, rfl, by omega, w2, fun t h2 h3 => p1_n (by omega), fun b hb' _ => p1_n (by omega), fun t h2 h3 h4 => p1_n h4⟩
theorem mRead_2 (P : VV) : mRead P 2 114 = p1 P 114 (P 2) := mRead_n (P := P) (b := 2) (t := 114) (by omega)
theorem mHome_0 {V P : VV} (h : P 2 0 = 0) : mHome V P = (0, V, p1 P 114 (P 2)) := by
  have hb : mByte (P 2) 0 = 0 := mByte_n (g := P 2) (x := 0) (b := 0) (by omega) (by omega) h
  have hn : mN P = 0 := by
    unfold mN
    rw [mRead_2, p1_s, hb]
    rfl
  unfold mHome
  rw [if_pos hn, mRead_2]
theorem mHome_n {V P A : VV} {N n : Nat} {blk : Nat → Nat} (hN : N ≤ 80) (h1 : 1 ≤ n) (h30 : n ≤ 30) (hon : ¬ V 267 1 = 0) (hL : rLog P A N n blk) :
    (∃ V' P' : VV, mHome V P = (nI n, V', P') ∧ okW V V' (n + 1) ∧ rDisk P' A N ∧ ∀ t, 80 ≤ t → t ≠ 114 → t ≠ 115 → P' t = P t) ∨
    (∃ (V' P' : VV) (m : Nat), mHome V P = (-1, V', P') ∧ m < n + 1 ∧ noW V V' m ∧ rLog P' A N n blk ∧ ∀ t, 80 ≤ t → t ≠ 114 → t ≠ 115 → P' t = P t) := by
  obtain ⟨l1, l2, l3⟩ := hL
  have hb : mByte (P 2) 0 = nI n := mByte_n (g := P 2) (x := 0) (b := n) (by omega) (by omega) l1
  have hn : mN P = nI n := by
    unfold mN
    rw [mRead_2, p1_s, hb, if_neg (show ¬ (30 : Int32) < nI n from nI_nlt (a := 30) (b := n) h30 (by omega))]
  have hne : ¬ nI n = 0 := nI_ne0 h1 (by omega)
  unfold mHome
  rw [hn, if_neg hne, mRead_2, nI_clamp (by omega)]
  rcases bhL_spec hN (fun b j => A 273 (1024 * b + j)) (nI n) blk n 1 V (p1 P 114 (P 2)) (by omega) (by omega) hon (fun x h2 h3 => by
    obtain ⟨a1, a2, a3⟩ := l2 x h2 (by omega)
    refine ⟨a1, by rw [p1_s]; exact a2, fun j hj => ?_⟩
    rw [p1_n (by omega)]
    exact a3 j hj) with ⟨V', P', q1, q2, q3, q4, q5, q6⟩ | ⟨V', P', m, q1, q2, q3, q4, q5, q6⟩
  · left
    refine ⟨V', P', q1, q2, ⟨q3, fun b hb' j hj => ?_⟩, fun t h2 h3 h4 => by rw [q6 t h2 h3 h4, p1_n h3]⟩
    by_cases he : ∃ x, 1 ≤ x ∧ x < 1 + n ∧ blk x = b
    · exact q5 b hb' he j hj
    · rw [q4 b hb' (fun x h2 h3 h4 => he ⟨x, h2, h3, h4⟩), p1_n (by omega)]
      exact l3 b hb' (fun x h2 h3 h4 => he ⟨x, h2, by omega, h4⟩) j hj
  · right
    refine ⟨V', P', m, q1, q2, q3, ⟨?_, fun x h2 h3 => ?_, fun b hb' hn' j hj => ?_⟩, fun t h2 h3 h4 => by rw [q6 t h2 h3 h4, p1_n h3]⟩
    · rw [q4 2 (by omega) (by omega), p1_n (by omega)]
      exact l1
    · obtain ⟨a1, a2, a3⟩ := l2 x h2 h3
      refine ⟨a1, ?_, fun j hj => ?_⟩
      · rw [q4 2 (by omega) (by omega), p1_n (by omega)]
        exact a2
      · rw [q4 (2 + x) (by omega) (by omega), p1_n (by omega)]
        exact a3 j hj
    · rw [q5 b hb' (fun x h2 h3 => hn' x h2 (by omega)), p1_n (by omega)]
      exact l3 b hb' hn' j hj
/-- the whole way out: S is what the blocks are to hold behind it -/
theorem mOut_spec {V P A : VV} {N : Nat} (hN : N ≤ 80) (hon : ¬ V 267 1 = 0) (h1 : 1 ≤ hR V 3) (h30 : hR V 3 ≤ 30)
    (hrow : ∀ x, x < 34 → ¬ V (232 + x) 3 = 0 → ∃ b, isB N b ∧ V (232 + x) 1 = nI b ∧ ∀ j, j < 1024 → P (80 + x) j = A 273 (1024 * b + j))
    (hdisk : ∀ b, isB N b → (∀ x, x < 34 → ¬ V (232 + x) 3 = 0 → ¬ V (232 + x) 1 = nI b) → ∀ j, j < 1024 → P b j = A 273 (1024 * b + j)) :
    (∃ (V' P' : VV) (m : Nat), mOut V P = (0, V', P') ∧ m < hR V 3 + 1 ∧ noW V V' m ∧ ∀ t, t ≠ 114 → ¬ (2 < t ∧ t ≤ 32) → P' t = P t) ∨
    (∃ V0 : VV, okW V V0 (hR V 3 + 1) ∧
      ((∃ V' P' : VV, mOut V P = (1, V', P') ∧ okW (v2 V0 269 2 (V0 269 2 + 1)) V' (hR V 3 + 1) ∧ rDisk P' A N ∧ ∀ t, 80 ≤ t → t ≠ 114 → t ≠ 115 → P' t = P t) ∨
       (∃ (V' P' : VV) (m : Nat) (blk : Nat → Nat), mOut V P = (0, V', P') ∧ m < hR V 3 + 1 ∧ noW (v2 V0 269 2 (V0 269 2 + 1)) V' m ∧ rLog P' A N (hR V 3) blk ∧ ∀ t, 80 ≤ t → t ≠ 114 → t ≠ 115 → P' t = P t))) := by
  have hc := chL_spec 34 0 0 V P rfl (by show 0 + hR V 3 ≤ 30; omega) hon (fun x hx h => by
    obtain ⟨b, b1, b2, -⟩ := hrow x hx h
    exact ⟨b, by omega, b2⟩)
  have hcU : cU (nz fun x => V (232 + x) 3) 34 0 = hR V 3 := rfl
  rw [nI_0, hcU] at hc
  unfold mOut mCopy
  rcases hc with ⟨V1, P1, rw', q1, q2, q3, q4, q5, q6, q7⟩ | ⟨V1, P1, m, q1, q2, q3, q4⟩
  · rw [q1]
    simp only
    rw [if_neg (by decide)]
    unfold mOut1
    rw [Nat.zero_add] at q5
    rw [Nat.add_zero] at q7
    rcases mWrite_on (V := V1) (P := P1) (b := 2) (t := 114) (by rw [q2.on]; exact hon) (by omega) with ⟨V2, w1, w2⟩ | ⟨V2, w1, w2⟩
    · have w1' : mWrite V1 P1 2 114 = (1, V2, p1 P1 2 (P1 114)) := w1
      rw [w1']
      simp only
      rw [if_neg (by decide)]
      right
      have hok := q2.tr w2
      refine ⟨V2, hok, ?_⟩
      have hrw : ∀ x, ∃ b, (0 < x → x ≤ hR V 3 → isB N b ∧ V (232 + rw' x) 1 = nI b ∧ ∀ j, j < 1024 → P (80 + rw' x) j = A 273 (1024 * b + j)) := fun x => by
        by_cases hx : 0 < x ∧ x ≤ hR V 3
        · obtain ⟨a1, a2, a3, a4, a5⟩ := q3 x hx.1 (by rw [Nat.zero_add]; exact hx.2)
          obtain ⟨b, b1, b2, b3⟩ := hrow _ a1 a3
          exact ⟨b, fun _ _ => ⟨b1, b2, b3⟩⟩
        · exact ⟨0, fun h2 h3 => absurd ⟨h2, h3⟩ hx⟩
      have hch : ∃ blk : Nat → Nat, ∀ x, 0 < x → x ≤ hR V 3 → isB N (blk x) ∧ V (232 + rw' x) 1 = nI (blk x) ∧ ∀ j, j < 1024 → P (80 + rw' x) j = A 273 (1024 * blk x + j) := ⟨fun x => Classical.choose (hrw x), fun x => Classical.choose_spec (hrw x)⟩
      obtain ⟨blk, hblk⟩ := hch
      have hL : rLog (p1 P1 2 (P1 114)) A N (hR V 3) blk := by
        refine ⟨by rw [p1_s]; exact q5, fun x h2 h3 => ?_, fun b hb hn j hj => ?_⟩
        · obtain ⟨a1, a2, a3, a4, a5⟩ := q3 x h2 (by rw [Nat.zero_add]; exact h3)
          obtain ⟨b1, b2, b3⟩ := hblk x h2 h3
          refine ⟨b1, ?_, fun j hj => ?_⟩
          · rw [p1_s, a4]
            exact b2
          · rw [p1_n (by omega), a5]
            exact b3 j hj
        · rw [p1_n (by omega), q7 b (by omega) (by omega)]
          refine hdisk b hb (fun x hx hh he => ?_) j hj
          obtain ⟨y, y1, y2, y3⟩ := q4 x (by omega) hx hh
          rw [Nat.zero_add] at y2
          refine hn y y1 y2 ?_
          have h4 := (hblk y y1 y2).2.1
          have h5 := (hblk y y1 y2).1
          rw [y3, he] at h4
          exact ((nI_eq (by omega) (by omega)).mp h4).symm
      have hV3 : ¬ (v2 V2 269 2 (V2 269 2 + 1)) 267 1 = 0 := by
        rw [v2_t (by omega), hok.on]
        exact hon
      unfold mOut2
      rcases mHome_n hN h1 h30 hV3 hL with ⟨V', P', g1, g2, g3, g4⟩ | ⟨V', P', m, g1, g2, g3, g4, g5⟩
      · left
        refine ⟨V', P', ?_, g2, g3, fun t h2 h3 h4 => by rw [g4 t h2 h3 h4, p1_n (by omega), q7 t h3 (by omega)]⟩
        rw [g1]
        simp only
        rw [if_neg]
        intro h
        have : (nI (hR V 3)) < 0 := by
          rw [h]
          decide
        exact nI_pos (by omega) this
      · right
        refine ⟨V', P', m, blk, ?_, g2, g3, g4, fun t h2 h3 h4 => by rw [g5 t h2 h3 h4, p1_n (by omega), q7 t h3 (by omega)]⟩
        rw [g1]
        simp only
        rw [if_pos trivial]
    · have w1' : mWrite V1 P1 2 114 = (0, V2, P1) := w1
      rw [w1']
      simp only
      rw [if_pos trivial]
      left
      exact ⟨V2, P1, _, rfl, by omega, q2.no w2, fun t h2 h3 => q7 t h2 (by omega)⟩
  · rw [q1]
    simp only
    rw [if_pos trivial]
    left
    exact ⟨V1, P1, m, rfl, by omega, q3, fun t h2 h3 => q4 t h2 h3⟩
