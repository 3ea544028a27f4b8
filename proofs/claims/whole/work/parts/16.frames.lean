/-! WHAT A CALL LEAVES ALONE, pure -/
theorem v2_T {V : VV} {t k t' : Nat} {x : Int32} (h : t' ≠ t) : v2 V t k x t' = V t' := by
  funext j
  exact v2_t h
theorem sR_v {V P : VV} {t k : Nat} {x : Int32} (h : t ≠ 272) : sameR V P (v2 V t k x) P := ⟨v2_T (Ne.symm h), fun _ _ => rfl⟩
theorem sR_p {V P : VV} {t : Nat} {g : Nat → Int32} (h : t ≤ 272) : sameR V P V (p1 P t g) := ⟨rfl, fun t' ht => p1_n (by omega)⟩
theorem sC_v {V P : VV} {k : Nat} {x : Int32} : sameC V P (v2 V 272 k x) P := ⟨fun t ht => v2_T (by omega), fun _ _ => rfl⟩
theorem sC_p {V P : VV} {t : Nat} {g : Nat → Int32} (h : 272 < t) : sameC V P V (p1 P t g) := ⟨fun _ _ => rfl, fun t' ht => p1_n (by omega)⟩
theorem sR_write {V P : VV} {b : Int32} {t : Nat} : sameR V P (mWrite V P b t).2.1 (mWrite V P b t).2.2 := by
  unfold mWrite
  by_cases c : V 267 1 = 0 ∨ b < 0 ∨ ¬ b < 80
  · rw [if_pos c]
    exact sameR.rf
  · rw [if_neg c]
    have hb0 : ¬ b < 0 := fun q => c (Or.inr (Or.inl q))
    have hb8 : b < 80 := Decidable.byContradiction fun q => c (Or.inr (Or.inr q))
    obtain ⟨x, x1, x2⟩ := nI_of hb0
    subst x2
    have hx : x < 80 := (nI_ltI (b := 80) x1 (by omega)).mp hb8
    rw [nI_clamp x1]
    by_cases c2 : V 267 2 = 0
    · rw [if_pos c2]
      exact sR_v (by omega)
    · rw [if_neg c2]
      by_cases c3 : V 267 2 ≤ 0
      · rw [if_pos c3]
        exact (sR_v (by omega)).tr (sR_p (by omega))
      · rw [if_neg c3]
        exact ((sR_v (by omega)).tr (sR_v (by omega))).tr (sR_p (by omega))
theorem sR_read {V P : VV} {b : Int32} {t : Nat} (ht : t ≤ 272) : sameR V P V (mRead P b t) := by
  unfold mRead
  by_cases c : b < 0 ∨ 80 ≤ b
  · rw [if_pos c]
    exact sameR.rf
  · rw [if_neg c]
    exact sR_p ht
theorem sR_chL : ∀ (n i : Nat) (k : Int32) (V P : VV), sameR V P (chL n i k V P).2.1 (chL n i k V P).2.2
  | 0, _, k, V, P => sR_p (by omega)
  | n + 1, i, k, V, P => by
    simp only [chL]
    by_cases c : V (232 + i) 3 = 0 ∨ 30 ≤ k
    · rw [if_pos c]
      exact sR_chL n (i + 1) k V P
    · rw [if_neg c]
      have h1 : sameR V P (mWrite V (p1 P 114 (mPut (P 114) (k + 1) 1 (V (232 + i) 1))) (2 + (k + 1)) (80 + i)).2.1 (mWrite V (p1 P 114 (mPut (P 114) (k + 1) 1 (V (232 + i) 1))) (2 + (k + 1)) (80 + i)).2.2 := (sR_p (by omega)).tr sR_write
      by_cases c2 : (mWrite V (p1 P 114 (mPut (P 114) (k + 1) 1 (V (232 + i) 1))) (2 + (k + 1)) (80 + i)).1 = 0
      · rw [if_pos c2]
        exact h1
      · rw [if_neg c2]
        exact h1.tr (sR_chL n (i + 1) (k + 1) _ _)
theorem sR_fin {n : Int32} {V P : VV} : sameR V P (mFin n V P).2.1 (mFin n V P).2.2 := by
  have h1 : sameR V P (mWrite V (p1 P 114 (mPut (P 114) 0 1 0)) 2 114).2.1 (mWrite V (p1 P 114 (mPut (P 114) 0 1 0)) 2 114).2.2 := (sR_p (by omega)).tr sR_write
  unfold mFin
  by_cases c : (mWrite V (p1 P 114 (mPut (P 114) 0 1 0)) 2 114).1 = 0
  · rw [if_pos c]
    exact h1
  · rw [if_neg c]
    exact h1
theorem sR_bhL (n : Int32) : ∀ (r i : Nat) (V P : VV), sameR V P (bhL n r i V P).2.1 (bhL n r i V P).2.2
  | 0, _, V, P => sR_fin
  | r + 1, i, V, P => by
    simp only [bhL]
    have h1 : sameR V P (mWrite V (mRead P (2 + nI i) 115) (mByte (mRead P (2 + nI i) 115 114) (nI i)) 115).2.1 (mWrite V (mRead P (2 + nI i) 115) (mByte (mRead P (2 + nI i) 115 114) (nI i)) 115).2.2 := (sR_read (by omega)).tr sR_write
    by_cases c : (mWrite V (mRead P (2 + nI i) 115) (mByte (mRead P (2 + nI i) 115 114) (nI i)) 115).1 = 0
    · rw [if_pos c]
      exact h1
    · rw [if_neg c]
      exact h1.tr (sR_bhL n r (i + 1) _ _)
theorem sR_home {V P : VV} : sameR V P (mHome V P).2.1 (mHome V P).2.2 := by
  unfold mHome
  by_cases c : mN P = 0
  · rw [if_pos c]
    exact sR_read (V := V) (P := P) (b := 2) (t := 114) (by omega)
  · rw [if_neg c]
    exact (sR_read (t := 114) (by omega)).tr (sR_bhL _ _ _ _ _)
theorem sR_out {V P : VV} : sameR V P (mOut V P).2.1 (mOut V P).2.2 := by
  have h1 : sameR V P (mCopy V P).2.1 (mCopy V P).2.2 := sR_chL 34 0 0 V P
  unfold mOut
  by_cases c : (mCopy V P).1 = 0
  · rw [if_pos c]
    exact h1
  · rw [if_neg c]
    refine h1.tr ?_
    generalize (mCopy V P).2.1 = V1
    generalize (mCopy V P).2.2 = P1
    have h2 : sameR V1 P1 (mWrite V1 P1 2 114).2.1 (mWrite V1 P1 2 114).2.2 := sR_write
    unfold mOut1
    by_cases c2 : (mWrite V1 P1 2 114).1 = 0
    · rw [if_pos c2]
      exact h2
    · rw [if_neg c2]
      exact h2.tr ((sR_v (by omega)).tr sR_home)
theorem sR_zR {k n i : Nat} {V P : VV} (h : i + n ≤ 34) : sameR V P (zR k n i V) P := ⟨by
  funext j
  rw [zR_at, if_neg (by omega)], fun _ _ => rfl⟩
theorem sR_eR {n i : Nat} {V P : VV} (h : i + n ≤ 34) : sameR V P (eR n i V) P := ⟨by
  funext j
  rw [eR_at, if_neg (by omega)], fun _ _ => rfl⟩
theorem sR_commit {V P : VV} : sameR V P (mCommit V P).2.1 (mCommit V P).2.2 := by
  have h1 : sameR V P (mOut V P).2.1 (mOut V P).2.2 := sR_out
  unfold mCommit
  by_cases c : (mOut V P).1 = 0
  · rw [if_pos c]
    exact h1.tr (sR_eR (by omega))
  · rw [if_neg c]
    exact h1.tr (sR_zR (by omega))
theorem sR_close {V P : VV} : sameR V P (mClose V) P := (sR_v (by omega)).tr (sR_zR (by omega))
theorem sR_look {V P : VV} {b : Int32} : sameR V P (mLook V P b).2.1 (mLook V P b).2.2 := by
  unfold mLook mTouch mTake
  have hg := mGive_lt V
  split
  · rename_i i h
    have := (mRow_some h).1
    exact (sR_v (by omega)).tr (sR_v (by omega))
  · exact ((((sR_v (by omega)).tr (sR_v (by omega))).tr (sR_v (by omega))).tr (sR_v (by omega))).tr (sR_read (by omega))
theorem sC_w {R A : VV} {n : Int32} : sameC R A (rWritten R n).2 A := by
  unfold rWritten
  by_cases c : R 272 10 < 0
  · rw [if_pos c]
    exact sC_v.tr sC_v
  · rw [if_neg c]
    by_cases c2 : R 272 10 < n
    · rw [if_pos c2]
      exact (sC_v.tr sC_v).tr sC_v
    · rw [if_neg c2]
      exact sC_v.tr sC_v
theorem sC_ended {R A : VV} : sameC R A (rEnded R).2 A := sC_w.tr sC_v
theorem sC_rP {R A : VV} {N : Nat} : sameC R A R (rP A N) := (sC_p (by omega)).tr (sC_p (by omega))
theorem sC_commit {R A : VV} : sameC R A (rCommit R A).2.1 (rCommit R A).2.2 := by
  unfold rCommit
  by_cases c : (rWritten R (rMany (A 275) + 1)).1 = 0
  · rw [if_pos c]
    exact sC_w
  · rw [if_neg c]
    unfold rCommit2
    exact sC_w.tr ((sC_v.tr sC_v).tr (sC_ended.tr sC_rP))
theorem sC_0 {R A : VV} : sameC R A (r0 R) A := sC_v
theorem sC_stamp {R V A : VV} {b : Nat} : sameC R A R (rStamp V A b) := sC_p (by omega)
theorem sC_evict {R V A : VV} : sameC R A R (rEvict V A) := by
  unfold rEvict
  by_cases c : (rScan V A).1 = 34
  · rw [if_pos c]
    exact sC_p (by omega)
  · rw [if_neg c]
    exact sameC.rf
theorem sC_look {R A : VV} {b : Nat} : sameC R A (rLook R A b).1 (rLook R A b).2 := by
  unfold rLook
  by_cases c : A 277 b = 0
  · rw [if_pos c]
    exact (sC_v.tr sC_v).tr (sC_evict.tr sC_stamp)
  · rw [if_neg c]
    exact sC_v.tr sC_stamp
/-! THE STEPS: from a state in which both agree to the next -/
theorem st_begin {V P V1 P1 V2 P2 : VV} {k : Nat} {r1 r2 : Int32} (h : rel V P V P k) (h1 : (r1, V1, P1) = mBegin V P) (h2 : (r2, V2, P2) = rBegin V1 P1) : r1 = r2 ∧ rel V2 P2 V2 P2 (k + 1) := by
  have s1 : sameR V P V1 P1 := by
    have e1 : V1 = (mBegin V P).2.1 := congrArg (fun x => x.2.1) h1
    have e2 : P1 = (mBegin V P).2.2 := congrArg (fun x => x.2.2) h1
    rw [e1, e2]
    unfold mBegin
    split
    · exact sameR.rf
    · exact sR_v (by omega)
  have s2 : sameC V1 P1 V2 P2 := by
    have e1 : V2 = (rBegin V1 P1).2.1 := congrArg (fun x => x.2.1) h2
    have e2 : P2 = (rBegin V1 P1).2.2 := congrArg (fun x => x.2.2) h2
    rw [e1, e2]
    unfold rBegin
    split
    · exact sC_0
    · exact (sC_0.tr sC_v).tr (sC_p (by omega))
  have key := sim_begin (rel_R h s1)
  rw [← h1, ← h2] at key
  exact ⟨key.1, rel_C key.2 s2⟩
theorem st_end {V P V1 P1 V2 P2 : VV} {k : Nat} {r1 r2 : Int32} (h : rel V P V P k) (h1 : (r1, V1, P1) = mEnd V P) (h2 : (r2, V2, P2) = rEnd V1 P1) : r1 = r2 ∧ rel V2 P2 V2 P2 (k + 1) := by
  have s1 : sameR V P V1 P1 := by
    have e1 : V1 = (mEnd V P).2.1 := congrArg (fun x => x.2.1) h1
    have e2 : P1 = (mEnd V P).2.2 := congrArg (fun x => x.2.2) h1
    rw [e1, e2]
    unfold mEnd
    split
    · exact sameR.rf
    · split
      · exact sR_close.tr sR_commit
      · exact sR_close
  have s2 : sameC V1 P1 V2 P2 := by
    have e1 : V2 = (rEnd V1 P1).2.1 := congrArg (fun x => x.2.1) h2
    have e2 : P2 = (rEnd V1 P1).2.2 := congrArg (fun x => x.2.2) h2
    rw [e1, e2]
    unfold rEnd
    split
    · exact sC_0
    · split
      · exact (sC_0.tr sC_v).tr sC_commit
      · exact sC_0.tr sC_v
  have key := sim_end (rel_R h s1)
  rw [← h1, ← h2] at key
  exact ⟨key.1, rel_C key.2 s2⟩
theorem st_flush {V P V1 P1 V2 P2 : VV} {k : Nat} {r1 r2 : Int32} (h : rel V P V P k) (h1 : (r1, V1, P1) = mFlush V P) (h2 : (r2, V2, P2) = rFlush V1 P1) : r1 = r2 ∧ rel V2 P2 V2 P2 (k + 1) := by
  have s1 : sameR V P V1 P1 := by
    have e1 : V1 = (mFlush V P).2.1 := congrArg (fun x => x.2.1) h1
    have e2 : P1 = (mFlush V P).2.2 := congrArg (fun x => x.2.2) h1
    rw [e1, e2]
    unfold mFlush
    split
    · exact sameR.rf
    · split
      · exact sameR.rf
      · exact sR_commit
  have s2 : sameC V1 P1 V2 P2 := by
    have e1 : V2 = (rFlush V1 P1).2.1 := congrArg (fun x => x.2.1) h2
    have e2 : P2 = (rFlush V1 P1).2.2 := congrArg (fun x => x.2.2) h2
    rw [e1, e2]
    unfold rFlush
    split
    · exact sC_0
    · split
      · exact sC_0
      · exact sC_0.tr sC_commit
  have key := sim_flush (rel_R h s1)
  rw [← h1, ← h2] at key
  exact ⟨key.1, rel_C key.2 s2⟩
theorem st_get {V P V1 P1 V2 P2 : VV} {k : Nat} {r1 r2 b x : Int32} (h : rel V P V P k) (hk : k + 1 < 2 ^ 31) (h1 : (r1, V1, P1) = mGet V P b x) (h2 : (r2, V2, P2) = rGet V1 P1 b x) : r1 = r2 ∧ rel V2 P2 V2 P2 (k + 1) := by
  have s1 : sameR V P V1 P1 := by
    have e1 : V1 = (mGet V P b x).2.1 := congrArg (fun x => x.2.1) h1
    have e2 : P1 = (mGet V P b x).2.2 := congrArg (fun x => x.2.2) h1
    rw [e1, e2]
    unfold mGet
    split
    · exact sameR.rf
    · exact sR_look
  have s2 : sameC V1 P1 V2 P2 := by
    have e1 : V2 = (rGet V1 P1 b x).2.1 := congrArg (fun x => x.2.1) h2
    have e2 : P2 = (rGet V1 P1 b x).2.2 := congrArg (fun x => x.2.2) h2
    rw [e1, e2]
    unfold rGet
    split
    · exact sC_0
    · exact sC_0.tr sC_look
  have key := sim_get (rel_R h s1) hk b x
  rw [← h1, ← h2] at key
  exact ⟨key.1, rel_C key.2 s2⟩
theorem st_fill {V P V1 P1 V2 P2 : VV} {k : Nat} {r1 r2 b x n v : Int32} (h : rel V P V P k) (hk : k + 1 < 2 ^ 31) (h1 : (r1, V1, P1) = mFill V P b x n v) (h2 : (r2, V2, P2) = rFill V1 P1 b x n v) : r1 = r2 ∧ rel V2 P2 V2 P2 (k + 1) := by
  have s1 : sameR V P V1 P1 := by
    have e1 : V1 = (mFill V P b x n v).2.1 := congrArg (fun x => x.2.1) h1
    have e2 : P1 = (mFill V P b x n v).2.2 := congrArg (fun x => x.2.2) h1
    rw [e1, e2]
    unfold mFill
    split
    · exact sameR.rf
    · have := mLook_lt V P b
      exact ((sR_look.tr (sR_v (by omega))).tr (sR_v (by omega))).tr (sR_p (by omega))
  have s2 : sameC V1 P1 V2 P2 := by
    have e1 : V2 = (rFill V1 P1 b x n v).2.1 := congrArg (fun x => x.2.1) h2
    have e2 : P2 = (rFill V1 P1 b x n v).2.2 := congrArg (fun x => x.2.2) h2
    rw [e1, e2]
    unfold rFill
    split
    · exact sC_0
    · exact (sC_0.tr sC_look).tr (((sC_p (by omega)).tr (sC_p (by omega))).tr (sC_p (by omega)))
  have key := sim_fill (rel_R h s1) hk b x n v
  rw [← h1, ← h2] at key
  exact ⟨key.1, rel_C key.2 s2⟩
theorem st_cut {V P V1 P1 V2 P2 : VV} {k : Nat} {r1 r2 x : Int32} (h : rel V P V P k) (h1 : (r1, V1, P1) = mCut V P x) (h2 : (r2, V2, P2) = rCut V1 P1 x) : r1 = r2 ∧ rel V2 P2 V2 P2 (k + 1) := by
  have s1 : sameR V P V1 P1 := by
    have e1 : V1 = (mCut V P x).2.1 := congrArg (fun x => x.2.1) h1
    have e2 : P1 = (mCut V P x).2.2 := congrArg (fun x => x.2.2) h1
    rw [e1, e2]
    unfold mCut
    split
    · exact sameR.rf
    · exact sR_v (by omega)
  have s2 : sameC V1 P1 V2 P2 := by
    have e1 : V2 = (rCut V1 P1 x).2.1 := congrArg (fun x => x.2.1) h2
    have e2 : P2 = (rCut V1 P1 x).2.2 := congrArg (fun x => x.2.2) h2
    rw [e1, e2]
    unfold rCut
    split
    · exact sC_0
    · exact sC_0.tr sC_v
  have key := sim_cut (rel_R h s1) x
  rw [← h1, ← h2] at key
  exact ⟨key.1, rel_C key.2 s2⟩
theorem st_power {V P V1 P1 V2 P2 : VV} {k : Nat} {r1 r2 x : Int32} (h : rel V P V P k) (h1 : (r1, V1, P1) = mPower V P x) (h2 : (r2, V2, P2) = rPower V1 P1 x) : r1 = r2 ∧ rel V2 P2 V2 P2 (k + 1) := by
  have s1 : sameR V P V1 P1 := by
    have e1 : V1 = (mPower V P x).2.1 := congrArg (fun x => x.2.1) h1
    have e2 : P1 = (mPower V P x).2.2 := congrArg (fun x => x.2.2) h1
    rw [e1, e2]
    unfold mPower
    split
    · exact ((sR_v (by omega)).tr (sR_v (by omega))).tr sR_home
    · exact sameR.rf
  have s2 : sameC V1 P1 V2 P2 := by
    have e1 : V2 = (rPower V1 P1 x).2.1 := congrArg (fun x => x.2.1) h2
    have e2 : P2 = (rPower V1 P1 x).2.2 := congrArg (fun x => x.2.2) h2
    rw [e1, e2]
    have hb : sameC V1 P1 (rBackV V1 x) (rBackP P1) := (((sC_0.tr sC_v).tr sC_v).tr sC_v).tr (((sC_p (by omega)).tr (sC_p (by omega))).tr (sC_p (by omega)))
    unfold rPower
    split
    · split
      · exact hb
      · exact hb.tr sC_ended
    · exact sC_0
  have key := sim_power (rel_R h s1) x
  rw [← h1, ← h2] at key
  exact ⟨key.1, rel_C key.2 s2⟩
theorem st_still {V P : VV} {k : Nat} (h : rel V P V P k) : rel (r0 V) P (r0 V) P (k + 1) := rel_C (rel_0 h) sC_0
