/-! WHAT THE METHODS DO, as functions of (V, P): they follow the bytecode's own branches -/
abbrev mIsBlock (V : VV) (b : Int32) : Prop := ¬ b < 0 ∧ ¬ V 266 0 ≤ b ∧ ¬ (¬ b < 2 ∧ ¬ 32 < b)
abbrev mIsRun (k n : Int32) : Prop := ¬ n < 1 ∧ ¬ 1024 < n ∧ ¬ k < 0 ∧ ¬ 1024 - n < k
def bI (q : Prop) [Decidable q] : Int32 := if q then 1 else 0
/-- Page -/
def mByte (g : Nat → Int32) (k : Int32) : Int32 := if k < 0 ∨ 1024 ≤ k then 0 else g k.toNatClampNeg &&& 255
def mRun (g : Nat → Int32) (k : Nat) (v : Int32) (n : Nat) : Nat → Int32 := fun j => if k ≤ j ∧ j < k + n then (v + nI (j - k)).toInt8.toInt32 else g j
def mPut (g : Nat → Int32) (k n v : Int32) : Nat → Int32 := if mIsRun k n then mRun g k.toNatClampNeg v n.toNatClampNeg else g
/-- Disk -/
def mRead (P : VV) (b : Int32) (t : Nat) : VV := if b < 0 ∨ 80 ≤ b then P else p1 P t (P b.toNatClampNeg)
def mWrite (V P : VV) (b : Int32) (t : Nat) : Int32 × VV × VV :=
  if V 267 1 = 0 ∨ b < 0 ∨ ¬ b < 80 then (0, V, P)
  else if V 267 2 = 0 then (0, v2 V 267 1 0, P)
  else if V 267 2 ≤ 0 then (1, v2 V 267 3 (V 267 3 + 1), p1 P b.toNatClampNeg (P t))
  else (1, v2 (v2 V 267 2 (V 267 2 - 1)) 267 3 (V 267 3 + 1), p1 P b.toNatClampNeg (P t))
/-- Row, Cache -/
def mGW (V : VV) (i j : Nat) : Int32 := if V (232 + i) 3 = V (232 + j) 3 then (if V (232 + j) 2 ≤ V (232 + i) 2 then 0 else 1) else V (232 + j) 3
def fd (q : Nat → Bool) : Nat → Nat → Option Nat
  | 0, _ => none
  | n + 1, i => if q i then some i else fd q n (i + 1)
def mRow (V : VV) (b : Int32) : Option Nat := fd (fun i => decide (V (232 + i) 1 = b)) 34 0
def gL (V : VV) : Nat → Nat → Nat → Nat
  | 0, _, f => f
  | n + 1, i, f => gL V n (i + 1) (if mGW V i f = 0 then f else i)
def mGive (V : VV) : Nat := gL V 34 0 0
def cR (V : VV) (k : Nat) : Nat → Nat → Int32 → Int32
  | 0, _, a => a
  | n + 1, i, a => cR V k n (i + 1) (if V (232 + i) k = 0 then a else a + 1)
def mCnt (V : VV) (k : Nat) : Int32 := cR V k 34 0 0
def zR (k : Nat) : Nat → Nat → VV → VV
  | 0, _, V => V
  | n + 1, i, V => zR k n (i + 1) (v2 V (232 + i) k 0)
def mEmp (V : VV) (i : Nat) : VV := v2 (v2 (v2 (v2 V (232 + i) 1 (-1)) (232 + i) 2 0) (232 + i) 3 0) (232 + i) 4 0
def eR : Nat → Nat → VV → VV
  | 0, _, V => V
  | n + 1, i, V => eR n (i + 1) (mEmp V i)
def mTouch (V : VV) (i : Nat) : VV := v2 (v2 V 268 1 (V 268 1 + 1)) (232 + i) 2 (V 268 1 + 1)
def mTake (V : VV) (i : Nat) (b : Int32) : VV := v2 (v2 V (232 + i) 1 b) 268 2 (V 268 2 + 1)
def mLook (V P : VV) (b : Int32) : Nat × VV × VV := match mRow V b with
  | some i => (i, mTouch V i, P)
  | none => (mGive V, mTouch (mTake V (mGive V) b) (mGive V), mRead P b (80 + mGive V))
/-- Log -/
def chL : Nat → Nat → Int32 → VV → VV → Int32 × VV × VV
  | 0, _, k, V, P => (1, V, p1 P 114 (mPut (P 114) 0 1 k))
  | n + 1, i, k, V, P =>
    if V (232 + i) 3 = 0 ∨ 30 ≤ k then chL n (i + 1) k V P
    else if (mWrite V (p1 P 114 (mPut (P 114) (k + 1) 1 (V (232 + i) 1))) (2 + (k + 1)) (80 + i)).1 = 0 then (0, (mWrite V (p1 P 114 (mPut (P 114) (k + 1) 1 (V (232 + i) 1))) (2 + (k + 1)) (80 + i)).2)
    else chL n (i + 1) (k + 1) (mWrite V (p1 P 114 (mPut (P 114) (k + 1) 1 (V (232 + i) 1))) (2 + (k + 1)) (80 + i)).2.1 (mWrite V (p1 P 114 (mPut (P 114) (k + 1) 1 (V (232 + i) 1))) (2 + (k + 1)) (80 + i)).2.2
def mCopy (V P : VV) : Int32 × VV × VV := chL 34 0 0 V P
def mFin (n : Int32) (V P : VV) : Int32 × VV × VV :=
  if (mWrite V (p1 P 114 (mPut (P 114) 0 1 0)) 2 114).1 = 0 then (-1, (mWrite V (p1 P 114 (mPut (P 114) 0 1 0)) 2 114).2) else (n, (mWrite V (p1 P 114 (mPut (P 114) 0 1 0)) 2 114).2)
def bhL (n : Int32) : Nat → Nat → VV → VV → Int32 × VV × VV
  | 0, _, V, P => mFin n V P
  | r + 1, i, V, P =>
    if (mWrite V (mRead P (2 + nI i) 115) (mByte (mRead P (2 + nI i) 115 114) (nI i)) 115).1 = 0 then (-1, (mWrite V (mRead P (2 + nI i) 115) (mByte (mRead P (2 + nI i) 115 114) (nI i)) 115).2)
    else bhL n r (i + 1) (mWrite V (mRead P (2 + nI i) 115) (mByte (mRead P (2 + nI i) 115 114) (nI i)) 115).2.1 (mWrite V (mRead P (2 + nI i) 115) (mByte (mRead P (2 + nI i) 115 114) (nI i)) 115).2.2
def mN (P : VV) : Int32 := if 30 < mByte (mRead P 2 114 114) 0 then 30 else mByte (mRead P 2 114 114) 0
def mHome (V P : VV) : Int32 × VV × VV := if mN P = 0 then (0, V, mRead P 2 114) else bhL (mN P) (mN P).toNatClampNeg 1 V (mRead P 2 114)
def mOut2 (V P : VV) : Int32 × VV × VV := (if (mHome V P).1 = -1 then 0 else 1, (mHome V P).2)
def mOut1 (V P : VV) : Int32 × VV × VV := if (mWrite V P 2 114).1 = 0 then (0, (mWrite V P 2 114).2) else mOut2 (v2 (mWrite V P 2 114).2.1 269 2 ((mWrite V P 2 114).2.1 269 2 + 1)) (mWrite V P 2 114).2.2
def mOut (V P : VV) : Int32 × VV × VV := if (mCopy V P).1 = 0 then (0, (mCopy V P).2) else mOut1 (mCopy V P).2.1 (mCopy V P).2.2
/-- the vault -/
def mCommit (V P : VV) : Int32 × VV × VV := if (mOut V P).1 = 0 then (0, eR 34 0 (mOut V P).2.1, (mOut V P).2.2) else (1, zR 3 34 0 (mOut V P).2.1, (mOut V P).2.2)
def mBegin (V P : VV) : Int32 × VV × VV := if V 267 1 = 0 ∨ ¬ V 266 4 = 0 then (0, V, P) else (1, v2 V 266 4 1, P)
def mClose (V : VV) : VV := zR 4 34 0 (v2 V 266 4 0)
def mEnd (V P : VV) : Int32 × VV × VV :=
  if V 267 1 = 0 ∨ V 266 4 = 0 then (-1, V, P)
  else if 20 < mCnt (mClose V) 3 then (if (mCommit (mClose V) P).1 = 0 then -1 else 0, (mCommit (mClose V) P).2)
  else (mCnt (mClose V) 3, mClose V, P)
def mFlush (V P : VV) : Int32 × VV × VV :=
  if V 267 1 = 0 ∨ ¬ V 266 4 = 0 then (-1, V, P)
  else if mCnt V 3 = 0 then (0, V, P)
  else (if (mCommit V P).1 = 0 then -1 else mCnt V 3, (mCommit V P).2)
def mGet (V P : VV) (b k : Int32) : Int32 × VV × VV :=
  if V 267 1 = 0 ∨ ¬ mIsBlock V b ∨ k < 0 ∨ ¬ k < 1024 then (-1, V, P)
  else (mByte ((mLook V P b).2.2 (80 + (mLook V P b).1)) k, (mLook V P b).2)
def mTakes (V : VV) (b : Int32) : Int32 := match mRow V b with
  | some i => if V (232 + i) 4 = 0 then (if 10 ≤ mCnt V 4 then 0 else 1) else 1
  | none => if 10 ≤ mCnt V 4 then 0 else 1
def mMark (V : VV) (i : Nat) : VV := v2 (v2 V (232 + i) 3 1) (232 + i) 4 1
def mFill (V P : VV) (b k n v : Int32) : Int32 × VV × VV :=
  if V 267 1 = 0 ∨ V 266 4 = 0 ∨ ¬ mIsBlock V b ∨ ¬ mIsRun k n ∨ mTakes V b = 0 then (0, V, P)
  else (1, mMark (mLook V P b).2.1 (mLook V P b).1, p1 (mLook V P b).2.2 (80 + (mLook V P b).1) (mPut ((mLook V P b).2.2 (80 + (mLook V P b).1)) k n v))
def mCut (V P : VV) (k : Int32) : Int32 × VV × VV := if V 267 1 = 0 then (0, V, P) else (1, v2 V 267 2 k, P)
def mPower (V P : VV) (k : Int32) : Int32 × VV × VV := if V 267 1 = 0 then mHome (v2 (v2 V 267 1 1) 267 2 k) P else (-1, V, P)
def mCount (V : VV) (w : Int32) : Int32 :=
  if w = 0 then (if V 267 1 = 0 then 0 else 1)
  else if w = 1 then V 266 0
  else if w = 2 then mCnt V 3
  else if w = 3 then (if V 266 4 = 0 then -1 else mCnt V 4)
  else if w = 4 then V 267 3
  else if w = 5 then V 268 2
  else if w = 6 then V 269 2
  else -1
def mHeld (V : VV) (b : Int32) : Int32 :=
  if V 267 1 = 0 ∨ ¬ mIsBlock V b then 0 else match mRow V b with
  | some i => if V (232 + i) 3 = 0 then 0 else 1
  | none => 0
def mCached (V : VV) (b : Int32) : Int32 := if V 267 1 = 0 ∨ ¬ mIsBlock V b then 0 else match mRow V b with
  | some _ => 1
  | none => 0
/-! THE REFERENCE (name 272: thrown 0, blocks 1, time 7, on 8, whether a step is under way 9, left 10, writes 11, reads 12, commits 13, unended 14; its arrays 273 safe, 274 now, 275 held, 276 changed, 277 stamp) -/
abbrev rIsBlock (V : VV) (b : Int32) : Prop := ¬ b < 0 ∧ ¬ V 272 1 ≤ b ∧ (b < 2 ∨ ¬ b ≤ 32)
def cM (f : Nat → Int32) : Nat → Nat → Int32 → Int32
  | 0, _, a => a
  | n + 1, k, a => cM f n (k + 1) (if f k = 0 then a + 0 else a + 1)
def rMany (f : Nat → Int32) : Int32 := cM f 80 0 0
def r0 (V : VV) : VV := v2 V 272 0 0
def zF (f : Nat → Int32) (i : Nat) : Nat → Int32 := fun j => if j < i then 0 else f j
def rWritten (V : VV) (n : Int32) : Int32 × VV :=
  if V 272 10 < 0 then (1, v2 (v2 V 272 11 (V 272 11 + n)) 272 10 (V 272 10))
  else if V 272 10 < n then (0, v2 (v2 (v2 V 272 11 (V 272 11 + V 272 10)) 272 10 (-1)) 272 8 0)
  else (1, v2 (v2 V 272 11 (V 272 11 + n)) 272 10 (V 272 10 - n))
def rEnded (V : VV) : Int32 × VV := ((rWritten V (V 272 14 + 1)).1, v2 (rWritten V (V 272 14 + 1)).2 272 14 (if (rWritten V (V 272 14 + 1)).1 = 0 then (rWritten V (V 272 14 + 1)).2 272 14 else -1))
def rSafe (P : VV) (i : Nat) : Nat → Int32 := fun j => if j < 1024 * i ∧ ¬ P 275 (j / 1024) = 0 then P 274 j else P 273 j
def rP (P : VV) (i : Nat) : VV := p1 (p1 P 273 (rSafe P i)) 275 (zF (P 275) i)
def rCommit2 (V P : VV) (n : Int32) : Int32 × VV × VV := ((rEnded (v2 (v2 V 272 13 (V 272 13 + 1)) 272 14 n)).1, (rEnded (v2 (v2 V 272 13 (V 272 13 + 1)) 272 14 n)).2, rP P (V 272 1).toNatClampNeg)
def rCommit (V P : VV) : Int32 × VV × VV := if (rWritten V (rMany (P 275) + 1)).1 = 0 then (0, (rWritten V (rMany (P 275) + 1)).2, P) else rCommit2 (rWritten V (rMany (P 275) + 1)).2 P (rMany (P 275))
def rBegin (V P : VV) : Int32 × VV × VV := if V 272 8 = 0 ∨ ¬ V 272 9 = 0 then (0, r0 V, P) else (1, v2 (r0 V) 272 9 1, p1 P 276 (zF (P 276) 80))
def rShut (V : VV) : VV := v2 (r0 V) 272 9 0
def rEnd (V P : VV) : Int32 × VV × VV :=
  if V 272 8 = 0 ∨ V 272 9 = 0 then (-1, r0 V, P)
  else if 20 < rMany (P 275) then (if (rCommit (rShut V) P).1 = 0 then -1 else 0, (rCommit (rShut V) P).2)
  else (rMany (P 275), rShut V, P)
def rFlush (V P : VV) : Int32 × VV × VV :=
  if V 272 8 = 0 ∨ ¬ V 272 9 = 0 then (-1, r0 V, P)
  else if rMany (P 275) = 0 then (rMany (P 275), r0 V, P)
  else (if (rCommit (r0 V) P).1 = 0 then -1 else rMany (P 275), (rCommit (r0 V) P).2)
/-- the scan of look: how many blocks are in the cache, and the oldest that isn't held (-1: none) -/
def lkL (st hd : Nat → Int32) : Nat → Nat → Int32 → Int32 → Int32 × Int32
  | 0, _, r, o => (r, o)
  | n + 1, k, r, o => lkL st hd n (k + 1) (if st k ≤ 0 then r + 0 else r + 1) (if st k ≤ 0 ∨ ¬ hd k = 0 ∨ (¬ o < 0 ∧ st o.toNatClampNeg ≤ st k) then o else nI k)
def rScan (V P : VV) : Int32 × Int32 := lkL (P 277) (P 275) (V 272 1).toNatClampNeg 0 0 (-1)
def rStamp (V P : VV) (b : Nat) : VV := p1 P 277 (upd (P 277) b (V 272 7 + 1))
def rTick (V : VV) : VV := v2 V 272 7 (V 272 7 + 1)
def rEvict (V P : VV) : VV := if (rScan V P).1 = 34 then p1 P 277 (upd (P 277) (rScan V P).2.toNatClampNeg 0) else P
def rLook (V P : VV) (b : Nat) : VV × VV := if P 277 b = 0 then (rTick (v2 V 272 12 (V 272 12 + 1)), rStamp V (rEvict V P) b) else (rTick V, rStamp V P b)
def rGet (V P : VV) (b k : Int32) : Int32 × VV × VV :=
  if V 272 8 = 0 ∨ ¬ rIsBlock V b ∨ k < 0 ∨ ¬ k ≤ 1023 then (-1, r0 V, P)
  else (P 274 (1024 * b.toNatClampNeg + k.toNatClampNeg) &&& 255, rLook (r0 V) P b.toNatClampNeg)
def rFillP (P : VV) (b k n : Nat) (v : Int32) : VV := p1 (p1 (p1 P 276 (upd (P 276) b 1)) 275 (upd (P 275) b 1)) 274 (mRun (P 274) (1024 * b + k) v n)
def rFill (V P : VV) (b k n v : Int32) : Int32 × VV × VV :=
  if V 272 8 = 0 ∨ V 272 9 = 0 ∨ ¬ rIsBlock V b ∨ ¬ mIsRun k n ∨ (P 276 b.toNatClampNeg = 0 ∧ rMany (P 276) = 10) then (0, r0 V, P)
  else (1, (rLook (r0 V) P b.toNatClampNeg).1, rFillP (rLook (r0 V) P b.toNatClampNeg).2 b.toNatClampNeg k.toNatClampNeg n.toNatClampNeg v)
def rLeft (k : Int32) : Int32 := if 0 ≤ k then k else -1
def rCut (V P : VV) (k : Int32) : Int32 × VV × VV := if V 272 8 = 0 then (0, r0 V, P) else (1, v2 (r0 V) 272 10 (rLeft k), P)
def rBackV (V : VV) (k : Int32) : VV := v2 (v2 (v2 (r0 V) 272 8 1) 272 9 0) 272 10 (rLeft k)
def rNow (P : VV) (i : Nat) : Nat → Int32 := fun j => if j < i then P 273 j else P 274 j
def rBackP (P : VV) : VV := p1 (p1 (p1 P 274 (rNow P 81920)) 275 (zF (P 275) 80)) 277 (zF (P 277) 80)
def rPower (V P : VV) (k : Int32) : Int32 × VV × VV :=
  if V 272 8 = 0 then (if V 272 14 < 0 then (0, rBackV V k, rBackP P) else (if (rEnded (rBackV V k)).1 = 0 then -1 else V 272 14, (rEnded (rBackV V k)).2, rBackP P))
  else (-1, r0 V, P)
def rCount (V P : VV) (w : Int32) : Int32 :=
  if w = 0 then (if V 272 8 = 0 then 0 else 1)
  else if w = 1 then V 272 1
  else if w = 2 then (if V 272 8 = 0 then 0 else rMany (P 275))
  else if w = 3 then (if V 272 8 = 0 ∨ V 272 9 = 0 then -1 else rMany (P 276))
  else if w = 4 then V 272 11
  else if w = 5 then V 272 12
  else if w = 6 then V 272 13
  else -1
def rHeld (V P : VV) (b : Int32) : Int32 := if V 272 8 = 0 ∨ ¬ rIsBlock V b ∨ P 275 b.toNatClampNeg = 0 then 0 else 1
def rCached (V P : VV) (b : Int32) : Int32 := if V 272 8 = 0 ∨ ¬ rIsBlock V b ∨ P 277 b.toNatClampNeg ≤ 0 then 0 else 1
