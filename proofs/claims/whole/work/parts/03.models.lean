/-! What each method of the component answers, in its own words (no meaning yet): a term a method. -/
def mTop (w : Int32) (v : Int64) : Int64 := jshl v (64 - w)
def mFrom (w : Int32) (r : Int64) : Int64 := jushr r (64 - w)
def mLow (w : Int32) (v : Int64) : Int64 := mFrom w (mTop w v)
def mTuN (v : Int64) : Nat → Int64
  | 0 => 0
  | i + 1 => jshl (mTuN v i) 1 ||| (jushr v (nI i) &&& 1)
def mTurned (v : Int64) (b : Int32) : Int64 := mTuN v b.toNatClampNeg
def mCheck (w bo : Int32) (la r : Int64) : Int64 := (if bo = 0 then mFrom w r else mTurned (mFrom w r) w) ^^^ la
def mReg (w bo : Int32) (la c : Int64) : Int64 := mTop w (if bo = 0 then c ^^^ la else mTurned (c ^^^ la) w)
def mBit (tp r : Int64) (b : Int32) : Int64 := if lg_cmp (jushr r 63) b.toInt64 = 0 then jshl r 1 else jshl r 1 ^^^ tp
def mByN (tp r : Int64) (b : Int32) : Nat → Int64
  | 0 => r
  | j + 1 => mBit tp (mByN tp r b j) (jiushr b (7 - nI j) &&& 1)
def mByte (tp r : Int64) (b : Int32) : Int64 := mByN tp r b 8
def mTab (sl : Nat → Int64) (r : Int64) (b : Int32) : Int64 := jshl r 8 ^^^ sl ((jushr r 56).toInt32 ^^^ b).toNatClampNeg
def mWdL (x : Int64) : Nat → Int64
  | 0 => x
  | k + 1 => jushr (mWdL x k) 8
def mWdA (sl : Nat → Int64) (x : Int64) : Nat → Int64
  | 0 => 0
  | k + 1 => mWdA sl x k ^^^ sl (nI k * 256 + (mWdL x k &&& 255).toInt32).toNatClampNeg
def mWord (sl : Nat → Int64) (r x : Int64) : Int64 := mWdA sl (r ^^^ x) 8
def mFl1 (tp : Int64) (sl : Nat → Int64) : Nat → Nat → Int64
  | 0 => sl
  | k + 1 => vp_updL (mFl1 tp sl k) (nI k).toNatClampNeg (mByte tp 0 (nI k))
def mFl2 (tp : Int64) (sl : Nat → Int64) : Nat → Nat → Int64
  | 0 => mFl1 tp sl 256
  | k + 1 => vp_updL (mFl2 tp sl k) (nI (256 + k)).toNatClampNeg (mTab (mFl2 tp sl k) (mFl2 tp sl k (nI (256 + k) - 256).toNatClampNeg) 0)
def mFill (tp : Int64) (sl : Nat → Int64) : Nat → Int64 := mFl2 tp sl 1792
def mPrN (tp a b : Int64) : Nat → Int64
  | 0 => 0
  | i + 1 => if 0 ≤ lg_cmp (jshl a (nI i)) 0 then mBit tp (mPrN tp a b i) 0 else mBit tp (mPrN tp a b i) 0 ^^^ b
def mProd (w : Int32) (tp a b : Int64) : Int64 := mPrN tp a b w.toNatClampNeg
def mPw (w : Int32) (tp : Int64) : Nat → Int64
  | 0 => mBit tp (mTop w 1) 0
  | i + 1 => mProd w tp (mPw w tp i) (mPw w tp i)
def mZaN (w : Int32) (tp r z : Int64) : Nat → Int64
  | 0 => r
  | i + 1 => if lg_cmp (jushr z (nI i) &&& 1) 1 = 0 then mProd w tp (mZaN w tp r z i) (mPw w tp i) else mZaN w tp r z i
def mZeros (w : Int32) (tp r z : Int64) : Int64 := mZaN w tp r z 34
def mIsB (b : Int32) : Int32 := if b < 0 then 0 else if 256 ≤ b then 0 else 1
def mCome (bi b : Int32) : Int64 := if bi = 0 then b.toInt64 else mTurned b.toInt64 8
def mSh (i : Int32) : Int32 := 56 - (i - i / 8 * 8) * 8
def mByA (row : Nat → Int64) (i : Int32) : Int32 := (jushr (row (i / 8).toNatClampNeg) (mSh i)).toInt32 &&& 255
def mBT1 (x : Int64) : Int64 := jshl (x &&& 1085102592571150095) 4 ||| (jushr x 4 &&& 1085102592571150095)
def mBT2 (x : Int64) : Int64 := jshl (x &&& 3689348814741910323) 2 ||| (jushr x 2 &&& 3689348814741910323)
def mBT3 (x : Int64) : Int64 := jshl (x &&& 6148914691236517205) 1 ||| (jushr x 1 &&& 6148914691236517205)
def mBT (x : Int64) : Int64 := mBT3 (mBT2 (mBT1 x))
def mTrN (row : Nat → Int64) : Nat → Nat → Int64
  | 0 => row
  | k + 1 => vp_updL (mTrN row k) (nI k).toNatClampNeg (mBT (mTrN row k (nI k).toNatClampNeg))
def mBbN (row : Nat → Int64) (tp r : Int64) : Nat → Int64
  | 0 => r
  | i + 1 => mByte tp (mBbN row tp r i) (mByA row (nI i))
def mYyN (row sl : Nat → Int64) (r : Int64) (a : Nat) : Nat → Int64
  | 0 => r
  | k + 1 => mTab sl (mYyN row sl r a k) (mByA row (nI (a + k)))
def mYy (row sl : Nat → Int64) (r : Int64) (a b : Nat) : Int64 := mYyN row sl r a (b - a)
def mWwN (row sl : Nat → Int64) (r : Int64) (a : Nat) : Nat → Int64
  | 0 => r
  | k + 1 => mWord sl (mWwN row sl r a k) (row (nI (a + k)).toNatClampNeg)
def mEi (row sl : Nat → Int64) (r : Int64) (a b : Nat) : Int64 := if b / 8 ≤ (a + 7) / 8 then mYy row sl r a b else mYy row sl (mWwN row sl (mYy row sl r a ((a + 7) / 8 * 8)) ((a + 7) / 8) (b / 8 - (a + 7) / 8)) (b / 8 * 8) b
