/-! The reference's cells, and what each of its methods answers, in its own words. -/
abbrev mt (k4 : ClassId) : List (ClassId × FieldType) := [(k4, .int)]
abbrev mw (q b1 : Nat) (k4 : ClassId) (by8 : Nat → Int32) (wd : Nat) (po fi la : Int64) (bi bo : Int32) (nb : Nat) : va_W :=
  [(q, .inr (1, [.int (nI wd), .long po, .long fi, .long la, .int bi, .int bo, .ref b1, .int (nI nb)])), (b1, .inl (k4, 5000, .inl by8))]
def rLow (v : Int64) (w : Int32) : Int64 := if w = 64 then v else v &&& (jshl 1 w - 1)
def rBit (w : Int32) (po r : Int64) (b : Int32) : Int64 := if (if lg_cmp (jushr r (w - 1) &&& 1) 1 = 0 then (1 : Int32) else 0) = (if b = 1 then (1 : Int32) else 0) then rLow (jshl r 1) w else rLow (jshl r 1) w ^^^ po
def rByN (w : Int32) (po : Int64) (bi b : Int32) (r : Int64) : Nat → Int64
  | 0 => r
  | k + 1 => rBit w po (rByN w po bi b r k) (if bi = 0 then (b >>> ((7 - nI k) &&& 31)) &&& 1 else (b >>> (nI k &&& 31)) &&& 1)
def rTold (bo : Int32) (la : Int64) (wd : Nat) (x : Int64) : Int64 := (if bo = 0 then x else mTuN x wd) ^^^ la
def rReg (bo : Int32) (la : Int64) (wd : Nat) (x : Int64) : Int64 := if bo = 0 then rLow x (nI wd) ^^^ la else mTuN (rLow x (nI wd) ^^^ la) wd
def rOvN (w : Int32) (po : Int64) (bi : Int32) (f : Nat → Int32) (r : Int64) (a : Nat) : Nat → Int64
  | 0 => r
  | k + 1 => rByN w po bi (f (nI (a + k)).toNatClampNeg) (rOvN w po bi f r a k) 8
def rOver (wd : Nat) (po fi la : Int64) (bi bo : Int32) (f : Nat → Int32) (a b : Nat) : Int64 := rTold bo la wd (rOvN (nI wd) po bi f fi a (b - a))
def rChk (y : Int32) (v : Int64) : Int64 := if y < 0 then 0 else if y ≤ 3 then v else 0
def rPart (nb wd : Nat) (po fi la : Int64) (bi bo : Int32) (f : Nat → Int32) (x y : Int32) : Int64 := if x < 0 then 0 else if y < x then 0 else if y ≤ nI nb then rOver wd po fi la bi bo f x.toNatClampNeg y.toNatClampNeg else 0
def rTmN (wd : Nat) (po x y : Int64) : Nat → Int64
  | 0 => 0
  | i + 1 => rBit (nI wd) po (rTmN wd po x y i) 0 ^^^ (if lg_cmp (jushr y (nI wd - 1 - nI i) &&& 1) 1 = 0 then x else 0)
def rPw (wd : Nat) (po : Int64) : Nat → Int64
  | 0 => rBit (nI wd) po 1 0
  | i + 1 => rTmN wd po (rPw wd po i) (rPw wd po i) wd
def rBhN (wd : Nat) (po r : Int64) (Z : Nat) : Nat → Int64
  | 0 => r
  | i + 1 => if Z / 2 ^ i % 2 = 1 then rTmN wd po (rBhN wd po r Z i) (rPw wd po i) wd else rBhN wd po r Z i
def rBh (wd : Nat) (po r : Int64) (Z : Nat) : Int64 := rBhN wd po r Z 35
def rJoin (wd : Nat) (po fi la : Int64) (bo : Int32) (x y : Int64) (n : Int32) : Int64 := if 0 ≤ n then rTold bo la wd (rBh wd po (rReg bo la wd x ^^^ fi) (8 * n.toNatClampNeg) ^^^ rReg bo la wd y) else 0
def rEntry (wd : Nat) (po : Int64) (bi k b : Int32) : Int64 := if k < 0 then 0 else if 7 < k then 0 else if b < 0 then 0 else if b ≤ 255 then rBh wd po (rByN (nI wd) po bi b 0 8) (8 * k.toNatClampNeg) else 0
def rZeros (wd : Nat) (po x : Int64) (n : Int32) : Int64 := if n < 0 then 0 else if n ≤ 1000000 then rBh wd po (rLow x (nI wd)) n.toNatClampNeg else 0
def rRdN (wd : Nat) (po : Int64) : Nat → Int64
  | 0 => 1
  | i + 1 => rBit (nI wd) po (rRdN wd po i) 0
/-- the least of 1 .. N at which f is true, from i on; -1 where none is -/
def firstAt (f : Nat → Bool) (i : Nat) : Nat → Int32
  | 0 => -1
  | n + 1 => if f (i + 1) then nI (i + 1) else firstAt f (i + 1) n
def rRound (wd : Nat) (po : Int64) : Int32 := firstAt (fun i => decide (rRdN wd po i = 1)) 0 4096
def cCount (nb wd : Nat) (bi bo x : Int32) : Int32 := if x = 0 then nI nb else if x = 1 then nI wd else if x = 2 then (if bi = 0 then 0 else 1) else if x = 3 then (if bo = 0 then 0 else 1) else -1
def cTold (po fi la : Int64) (x : Int32) : Int64 := if x = 0 then po else if x = 1 then fi else if x = 2 then la else 0
def rFeN (f : Nat → Int32) (b : Int32) (nb : Nat) : Nat → Nat → Int32
  | 0 => f
  | i + 1 => upd (rFeN f b nb i) (nI (nb + i)).toNatClampNeg b
def rFlip (f : Nat → Int32) (bi : Int32) (j : Nat) : Nat → Int32 := if bi = 0 then upd f (nI (j / 8)).toNatClampNeg (f (nI (j / 8)).toNatClampNeg ^^^ (128 >>> (nI (j % 8) &&& 31))) else upd f (nI (j / 8)).toNatClampNeg (f (nI (j / 8)).toNatClampNeg ^^^ (1 <<< (nI (j % 8) &&& 31)))
/-! The component's models, on: the dividend, the public methods. -/
def mDvF (dv : Nat → Int64) (j : Nat) : Int64 := if nI (j % 64) = 0 then dv (nI (j / 64)).toNatClampNeg else jshl (dv (nI (j / 64)).toNatClampNeg) (nI (j % 64)) ||| jushr (dv (nI (j / 64) + 1).toNatClampNeg) (64 - nI (j % 64))
def mAd1 (dv : Nat → Int64) (j : Nat) : Nat → Int64 := vp_updL dv (nI (j / 64)).toNatClampNeg (dv (nI (j / 64)).toNatClampNeg ^^^ jshl 1 (63 - nI (j % 64)))
def mAd2 (dv : Nat → Int64) (tp : Int64) (j : Nat) : Nat → Int64 := vp_updL (mAd1 dv j) (nI ((j + 1) / 64)).toNatClampNeg (mAd1 dv j (nI ((j + 1) / 64)).toNatClampNeg ^^^ jushr tp (nI ((j + 1) % 64)))
def mAdd (dv : Nat → Int64) (tp : Int64) (j : Nat) : Nat → Int64 := if nI ((j + 1) % 64) = 0 then mAd2 dv tp j else vp_updL (mAd2 dv tp j) (nI ((j + 1) / 64) + 1).toNatClampNeg (mAd2 dv tp j (nI ((j + 1) / 64) + 1).toNatClampNeg ^^^ jshl tp (64 - nI ((j + 1) % 64)))
def mDvA (row dv : Nat → Int64) : Nat → Int64 := va_cpy row dv (0 : Int32).toNatClampNeg (0 : Int32).toNatClampNeg (625 : Int32).toNatClampNeg
def mDvB (row dv : Nat → Int64) : Nat → Int64 := vp_updL (mDvA row dv) (625 : Int32).toNatClampNeg 0
def mDv0 (row dv : Nat → Int64) (x : Int64) : Nat → Int64 := vp_updL (mDvB row dv) (0 : Int32).toNatClampNeg (mDvB row dv (0 : Int32).toNatClampNeg ^^^ x)
def mDvN (row dv : Nat → Int64) (x tp : Int64) : Nat → Nat → Int64
  | 0 => mDv0 row dv x
  | i + 1 => if 0 ≤ lg_cmp (jshl (mDvN row dv x tp i (nI (i / 64)).toNatClampNeg) (nI (i % 64))) 0 then mDvN row dv x tp i else mAdd (mDvN row dv x tp i) tp i
def mChk (row sl : Nat → Int64) (nb : Nat) (w bo : Int32) (tp fi la : Int64) (y : Int32) : Int64 := if y = 0 then mCheck w bo la (mBbN row tp (mTop w fi) nb) else if y = 1 then mCheck w bo la (mYy row sl (mTop w fi) 0 nb) else if y = 2 then mCheck w bo la (mEi row sl (mTop w fi) 0 nb) else 0
def mChk3 (row dv : Nat → Int64) (nb : Nat) (w bo : Int32) (tp fi la : Int64) : Int64 := mCheck w bo la (mDvF (mDvN row dv (mTop w fi) tp (nb * 8)) (nb * 8))
def mPart (row sl : Nat → Int64) (nb : Nat) (w bo : Int32) (fi la : Int64) (x y : Int32) : Int64 := if x < 0 then 0 else if y < x then 0 else if y ≤ nI nb then mCheck w bo la (mEi row sl (mTop w fi) x.toNatClampNeg y.toNatClampNeg) else 0
def mJoin (w bo : Int32) (tp fi la x y : Int64) (n : Int32) : Int64 := if 0 ≤ n then mCheck w bo la (mReg w bo la y ^^^ mZeros w tp (mReg w bo la x ^^^ mTop w fi) (n.toInt64 * 8)) else 0
def mEntry (sl : Nat → Int64) (w bi k b : Int32) : Int64 := if k < 0 then 0 else if 8 ≤ k then 0 else if mIsB b = 0 then 0 else mFrom w (sl (k * 256 + (mCome bi b).toInt32).toNatClampNeg)
def mZer (w : Int32) (tp x : Int64) (n : Int32) : Int64 := if n < 0 then 0 else if n ≤ 1000000 then mFrom w (mZeros w tp (mTop w x) n.toInt64) else 0
def mRdN (w : Int32) (tp : Int64) : Nat → Int64
  | 0 => mTop w 1
  | i + 1 => mBit tp (mRdN w tp i) 0
def mRound (w : Int32) (tp : Int64) : Int32 := firstAt (fun i => decide (mRdN w tp i = mTop w 1)) 0 4096
def mFeN (row : Nat → Int64) (x : Int64) (nb : Nat) : Nat → Nat → Int64
  | 0 => row
  | i + 1 => vp_updL (mFeN row x nb i) (nI ((nb + i) / 8)).toNatClampNeg (mFeN row x nb i (nI ((nb + i) / 8)).toNatClampNeg ||| jshl x (mSh (nI (nb + i))))
def mFlip (row : Nat → Int64) (i : Nat) : Nat → Int64 := vp_updL row (nI (i / 64)).toNatClampNeg (row (nI (i / 64)).toNatClampNeg ^^^ jshl 1 (63 - nI (i % 64)))
def mAFN (f : Nat → Int64) (x : Int64) : Nat → Nat → Int64
  | 0 => f
  | i + 1 => vp_updL (mAFN f x i) (nI i).toNatClampNeg x
/-! Small rows for the reference's walks. -/
theorem du_nn {x : Int32} (h : ¬ x < 0) : x = nI x.toNatClampNeg := by
  obtain ⟨j, hj, e⟩ := nI_of h
  rw [e, nI_clamp hj]
theorem du_pos {x : Int32} (h : ¬ x < 0) : 0 ≤ x := Int32.not_lt.mp h
theorem du_ti (x : Int32) : x.toNatClampNeg = x.toInt.toNat := rfl
theorem du_nn2 {x y : Int32} (h : ¬ x < 0) (h2 : ¬ y < x) : ¬ y < 0 := by
  rw [Int32.lt_iff_toInt_lt] at *
  have : (0 : Int32).toInt = 0 := by decide
  omega
theorem du_cle {y : Int32} {n : Nat} (_h : ¬ y < 0) (c : y ≤ nI n) (hn : n < 2 ^ 31) : y.toNatClampNeg ≤ n := by
  rw [Int32.le_iff_toInt_le, nI_toInt hn] at c
  rw [du_ti]; omega
theorem du_cl2 {x y : Int32} (h : ¬ y < x) : x.toNatClampNeg ≤ y.toNatClampNeg := by
  rw [Int32.lt_iff_toInt_lt] at h
  rw [du_ti, du_ti]; omega
theorem du_ln {n : Int32} (h : ¬ n < 0) : n.toInt64 = lN n.toNatClampNeg := by
  have e := du_nn h
  have := nI_l (du_cl n)
  rw [← this, ← e]
theorem du_ll (n : Int32) : n.toNatClampNeg < 2 ^ 35 := by have := du_cl n; omega
theorem du_8n {n : Int32} (h : 0 ≤ n) : 8 * n.toInt64 = lN (8 * n.toNatClampNeg) := by
  rw [du_ln (Int32.not_lt.mpr h), show (8 : Int64) = lN 8 from rfl, lN_mul]
theorem du_8l (n : Int32) : 8 * n.toNatClampNeg < 2 ^ 35 := by have := du_cl n; omega
theorem du_s0 (x : Int32) : x - 1 - nI 0 = x - 1 := by
  show x - 1 - 0 = x - 1
  exact Int32.sub_zero _
theorem du_wp {wd i : Nat} (hw1 : 1 ≤ wd) (hi : i < wd) : nI wd - 1 - nI i = nI (wd - 1 - i) := by
  obtain ⟨v, rfl⟩ : ∃ v, wd = v + 1 := ⟨wd - 1, by omega⟩
  rw [nI_pred, pk_sub (by omega)]
  rfl
theorem du_wa {wd i : Nat} (hw1 : 1 ≤ wd) (hw : wd ≤ 64) (hi : i ≤ wd) (c : nI wd - 1 - nI i < 0) : i = wd := by
  rcases Nat.lt_or_ge i wd with h | h
  · rw [du_wp hw1 h] at c
    exact absurd c (nI_pos (by omega))
  · omega
theorem du_wb {wd i : Nat} (hw1 : 1 ≤ wd) (hw : wd ≤ 64) (hi : i ≤ wd) (c : ¬ nI wd - 1 - nI i < 0) : i < wd := by
  rcases Nat.lt_or_ge i wd with h | h
  · exact h
  · exfalso
    have e : i = wd := by omega
    subst e
    obtain ⟨v, rfl⟩ : ∃ v, i = v + 1 := ⟨i - 1, by omega⟩
    rw [nI_pred] at c
    exact c (pk_sneg (by omega) (by omega))
theorem du_wc (wd i : Nat) : nI wd - 1 - nI i + Int32.ofInt (-1) = nI wd - 1 - nI (i + 1) := by
  rw [nI_succ, show Int32.ofInt (-1) = -1 from rfl]
  generalize nI wd - 1 = x
  generalize nI i = y
  grind
theorem du_l0 {z : Nat} (hz : z < 2 ^ 35) (c : lN z ≤ 0) : z = 0 := by
  have := (pk_lLE (a := z) (b := 0) (by omega) (by omega)).mp c
  omega
theorem du_l1 {z : Nat} (c : ¬ lN z ≤ 0) : z ≠ 0 := by
  intro h
  subst h
  exact c (by decide)
theorem du_l2 {Z i : Nat} (hZ : Z < 2 ^ 35) (hi : i ≤ 35) (h : Z / 2 ^ i ≠ 0) : i < 35 := by
  rcases Nat.lt_or_ge i 35 with q | q
  · exact q
  · have e : i = 35 := by omega
    subst e
    exact absurd (Nat.div_eq_of_lt hZ) h
theorem du_lr {z : Nat} (hz : z < 2 ^ 35) : lN z - lN z / 2 * 2 = lN (z % 2) := pk_lRem (a := z) (b := 2) (by omega) (by decide) (by decide)
theorem du_m1 {z : Nat} (hz : z < 2 ^ 35) (c : lg_cmp (lN z - lN z / 2 * 2) 1 = 0) : z % 2 = 1 := by
  have h := (lg_cmp_eq _ _).mp c
  rw [du_lr hz] at h
  exact (pk_lEQ (a := z % 2) (b := 1) (by omega) (by decide)).mp h
theorem du_m0 {z : Nat} (hz : z < 2 ^ 35) (c : ¬ lg_cmp (lN z - lN z / 2 * 2) 1 = 0) : ¬ z % 2 = 1 := by
  intro h
  apply c
  rw [lg_cmp_eq, du_lr hz, h]
  rfl
theorem du_half {Z i : Nat} (hz : Z / 2 ^ i < 2 ^ 35) : lN (Z / 2 ^ i) / 2 = lN (Z / 2 ^ (i + 1)) := by
  have h := pk_lDiv (a := Z / 2 ^ i) (b := 2) (by omega) (by decide) (by decide)
  rw [Nat.div_div_eq_div_mul, ← Nat.pow_succ] at h
  exact h
theorem du_bst {wd : Nat} {po x : Int64} {Z i : Nat} (hi : i ≤ 35) (hz : Z / 2 ^ i = 0) : rBhN wd po x Z i = rBh wd po x Z := by
  have step : ∀ d, i + d ≤ 35 → rBhN wd po x Z (i + d) = rBhN wd po x Z i := by
    intro d
    induction d with
    | zero => intro _; rfl
    | succ d ih =>
      intro h
      show rBhN wd po x Z ((i + d) + 1) = _
      have h0 : Z / 2 ^ (i + d) = 0 := by rw [Nat.pow_add, ← Nat.div_div_eq_div_mul, hz, Nat.zero_div]
      rw [rBhN, if_neg (by rw [h0]; decide), ih (by omega)]
  have := step (35 - i) (by omega)
  rw [show i + (35 - i) = 35 by omega] at this
  exact this.symm
theorem du_rd1 {i : Nat} (hi : i ≤ 4096) (c : 4096 < nI (i + 1)) : i = 4096 := by
  have := (nI_ltI (a := 4096) (b := i + 1) (by omega) (by omega)).mp c
  omega
theorem du_rd2 {i : Nat} (hi : i ≤ 4096) (c : ¬ 4096 < nI (i + 1)) : i < 4096 := by
  rcases Nat.lt_or_ge i 4096 with h | h
  · exact h
  · exact absurd (nI_lt (a := 4096) (b := i + 1) (by omega) (by omega)) c
theorem du_fn {f : Nat → Bool} {i : Nat} (h : i < 4096) : firstAt f i (4096 - i) = if f (i + 1) then nI (i + 1) else firstAt f (i + 1) (4096 - (i + 1)) := by
  rw [show 4096 - i = (4096 - (i + 1)) + 1 by omega]
  rfl
theorem bv_or (x y : Int64) : (x ||| y).toBitVec = x.toBitVec ||| y.toBitVec := Int64.toBitVec_or x y
theorem bv_and (x y : Int64) : (x &&& y).toBitVec = x.toBitVec &&& y.toBitVec := Int64.toBitVec_and x y
theorem bv_xor (x y : Int64) : (x ^^^ y).toBitVec = x.toBitVec ^^^ y.toBitVec := Int64.toBitVec_xor x y
theorem bv_1 : (1 : Int64).toBitVec = 1#64 := rfl
theorem bv_0 : (0 : Int64).toBitVec = 0#64 := rfl
theorem bv_shl1 (x : Int64) : (jshl x 1).toBitVec = x.toBitVec <<< 1 := bv_shl x (k := 1) (by decide)
/-- turned round: bit j is bit n - 1 - j -/
theorem tu_bit (v : Int64) : ∀ n, n ≤ 64 → ∀ j, (mTuN v n).toBitVec.getLsbD j = (decide (j < n) && v.toBitVec.getLsbD (n - 1 - j)) := by
  intro n
  induction n with
  | zero => intro _ j; show (0#64).getLsbD j = _; simp
  | succ n ih =>
    intro hn j
    rw [mTuN, bv_or, bv_shl1, bv_and, bv_ushr v (show n < 64 by omega), bv_1]
    rw [BitVec.getLsbD_or, BitVec.getLsbD_shiftLeft, BitVec.getLsbD_and, BitVec.getLsbD_ushiftRight, BitVec.getLsbD_one, ih (by omega)]
    rcases Nat.eq_zero_or_pos j with h | h
    · subst h
      simp
    · have h1 : decide (j < 1) = false := by simp; omega
      have h2 : decide (j = 0) = false := by simp; omega
      rw [h1, h2]
      rcases Nat.lt_or_ge j (n + 1) with q | q
      · have e1 : decide (j < 64) = true := by simp; omega
        have e2 : decide (j - 1 < n) = true := by simp; omega
        have e3 : decide (j < n + 1) = true := by simp; omega
        rw [e1, e2, e3, show n + 1 - 1 - j = n - 1 - (j - 1) by omega]
        simp
      · have e2 : decide (j - 1 < n) = false := by simp; omega
        have e3 : decide (j < n + 1) = false := by simp; omega
        rw [e2, e3]
        simp
theorem tu_lt (v : Int64) {n : Nat} (hn : n ≤ 64) : (mTuN v n).toBitVec.toNat < 2 ^ n := by
  apply Nat.lt_pow_two_of_testBit
  intro i hi
  show (mTuN v n).toBitVec.getLsbD i = false
  rw [tu_bit v n hn i]
  have : decide (i < n) = false := by simp; omega
  rw [this]; rfl
theorem isB_of {b : Int32} (h : ¬ mIsB b = 0) : ∃ j : Nat, j < 256 ∧ b = nI j := by
  unfold mIsB at h
  by_cases h1 : b < 0
  · rw [if_pos h1] at h; exact absurd rfl h
  · rw [if_neg h1] at h
    by_cases h2 : 256 ≤ b
    · rw [if_pos h2] at h; exact absurd rfl h
    · obtain ⟨j, hj, e⟩ := nI_of h1
      refine ⟨j, ?_, e⟩
      rw [e] at h2
      rcases Nat.lt_or_ge j 256 with q | q
      · exact q
      · exact absurd (nI_le (a := 256) q hj) h2
theorem come_of (bi : Int32) {j : Nat} (hj : j < 256) : ∃ z : Nat, z < 256 ∧ (mCome bi (nI j)).toBitVec.toNat = z := by
  refine ⟨_, ?_, rfl⟩
  unfold mCome
  split
  · rw [nI_l (by omega)]
    show (BitVec.ofNat 64 j).toNat < 256
    rw [BitVec.toNat_ofNat]; omega
  · exact tu_lt _ (n := 8) (by decide)
theorem du_eix {bi k b : Int32} (c1 : ¬ k < 0) (c7 : ¬ 8 ≤ k) (c14 : ¬ mIsB b = 0) : vp_in (k * 256 + (mCome bi b).toInt32) 2048 := by
  obtain ⟨j, hj, rfl⟩ := isB_of c14
  obtain ⟨i, hi, rfl⟩ := nI_of c1
  obtain ⟨z, hz, ez⟩ := come_of bi hj
  have h8 : i < 8 := by
    rcases Nat.lt_or_ge i 8 with q | q
    · exact q
    · exact absurd (nI_le (a := 8) q hi) c7
  rw [bw_i _ ez, show (256 : Int32) = nI 256 from rfl, pk_mul, nI_add]
  exact vp_in_nI (by omega) (by omega)
theorem du_fs1 {i : Nat} (hi : i ≤ 1792) (c : 2048 ≤ nI (256 + i)) : i = 1792 := by
  have := (nI_leI (a := 2048) (b := 256 + i) (by omega) (by omega)).mp c
  omega
theorem du_fs2 {i : Nat} (hi : i ≤ 1792) (c : ¬ 2048 ≤ nI (256 + i)) : i < 1792 := by
  rcases Nat.lt_or_ge i 1792 with h | h
  · exact h
  · exact absurd (nI_le (a := 2048) (b := 256 + i) (by omega) (by omega)) c
theorem du_fs3 (i : Nat) : nI (256 + i) - 256 = nI i := by
  have := pk_sub (a := 256 + i) (b := 256) (by omega)
  rw [show 256 + i - 256 = i by omega] at this
  exact this
theorem du_n1 {v : Nat} (h : 1 ≤ v) (hv : v < 2 ^ 31) : ¬ nI v < 1 := nI_nlt (a := v) (b := 1) h hv
theorem du_isb {b : Nat} (h : b < 256) : ¬ mIsB (nI b) = 0 := by
  unfold mIsB
  rw [if_neg (nI_pos (by omega)), if_neg (show ¬ (256 : Int32) ≤ nI b from nI_ge (a := b) (b := 256) h (by decide))]
  decide
theorem du_isb2 {b : Int32} (c1 : ¬ b < 0) (c8 : ¬ 255 < b) : ¬ mIsB b = 0 := by
  obtain ⟨j, hj, rfl⟩ := nI_of c1
  apply du_isb
  rcases Nat.lt_or_ge j 256 with h | h
  · exact h
  · exact absurd (nI_lt (a := 255) (b := j) (by omega) hj) c8
theorem du_nz {x : Int32} (h : x = 0 ∨ x = 1) : narrow .boolean (.int x) = .int x := by rcases h with h | h <;> subst h <;> decide
theorem du_fz {x : Int32} (h : x = 0 ∨ x = 1) : fits .boolean (.int x) = true := by rcases h with h | h <;> subst h <;> decide
theorem du_nlt {a b : Nat} (ha : a < 2 ^ 31) (hb : b < 2 ^ 31) (c : ¬ nI b < nI a) : a ≤ b := by
  rcases Nat.lt_or_ge b a with h | h
  · exact absurd (nI_lt h ha) c
  · exact h
theorem du_le7 {i : Nat} (hi : i ≤ 11) (c : ¬ 70 < nI (7 * i)) : 7 * i ≤ 70 := du_nlt (a := 7 * i) (b := 70) (by omega) (by decide) c
