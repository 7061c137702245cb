/-! What the component's models mean. -/
theorem bt_top {wd : Nat} (hw1 : 1 ≤ wd) (hw : wd ≤ 64) (x : Int64) : (mTop (nI wd) x).toBitVec = x.toBitVec <<< (64 - wd) := by
  unfold mTop
  rw [show (64 : Int32) - nI wd = nI (64 - wd) from pk_sub (a := 64) hw]
  exact bv_shl x (by omega)
theorem bt_from {wd : Nat} (hw1 : 1 ≤ wd) (hw : wd ≤ 64) (x : Int64) : (mFrom (nI wd) x).toBitVec = x.toBitVec >>> (64 - wd) := by
  unfold mFrom
  rw [show (64 : Int32) - nI wd = nI (64 - wd) from pk_sub (a := 64) hw]
  exact bv_ushr x (by omega)
def i01 (b : Bool) : Int32 := if b then 1 else 0
theorem u63 (r : Int64) : jushr r 63 = if r.toBitVec.msb then 1 else 0 := by
  apply bw_inj
  rw [show jushr r 63 = jushr r (nI 63) from rfl, bv_ushr r (k := 63) (by decide)]
  apply BitVec.eq_of_getLsbD_eq
  intro i hi
  rw [BitVec.getLsbD_ushiftRight]
  rcases Nat.eq_zero_or_pos i with h | h
  · subst h
    rw [BitVec.msb_eq_getLsbD_last]
    cases r.toBitVec.getLsbD (64 - 1) <;> rfl
  · rw [BitVec.getLsbD_of_ge _ _ (by omega)]
    cases r.toBitVec.msb with
    | false => show _ = (0#64).getLsbD i; simp
    | true =>
      show _ = (1#64).getLsbD i
      rw [BitVec.getLsbD_one]
      have : decide (i = 0) = false := by simp; omega
      rw [this]; simp
theorem tb_msb (r : BitVec 64) (b : Bool) : (r ^^^ tb b).msb = (r.msb ^^ b) := by
  rw [BitVec.msb_xor]
  cases b <;> rfl
theorem tb_shl (r : BitVec 64) (b : Bool) : (r ^^^ tb b) <<< 1 = r <<< 1 := by
  rw [BitVec.shiftLeft_xor_distrib]
  have : tb b <<< 1 = 0#64 := by cases b <;> rfl
  rw [this]; simp
theorem mBit_bv (tp r : Int64) (b : Bool) : (mBit tp r (i01 b)).toBitVec = cz tp.toBitVec (r.toBitVec ^^^ tb b) := by
  unfold mBit cz
  rw [tb_msb, tb_shl, u63]
  cases r.toBitVec.msb <;> cases b
  · rw [if_pos (by decide), if_neg (by decide)]; exact bv_shl1 r
  · rw [if_neg (by decide), if_pos (by decide), bv_xor, bv_shl1]
  · rw [if_neg (by decide), if_pos (by decide), bv_xor, bv_shl1]
  · rw [if_pos (by decide), if_neg (by decide)]; exact bv_shl1 r
theorem mBit_0 (tp r : Int64) : (mBit tp r 0).toBitVec = cz tp.toBitVec r.toBitVec := by
  have h := mBit_bv tp r false
  rw [show r.toBitVec ^^^ tb false = r.toBitVec by show r.toBitVec ^^^ 0#64 = _; simp] at h
  exact h
theorem by_bit : ∀ β, β < 256 → ∀ j, j < 8 → (jiushr (nI β) (7 - nI j) &&& 1) = i01 (β.testBit (7 - j)) := by decide +kernel
theorem mByN_bv (tp r : Int64) {β : Nat} (hβ : β < 256) : ∀ j, j ≤ 8 → (mByN tp r (nI β) j).toBitVec = rgN tp.toBitVec (fun t => β.testBit (7 - t)) r.toBitVec 0 j := by
  intro j
  induction j with
  | zero => intro _; rfl
  | succ j ih =>
    intro hj
    rw [mByN, by_bit β hβ j (by omega), mBit_bv, ih (by omega)]
    show _ = cz _ (_ ^^^ tb (β.testBit (7 - (0 + j))))
    rw [Nat.zero_add]
/-- a byte's eight bits, highest first, are a shift -/
theorem rg_byte {P : BitVec 64} {f : Nat → Bool} {r : BitVec 64} {a β : Nat} (hβ : β < 256) (h : ∀ t, t < 8 → f (a + t) = β.testBit (7 - t)) : rgN P f r a 8 = czn P 8 (r ^^^ (BitVec.ofNat 64 β <<< 56)) := by
  apply rg_word (by decide)
  intro j hj
  rw [BitVec.getLsbD_shiftLeft, BitVec.getLsbD_ofNat]
  rcases Nat.lt_or_ge j 56 with q | q
  · have e1 : decide (j < 56) = true := by simpa using q
    have e2 : decide (63 - j < 8) = false := by simp; omega
    rw [e1, e2]; simp
  · have e1 : decide (j < 56) = false := by simp; omega
    have e2 : decide (63 - j < 8) = true := by simp; omega
    have e3 : decide (j < 64) = true := by simpa using hj
    have e4 : decide (j - 56 < 64) = true := by simp; omega
    rw [e1, e2, e3, e4, h (63 - j) (by omega), show 7 - (63 - j) = j - 56 by omega]; simp
theorem mByte_bv (tp r : Int64) {β : Nat} (hβ : β < 256) : (mByte tp r (nI β)).toBitVec = czn tp.toBitVec 8 (r.toBitVec ^^^ (BitVec.ofNat 64 β <<< 56)) := by
  unfold mByte
  rw [mByN_bv tp r hβ 8 (by decide)]
  exact rg_byte hβ (fun t _ => by rw [Nat.zero_add])
theorem lo8 (P r : BitVec 64) : czn P 8 ((r <<< 8) >>> 8) = r <<< 8 := by
  rw [czn_shl P _ 8 (by decide)]
  · apply BitVec.eq_of_getLsbD_eq
    intro i hi
    rw [BitVec.getLsbD_shiftLeft, BitVec.getLsbD_ushiftRight, BitVec.getLsbD_shiftLeft, BitVec.getLsbD_shiftLeft]
    rcases Nat.lt_or_ge i 8 with q | q
    · have e1 : decide (i < 8) = true := by simpa using q
      rw [e1]; simp
    · have e1 : decide (i < 8) = false := by simp; omega
      have e2 : decide (8 + (i - 8) < 8) = false := by simp
      have e3 : decide (8 + (i - 8) < 64) = true := by simp; omega
      rw [e1, e2, e3, show 8 + (i - 8) - 8 = i - 8 by omega]; simp
  · rw [BitVec.toNat_ushiftRight, Nat.shiftRight_eq_div_pow]
    have := (r <<< 8).isLt
    omega
theorem hi8 (r : BitVec 64) : r = ((r <<< 8) >>> 8) ^^^ (BitVec.ofNat 64 (r.toNat / 2 ^ 56) <<< 56) := by
  apply BitVec.eq_of_getLsbD_eq
  intro i hi
  rw [BitVec.getLsbD_xor, BitVec.getLsbD_ushiftRight, BitVec.getLsbD_shiftLeft, BitVec.getLsbD_shiftLeft, BitVec.getLsbD_ofNat]
  have et : (r.toNat / 2 ^ 56).testBit (i - 56) = r.getLsbD (56 + (i - 56)) := by
    rw [← Nat.shiftRight_eq_div_pow, Nat.testBit_shiftRight]; rfl
  rw [et]
  rcases Nat.lt_or_ge i 56 with q | q
  · have e1 : decide (i < 56) = true := by simpa using q
    have e2 : decide (8 + i < 64) = true := by simp; omega
    have e3 : decide (8 + i < 8) = false := by simp
    rw [e1, e2, e3, show 8 + i - 8 = i by omega]; simp
  · have e1 : decide (i < 56) = false := by simp; omega
    have e2 : decide (8 + i < 64) = false := by simp; omega
    have e3 : decide (i - 56 < 64) = true := by simp; omega
    have e4 : decide (i < 64) = true := by simpa using hi
    rw [e1, e2, e3, e4, show 56 + (i - 56) = i by omega]; simp
theorem of_xor (a b : Nat) : BitVec.ofNat 64 (a ^^^ b) = BitVec.ofNat 64 a ^^^ BitVec.ofNat 64 b := by
  apply BitVec.eq_of_getLsbD_eq
  intro i hi
  simp [hi]
theorem mTab_bv {P : BitVec 64} {sl : Nat → Int64} (hsl : ∀ b, b < 256 → (sl b).toBitVec = czn P 8 (BitVec.ofNat 64 b <<< 56)) (r : Int64) {β : Nat} (hβ : β < 256) : (mTab sl r (nI β)).toBitVec = czn P 8 (r.toBitVec ^^^ (BitVec.ofNat 64 β <<< 56)) := by
  obtain ⟨a, ha, ea, ed⟩ := bw_56 r
  unfold mTab
  have hx : a ^^^ β < 256 := Nat.xor_lt_two_pow (n := 8) ha hβ
  rw [ea, bw_xor, nI_clamp (by omega), bv_xor, hsl _ hx, show jshl r 8 = jshl r (nI 8) from rfl, bv_shl r (k := 8) (by decide), of_xor, BitVec.shiftLeft_xor_distrib, czn_xor]
  have h := hi8 r.toBitVec
  rw [← ed] at h
  conv => rhs; rw [h]
  rw [czn_xor, czn_xor, lo8, BitVec.xor_assoc]
/-- the eight tables -/
def tblOK (P : BitVec 64) (sl : Nat → Int64) : Prop := ∀ k, k < 2048 → (sl k).toBitVec = czn P (8 * (k / 256 + 1)) (BitVec.ofNat 64 (k % 256) <<< 56)
theorem tbl_0 {P : BitVec 64} {sl : Nat → Int64} (h : tblOK P sl) : ∀ b, b < 256 → (sl b).toBitVec = czn P 8 (BitVec.ofNat 64 b <<< 56) := by
  intro b hb
  have := h b (by omega)
  rw [Nat.div_eq_of_lt hb, Nat.mod_eq_of_lt hb] at this
  exact this
theorem mFl1_at (tp : Int64) (sl : Nat → Int64) : ∀ k, k ≤ 256 → ∀ b, b < k → mFl1 tp sl k b = mByte tp 0 (nI b) := by
  intro k
  induction k with
  | zero => intro _ b hb; omega
  | succ k ih =>
    intro hk b hb
    rw [mFl1, nI_clamp (by omega)]
    rcases Nat.eq_or_lt_of_le (Nat.le_of_lt_succ hb) with h | h
    · rw [h]; exact pk_uLs
    · rw [pk_uLn (by omega)]; exact ih (by omega) b h
theorem mFl2_at (tp : Int64) (sl : Nat → Int64) : ∀ k, k ≤ 1792 → ∀ i, i < 256 + k → (mFl2 tp sl k i).toBitVec = czn tp.toBitVec (8 * (i / 256 + 1)) (BitVec.ofNat 64 (i % 256) <<< 56) := by
  intro k
  induction k with
  | zero =>
    intro _ i hi
    rw [mFl2, mFl1_at tp sl 256 (by decide) i (by omega), mByte_bv tp 0 (by omega), Nat.div_eq_of_lt (by omega), Nat.mod_eq_of_lt (by omega)]
    show czn _ 8 (0#64 ^^^ _) = _
    rw [BitVec.zero_xor]
  | succ k ih =>
    intro hk i hi
    rw [mFl2, nI_clamp (by omega), du_fs3, nI_clamp (by omega)]
    rcases Nat.eq_or_lt_of_le (show i ≤ 256 + k by omega) with h | h
    · subst h
      rw [pk_uLs]
      have h0 : ∀ b, b < 256 → (mFl2 tp sl k b).toBitVec = czn tp.toBitVec 8 (BitVec.ofNat 64 b <<< 56) := by
        intro b hb
        have := ih (by omega) b (by omega)
        rw [Nat.div_eq_of_lt hb, Nat.mod_eq_of_lt hb] at this
        exact this
      have h1 := mTab_bv h0 (mFl2 tp sl k k) (β := 0) (by decide)
      rw [show (nI 0) = 0 from rfl] at h1
      rw [h1, ih (by omega) k (by omega)]
      have e0 : BitVec.ofNat 64 0 <<< 56 = 0#64 := rfl
      rw [e0, BitVec.xor_zero, ← czn_add, show (256 + k) / 256 = k / 256 + 1 by omega, show (256 + k) % 256 = k % 256 by omega]
      congr 1
      omega
    · rw [pk_uLn (by omega)]; exact ih (by omega) i h
theorem mFill_ok (tp : Int64) (sl : Nat → Int64) : tblOK tp.toBitVec (mFill tp sl) := fun k hk => mFl2_at tp sl 1792 (by decide) k (by omega)
theorem mWdL_bv (X : Int64) : ∀ k, (mWdL X k).toBitVec = X.toBitVec >>> (8 * k) := by
  intro k
  induction k with
  | zero => show X.toBitVec = X.toBitVec >>> 0; simp
  | succ k ih =>
    rw [mWdL, show jushr (mWdL X k) 8 = jushr (mWdL X k) (nI 8) from rfl, bv_ushr _ (k := 8) (by decide), ih, ← BitVec.shiftRight_add, show 8 * k + 8 = 8 * (k + 1) by omega]
theorem mWdA_bv {P : BitVec 64} {sl : Nat → Int64} (hT : tblOK P sl) (X : Int64) : ∀ n, n ≤ 8 → (mWdA sl X n).toBitVec = czn P 64 ((X.toBitVec <<< (64 - 8 * n)) >>> (64 - 8 * n)) := by
  intro n
  induction n with
  | zero =>
    intro _
    have : (X.toBitVec <<< (64 - 8 * 0)) >>> (64 - 8 * 0) = 0#64 := by
      apply BitVec.eq_of_getLsbD_eq
      intro i hi
      rw [BitVec.getLsbD_ushiftRight, BitVec.getLsbD_of_ge _ _ (by omega)]; simp
    rw [this, czn_0]; rfl
  | succ n ih =>
    intro hn
    rw [mWdA, bw_255, show (256 : Int32) = nI 256 from rfl, pk_mul, nI_add, mWdL_bv, bv_xor, ih (by omega)]
    have hβ : (X.toBitVec >>> (8 * n)).toNat % 256 < 256 := Nat.mod_lt _ (by decide)
    generalize hβe : (X.toBitVec >>> (8 * n)).toNat % 256 = β at hβ ⊢
    rw [nI_clamp (by omega), hT _ (by omega), show (n * 256 + β) / 256 = n by omega, show (n * 256 + β) % 256 = β by omega]
    have h1 : czn P (56 - 8 * n) (BitVec.ofNat 64 β <<< (8 * n)) = BitVec.ofNat 64 β <<< 56 := by
      rw [czn_shl P _ _ (by omega), ← BitVec.shiftLeft_add, show 8 * n + (56 - 8 * n) = 56 by omega]
      rw [BitVec.toNat_shiftLeft, BitVec.toNat_ofNat, Nat.mod_eq_of_lt (show β < 2 ^ 64 by omega), Nat.shiftLeft_eq]
      have h2 : β * 2 ^ (8 * n) < 2 ^ (64 - (56 - 8 * n)) := by
        rw [show 64 - (56 - 8 * n) = 8 + 8 * n by omega, Nat.pow_add]
        exact Nat.mul_lt_mul_of_pos_right hβ (Nat.pow_pos (by decide))
      exact Nat.lt_of_le_of_lt (Nat.mod_le _ _) h2
    rw [← h1, ← czn_add, show 8 * (n + 1) + (56 - 8 * n) = 64 by omega, ← czn_xor]
    congr 1
    apply BitVec.eq_of_getLsbD_eq
    intro i hi
    rw [BitVec.getLsbD_xor, BitVec.getLsbD_ushiftRight, BitVec.getLsbD_ushiftRight, BitVec.getLsbD_shiftLeft, BitVec.getLsbD_shiftLeft, BitVec.getLsbD_shiftLeft, BitVec.getLsbD_ofNat]
    have et : β.testBit (i - 8 * n) = (decide (i - 8 * n < 8) && X.toBitVec.getLsbD (8 * n + (i - 8 * n))) := by
      rw [← hβe, show (256 : Nat) = 2 ^ 8 from rfl, Nat.testBit_mod_two_pow, BitVec.toNat_ushiftRight, Nat.testBit_shiftRight]; rfl
    rw [et]
    rcases Nat.lt_or_ge i (8 * n) with q | q
    · have e1 : decide (i < 8 * n) = true := by simpa using q
      have e2 : decide (64 - 8 * n + i < 64) = true := by simp; omega
      have e3 : decide (64 - 8 * (n + 1) + i < 64) = true := by simp; omega
      have e4 : decide (64 - 8 * n + i < 64 - 8 * n) = false := by simp
      have e5 : decide (64 - 8 * (n + 1) + i < 64 - 8 * (n + 1)) = false := by simp
      rw [e1, e2, e3, e4, e5, show 64 - 8 * n + i - (64 - 8 * n) = i by omega, show 64 - 8 * (n + 1) + i - (64 - 8 * (n + 1)) = i by omega]; simp
    · have e1 : decide (i < 8 * n) = false := by simp; omega
      have e2 : decide (64 - 8 * n + i < 64) = false := by simp; omega
      have e5 : decide (64 - 8 * (n + 1) + i < 64 - 8 * (n + 1)) = false := by simp
      have e6 : decide (i < 64) = true := by simpa using hi
      have e8 : decide (i - 8 * n < 64) = true := by simp; omega
      rw [e1, e2, e5, e6, e8, show 8 * n + (i - 8 * n) = i by omega, show 64 - 8 * (n + 1) + i - (64 - 8 * (n + 1)) = i by omega]
      rcases Nat.lt_or_ge (i - 8 * n) 8 with z | z
      · have e7 : decide (i - 8 * n < 8) = true := by simpa using z
        have e3 : decide (64 - 8 * (n + 1) + i < 64) = true := by simp; omega
        rw [e7, e3]; simp
      · have e7 : decide (i - 8 * n < 8) = false := by simp; omega
        have e3 : decide (64 - 8 * (n + 1) + i < 64) = false := by simp; omega
        rw [e7, e3]; simp
theorem mWord_bv {P : BitVec 64} {sl : Nat → Int64} (hT : tblOK P sl) (r x : Int64) : (mWord sl r x).toBitVec = czn P 64 (r.toBitVec ^^^ x.toBitVec) := by
  unfold mWord
  rw [mWdA_bv hT _ 8 (by decide), bv_xor]
  simp
