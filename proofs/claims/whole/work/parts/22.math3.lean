/-! The row's bits; the first three ways are one register. -/
/-- bit p of a row of words, the first one highest in word 0 -/
def wb (a : Nat → Int64) (p : Nat) : Bool := (a (p / 64)).toBitVec.getLsbD (63 - p % 64)
def rowOK (row : Nat → Int64) (f : Nat → Bool) : Prop := ∀ p, p < 40000 → wb row p = f p
theorem mSh_eq {i : Nat} (hi : i < 2 ^ 31) : mSh (nI i) = nI (56 - 8 * (i % 8)) := by
  unfold mSh
  rw [du_rem8 hi, show (8 : Int32) = nI 8 from rfl, pk_mul, show (56 : Int32) = nI 56 from rfl, pk_sub (by omega), Nat.mul_comm]
theorem bw_32 (y : Int64) : y.toInt32 &&& 255 = nI (y.toBitVec.toNat % 256) := by
  rw [pk_and y.toInt32 (m := 255) 8 rfl]
  congr 1
  show (y.toBitVec.signExtend 32).toNat % 256 = _
  rw [BitVec.signExtend_eq_setWidth_of_le _ (by decide), BitVec.toNat_setWidth]
  omega
theorem mByA_of {row : Nat → Int64} {f : Nat → Bool} (h : rowOK row f) {i : Nat} (hi : i < 5000) : ∃ β : Nat, β < 256 ∧ mByA row (nI i) = nI β ∧ ∀ t, t < 8 → f (8 * i + t) = β.testBit (7 - t) := by
  refine ⟨((row (i / 8)).toBitVec >>> (56 - 8 * (i % 8))).toNat % 256, Nat.mod_lt _ (by decide), ?_, ?_⟩
  · unfold mByA
    rw [du_div8 (by omega), nI_clamp (by omega), mSh_eq (by omega), bw_32, bv_ushr _ (by omega)]
  · intro t ht
    rw [show (256 : Nat) = 2 ^ 8 from rfl, Nat.testBit_mod_two_pow, BitVec.toNat_ushiftRight, Nat.testBit_shiftRight, ← h _ (by omega)]
    unfold wb
    have e1 : decide (7 - t < 8) = true := by simp; omega
    rw [e1, show (8 * i + t) / 64 = i / 8 by omega, show 63 - (8 * i + t) % 64 = 56 - 8 * (i % 8) + (7 - t) by omega]
    rfl
theorem mBbN_bv {row : Nat → Int64} {f : Nat → Bool} (h : rowOK row f) (tp r : Int64) : ∀ n, n ≤ 5000 → (mBbN row tp r n).toBitVec = rgN tp.toBitVec f r.toBitVec 0 (8 * n) := by
  intro n
  induction n with
  | zero => intro _; rfl
  | succ n ih =>
    intro hn
    obtain ⟨β, hβ, e, hb⟩ := mByA_of h (i := n) (by omega)
    rw [mBbN, e, mByte_bv tp _ hβ, ih (by omega), show 8 * (n + 1) = 8 * n + 8 by omega, rg_add, rg_byte hβ (fun t ht => by rw [Nat.zero_add]; exact hb t ht)]
theorem mYyN_bv {P : BitVec 64} {row sl : Nat → Int64} {f : Nat → Bool} (h : rowOK row f) (hT : tblOK P sl) (r : Int64) (a : Nat) : ∀ k, a + k ≤ 5000 → (mYyN row sl r a k).toBitVec = rgN P f r.toBitVec (8 * a) (8 * k) := by
  intro k
  induction k with
  | zero => intro _; rfl
  | succ k ih =>
    intro hk
    obtain ⟨β, hβ, e, hb⟩ := mByA_of h (i := a + k) (by omega)
    rw [mYyN, e, mTab_bv (tbl_0 hT) _ hβ, ih (by omega), show 8 * (k + 1) = 8 * k + 8 by omega, rg_add, rg_byte hβ (fun t ht => by rw [← Nat.mul_add]; exact hb t ht)]
theorem mWwN_bv {P : BitVec 64} {row sl : Nat → Int64} {f : Nat → Bool} (h : rowOK row f) (hT : tblOK P sl) (r : Int64) (a : Nat) : ∀ k, a + k ≤ 625 → (mWwN row sl r a k).toBitVec = rgN P f r.toBitVec (64 * a) (64 * k) := by
  intro k
  induction k with
  | zero => intro _; rfl
  | succ k ih =>
    intro hk
    rw [mWwN, nI_clamp (by omega), mWord_bv hT, ih (by omega), show 64 * (k + 1) = 64 * k + 64 by omega, rg_add]
    refine (rg_word (n := 64) (by decide) (fun j hj => ?_)).symm
    have e1 : decide (63 - j < 64) = true := by simp; omega
    rw [e1, Bool.true_and, ← h _ (by omega)]
    unfold wb
    rw [show (64 * a + 64 * k + (63 - j)) / 64 = a + k by omega, show 63 - (64 * a + 64 * k + (63 - j)) % 64 = j by omega]
theorem mYy_bv {P : BitVec 64} {row sl : Nat → Int64} {f : Nat → Bool} (h : rowOK row f) (hT : tblOK P sl) (r : Int64) {a b : Nat} (hab : a ≤ b) (hb : b ≤ 5000) : (mYy row sl r a b).toBitVec = rgN P f r.toBitVec (8 * a) (8 * (b - a)) := mYyN_bv h hT r a (b - a) (by omega)
theorem mEi_bv {P : BitVec 64} {row sl : Nat → Int64} {f : Nat → Bool} (h : rowOK row f) (hT : tblOK P sl) (r : Int64) {a b : Nat} (hab : a ≤ b) (hb : b ≤ 5000) : (mEi row sl r a b).toBitVec = rgN P f r.toBitVec (8 * a) (8 * (b - a)) := by
  unfold mEi
  split
  · exact mYy_bv h hT r hab hb
  · rename_i hc
    rw [mYy_bv h hT _ (by omega) hb, mWwN_bv h hT _ _ _ (by omega), mYy_bv h hT r (by omega) (by omega)]
    have e1 : 8 * (b - a) = 8 * ((a + 7) / 8 * 8 - a) + (64 * (b / 8 - (a + 7) / 8) + 8 * (b - b / 8 * 8)) := by omega
    rw [e1, rg_add, rg_add]
    rw [show 8 * a + 8 * ((a + 7) / 8 * 8 - a) = 64 * ((a + 7) / 8) by omega, show 64 * ((a + 7) / 8) + 64 * (b / 8 - (a + 7) / 8) = 8 * (b / 8 * 8) by omega]
/-! Dividing. -/
theorem wb_set (a : Nat → Int64) (k : Nat) (x : Int64) (p : Nat) : wb (vp_updL a k x) p = if p / 64 = k then x.toBitVec.getLsbD (63 - p % 64) else wb a p := by
  unfold wb
  by_cases h : p / 64 = k
  · rw [if_pos h, h, pk_uLs]
  · rw [if_neg h, pk_uLn h]
theorem bv_1shl {k : Nat} (hk : k < 64) (j : Nat) : (jshl 1 (nI k)).toBitVec.getLsbD j = decide (j = k) := by
  rw [bv_shl 1 hk, bv_1, BitVec.getLsbD_shiftLeft, BitVec.getLsbD_one]
  rcases Nat.lt_trichotomy j k with h | h | h
  · have e1 : decide (j < k) = true := by simpa using h
    have e2 : decide (j = k) = false := by simp; omega
    rw [e1, e2]; simp
  · subst h
    have e1 : decide (j < 64) = true := by simpa using hk
    rw [e1]; simp
  · have e1 : decide (j - k = 0) = false := by simp; omega
    have e2 : decide (j = k) = false := by simp; omega
    rw [e1, e2]; simp
theorem mAd1_wb (dv : Nat → Int64) {j : Nat} (hj : j < 40000) {p : Nat} (hp : p ≠ j) : wb (mAd1 dv j) p = wb dv p := by
  unfold mAd1
  rw [nI_clamp (by omega), show (63 : Int32) - nI (j % 64) = nI (63 - j % 64) from pk_sub (a := 63) (by omega), wb_set]
  split
  · rename_i h
    rw [bv_xor, BitVec.getLsbD_xor, bv_1shl (by omega)]
    have e1 : decide (63 - p % 64 = 63 - j % 64) = false := by simp; omega
    rw [e1, Bool.xor_false, ← h]; rfl
  · rfl
theorem mAd2_wb (dv : Nat → Int64) (tp : Int64) {j : Nat} (hj : j < 40000) {p : Nat} (hp : j < p) : wb (mAd2 dv tp j) p = (wb dv p ^^ (decide (p / 64 = (j + 1) / 64) && tp.toBitVec.getLsbD (63 - (p - (j + 1))))) := by
  unfold mAd2
  rw [nI_clamp (by omega), wb_set]
  split
  · rename_i h
    have e0 : decide (p / 64 = (j + 1) / 64) = true := by simpa using h
    rw [e0, bv_xor, BitVec.getLsbD_xor, bv_ushr _ (by omega), BitVec.getLsbD_ushiftRight, show (j + 1) % 64 + (63 - p % 64) = 63 - (p - (j + 1)) by omega, Bool.true_and]
    congr 1
    rw [← h]
    exact mAd1_wb dv hj (by omega)
  · rename_i h
    have e0 : decide (p / 64 = (j + 1) / 64) = false := by simpa using h
    rw [e0, mAd1_wb dv hj (by omega)]; simp
theorem mAdd_wb (dv : Nat → Int64) (tp : Int64) {j : Nat} (hj : j < 40000) {p : Nat} (hp : j < p) (hp2 : p < 40064) : wb (mAdd dv tp j) p = (wb dv p ^^ (decide (p - (j + 1) < 64) && tp.toBitVec.getLsbD (63 - (p - (j + 1))))) := by
  unfold mAdd
  by_cases hc : (j + 1) % 64 = 0
  · rw [if_pos (by rw [hc]; rfl), mAd2_wb dv tp hj hp]
    have : decide (p / 64 = (j + 1) / 64) = decide (p - (j + 1) < 64) := decide_eq_decide.mpr ⟨fun h => by omega, fun h => by omega⟩
    rw [this]
  · rw [if_neg (nI_ne0 (by omega) (by omega)), nI_1, nI_clamp (by omega), show (64 : Int32) - nI ((j + 1) % 64) = nI (64 - (j + 1) % 64) from pk_sub (a := 64) (by omega), wb_set]
    split
    · rename_i h
      rw [bv_xor, BitVec.getLsbD_xor, bv_shl _ (by omega), BitVec.getLsbD_shiftLeft]
      have e9 : (mAd2 dv tp j ((j + 1) / 64 + 1)).toBitVec.getLsbD (63 - p % 64) = wb (mAd2 dv tp j) p := by unfold wb; rw [h]
      rw [e9, mAd2_wb dv tp hj hp]
      have e0 : decide (p / 64 = (j + 1) / 64) = false := by simp; omega
      have e1 : decide (63 - p % 64 < 64) = true := by simp; omega
      rw [e0, e1, Bool.false_and, Bool.xor_false, Bool.true_and]
      congr 1
      rcases Nat.lt_or_ge (p - (j + 1)) 64 with q | q
      · have e2 : decide (p - (j + 1) < 64) = true := by simpa using q
        have e3 : decide (63 - p % 64 < 64 - (j + 1) % 64) = false := by simp; omega
        rw [e2, e3, show 63 - p % 64 - (64 - (j + 1) % 64) = 63 - (p - (j + 1)) by omega]; simp
      · have e2 : decide (p - (j + 1) < 64) = false := by simp; omega
        have e3 : decide (63 - p % 64 < 64 - (j + 1) % 64) = true := by simp; omega
        rw [e2, e3]; simp
    · rename_i h
      rw [mAd2_wb dv tp hj hp]
      rcases Nat.lt_or_ge (p - (j + 1)) 64 with q | q
      · have e2 : decide (p - (j + 1) < 64) = true := by simpa using q
        have e0 : decide (p / 64 = (j + 1) / 64) = true := by simp; omega
        rw [e0, e2]
      · have e2 : decide (p - (j + 1) < 64) = false := by simp; omega
        have e0 : decide (p / 64 = (j + 1) / 64) = false := by simp; omega
        rw [e0, e2]
theorem mDv0_wb {row dv : Nat → Int64} {f : Nat → Bool} (h : rowOK row f) (hf : ∀ p, 40000 ≤ p → f p = false) (x : Int64) {p : Nat} (hp : p < 40064) : wb (mDv0 row dv x) p = ((decide (p < 64) && x.toBitVec.getLsbD (63 - p)) ^^ f p) := by
  have hB : wb (mDvB row dv) p = f p := by
    unfold mDvB
    rw [show (625 : Int32).toNatClampNeg = 625 from rfl, wb_set]
    split
    · rw [hf p (by omega)]; show (0#64).getLsbD _ = _; simp
    · rw [← h p (by omega)]
      unfold wb mDvA
      rw [show (625 : Int32).toNatClampNeg = 625 from rfl, show (0 : Int32).toNatClampNeg = 0 from rfl, pk_cpy_in (by omega) (by omega), Nat.zero_add, Nat.sub_zero]
  unfold mDv0
  rw [show (0 : Int32).toNatClampNeg = 0 from rfl, wb_set]
  split
  · rename_i hz
    have e1 : decide (p < 64) = true := by simp; omega
    have e9 : (mDvB row dv 0).toBitVec.getLsbD (63 - p % 64) = wb (mDvB row dv) p := by unfold wb; rw [hz]
    rw [e1, bv_xor, BitVec.getLsbD_xor, e9, hB, show p % 64 = p by omega, Bool.xor_comm]; simp
  · rename_i hz
    have e1 : decide (p < 64) = false := by simp; omega
    rw [e1, hB]; simp
theorem lt0_msb (x : Int64) : x < 0 ↔ x.toBitVec.msb = true := by
  rw [Int64.lt_iff_toInt_lt]
  show x.toBitVec.toInt < _ ↔ _
  rw [BitVec.msb_eq_toInt]
  simp
theorem cz_bit (P r : BitVec 64) (j : Nat) (hj : j < 64) : (cz P r).getLsbD j = ((!decide (j < 1) && r.getLsbD (j - 1)) ^^ (r.msb && P.getLsbD j)) := by
  unfold cz
  have e : (r <<< 1).getLsbD j = (!decide (j < 1) && r.getLsbD (j - 1)) := by
    rw [BitVec.getLsbD_shiftLeft]
    have : decide (j < 64) = true := by simpa using hj
    rw [this]; simp
  cases r.msb with
  | false => rw [if_neg (by decide), e]; simp
  | true => rw [if_pos rfl, BitVec.getLsbD_xor, e]; simp
theorem mDvN_wb {row dv : Nat → Int64} {f : Nat → Bool} (h : rowOK row f) (hf : ∀ p, 40000 ≤ p → f p = false) (x tp : Int64) : ∀ i, i ≤ 40000 → ∀ p, i ≤ p → p < 40064 → wb (mDvN row dv x tp i) p = ((decide (p - i < 64) && (rgN tp.toBitVec f x.toBitVec 0 i).getLsbD (63 - (p - i))) ^^ f p) := by
  intro i
  induction i with
  | zero =>
    intro _ p _ hp
    rw [mDvN, mDv0_wb h hf x hp, Nat.sub_zero]; rfl
  | succ i ih =>
    intro hi p h1 h2
    have ih0 := ih (by omega) i (Nat.le_refl _) (by omega)
    have ihp := ih (by omega) p (by omega) h2
    show wb (mDvN row dv x tp (i + 1)) p = ((decide (p - (i + 1) < 64) && (cz tp.toBitVec (rgN tp.toBitVec f x.toBitVec 0 i ^^^ tb (f (0 + i)))).getLsbD (63 - (p - (i + 1)))) ^^ f p)
    rw [cz_bit _ _ _ (by omega), tb_msb, Nat.zero_add]
    generalize rgN tp.toBitVec f x.toBitVec 0 i = R at ih0 ihp ⊢
    -- the bit on top
    have ht : (R.msb ^^ f i) = wb (mDvN row dv x tp i) i := by
      rw [ih0, Nat.sub_self, BitVec.msb_eq_getLsbD_last]; simp
    have hc : (0 ≤ lg_cmp (jshl (mDvN row dv x tp i (nI (i / 64)).toNatClampNeg) (nI (i % 64))) 0) ↔ wb (mDvN row dv x tp i) i = false := by
      rw [lg_cmp_ge, nI_clamp (by omega), ← Int64.not_lt, lt0_msb, bv_shl _ (by omega), BitVec.msb_eq_getLsbD_last, BitVec.getLsbD_shiftLeft]
      have e1 : decide (64 - 1 < 64) = true := by decide
      have e2 : decide (64 - 1 < i % 64) = false := by simp; omega
      rw [e1, e2]
      unfold wb
      rw [show 64 - 1 - i % 64 = 63 - i % 64 by omega]; simp
    have hs : (decide (p - (i + 1) < 64) && (!decide (63 - (p - (i + 1)) < 1) && (R ^^^ tb (f i)).getLsbD (63 - (p - (i + 1)) - 1))) = (decide (p - i < 64) && R.getLsbD (63 - (p - i))) := by
      rcases Nat.lt_or_ge (p - i) 64 with q | q
      · have e1 : decide (p - i < 64) = true := by simpa using q
        have e2 : decide (p - (i + 1) < 64) = true := by simp; omega
        have e3 : decide (63 - (p - (i + 1)) < 1) = false := by simp; omega
        have e4 : (tb (f i)).getLsbD (63 - (p - i)) = false := lz_tb (Nat.le_refl 63) _ _ (by omega)
        rw [e1, e2, e3, show 63 - (p - (i + 1)) - 1 = 63 - (p - i) by omega, BitVec.getLsbD_xor, e4]; simp
      · have e1 : decide (p - i < 64) = false := by simp; omega
        have e3 : decide (63 - (p - (i + 1)) < 1) = true := by simp; omega
        rw [e1, e3]; simp
    rw [Bool.and_xor_distrib_left, hs, mDvN]
    by_cases hz : wb (mDvN row dv x tp i) i = false
    · rw [if_pos (hc.mpr hz), ihp, ht, hz]; simp
    · rw [if_neg (fun q => hz (hc.mp q)), mAdd_wb _ tp (by omega) (by omega) h2, ihp, ht]
      have hz1 : wb (mDvN row dv x tp i) i = true := by simpa using hz
      rw [hz1, Bool.true_and]
      generalize (decide (p - i < 64) && R.getLsbD (63 - (p - i))) = u
      generalize (decide (p - (i + 1) < 64) && tp.toBitVec.getLsbD (63 - (p - (i + 1)))) = v
      cases u <;> cases v <;> cases f p <;> rfl
theorem mDvF_bit (dv : Nat → Int64) {p : Nat} (hp : p ≤ 40000) {j : Nat} (hj : j < 64) : (mDvF dv p).toBitVec.getLsbD j = wb dv (p + (63 - j)) := by
  unfold mDvF
  by_cases hc : p % 64 = 0
  · rw [if_pos (by rw [hc]; rfl), nI_clamp (by omega)]
    unfold wb
    rw [show (p + (63 - j)) / 64 = p / 64 by omega, show 63 - (p + (63 - j)) % 64 = j by omega]
  · rw [if_neg (nI_ne0 (by omega) (by omega)), nI_1, nI_clamp (by omega), nI_clamp (by omega), show (64 : Int32) - nI (p % 64) = nI (64 - p % 64) from pk_sub (a := 64) (by omega)]
    rw [bv_or, BitVec.getLsbD_or, bv_shl _ (by omega), bv_ushr _ (by omega), BitVec.getLsbD_shiftLeft, BitVec.getLsbD_ushiftRight]
    unfold wb
    have e1 : decide (j < 64) = true := by simpa using hj
    rcases Nat.lt_or_ge j (p % 64) with q | q
    · have e2 : decide (j < p % 64) = true := by simpa using q
      rw [e1, e2, show (p + (63 - j)) / 64 = p / 64 + 1 by omega, show 63 - (p + (63 - j)) % 64 = 64 - p % 64 + j by omega]; simp
    · have e2 : decide (j < p % 64) = false := by simp; omega
      rw [e1, e2, show (p + (63 - j)) / 64 = p / 64 by omega, show 63 - (p + (63 - j)) % 64 = j - p % 64 by omega, BitVec.getLsbD_of_ge _ (64 - p % 64 + j) (by omega)]; simp
theorem mDv_bv {row dv : Nat → Int64} {f : Nat → Bool} (h : rowOK row f) {nb : Nat} (hn : nb ≤ 5000) (hf : ∀ p, nb * 8 ≤ p → f p = false) (x tp : Int64) : (mDvF (mDvN row dv x tp (nb * 8)) (nb * 8)).toBitVec = rgN tp.toBitVec f x.toBitVec 0 (8 * nb) := by
  apply BitVec.eq_of_getLsbD_eq
  intro j hj
  rw [mDvF_bit _ (by omega) hj, mDvN_wb h (fun p hp => hf p (by omega)) x tp (nb * 8) (by omega) _ (by omega) (by omega), hf _ (by omega)]
  have e1 : decide (nb * 8 + (63 - j) - nb * 8 < 64) = true := by simp; omega
  rw [e1, show 63 - (nb * 8 + (63 - j) - nb * 8) = j by omega, Nat.mul_comm nb 8]; simp
