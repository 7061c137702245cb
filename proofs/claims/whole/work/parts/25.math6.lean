/-! What changes keep the two states beside each other. -/
/-- bit j beside bit j with place 2^k turned over -/
theorem bt_sw {M x : BitVec 64} {k : Nat} (hk : k < 3) (hM : ∀ j, j < 64 → M.getLsbD j = !j.testBit k) (j : Nat) (hj : j < 64) : (((x &&& M) <<< 2 ^ k) ||| ((x >>> 2 ^ k) &&& M)).getLsbD j = x.getLsbD (j ^^^ 2 ^ k) := by
  have key : ∀ j, j < 64 → ∀ k, k < 3 → ((j.testBit k = true → 2 ^ k ≤ j ∧ (j - 2 ^ k).testBit k = false ∧ j ^^^ 2 ^ k = j - 2 ^ k) ∧ (j.testBit k = false → j ^^^ 2 ^ k = 2 ^ k + j ∧ 2 ^ k + j < 64 ∧ (2 ^ k ≤ j → (j - 2 ^ k).testBit k = true))) := by decide +kernel
  obtain ⟨k1, k2⟩ := key j hj k hk
  rw [BitVec.getLsbD_or, BitVec.getLsbD_shiftLeft, BitVec.getLsbD_and, BitVec.getLsbD_and, BitVec.getLsbD_ushiftRight, hM j hj, hM (j - 2 ^ k) (Nat.lt_of_le_of_lt (Nat.sub_le _ _) hj)]
  have e1 : decide (j < 64) = true := by simpa using hj
  cases hb : j.testBit k with
  | true =>
    obtain ⟨a, b, c⟩ := k1 hb
    have e2 : decide (j < 2 ^ k) = false := by simp; omega
    rw [e1, e2, b, c]; simp
  | false =>
    obtain ⟨a, b, c⟩ := k2 hb
    rw [e1, a]
    rcases Nat.lt_or_ge j (2 ^ k) with q | q
    · have e2 : decide (j < 2 ^ k) = true := by simpa using q
      rw [e2]; simp
    · rw [c q]; simp
theorem mBT_bit (x : Int64) {j : Nat} (hj : j < 64) : (mBT x).toBitVec.getLsbD j = x.toBitVec.getLsbD (j ^^^ 7) := by
  have m1 : ∀ j, j < 64 → (1085102592571150095 : Int64).toBitVec.getLsbD j = !j.testBit 2 := by decide +kernel
  have m2 : ∀ j, j < 64 → (3689348814741910323 : Int64).toBitVec.getLsbD j = !j.testBit 1 := by decide +kernel
  have m3 : ∀ j, j < 64 → (6148914691236517205 : Int64).toBitVec.getLsbD j = !j.testBit 0 := by decide +kernel
  have s1 : ∀ (y : Int64) (j : Nat), j < 64 → (mBT1 y).toBitVec.getLsbD j = y.toBitVec.getLsbD (j ^^^ 4) := by
    intro y j hj
    unfold mBT1
    rw [bv_or, bv_and, show jshl (y &&& 1085102592571150095) 4 = jshl (y &&& 1085102592571150095) (nI 4) from rfl, show jushr y 4 = jushr y (nI 4) from rfl, bv_shl _ (by decide), bv_ushr _ (by decide), bv_and]
    exact bt_sw (k := 2) (by decide) m1 j hj
  have s2 : ∀ (y : Int64) (j : Nat), j < 64 → (mBT2 y).toBitVec.getLsbD j = y.toBitVec.getLsbD (j ^^^ 2) := by
    intro y j hj
    unfold mBT2
    rw [bv_or, bv_and, show jshl (y &&& 3689348814741910323) 2 = jshl (y &&& 3689348814741910323) (nI 2) from rfl, show jushr y 2 = jushr y (nI 2) from rfl, bv_shl _ (by decide), bv_ushr _ (by decide), bv_and]
    exact bt_sw (k := 1) (by decide) m2 j hj
  have s3 : ∀ (y : Int64) (j : Nat), j < 64 → (mBT3 y).toBitVec.getLsbD j = y.toBitVec.getLsbD (j ^^^ 1) := by
    intro y j hj
    unfold mBT3
    rw [bv_or, bv_and, show jshl (y &&& 6148914691236517205) 1 = jshl (y &&& 6148914691236517205) (nI 1) from rfl, show jushr y 1 = jushr y (nI 1) from rfl, bv_shl _ (by decide), bv_ushr _ (by decide), bv_and]
    exact bt_sw (k := 0) (by decide) m3 j hj
  have hx : ∀ j, j < 64 → (j ^^^ 1 < 64 ∧ j ^^^ 1 ^^^ 2 < 64 ∧ j ^^^ 1 ^^^ 2 ^^^ 4 = j ^^^ 7) := by decide +kernel
  obtain ⟨a, b, c⟩ := hx j hj
  unfold mBT
  rw [s3 _ j hj, s2 _ _ a, s1 _ _ b, c]
theorem mTrN_at (row : Nat → Int64) : ∀ k, k ≤ 625 → ∀ j, mTrN row k j = if j < k then mBT (row j) else row j := by
  intro k
  induction k with
  | zero => intro _ j; rfl
  | succ k ih =>
    intro hk j
    rw [mTrN, nI_clamp (by omega), ih (by omega) k, if_neg (Nat.lt_irrefl k)]
    rcases Nat.lt_trichotomy j k with h | h | h
    · rw [pk_uLn (by omega), ih (by omega), if_pos h, if_pos (by omega)]
    · subst h
      rw [pk_uLs, if_pos (by omega)]
    · rw [pk_uLn (by omega), ih (by omega), if_neg (by omega), if_neg (by omega)]
theorem x7 : ∀ u, u < 64 → (63 - u) ^^^ 7 = 63 - (8 * (u / 8) + (7 - u % 8)) := by decide +kernel
theorem row_turn {row : Nat → Int64} {B : Nat → Nat} {bi i0 : Int32} {nb : Nat} (hn : nb ≤ 5000) (hb : bi = 0 ∨ bi = 1) (hi : i0 = 0 ∨ i0 = 1) (hne : ¬ bi = i0) (h : rowOK row (fs B bi nb)) : rowOK (mTrN row ((nb + 7) / 8)) (fs B i0 nb) := by
  intro p hp
  unfold wb
  rw [mTrN_at row _ (by omega)]
  by_cases hc : p / 64 < (nb + 7) / 8
  · rw [if_pos hc, mBT_bit _ (by omega), x7 _ (Nat.mod_lt _ (by decide))]
    have h2 := h (8 * (p / 8) + (7 - p % 8)) (by omega)
    unfold wb at h2
    rw [show (8 * (p / 8) + (7 - p % 8)) / 64 = p / 64 by omega, show (8 * (p / 8) + (7 - p % 8)) % 64 = 8 * (p % 64 / 8) + (7 - p % 64 % 8) by omega] at h2
    rw [h2]
    unfold fs
    have e1 : decide (8 * (p / 8) + (7 - p % 8) < 8 * nb) = decide (p < 8 * nb) := decide_eq_decide.mpr (by omega)
    rw [e1, show (8 * (p / 8) + (7 - p % 8)) / 8 = p / 8 by omega, show (8 * (p / 8) + (7 - p % 8)) % 8 = 7 - p % 8 by omega]
    congr 1
    unfold cb
    rcases hb with rfl | rfl <;> rcases hi with rfl | rfl
    · exact absurd rfl hne
    · rw [if_pos rfl, if_neg (by decide), show 7 - (7 - p % 8) = p % 8 by omega]
    · rw [if_neg (by decide), if_pos rfl]
    · exact absurd rfl hne
  · rw [if_neg hc]
    have h2 := h p hp
    unfold wb at h2
    rw [h2, fs_end (by omega), fs_end (by omega)]
theorem rel_kind {row sl : Nat → Int64} {by8 : Nat → Int32} {B : Nat → Nat} {nb wd : Nat} {po tp fi la : Int64} {bi bo : Int32} (h : Rel row sl by8 B nb wd po tp fi la bi bo) {v : Nat} {p0 f0 l0 : Int64} {i0 o0 : Int32} (hv1 : 1 ≤ v) (hv : v ≤ 64) (hi : i0 = 0 ∨ i0 = 1) (ho : o0 = 0 ∨ o0 = 1) :
    Rel (if bi = i0 then row else mTrN row ((nb + 7) / 8)) (mFill (mTop (nI v) p0) sl) by8 B nb v (mLow (nI v) p0) (mTop (nI v) p0) (mLow (nI v) f0) (mLow (nI v) l0) i0 o0 := by
  obtain ⟨hn, hw1, hw, hbi, -, -, -, -, -, -, hB, hB2, hR⟩ := h
  refine ⟨hn, hv1, hv, hi, ho, ?_, ?_, ?_, ?_, mFill_ok _ _, hB, hB2, ?_⟩
  · rw [mLow_eq hv1 hv]; exact rLow_lo hv1 hv p0
  · rw [mLow_eq hv1 hv]; exact rLow_lo hv1 hv f0
  · rw [mLow_eq hv1 hv]; exact rLow_lo hv1 hv l0
  · rw [mLow_eq hv1 hv, rLow_up hv1 hv, bt_top hv1 hv]
  · split
    · rename_i e; rw [← e]; exact hR
    · rename_i e; exact row_turn hn hbi hi e hR
/-- the bytes behind a feed -/
def feB (B : Nat → Nat) (b nb t : Nat) (i : Nat) : Nat := if nb ≤ i ∧ i < nb + t then b else B i
theorem rel_feed_row {row : Nat → Int64} {B : Nat → Nat} {nb b : Nat} (bi : Int32) (hb : b < 256) (h : rowOK row (fs B bi nb)) : ∀ t, nb + t ≤ 5000 → rowOK (mFeN row (mCome bi (nI b)) nb t) (fs (feB B b nb t) bi (nb + t)) := by
  obtain ⟨z, hz, ez, hzb⟩ := come_bits bi hb
  intro t
  induction t with
  | zero =>
    intro _ p hp
    show wb row p = _
    rw [h p hp]
    unfold fs feB
    rw [if_neg (by omega)]; rfl
  | succ t ih =>
    intro ht p hp
    have ih := ih (by omega)
    rw [mFeN, nI_clamp (by omega), wb_set]
    have hB1 : ∀ i, i ≠ nb + t → feB B b nb (t + 1) i = feB B b nb t i := by
      intro i hi
      unfold feB
      by_cases q : nb ≤ i ∧ i < nb + t
      · rw [if_pos q, if_pos (by omega)]
      · rw [if_neg q, if_neg (by omega)]
    have hB3 : feB B b nb (t + 1) (nb + t) = b := by unfold feB; rw [if_pos (by omega)]
    -- what the new row must hold
    have hnew : fs (feB B b nb (t + 1)) bi (nb + (t + 1)) p = if p / 8 = nb + t then z.testBit (7 - p % 8) else fs (feB B b nb t) bi (nb + t) p := by
      by_cases q : p / 8 = nb + t
      · rw [if_pos q]
        unfold fs
        have e1 : decide (p < 8 * (nb + (t + 1))) = true := by simp; omega
        rw [e1, q, hB3, Bool.true_and]
        exact hzb _ (Nat.mod_lt _ (by decide))
      · rw [if_neg q]
        unfold fs
        have e1 : decide (p < 8 * (nb + (t + 1))) = decide (p < 8 * (nb + t)) := decide_eq_decide.mpr (by omega)
        rw [e1, hB1 _ q]
    rw [hnew]
    split
    · rename_i hw
      rw [bv_or, BitVec.getLsbD_or, mSh_eq (by omega), bv_shl _ (by omega), ez, BitVec.getLsbD_shiftLeft, BitVec.getLsbD_ofNat]
      have e9 : (mFeN row (mCome bi (nI b)) nb t ((nb + t) / 8)).toBitVec.getLsbD (63 - p % 64) = wb (mFeN row (mCome bi (nI b)) nb t) p := by unfold wb; rw [hw]
      rw [e9, ih p hp]
      have e1 : decide (63 - p % 64 < 64) = true := by simp; omega
      by_cases q : p / 8 = nb + t
      · rw [if_pos q, fs_end (by omega)]
        have e2 : decide (63 - p % 64 < 56 - 8 * ((nb + t) % 8)) = false := by simp; omega
        have e3 : decide (63 - p % 64 - (56 - 8 * ((nb + t) % 8)) < 64) = true := by simp; omega
        rw [e1, e2, e3, show 63 - p % 64 - (56 - 8 * ((nb + t) % 8)) = 7 - p % 8 by omega]; simp
      · rw [if_neg q]
        rcases Nat.lt_or_ge (63 - p % 64) (56 - 8 * ((nb + t) % 8)) with u | u
        · have e2 : decide (63 - p % 64 < 56 - 8 * ((nb + t) % 8)) = true := by simpa using u
          rw [e2]; simp
        · have e4 : z.testBit (63 - p % 64 - (56 - 8 * ((nb + t) % 8))) = false := Nat.testBit_lt_two_pow (Nat.lt_of_lt_of_le hz (Nat.pow_le_pow_right (n := 2) (i := 8) (by decide) (by omega)))
          rw [e4]; simp
    · rename_i hw
      rw [if_neg (by omega), ih p hp]
theorem rFeN_at (f : Nat → Int32) (b : Int32) (nb : Nat) : ∀ t, nb + t ≤ 5000 → ∀ i, rFeN f b nb t i = if nb ≤ i ∧ i < nb + t then b else f i := by
  intro t
  induction t with
  | zero => intro _ i; rw [if_neg (by omega)]; rfl
  | succ t ih =>
    intro ht i
    rw [rFeN, nI_clamp (by omega)]
    by_cases q : i = nb + t
    · subst q
      rw [pk_us, if_pos (by omega)]
    · rw [pk_un q, ih (by omega)]
      by_cases u : nb ≤ i ∧ i < nb + t
      · rw [if_pos u, if_pos (by omega)]
      · rw [if_neg u, if_neg (by omega)]
theorem rel_feed {row sl : Nat → Int64} {by8 : Nat → Int32} {B : Nat → Nat} {nb wd : Nat} {po tp fi la : Int64} {bi bo : Int32} (h : Rel row sl by8 B nb wd po tp fi la bi bo) {b t : Nat} (hb : b < 256) (ht : t ≤ 5000 - nb) :
    Rel (mFeN row (mCome bi (nI b)) nb t) sl (rFeN by8 (nI b) nb t) (feB B b nb t) (nb + t) wd po tp fi la bi bo := by
  obtain ⟨hn, hw1, hw, hbi, hbo, hp, hf, hl, htp, hT, hB, hB2, hR⟩ := h
  refine ⟨by omega, hw1, hw, hbi, hbo, hp, hf, hl, htp, hT, ?_, ?_, rel_feed_row bi hb hR t (by omega)⟩
  · intro i hi
    rw [rFeN_at by8 (nI b) nb t (by omega)]
    unfold feB
    by_cases u : nb ≤ i ∧ i < nb + t
    · rw [if_pos u, if_pos u]
    · rw [if_neg u, if_neg u, hB i (by omega)]
  · intro i
    unfold feB
    split
    · exact hb
    · exact hB2 i
theorem mAFN_at (f : Nat → Int64) (x : Int64) : ∀ k, k ≤ 625 → ∀ j, j < k → mAFN f x k j = x := by
  intro k
  induction k with
  | zero => intro _ j hj; omega
  | succ k ih =>
    intro hk j hj
    rw [mAFN, nI_clamp (by omega)]
    by_cases q : j = k
    · subst q; exact pk_uLs
    · rw [pk_uLn q]; exact ih (by omega) j (by omega)
theorem rel_clear {row sl : Nat → Int64} {by8 : Nat → Int32} {B : Nat → Nat} {nb wd : Nat} {po tp fi la : Int64} {bi bo : Int32} (h : Rel row sl by8 B nb wd po tp fi la bi bo) : Rel (mAFN row 0 625) sl by8 B 0 wd po tp fi la bi bo := by
  obtain ⟨hn, hw1, hw, hbi, hbo, hp, hf, hl, htp, hT, hB, hB2, hR⟩ := h
  refine ⟨by omega, hw1, hw, hbi, hbo, hp, hf, hl, htp, hT, fun i hi => by omega, hB2, fun p hp => ?_⟩
  rw [fs_end (by omega)]
  unfold wb
  rw [mAFN_at row 0 625 (by decide) _ (by omega)]
  show (0#64).getLsbD _ = _
  simp
theorem fl_0 : ∀ u, u < 8 → (128 : Int32) >>> (nI u &&& 31) = nI (2 ^ (7 - u)) := by decide +kernel
theorem fl_1 : ∀ u, u < 8 → (1 : Int32) <<< (nI u &&& 31) = nI (2 ^ u) := by decide +kernel
/-- the bytes behind a flip -/
def flB (B : Nat → Nat) (bi : Int32) (j : Nat) (i : Nat) : Nat := if i = j / 8 then B i ^^^ (if bi = 0 then 2 ^ (7 - j % 8) else 2 ^ (j % 8)) else B i
theorem rel_flip {row sl : Nat → Int64} {by8 : Nat → Int32} {B : Nat → Nat} {nb wd : Nat} {po tp fi la : Int64} {bi bo : Int32} (h : Rel row sl by8 B nb wd po tp fi la bi bo) {j : Nat} (hj : j < nb * 8) :
    Rel (mFlip row j) sl (rFlip by8 bi j) (flB B bi j) nb wd po tp fi la bi bo := by
  obtain ⟨hn, hw1, hw, hbi, hbo, hp, hf, hl, htp, hT, hB, hB2, hR⟩ := h
  have h7 : j % 8 < 8 := Nat.mod_lt _ (by decide)
  refine ⟨hn, hw1, hw, hbi, hbo, hp, hf, hl, htp, hT, ?_, ?_, ?_⟩
  · intro i hi
    unfold rFlip flB
    rw [fl_0 _ h7, fl_1 _ h7, nI_clamp (by omega), hB (j / 8) (by omega), bw_xor, bw_xor]
    by_cases q : i = j / 8
    · rw [if_pos q]
      split
      · rw [q, pk_us]
      · rw [q, pk_us]
    · rw [if_neg q]
      split
      · rw [pk_un q]; exact hB i hi
      · rw [pk_un q]; exact hB i hi
  · intro i
    unfold flB
    split
    · have a1 : 2 ^ (7 - j % 8) < 2 ^ 8 := Nat.pow_lt_pow_right (by decide) (by omega)
      have a2 : 2 ^ (j % 8) < 2 ^ 8 := Nat.pow_lt_pow_right (by decide) h7
      split
      · exact Nat.xor_lt_two_pow (n := 8) (hB2 i) a1
      · exact Nat.xor_lt_two_pow (n := 8) (hB2 i) a2
    · exact hB2 i
  · intro p hp
    have e0 : wb (mFlip row j) p = (wb row p ^^ decide (p = j)) := by
      unfold mFlip
      rw [nI_clamp (by omega), show (63 : Int32) - nI (j % 64) = nI (63 - j % 64) from pk_sub (a := 63) (by omega), wb_set]
      split
      · rename_i hq
        rw [bv_xor, BitVec.getLsbD_xor, bv_1shl (by omega)]
        have e1 : decide (63 - p % 64 = 63 - j % 64) = decide (p = j) := decide_eq_decide.mpr (by omega)
        rw [e1, ← hq]; rfl
      · have e1 : decide (p = j) = false := by simp; intro e; subst e; contradiction
        rw [e1]; simp
    rw [e0, hR p hp]
    unfold fs
    by_cases q : p < 8 * nb
    · have e1 : decide (p < 8 * nb) = true := by simpa using q
      rw [e1, Bool.true_and, Bool.true_and]
      unfold flB
      by_cases u : p / 8 = j / 8
      · rw [if_pos u]
        unfold cb
        rcases hbi with rfl | rfl
        · rw [if_pos rfl, if_pos rfl, if_pos rfl, Nat.testBit_xor, Nat.testBit_two_pow]
          congr 1
          exact decide_eq_decide.mpr (by omega)
        · rw [if_neg (by decide), if_neg (by decide), if_neg (by decide), Nat.testBit_xor, Nat.testBit_two_pow]
          congr 1
          exact decide_eq_decide.mpr (by omega)
      · rw [if_neg u]
        have e2 : decide (p = j) = false := by simp; omega
        rw [e2]; simp
    · have e1 : decide (p < 8 * nb) = false := by simpa using q
      have e2 : decide (p = j) = false := by simp; omega
      rw [e1, e2]; simp
theorem mLow32 : mLow (nI 32) (-1) = 4294967295 := by decide +kernel
theorem mLow32p : mLow (nI 32) 79764919 = 79764919 := by decide +kernel
theorem rel_init (sl : Nat → Int64) (by8 : Nat → Int32) : Rel (if (0 : Int32) = 1 then (fun _ => 0) else mTrN (fun _ => 0) ((0 + 7) / 8)) (mFill (mTop (nI 32) 79764919) sl) by8 (fun _ => 0) 0 32 79764919 (mTop (nI 32) 79764919) 4294967295 4294967295 1 1 := by
  refine ⟨by omega, by omega, by omega, Or.inr rfl, Or.inr rfl, ?_, ?_, ?_, bt_top (by decide) (by decide) _, mFill_ok _ _, fun i hi => by omega, fun _ => Nat.zero_lt_succ _, ?_⟩
  · rw [← mLow32p, mLow_eq (by decide) (by decide)]; exact rLow_lo (by decide) (by decide) _
  · rw [← mLow32, mLow_eq (by decide) (by decide)]; exact rLow_lo (by decide) (by decide) _
  · rw [← mLow32, mLow_eq (by decide) (by decide)]; exact rLow_lo (by decide) (by decide) _
  · intro p hp
    rw [if_neg (by decide), fs_end (by omega)]
    show (0#64).getLsbD _ = _
    simp
