/-! The component's state beside the reference's; their answers are one. -/
def Rel (row sl : Nat → Int64) (by8 : Nat → Int32) (B : Nat → Nat) (nb wd : Nat) (po tp fi la : Int64) (bi bo : Int32) : Prop :=
  nb ≤ 5000 ∧ 1 ≤ wd ∧ wd ≤ 64 ∧ (bi = 0 ∨ bi = 1) ∧ (bo = 0 ∨ bo = 1) ∧ lo wd po ∧ lo wd fi ∧ lo wd la ∧ tp.toBitVec = up wd po ∧ tblOK tp.toBitVec sl ∧ (∀ i, i < nb → by8 i = nI (B i)) ∧ (∀ i, B i < 256) ∧ rowOK row (fs B bi nb)
section
variable {row sl dv : Nat → Int64} {by8 : Nat → Int32} {B : Nat → Nat} {nb wd : Nat} {po tp fi la : Int64} {bi bo : Int32}
theorem fs_end {p : Nat} (h : nb * 8 ≤ p) : fs B bi nb p = false := by
  unfold fs
  have e : decide (p < 8 * nb) = false := by simp; omega
  rw [e]; rfl
/-- the component's register over bytes a .. b - 1 is the reference's -/
theorem over_up (h : Rel row sl by8 B nb wd po tp fi la bi bo) {a b : Nat} (hab : a ≤ b) (hb : b ≤ nb) : rgN tp.toBitVec (fs B bi nb) (up wd fi) (8 * a) (8 * (b - a)) = up wd (rOvN (nI wd) po bi by8 fi a (b - a)) ∧ lo wd (rOvN (nI wd) po bi by8 fi a (b - a)) := by
  obtain ⟨hn, hw1, hw, -, -, hp, hf, -, ht, -, hB, hB2, -⟩ := h
  obtain ⟨e, l⟩ := rOvN_up hw1 hw hp hf (bi := bi) hn hB hB2 a (b - a) (by omega)
  rw [ht]
  exact ⟨e.symm, l⟩
theorem top_fi (h : Rel row sl by8 B nb wd po tp fi la bi bo) : (mTop (nI wd) fi).toBitVec = up wd fi := bt_top h.2.1 h.2.2.1 fi
theorem ei_over (h : Rel row sl by8 B nb wd po tp fi la bi bo) {a b : Nat} (hab : a ≤ b) (hb : b ≤ nb) : mCheck (nI wd) bo la (mEi row sl (mTop (nI wd) fi) a b) = rOver wd po fi la bi bo by8 a b := by
  obtain ⟨e, l⟩ := over_up h hab hb
  have hi := top_fi h
  obtain ⟨hn, hw1, hw, -, -, hp, hf, -, ht, hT, hB, hB2, hR⟩ := h
  exact check_eq hw1 hw bo la l (by rw [mEi_bv hR hT _ hab (by omega), hi, e])
theorem eq_ways (h : Rel row sl by8 B nb wd po tp fi la bi bo) : mCheck (nI wd) bo la (mBbN row tp (mTop (nI wd) fi) nb) = rOver wd po fi la bi bo by8 0 nb ∧ mCheck (nI wd) bo la (mYy row sl (mTop (nI wd) fi) 0 nb) = rOver wd po fi la bi bo by8 0 nb ∧ mCheck (nI wd) bo la (mEi row sl (mTop (nI wd) fi) 0 nb) = rOver wd po fi la bi bo by8 0 nb ∧ mChk3 row dv nb (nI wd) bo tp fi la = rOver wd po fi la bi bo by8 0 nb := by
  obtain ⟨e, l⟩ := over_up h (Nat.zero_le nb) (Nat.le_refl nb)
  have hi := top_fi h
  have h3 := ei_over h (Nat.zero_le nb) (Nat.le_refl nb)
  obtain ⟨hn, hw1, hw, -, -, hp, hf, -, ht, hT, hB, hB2, hR⟩ := h
  refine ⟨check_eq hw1 hw bo la l ?_, check_eq hw1 hw bo la l ?_, h3, check_eq hw1 hw bo la l ?_⟩
  · rw [mBbN_bv hR tp _ nb hn, hi]; exact e
  · rw [mYy_bv hR hT _ (Nat.zero_le _) hn, hi]; exact e
  · rw [mDv_bv hR hn (fun p hp => fs_end hp), hi]; exact e
theorem rChk_in {y : Int32} {v : Int64} (h0 : ¬ y < 0) (h3 : y ≤ 3) : rChk y v = v := by rw [rChk, if_neg h0, if_pos h3]
theorem eq_chk (h : Rel row sl by8 B nb wd po tp fi la bi bo) {y : Int32} (hy : ¬ y = 3) : mChk row sl nb (nI wd) bo tp fi la y = rChk y (rOver wd po fi la bi bo by8 0 nb) := by
  obtain ⟨w0, w1, w2, -⟩ := eq_ways (dv := row) h
  unfold mChk
  by_cases h0 : y = 0
  · rw [if_pos h0, w0, h0, rChk_in (by decide) (by decide)]
  · rw [if_neg h0]
    by_cases h1 : y = 1
    · rw [if_pos h1, w1, h1, rChk_in (by decide) (by decide)]
    · rw [if_neg h1]
      by_cases h2 : y = 2
      · rw [if_pos h2, w2, h2, rChk_in (by decide) (by decide)]
      · rw [if_neg h2, rChk]
        by_cases hn : y < 0
        · rw [if_pos hn]
        · rw [if_neg hn, if_neg]
          intro hle
          obtain ⟨j, hj, rfl⟩ := nI_of hn
          have h4 := (nI_leI (a := j) (b := 3) hj (by decide)).mp hle
          have : j = 0 ∨ j = 1 ∨ j = 2 ∨ j = 3 := by omega
          rcases this with e | e | e | e <;> subst e
          · exact h0 rfl
          · exact h1 rfl
          · exact h2 rfl
          · exact hy rfl
theorem eq_chk3 (h : Rel row sl by8 B nb wd po tp fi la bi bo) : mChk3 row dv nb (nI wd) bo tp fi la = rChk 3 (rOver wd po fi la bi bo by8 0 nb) := by
  rw [rChk_in (by decide) (by decide)]
  exact (eq_ways h).2.2.2
theorem eq_part (h : Rel row sl by8 B nb wd po tp fi la bi bo) (x y : Int32) : mPart row sl nb (nI wd) bo fi la x y = rPart nb wd po fi la bi bo by8 x y := by
  unfold mPart rPart
  by_cases h1 : x < 0
  · rw [if_pos h1, if_pos h1]
  · rw [if_neg h1, if_neg h1]
    by_cases h2 : y < x
    · rw [if_pos h2, if_pos h2]
    · rw [if_neg h2, if_neg h2]
      by_cases h3 : y ≤ nI nb
      · rw [if_pos h3, if_pos h3]
        exact ei_over h (du_cl2 h2) (du_cle (du_nn2 h1 h2) h3 (by have := h.1; omega))
      · rw [if_neg h3, if_neg h3]
theorem lz_tp (h : Rel row sl by8 B nb wd po tp fi la bi bo) : lz (64 - wd) tp.toBitVec := by rw [h.2.2.2.2.2.2.2.2.1]; exact up_lz wd po
theorem eq_join (h : Rel row sl by8 B nb wd po tp fi la bi bo) (x y : Int64) (n : Int32) : mJoin (nI wd) bo tp fi la x y n = rJoin wd po fi la bo x y n := by
  have hi := top_fi h
  have hz := lz_tp h
  obtain ⟨hn, hw1, hw, -, -, hp, hf, hl, ht, hT, hB, hB2, hR⟩ := h
  unfold mJoin rJoin
  by_cases h0 : 0 ≤ n
  · rw [if_pos h0, if_pos h0]
    obtain ⟨ex, lx⟩ := reg_eq hw1 hw bo hl x
    obtain ⟨ey, ly⟩ := reg_eq hw1 hw bo hl y
    have hZ : 8 * n.toNatClampNeg < 2 ^ 34 := by have := du_cl n; omega
    obtain ⟨eb, lb⟩ := rBh_up hw1 hw hp (lo_xor lx hf) (Z := 8 * n.toNatClampNeg) (by omega)
    have e8 : n.toInt64 * 8 = lN (8 * n.toNatClampNeg) := by rw [Int64.mul_comm]; exact du_8n h0
    refine check_eq hw1 hw bo la (lo_xor lb ly) ?_
    rw [e8, bv_xor, mZeros_bv hw1 hw hz _ hZ, bv_xor, ex, ey, hi, up_xor, eb, up_xor, ht, BitVec.xor_comm]
    rw [bv_xor, ex, hi]
    exact lz_xor (up_lz wd _) (up_lz wd _)
  · rw [if_neg h0, if_neg h0]
theorem come_bits (bi : Int32) {β : Nat} (hβ : β < 256) : ∃ z : Nat, z < 256 ∧ (mCome bi (nI β)).toBitVec = BitVec.ofNat 64 z ∧ ∀ t, t < 8 → cb bi β t = z.testBit (7 - t) := by
  unfold mCome cb
  by_cases hb : bi = 0
  · rw [if_pos hb, nI_l (by omega)]
    refine ⟨β, hβ, rfl, fun t _ => ?_⟩
    rw [if_pos hb]
  · rw [if_neg hb]
    refine ⟨(mTuN (nI β).toInt64 8).toBitVec.toNat, tu_lt _ (n := 8) (by decide), ?_, fun t ht => ?_⟩
    · show (mTuN (nI β).toInt64 8).toBitVec = _
      rw [BitVec.ofNat_toNat, BitVec.setWidth_eq]
    · rw [if_neg hb]
      show _ = (mTuN (nI β).toInt64 8).toBitVec.getLsbD (7 - t)
      have e : decide (7 - t < 8) = true := by simp; omega
      rw [tu_bit _ 8 (by decide), e, nI_l (by omega), lN_bit (by omega), show 8 - 1 - (7 - t) = t by omega]; simp
theorem eq_entry (h : Rel row sl by8 B nb wd po tp fi la bi bo) (k b : Int32) : mEntry sl (nI wd) bi k b = rEntry wd po bi k b := by
  obtain ⟨hn, hw1, hw, -, -, hp, hf, hl, ht, hT, hB, hB2, hR⟩ := h
  unfold mEntry rEntry
  by_cases h1 : k < 0
  · rw [if_pos h1, if_pos h1]
  · rw [if_neg h1, if_neg h1]
    obtain ⟨κ, hκ, rfl⟩ := nI_of h1
    by_cases h2 : κ < 8
    · rw [if_neg (show ¬ (8 : Int32) ≤ nI κ from nI_ge (b := 8) h2 (by decide)), if_neg (show ¬ (7 : Int32) < nI κ from nI_nlt (a := 7) (b := κ) (by omega) (by decide))]
      by_cases h3 : b < 0
      · rw [if_pos h3, if_pos (show mIsB b = 0 by rw [mIsB, if_pos h3])]
      · rw [if_neg h3]
        obtain ⟨β, hβ, rfl⟩ := nI_of h3
        by_cases h4 : β < 256
        · rw [if_neg (du_isb h4), if_pos (show nI β ≤ (255 : Int32) from nI_le (b := 255) (by omega) (by decide))]
          obtain ⟨z, hz, ez, hzb⟩ := come_bits bi h4
          have ezn : (mCome bi (nI β)).toBitVec.toNat = z := by rw [ez, BitVec.toNat_ofNat]; omega
          obtain ⟨e8, l8⟩ := rByN_up hw1 hw (po := po) hp (lo_0 wd) bi h4 8 (by decide)
          obtain ⟨eb, lb⟩ := rBh_up hw1 hw hp l8 (Z := 8 * (nI κ).toNatClampNeg) (by rw [nI_clamp hκ]; omega)
          refine from_up hw1 hw lb ?_
          rw [eb, e8, bw_i _ ezn, show (256 : Int32) = nI 256 from rfl, pk_mul, nI_add, nI_clamp (by omega), nI_clamp hκ, hT _ (by omega), show (κ * 256 + z) / 256 = κ by omega, show (κ * 256 + z) % 256 = z by omega, ht]
          rw [rg_byte hz (fun t htt => by rw [Nat.zero_add]; exact hzb t htt), up_0, BitVec.zero_xor, ← czn_add, Nat.mul_add]
        · rw [if_pos (show mIsB (nI β) = 0 by rw [mIsB, if_neg h3, if_pos (show (256 : Int32) ≤ nI β from nI_le (a := 256) (by omega) hβ)]), if_neg (show ¬ nI β ≤ (255 : Int32) from nI_ge (a := 255) (by omega) hβ)]
    · rw [if_pos (show (8 : Int32) ≤ nI κ from nI_le (a := 8) (by omega) hκ), if_pos (show (7 : Int32) < nI κ from nI_lt (a := 7) (by omega) hκ)]
theorem eq_zeros (h : Rel row sl by8 B nb wd po tp fi la bi bo) (x : Int64) (n : Int32) : mZer (nI wd) tp x n = rZeros wd po x n := by
  have hz := lz_tp h
  obtain ⟨hn, hw1, hw, -, -, hp, hf, hl, ht, hT, hB, hB2, hR⟩ := h
  unfold mZer rZeros
  by_cases h1 : n < 0
  · rw [if_pos h1, if_pos h1]
  · rw [if_neg h1, if_neg h1]
    by_cases h2 : n ≤ 1000000
    · rw [if_pos h2, if_pos h2]
      have hZ : n.toNatClampNeg < 2 ^ 34 := by have := du_cl n; omega
      obtain ⟨eb, lb⟩ := rBh_up hw1 hw hp (rLow_lo hw1 hw x) (Z := n.toNatClampNeg) (by omega)
      refine from_up hw1 hw lb ?_
      rw [du_ln h1, mZeros_bv hw1 hw hz _ hZ, bt_top hw1 hw, eb, rLow_up hw1 hw, ht]
      rw [bt_top hw1 hw]
      exact lz_shl _ _
    · rw [if_neg h2, if_neg h2]
theorem eq_round (h : Rel row sl by8 B nb wd po tp fi la bi bo) : mRound (nI wd) tp = rRound wd po := by
  obtain ⟨hn, hw1, hw, -, -, hp, hf, hl, ht, hT, hB, hB2, hR⟩ := h
  have key : ∀ i, (mRdN (nI wd) tp i).toBitVec = up wd (rRdN wd po i) ∧ lo wd (rRdN wd po i) := by
    intro i
    induction i with
    | zero => exact ⟨bt_top hw1 hw 1, lo_1 hw1⟩
    | succ i ih =>
      obtain ⟨e2, l2⟩ := rBit_0 hw1 hw (r := rRdN wd po i) hp
      exact ⟨by rw [mRdN, mBit_0, ih.1, ht, rRdN, e2], l2⟩
  unfold mRound rRound
  congr 1
  funext i
  apply decide_eq_decide.mpr
  constructor
  · intro e
    refine up_inj hw1 hw (key i).2 (lo_1 hw1) ?_
    rw [← (key i).1, e, bt_top hw1 hw]; rfl
  · intro e
    apply bw_inj
    rw [(key i).1, e, bt_top hw1 hw]; rfl
/-- two rows joined -/
theorem join_over (h : Rel row sl by8 B nb wd po tp fi la bi bo) {c : Nat} (hc : c ≤ nb) : rTold bo la wd (rBh wd po (rReg bo la wd (rOver wd po fi la bi bo by8 0 c) ^^^ fi) (8 * (nb - c)) ^^^ rReg bo la wd (rOver wd po fi la bi bo by8 c nb)) = rOver wd po fi la bi bo by8 0 nb := by
  obtain ⟨e1, l1⟩ := over_up h (Nat.zero_le c) hc
  obtain ⟨e2, l2⟩ := over_up h hc (Nat.le_refl nb)
  obtain ⟨e3, l3⟩ := over_up h (Nat.zero_le nb) (Nat.le_refl nb)
  obtain ⟨hn, hw1, hw, -, -, hp, hf, hl, ht, hT, hB, hB2, hR⟩ := h
  unfold rOver
  rw [reg_told hw1 hw bo hl l1, reg_told hw1 hw bo hl l2]
  obtain ⟨eb, lb⟩ := rBh_up hw1 hw hp (lo_xor l1 hf) (Z := 8 * (nb - c)) (by omega)
  congr 1
  refine up_inj hw1 hw (lo_xor lb l2) l3 ?_
  rw [up_xor, eb, ← e2, ← e3, up_xor, ← e1, ht, Nat.sub_zero, Nat.sub_zero, show 8 * nb = 8 * c + 8 * (nb - c) by omega, rg_add, Nat.mul_zero, Nat.zero_add]
  have hx := rg_xor (up wd po) (fs B bi nb) (up wd fi) (rgN (up wd po) (fs B bi nb) (up wd fi) 0 (8 * c) ^^^ up wd fi) (8 * c) (8 * (nb - c))
  have hy : up wd fi ^^^ (rgN (up wd po) (fs B bi nb) (up wd fi) 0 (8 * c) ^^^ up wd fi) = rgN (up wd po) (fs B bi nb) (up wd fi) 0 (8 * c) := by
    rw [BitVec.xor_comm, BitVec.xor_assoc, BitVec.xor_self]; simp
  rw [hy] at hx
  rw [hx, BitVec.xor_comm]
theorem holds_j (h : Rel row sl by8 B nb wd po tp fi la bi bo) (c : Nat) (hc : c ≤ nb) : mJoin (nI wd) bo tp fi la (mPart row sl nb (nI wd) bo fi la 0 (nI c)) (mPart row sl nb (nI wd) bo fi la (nI c) (nI nb)) (nI nb - nI c) = mChk row sl nb (nI wd) bo tp fi la 0 := by
  have hn := h.1
  rw [eq_join h, eq_part h, eq_part h, eq_chk h (by decide), rChk_in (by decide) (by decide), pk_sub hc]
  have p1 : rPart nb wd po fi la bi bo by8 0 (nI c) = rOver wd po fi la bi bo by8 0 c := by
    rw [rPart, if_neg (by decide), if_neg (show ¬ nI c < 0 from nI_pos (by omega)), if_pos (nI_le hc (by omega)), nI_clamp (by omega)]; rfl
  have p2 : rPart nb wd po fi la bi bo by8 (nI c) (nI nb) = rOver wd po fi la bi bo by8 c nb := by
    rw [rPart, if_neg (nI_pos (by omega)), if_neg (nI_nlt hc (by omega)), if_pos (nI_le (Nat.le_refl _) (by omega)), nI_clamp (by omega), nI_clamp (by omega)]
  rw [p1, p2, rJoin, if_pos (nI_pos' (by omega)), nI_clamp (by omega)]
  exact join_over h hc
theorem holds_1 (h : Rel row sl by8 B nb wd po tp fi la bi bo) : mChk row sl nb (nI wd) bo tp fi la 1 = mChk row sl nb (nI wd) bo tp fi la 0 := by
  rw [eq_chk h (by decide), eq_chk h (by decide), rChk_in (by decide) (by decide), rChk_in (by decide) (by decide)]
theorem holds_2 (h : Rel row sl by8 B nb wd po tp fi la bi bo) : mChk row sl nb (nI wd) bo tp fi la 2 = mChk row sl nb (nI wd) bo tp fi la 0 := by
  rw [eq_chk h (by decide), eq_chk h (by decide), rChk_in (by decide) (by decide), rChk_in (by decide) (by decide)]
theorem holds_3 (h : Rel row sl by8 B nb wd po tp fi la bi bo) : mChk3 row dv nb (nI wd) bo tp fi la = mChk row sl nb (nI wd) bo tp fi la 0 := by
  rw [eq_chk h (by decide), rChk_in (by decide) (by decide)]
  exact (eq_ways h).2.2.2
end
