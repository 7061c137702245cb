/-! Small rows: loop ends, places in range. -/
theorem du_ge {i N : Nat} (hN : N < 2 ^ 31) (hi : i ≤ N) (c : nI N ≤ nI i) : i = N :=
  Nat.le_antisymm hi ((nI_leI hN (Nat.lt_of_le_of_lt hi hN)).mp c)
theorem du_lt {i N : Nat} (hN : N < 2 ^ 31) (hi : i ≤ N) (c : ¬ nI N ≤ nI i) : i < N := by
  rcases Nat.lt_or_ge i N with h | h
  · exact h
  · exact absurd (nI_le h (Nat.lt_of_le_of_lt hi hN)) c
theorem du_cl (b : Int32) : b.toNatClampNeg < 2 ^ 31 := by
  have := b.toInt_lt
  have h : b.toNatClampNeg = b.toInt.toNat := rfl
  rw [h]; omega
theorem du_ex {b : Int32} {i : Nat} (hi : i ≤ b.toNatClampNeg) (c : b ≤ nI i) : i = b.toNatClampNeg := by
  have h1 := du_cl b
  have h2 := Int32.le_iff_toInt_le.mp c
  rw [nI_toInt (by omega)] at h2
  have h : b.toNatClampNeg = b.toInt.toNat := rfl
  rw [h] at hi ⊢; omega
theorem du_st {b : Int32} {i : Nat} (hi : i ≤ b.toNatClampNeg) (c : ¬ b ≤ nI i) : i < b.toNatClampNeg := by
  have h1 := du_cl b
  have h : b.toNatClampNeg = b.toInt.toNat := rfl
  have h2 : ¬ b.toInt ≤ (nI i).toInt := fun q => c (Int32.le_iff_toInt_le.mpr q)
  rw [nI_toInt (by omega)] at h2
  rw [h]; omega
theorem du_div {a : Nat} (ha : a < 2 ^ 31) (d : Nat) (h0 : 0 < d) (hd : d < 2 ^ 31) : nI a / nI d = nI (a / d) := pk_div ha h0 hd
theorem du_div8 {a : Nat} (ha : a < 2 ^ 31) : nI a / 8 = nI (a / 8) := pk_div (d := 8) ha (by decide) (by decide)
theorem du_div64 {a : Nat} (ha : a < 2 ^ 31) : nI a / 64 = nI (a / 64) := pk_div (d := 64) ha (by decide) (by decide)
theorem du_rem64 {a : Nat} (ha : a < 2 ^ 31) : nI a - nI a / 64 * 64 = nI (a % 64) := pk_rem (d := 64) ha (by decide) (by decide)
theorem du_rem8 {a : Nat} (ha : a < 2 ^ 31) : nI a - nI a / 8 * 8 = nI (a % 8) := pk_rem (d := 8) ha (by decide) (by decide)
theorem du_7a : ∀ i : Nat, i < 9 → ((7 : Int32) - nI i < 0) → i = 8 := by decide
theorem du_7b : ∀ i : Nat, i < 9 → ¬ ((7 : Int32) - nI i < 0) → i < 8 := by decide
theorem du_7c : ∀ i : Nat, i < 8 → (7 : Int32) - nI i + Int32.ofInt (-1) = 7 - nI (i + 1) := by decide
theorem du_by {i : Nat} (h : i < 5000) : vp_in (nI i / 8) 625 := by
  rw [du_div8 (by omega)]; exact vp_in_nI (by omega) (by omega)
theorem du_a7 (a : Nat) : nI a + 8 - 1 = nI (a + 7) := by
  rw [show (8 : Int32) = nI 8 from rfl, nI_add, show a + 8 = (a + 7) + 1 from rfl, nI_pred]
/-! Java's shifts as BitVec's; places in the table. (bw_c, bw_cu, bw_sm began as rows of kit/laws/BITS.to-paste.) -/
theorem bw_tb (n : Nat) : (lN n).toBitVec = BitVec.ofNat 64 n := rfl
theorem bw_inj {a b : Int64} (h : a.toBitVec = b.toBitVec) : a = b := Int64.toBitVec_inj.mp h
theorem bw_c : ∀ k, k < 64 → ((nI k).toInt64 &&& 63) = lN k := by decide +kernel
theorem bw_cu : ∀ k, k < 64 → ((nI k).toInt64.toUInt64 &&& Int64.toUInt64 63) = UInt64.ofNat k := by decide +kernel
theorem bw_sm : ∀ k, k < 64 → (BitVec.ofNat 64 k).smod 64 = BitVec.ofNat 64 k := by decide +kernel
theorem bv_shl (x : Int64) {k : Nat} (hk : k < 64) : (jshl x (nI k)).toBitVec = x.toBitVec <<< k := by
  unfold jshl
  rw [bw_c k hk, Int64.toBitVec_shiftLeft, bw_tb, bw_sm k hk, BitVec.shiftLeft_eq', BitVec.toNat_ofNat, Nat.mod_eq_of_lt (show k < 2 ^ 64 by omega)]
theorem bv_ushr (x : Int64) {k : Nat} (hk : k < 64) : (jushr x (nI k)).toBitVec = x.toBitVec >>> k := by
  unfold jushr
  rw [bw_cu k hk]
  apply BitVec.eq_of_toNat_eq
  show (x.toUInt64 >>> UInt64.ofNat k).toNat = (x.toBitVec >>> k).toNat
  have h1 : (UInt64.ofNat k).toNat = k := by
    show (BitVec.ofNat 64 k).toNat = k
    rw [BitVec.toNat_ofNat, Nat.mod_eq_of_lt (by omega)]
  rw [UInt64.toNat_shiftRight, h1, Nat.mod_eq_of_lt hk, BitVec.toNat_ushiftRight]
  rfl
theorem bw_xor (a b : Nat) : nI a ^^^ nI b = nI (a ^^^ b) := by
  apply Int32.toBitVec_inj.1
  show BitVec.ofNat 32 a ^^^ BitVec.ofNat 32 b = BitVec.ofNat 32 (a ^^^ b)
  apply BitVec.eq_of_getLsbD_eq
  intro i hi
  simp [hi]
/-- a long that is small, as an int -/
theorem bw_i (x : Int64) {n : Nat} (h : x.toBitVec.toNat = n) : x.toInt32 = nI n := by
  subst h
  apply Int32.toBitVec_inj.1
  show x.toBitVec.signExtend 32 = BitVec.ofNat 32 x.toBitVec.toNat
  apply BitVec.eq_of_toNat_eq
  rw [BitVec.signExtend_eq_setWidth_of_le _ (by decide), BitVec.toNat_setWidth, BitVec.toNat_ofNat]
theorem bw_56 (x : Int64) : ∃ a : Nat, a < 256 ∧ (jushr x 56).toInt32 = nI a ∧ a = x.toBitVec.toNat / 2 ^ 56 := by
  refine ⟨x.toBitVec.toNat / 2 ^ 56, ?_, bw_i _ ?_, rfl⟩
  · have := x.toBitVec.isLt
    omega
  · have h := bv_ushr x (k := 56) (by decide)
    rw [show jushr x 56 = jushr x (nI 56) from rfl, h, BitVec.toNat_ushiftRight, Nat.shiftRight_eq_div_pow]
theorem du_tix (x : Int64) (y : Int32) : vp_in ((jushr x 56).toInt32 ^^^ (y &&& 255)) 2048 := by
  obtain ⟨a, ha, ea, -⟩ := bw_56 x
  obtain ⟨b, hb, eb⟩ := pk_andE y (m := 255) 8 rfl
  rw [ea, eb, bw_xor]
  have := Nat.xor_lt_two_pow (n := 8) (x := a) (y := b) ha hb
  exact vp_in_nI (by omega) (by omega)
theorem du_tix0 (x : Int64) : vp_in ((jushr x 56).toInt32 ^^^ 0) 2048 := du_tix x 0
theorem bw_255 (z : Int64) : (z &&& 255).toInt32 = nI (z.toBitVec.toNat % 256) := by
  apply bw_i
  rw [Int64.toBitVec_and]
  show (z.toBitVec &&& BitVec.ofNat 64 255).toNat = _
  rw [BitVec.toNat_and, BitVec.toNat_ofNat]
  exact Nat.and_two_pow_sub_one_eq_mod _ 8
theorem du_wix {i : Nat} (hi : i < 8) (z : Int64) : vp_in (nI i * 256 + (z &&& 255).toInt32) 2048 := by
  rw [bw_255, show (256 : Int32) = nI 256 from rfl, pk_mul, nI_add]
  have : z.toBitVec.toNat % 256 < 256 := Nat.mod_lt _ (by decide)
  exact vp_in_nI (by omega) (by omega)
/-- no bits are left: nothing more is done -/
theorem du_zst {w : Int32} {tp x z : Int64} {i : Nat} (hlt : i < 34) (hz : jushr z (nI i) = 0) : mZaN w tp x z i = mZeros w tp x z := by
  have hz2 : ∀ j, i ≤ j → j < 34 → jushr z (nI j) = 0 := by
    intro j h1 h2
    apply bw_inj
    rw [bv_ushr z (by omega)]
    have h3 : z.toBitVec >>> i = 0#64 := by rw [← bv_ushr z (by omega), hz]; rfl
    obtain ⟨d, rfl⟩ : ∃ d, j = i + d := ⟨j - i, by omega⟩
    rw [BitVec.shiftRight_add, h3]
    simp
  have step : ∀ d, i + d ≤ 34 → mZaN w tp x z (i + d) = mZaN w tp x z i := by
    intro d
    induction d with
    | zero => intro _; rfl
    | succ d ih =>
      intro h
      show mZaN w tp x z ((i + d) + 1) = _
      rw [mZaN, if_neg, ih (by omega)]
      intro hc
      have h1 := (lg_cmp_eq _ _).mp hc
      rw [hz2 (i + d) (by omega) (by omega)] at h1
      exact absurd h1 (by decide)
  have := step (34 - i) (by omega)
  rw [show i + (34 - i) = 34 by omega] at this
  exact this.symm
