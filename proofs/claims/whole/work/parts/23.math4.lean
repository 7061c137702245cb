/-! The reference's registers stand at the bottom; moved to the top they are the component's. -/
def up (wd : Nat) (r : Int64) : BitVec 64 := r.toBitVec <<< (64 - wd)
def lo (wd : Nat) (r : Int64) : Prop := r.toBitVec.toNat < 2 ^ wd
theorem lo_bit {wd : Nat} {r : Int64} (h : lo wd r) {j : Nat} (hj : wd ≤ j) : r.toBitVec.getLsbD j = false := bb_hi h hj
theorem lo_of {wd : Nat} {r : Int64} (h : ∀ j, wd ≤ j → r.toBitVec.getLsbD j = false) : lo wd r := Nat.lt_pow_two_of_testBit _ (fun i hi => h i hi)
theorem lo_xor {wd : Nat} {r t : Int64} (h : lo wd r) (h2 : lo wd t) : lo wd (r ^^^ t) := lo_of (fun j hj => by rw [bv_xor, BitVec.getLsbD_xor, lo_bit h hj, lo_bit h2 hj]; rfl)
theorem lo_0 (wd : Nat) : lo wd 0 := lo_of (fun j _ => by show (0#64).getLsbD j = _; simp)
theorem lo_1 {wd : Nat} (h : 1 ≤ wd) : lo wd 1 := Nat.lt_of_lt_of_le (show 1 < 2 ^ 1 by decide) (Nat.pow_le_pow_right (by decide) h)
theorem up_xor (wd : Nat) (r t : Int64) : up wd (r ^^^ t) = up wd r ^^^ up wd t := by unfold up; rw [bv_xor, BitVec.shiftLeft_xor_distrib]
theorem up_lz (wd : Nat) (r : Int64) : lz (64 - wd) (up wd r) := lz_shl _ _
theorem up_0 (wd : Nat) : up wd 0 = 0#64 := by unfold up; rw [bv_0]; simp
theorem up_bit {wd : Nat} (hw1 : 1 ≤ wd) (hw : wd ≤ 64) (r : Int64) {j : Nat} (hj : j < wd) : (up wd r).getLsbD (64 - wd + j) = r.toBitVec.getLsbD j := by
  unfold up
  rw [BitVec.getLsbD_shiftLeft]
  have e1 : decide (64 - wd + j < 64) = true := by simp; omega
  have e2 : decide (64 - wd + j < 64 - wd) = false := by simp
  rw [e1, e2, show 64 - wd + j - (64 - wd) = j by omega]; simp
theorem up_inj {wd : Nat} (hw1 : 1 ≤ wd) (hw : wd ≤ 64) {r t : Int64} (h1 : lo wd r) (h2 : lo wd t) (e : up wd r = up wd t) : r = t := by
  apply bw_inj
  apply BitVec.eq_of_getLsbD_eq
  intro j hj
  rcases Nat.lt_or_ge j wd with q | q
  · rw [← up_bit hw1 hw r q, e, up_bit hw1 hw t q]
  · rw [lo_bit h1 q, lo_bit h2 q]
theorem rLow_bit {wd : Nat} (hw1 : 1 ≤ wd) (hw : wd ≤ 64) (v : Int64) (j : Nat) : (rLow v (nI wd)).toBitVec.getLsbD j = (decide (j < wd) && v.toBitVec.getLsbD j) := by
  unfold rLow
  by_cases h : wd = 64
  · subst h
    rw [if_pos (show nI 64 = 64 from rfl)]
    rcases Nat.lt_or_ge j 64 with q | q
    · have e : decide (j < 64) = true := by simpa using q
      rw [e]; simp
    · rw [BitVec.getLsbD_of_ge _ _ q]; simp
  · rw [if_neg (show ¬ nI wd = 64 from fun e => h ((nI_eq (b := 64) (by omega) (by decide)).mp e)), bv_and, BitVec.getLsbD_and, Bool.and_comm]
    congr 1
    have e1 : (jshl 1 (nI wd) - 1).toBitVec = BitVec.ofNat 64 (2 ^ wd - 1) := by
      rw [Int64.toBitVec_sub, bv_shl 1 (by omega), bv_1]
      apply BitVec.eq_of_toNat_eq
      have hq : 2 ^ wd < 2 ^ 64 := Nat.pow_lt_pow_right (by decide) (by omega)
      have hq0 : 0 < 2 ^ wd := Nat.pow_pos (by decide)
      rw [BitVec.toNat_sub, BitVec.toNat_shiftLeft, BitVec.toNat_ofNat, BitVec.toNat_ofNat, Nat.shiftLeft_eq]
      generalize 2 ^ wd = q at hq hq0 ⊢
      omega
    rw [e1, BitVec.getLsbD_ofNat, Nat.testBit_two_pow_sub_one]
    rcases Nat.lt_or_ge j wd with q | q
    · have e : decide (j < 64) = true := by simp; omega
      rw [e]; simp
    · have e : decide (j < wd) = false := by simp; omega
      rw [e]; simp
theorem rLow_lo {wd : Nat} (hw1 : 1 ≤ wd) (hw : wd ≤ 64) (v : Int64) : lo wd (rLow v (nI wd)) := lo_of (fun j hj => by
  rw [rLow_bit hw1 hw]
  have e : decide (j < wd) = false := by simp; omega
  rw [e]; rfl)
theorem rLow_up {wd : Nat} (hw1 : 1 ≤ wd) (hw : wd ≤ 64) (v : Int64) : up wd (rLow v (nI wd)) = v.toBitVec <<< (64 - wd) := by
  unfold up
  apply BitVec.eq_of_getLsbD_eq
  intro j hj
  rw [BitVec.getLsbD_shiftLeft, BitVec.getLsbD_shiftLeft, rLow_bit hw1 hw]
  have e : decide (j - (64 - wd) < wd) = true := by simp; omega
  rw [e, Bool.true_and]
theorem rLow_id {wd : Nat} (hw1 : 1 ≤ wd) (hw : wd ≤ 64) {v : Int64} (h : lo wd v) : rLow v (nI wd) = v := by
  apply bw_inj
  apply BitVec.eq_of_getLsbD_eq
  intro j hj
  rw [rLow_bit hw1 hw]
  rcases Nat.lt_or_ge j wd with q | q
  · have e : decide (j < wd) = true := by simpa using q
    rw [e, Bool.true_and]
  · rw [lo_bit h q]; simp
theorem mLow_eq {wd : Nat} (hw1 : 1 ≤ wd) (hw : wd ≤ 64) (v : Int64) : mLow (nI wd) v = rLow v (nI wd) := by
  apply bw_inj
  unfold mLow
  rw [bt_from hw1 hw, bt_top hw1 hw]
  apply BitVec.eq_of_getLsbD_eq
  intro j hj
  rw [BitVec.getLsbD_ushiftRight, BitVec.getLsbD_shiftLeft, rLow_bit hw1 hw]
  have e2 : decide (64 - wd + j < 64 - wd) = false := by simp
  have e1 : decide (64 - wd + j < 64) = decide (j < wd) := decide_eq_decide.mpr (by omega)
  rw [e1, e2, show 64 - wd + j - (64 - wd) = j by omega]; simp
theorem and_1 (z : Int64) {k : Nat} (hk : k < 64) : (jushr z (nI k) &&& 1) = if z.toBitVec.getLsbD k then 1 else 0 := by
  apply bw_inj
  rw [bv_and, bv_ushr z hk, bv_1]
  apply BitVec.eq_of_getLsbD_eq
  intro i hi
  rw [BitVec.getLsbD_and, BitVec.getLsbD_ushiftRight, BitVec.getLsbD_one]
  rcases Nat.eq_zero_or_pos i with h | h
  · subst h
    rw [Nat.add_zero]
    cases z.toBitVec.getLsbD k <;> rfl
  · have e : decide (i = 0) = false := by simp; omega
    rw [e]
    cases z.toBitVec.getLsbD k with
    | false => show _ = (0#64).getLsbD i; simp
    | true =>
      show _ = (1#64).getLsbD i
      rw [BitVec.getLsbD_one, e]; simp
theorem and_c (z : Int64) {k : Nat} (hk : k < 64) : lg_cmp (jushr z (nI k) &&& 1) 1 = 0 ↔ z.toBitVec.getLsbD k = true := by
  rw [lg_cmp_eq, and_1 z hk]
  cases z.toBitVec.getLsbD k
  · exact ⟨fun h => absurd h (by decide), fun h => absurd h (by decide)⟩
  · exact ⟨fun _ => rfl, fun _ => rfl⟩
theorem up_msb {wd : Nat} (hw1 : 1 ≤ wd) (hw : wd ≤ 64) (r : Int64) : (up wd r).msb = r.toBitVec.getLsbD (wd - 1) := by
  rw [BitVec.msb_eq_getLsbD_last, show 64 - 1 = 64 - wd + (wd - 1) by omega, up_bit hw1 hw r (by omega)]
theorem rBit_up {wd : Nat} (hw1 : 1 ≤ wd) (hw : wd ≤ 64) {po r : Int64} (hp : lo wd po) (b : Bool) : up wd (rBit (nI wd) po r (i01 b)) = cz (up wd po) (up wd r ^^^ tb b) ∧ lo wd (rBit (nI wd) po r (i01 b)) := by
  have h1 : nI wd - 1 = nI (wd - 1) := by
    obtain ⟨v, rfl⟩ : ∃ v, wd = v + 1 := ⟨wd - 1, by omega⟩
    rw [nI_pred]; rfl
  have hu : up wd (rLow (jshl r 1) (nI wd)) = up wd r <<< 1 := by
    rw [rLow_up hw1 hw, bv_shl1]
    unfold up
    rw [← BitVec.shiftLeft_add, ← BitVec.shiftLeft_add, Nat.add_comm]
  have hl := rLow_lo hw1 hw (jshl r 1)
  unfold rBit cz
  rw [tb_msb, tb_shl, h1, up_msb hw1 hw]
  have hc := and_c r (k := wd - 1) (by omega)
  cases hb : r.toBitVec.getLsbD (wd - 1) with
  | false =>
    rw [hb] at hc
    rw [if_neg (fun h => absurd (hc.mp h) (by decide))]
    cases b with
    | false => rw [if_pos (by decide), if_neg (by decide)]; exact ⟨hu, hl⟩
    | true => rw [if_neg (by decide), if_pos (by decide), up_xor, hu]; exact ⟨rfl, lo_xor hl hp⟩
  | true =>
    rw [hb] at hc
    rw [if_pos (hc.mpr rfl)]
    cases b with
    | false => rw [if_neg (by decide), if_pos (by decide), up_xor, hu]; exact ⟨rfl, lo_xor hl hp⟩
    | true => rw [if_pos (by decide), if_neg (by decide)]; exact ⟨hu, hl⟩
theorem rBit_0 {wd : Nat} (hw1 : 1 ≤ wd) (hw : wd ≤ 64) {po r : Int64} (hp : lo wd po) : up wd (rBit (nI wd) po r 0) = cz (up wd po) (up wd r) ∧ lo wd (rBit (nI wd) po r 0) := by
  have h := rBit_up hw1 hw (r := r) hp false
  rw [show up wd r ^^^ tb false = up wd r by show up wd r ^^^ 0#64 = _; simp] at h
  exact h
theorem rb_0 : ∀ β, β < 256 → ∀ k, k < 8 → ((nI β) >>> ((7 - nI k) &&& 31)) &&& 1 = i01 (β.testBit (7 - k)) := by decide +kernel
theorem rb_1 : ∀ β, β < 256 → ∀ k, k < 8 → ((nI β) >>> (nI k &&& 31)) &&& 1 = i01 (β.testBit k) := by decide +kernel
/-- bit t of a byte as it comes -/
def cb (bi : Int32) (β t : Nat) : Bool := if bi = 0 then β.testBit (7 - t) else β.testBit t
theorem rByN_up {wd : Nat} (hw1 : 1 ≤ wd) (hw : wd ≤ 64) {po r : Int64} (hp : lo wd po) (hr : lo wd r) (bi : Int32) {β : Nat} (hβ : β < 256) : ∀ k, k ≤ 8 → up wd (rByN (nI wd) po bi (nI β) r k) = rgN (up wd po) (cb bi β) (up wd r) 0 k ∧ lo wd (rByN (nI wd) po bi (nI β) r k) := by
  intro k
  induction k with
  | zero => intro _; exact ⟨rfl, hr⟩
  | succ k ih =>
    intro hk
    obtain ⟨e, l⟩ := ih (by omega)
    have hb : (if bi = 0 then ((nI β) >>> ((7 - nI k) &&& 31)) &&& 1 else ((nI β) >>> (nI k &&& 31)) &&& 1) = i01 (cb bi β k) := by
      unfold cb
      split
      · exact rb_0 β hβ k (by omega)
      · exact rb_1 β hβ k (by omega)
    obtain ⟨e2, l2⟩ := rBit_up hw1 hw (r := rByN (nI wd) po bi (nI β) r k) hp (cb bi β k)
    rw [rByN, hb]
    refine ⟨?_, l2⟩
    rw [e2, e]
    show _ = cz _ (_ ^^^ tb (cb bi β (0 + k)))
    rw [Nat.zero_add]
/-- the row's bits as they come; behind the row they are 0 -/
def fs (B : Nat → Nat) (bi : Int32) (nb p : Nat) : Bool := decide (p < 8 * nb) && cb bi (B (p / 8)) (p % 8)
theorem rOvN_up {wd : Nat} (hw1 : 1 ≤ wd) (hw : wd ≤ 64) {po r : Int64} (hp : lo wd po) (hr : lo wd r) {bi : Int32} {by8 : Nat → Int32} {B : Nat → Nat} {nb : Nat} (hn : nb ≤ 5000) (hB : ∀ i, i < nb → by8 i = nI (B i)) (hB2 : ∀ i, B i < 256) (a : Nat) : ∀ k, a + k ≤ nb → up wd (rOvN (nI wd) po bi by8 r a k) = rgN (up wd po) (fs B bi nb) (up wd r) (8 * a) (8 * k) ∧ lo wd (rOvN (nI wd) po bi by8 r a k) := by
  intro k
  induction k with
  | zero => intro _; exact ⟨rfl, hr⟩
  | succ k ih =>
    intro hk
    obtain ⟨e, l⟩ := ih (by omega)
    rw [rOvN, nI_clamp (by omega), hB (a + k) (by omega)]
    obtain ⟨e2, l2⟩ := rByN_up hw1 hw (po := po) hp l bi (hB2 (a + k)) 8 (by decide)
    refine ⟨?_, l2⟩
    rw [e2, e, show 8 * (k + 1) = 8 * k + 8 by omega, rg_add]
    refine rg_congr (fun t ht => ?_)
    unfold fs
    have e1 : decide (8 * a + 8 * k + t < 8 * nb) = true := by simp; omega
    rw [e1, Bool.true_and, Nat.zero_add, show (8 * a + 8 * k + t) / 8 = a + k by omega, show (8 * a + 8 * k + t) % 8 = t by omega]
theorem rTmN_up {wd : Nat} (hw1 : 1 ≤ wd) (hw : wd ≤ 64) {po x y : Int64} (hp : lo wd po) (hx : lo wd x) : ∀ n, n ≤ wd → up wd (rTmN wd po x y n) = px (up wd po) (up wd y) (up wd x) n ∧ lo wd (rTmN wd po x y n) := by
  intro n
  induction n with
  | zero => intro _; exact ⟨up_0 wd, lo_0 wd⟩
  | succ n ih =>
    intro hn
    obtain ⟨e, l⟩ := ih (by omega)
    obtain ⟨e2, l2⟩ := rBit_0 hw1 hw (r := rTmN wd po x y n) hp
    have hc := and_c y (k := wd - 1 - n) (by omega)
    have hb : (up wd y).getLsbD (63 - n) = y.toBitVec.getLsbD (wd - 1 - n) := by
      rw [show 63 - n = 64 - wd + (wd - 1 - n) by omega, up_bit hw1 hw y (by omega)]
    rw [rTmN, du_wp hw1 (by omega)]
    show up wd (_ ^^^ _) = cz _ (px _ _ _ n) ^^^ _ ∧ _
    rw [up_xor, e2, e, hb]
    cases hv : y.toBitVec.getLsbD (wd - 1 - n) with
    | false =>
      rw [hv] at hc
      rw [if_neg (fun h => absurd (hc.mp h) (by decide)), if_neg (by decide), up_0]
      exact ⟨rfl, lo_xor l2 (lo_0 wd)⟩
    | true =>
      rw [hv] at hc
      rw [if_pos (hc.mpr rfl), if_pos rfl]
      exact ⟨rfl, lo_xor l2 hx⟩
theorem up_1 (wd : Nat) : up wd 1 = 1#64 <<< (64 - wd) := rfl
theorem rPw_up {wd : Nat} (hw1 : 1 ≤ wd) (hw : wd ≤ 64) {po : Int64} (hp : lo wd po) : ∀ i, up wd (rPw wd po i) = czn (up wd po) (2 ^ i) (1#64 <<< (64 - wd)) ∧ lo wd (rPw wd po i) := by
  intro i
  induction i with
  | zero =>
    obtain ⟨e2, l2⟩ := rBit_0 hw1 hw (r := 1) hp
    exact ⟨e2, l2⟩
  | succ i ih =>
    obtain ⟨e, l⟩ := ih
    obtain ⟨e2, l2⟩ := rTmN_up hw1 hw (y := rPw wd po i) hp l wd (Nat.le_refl _)
    rw [rPw]
    refine ⟨?_, l2⟩
    rw [e2]
    conv => lhs; rw [e]
    rw [px_l hw (lz_czn (up_lz wd po) (lz_shl _ _) _), ← czn_add, Nat.pow_succ, Nat.mul_two]
theorem rBhN_up {wd : Nat} (hw1 : 1 ≤ wd) (hw : wd ≤ 64) {po r : Int64} (hp : lo wd po) (hr : lo wd r) (Z : Nat) : ∀ i, up wd (rBhN wd po r Z i) = czn (up wd po) (Z % 2 ^ i) (up wd r) ∧ lo wd (rBhN wd po r Z i) := by
  intro i
  induction i with
  | zero => rw [Nat.pow_zero, Nat.mod_one]; exact ⟨rfl, hr⟩
  | succ i ih =>
    obtain ⟨e, l⟩ := ih
    rw [rBhN, Nat.mod_pow_succ]
    by_cases hb : Z / 2 ^ i % 2 = 1
    · rw [if_pos hb, hb, Nat.mul_one]
      obtain ⟨e2, l2⟩ := rTmN_up hw1 hw (y := rPw wd po i) hp l wd (Nat.le_refl _)
      refine ⟨?_, l2⟩
      rw [e2, (rPw_up hw1 hw hp i).1, px_r hw (up_lz wd po) (up_lz wd _), e, ← czn_add, Nat.add_comm]
    · rw [if_neg hb, show Z / 2 ^ i % 2 = 0 by omega, Nat.mul_zero, Nat.add_zero]
      exact ⟨e, l⟩
theorem rBh_up {wd : Nat} (hw1 : 1 ≤ wd) (hw : wd ≤ 64) {po r : Int64} (hp : lo wd po) (hr : lo wd r) {Z : Nat} (hZ : Z < 2 ^ 35) : up wd (rBh wd po r Z) = czn (up wd po) Z (up wd r) ∧ lo wd (rBh wd po r Z) := by
  have h := rBhN_up hw1 hw hp hr Z 35
  rw [Nat.mod_eq_of_lt hZ] at h
  exact h
/-! The component's products and powers. -/
theorem mPrN_bv (tp a b : Int64) : ∀ n, n ≤ 64 → (mPrN tp a b n).toBitVec = px tp.toBitVec a.toBitVec b.toBitVec n := by
  intro n
  induction n with
  | zero => intro _; rfl
  | succ n ih =>
    intro hn
    have hc : (0 ≤ lg_cmp (jshl a (nI n)) 0) ↔ a.toBitVec.getLsbD (63 - n) = false := by
      rw [lg_cmp_ge, ← Int64.not_lt, lt0_msb, bv_shl _ (by omega), BitVec.msb_eq_getLsbD_last, BitVec.getLsbD_shiftLeft]
      have e1 : decide (64 - 1 < 64) = true := by decide
      have e2 : decide (64 - 1 < n) = false := by simp; omega
      rw [e1, e2, show 64 - 1 - n = 63 - n by omega]; simp
    rw [mPrN]
    show _ = cz _ (px _ _ _ n) ^^^ _
    cases hv : a.toBitVec.getLsbD (63 - n) with
    | false => rw [if_pos (hc.mpr hv), if_neg (by decide), mBit_0, ih (by omega)]; simp
    | true => rw [if_neg (fun h => by rw [hc.mp h] at hv; cases hv), if_pos rfl, bv_xor, mBit_0, ih (by omega)]
theorem mProd_bv {wd : Nat} (hw : wd ≤ 64) (tp a b : Int64) : (mProd (nI wd) tp a b).toBitVec = px tp.toBitVec a.toBitVec b.toBitVec wd := by
  unfold mProd
  rw [nI_clamp (by omega)]
  exact mPrN_bv tp a b wd hw
theorem mPw_bv {wd : Nat} (hw1 : 1 ≤ wd) (hw : wd ≤ 64) {tp : Int64} (ht : lz (64 - wd) tp.toBitVec) : ∀ i, (mPw (nI wd) tp i).toBitVec = czn tp.toBitVec (2 ^ i) (1#64 <<< (64 - wd)) := by
  intro i
  induction i with
  | zero => rw [mPw, mBit_0, bt_top hw1 hw]; rfl
  | succ i ih =>
    rw [mPw, mProd_bv hw, ih, px_l hw (lz_czn ht (lz_shl _ _) _), ← czn_add, Nat.pow_succ, Nat.mul_two]
theorem lN_bit {Z : Nat} (hZ : Z < 2 ^ 64) (i : Nat) : (lN Z).toBitVec.getLsbD i = Z.testBit i := by
  rw [bw_tb]
  show (BitVec.ofNat 64 Z).toNat.testBit i = _
  rw [BitVec.toNat_ofNat, Nat.mod_eq_of_lt hZ]
theorem mZaN_bv {wd : Nat} (hw1 : 1 ≤ wd) (hw : wd ≤ 64) {tp : Int64} (ht : lz (64 - wd) tp.toBitVec) {r : Int64} (hr : lz (64 - wd) r.toBitVec) {Z : Nat} (hZ : Z < 2 ^ 35) : ∀ i, i ≤ 34 → (mZaN (nI wd) tp r (lN Z) i).toBitVec = czn tp.toBitVec (Z % 2 ^ i) r.toBitVec := by
  intro i
  induction i with
  | zero => intro _; rw [Nat.pow_zero, Nat.mod_one]; rfl
  | succ i ih =>
    intro hi
    have hc := and_c (lN Z) (k := i) (by omega)
    rw [lN_bit (by omega), Nat.testBit_eq_decide_div_mod_eq] at hc
    rw [mZaN, Nat.mod_pow_succ]
    by_cases hb : Z / 2 ^ i % 2 = 1
    · rw [if_pos (hc.mpr (by simpa using hb)), hb, Nat.mul_one, mProd_bv hw, mPw_bv hw1 hw ht, ih (by omega), px_l hw (lz_czn ht hr _), ← czn_add, Nat.add_comm]
    · rw [if_neg (fun h => hb (by simpa using hc.mp h)), show Z / 2 ^ i % 2 = 0 by omega, Nat.mul_zero, Nat.add_zero, ih (by omega)]
theorem mZeros_bv {wd : Nat} (hw1 : 1 ≤ wd) (hw : wd ≤ 64) {tp : Int64} (ht : lz (64 - wd) tp.toBitVec) {r : Int64} (hr : lz (64 - wd) r.toBitVec) {Z : Nat} (hZ : Z < 2 ^ 34) : (mZeros (nI wd) tp r (lN Z)).toBitVec = czn tp.toBitVec Z r.toBitVec := by
  unfold mZeros
  rw [mZaN_bv hw1 hw ht hr (by omega) 34 (by decide), Nat.mod_eq_of_lt hZ]
/-! Checks out of registers, and back. -/
theorem from_up {wd : Nat} (hw1 : 1 ≤ wd) (hw : wd ≤ 64) {R r : Int64} (hr : lo wd r) (h : R.toBitVec = up wd r) : mFrom (nI wd) R = r := by
  apply bw_inj
  rw [bt_from hw1 hw, h]
  apply BitVec.eq_of_getLsbD_eq
  intro j hj
  rw [BitVec.getLsbD_ushiftRight]
  rcases Nat.lt_or_ge j wd with q | q
  · exact up_bit hw1 hw r q
  · rw [BitVec.getLsbD_of_ge _ _ (by omega), lo_bit hr q]
theorem check_eq {wd : Nat} (hw1 : 1 ≤ wd) (hw : wd ≤ 64) {R r : Int64} (bo : Int32) (la : Int64) (hr : lo wd r) (h : R.toBitVec = up wd r) : mCheck (nI wd) bo la R = rTold bo la wd r := by
  unfold mCheck rTold
  rw [from_up hw1 hw hr h]
  unfold mTurned
  rw [nI_clamp (by omega)]
theorem tu_low {wd : Nat} (hw : wd ≤ 64) {v v' : Int64} (h : ∀ j, j < wd → v.toBitVec.getLsbD j = v'.toBitVec.getLsbD j) : mTuN v wd = mTuN v' wd := by
  apply bw_inj
  apply BitVec.eq_of_getLsbD_eq
  intro j hj
  rw [tu_bit v wd hw, tu_bit v' wd hw]
  rcases Nat.lt_or_ge j wd with q | q
  · rw [h _ (by omega)]
  · have e : decide (j < wd) = false := by simp; omega
    rw [e]; rfl
theorem reg_eq {wd : Nat} (hw1 : 1 ≤ wd) (hw : wd ≤ 64) (bo : Int32) {la : Int64} (hl : lo wd la) (x : Int64) : (mReg (nI wd) bo la x).toBitVec = up wd (rReg bo la wd x) ∧ lo wd (rReg bo la wd x) := by
  unfold mReg rReg
  rw [bt_top hw1 hw]
  by_cases hb : bo = 0
  · rw [if_pos hb, if_pos hb, up_xor, rLow_up hw1 hw, bv_xor, BitVec.shiftLeft_xor_distrib]
    exact ⟨rfl, lo_xor (rLow_lo hw1 hw x) hl⟩
  · rw [if_neg hb, if_neg hb]
    unfold mTurned
    rw [nI_clamp (by omega)]
    refine ⟨?_, tu_lt _ hw⟩
    rw [tu_low hw (v := x ^^^ la) (v' := rLow x (nI wd) ^^^ la)]
    · rfl
    · intro j hj
      rw [bv_xor, bv_xor, BitVec.getLsbD_xor, BitVec.getLsbD_xor, rLow_bit hw1 hw]
      have e : decide (j < wd) = true := by simpa using hj
      rw [e, Bool.true_and]
theorem tu_tu {wd : Nat} (hw : wd ≤ 64) {r : Int64} (hr : lo wd r) : mTuN (mTuN r wd) wd = r := by
  apply bw_inj
  apply BitVec.eq_of_getLsbD_eq
  intro j hj
  rw [tu_bit _ wd hw]
  rcases Nat.lt_or_ge j wd with q | q
  · have e : decide (j < wd) = true := by simpa using q
    have e2 : decide (wd - 1 - j < wd) = true := by simp; omega
    rw [e, Bool.true_and, tu_bit r wd hw, e2, Bool.true_and, show wd - 1 - (wd - 1 - j) = j by omega]
  · have e : decide (j < wd) = false := by simp; omega
    rw [e, lo_bit hr q]; rfl
theorem xx_c (a b : Int64) : a ^^^ b ^^^ b = a := by
  apply bw_inj
  rw [bv_xor, bv_xor, BitVec.xor_assoc, BitVec.xor_self]; simp
theorem reg_told {wd : Nat} (hw1 : 1 ≤ wd) (hw : wd ≤ 64) (bo : Int32) {la r : Int64} (hl : lo wd la) (hr : lo wd r) : rReg bo la wd (rTold bo la wd r) = r := by
  unfold rReg rTold
  by_cases hb : bo = 0
  · rw [if_pos hb, if_pos hb, rLow_id hw1 hw (lo_xor hr hl), xx_c]
  · rw [if_neg hb, if_neg hb, rLow_id hw1 hw (lo_xor (tu_lt r hw) hl), xx_c, tu_tu hw hr]
theorem told_reg {wd : Nat} (hw1 : 1 ≤ wd) (hw : wd ≤ 64) (bo : Int32) {la : Int64} (hl : lo wd la) {R r : Int64} (hr : lo wd r) (h : R.toBitVec = up wd r) : (mReg (nI wd) bo la (mCheck (nI wd) bo la R)).toBitVec = R.toBitVec := by
  rw [check_eq hw1 hw bo la hr h, (reg_eq hw1 hw bo hl _).1, reg_told hw1 hw bo hl hr, h]
