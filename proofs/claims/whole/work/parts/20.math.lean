/-! The register as a vector of 64 bits at the top; a bit 0 is the linear map cz; all ways come down to its powers. -/
def cz (P r : BitVec 64) : BitVec 64 := if r.msb then (r <<< 1) ^^^ P else r <<< 1
theorem cz_xor (P r s : BitVec 64) : cz P (r ^^^ s) = cz P r ^^^ cz P s := by
  unfold cz
  rw [BitVec.msb_xor, BitVec.shiftLeft_xor_distrib]
  apply BitVec.eq_of_getLsbD_eq
  intro i hi
  cases r.msb <;> cases s.msb <;> simp only [Bool.false_xor, Bool.true_xor, Bool.not_false, Bool.not_true, ↓reduceIte, Bool.false_eq_true, BitVec.getLsbD_xor] <;>
    (generalize (r <<< 1).getLsbD i = a; generalize (s <<< 1).getLsbD i = b; generalize P.getLsbD i = c; cases a <;> cases b <;> cases c <;> rfl)
theorem cz_0 (P : BitVec 64) : cz P 0#64 = 0#64 := by
  unfold cz; simp
def czn (P : BitVec 64) : Nat → BitVec 64 → BitVec 64
  | 0, r => r
  | n + 1, r => cz P (czn P n r)
theorem czn_add (P : BitVec 64) (m n : Nat) (r : BitVec 64) : czn P (m + n) r = czn P m (czn P n r) := by
  induction m with
  | zero => rw [Nat.zero_add]; rfl
  | succ m ih => rw [Nat.succ_add]; show cz P (czn P (m + n) r) = cz P (czn P m (czn P n r)); rw [ih]
theorem czn_xor (P : BitVec 64) (n : Nat) (r s : BitVec 64) : czn P n (r ^^^ s) = czn P n r ^^^ czn P n s := by
  induction n with
  | zero => rfl
  | succ n ih => show cz P (czn P n (r ^^^ s)) = _; rw [ih, cz_xor]; rfl
theorem czn_0 (P : BitVec 64) (n : Nat) : czn P n 0#64 = 0#64 := by
  induction n with
  | zero => rfl
  | succ n ih => show cz P (czn P n 0#64) = _; rw [ih, cz_0]
theorem czn_1 (P : BitVec 64) (n : Nat) (r : BitVec 64) : czn P n (cz P r) = czn P (n + 1) r := by
  rw [czn_add P n 1 r]; rfl
theorem bb_hi {r : BitVec 64} {k i : Nat} (h : r.toNat < 2 ^ k) (hi : k ≤ i) : r.getLsbD i = false :=
  Nat.testBit_lt_two_pow (Nat.lt_of_lt_of_le h (Nat.pow_le_pow_right (by decide) hi))
theorem czn_shl (P : BitVec 64) (r : BitVec 64) : ∀ n, n ≤ 64 → r.toNat < 2 ^ (64 - n) → czn P n r = r <<< n := by
  intro n
  induction n with
  | zero => intro _ _; show r = r <<< 0; simp
  | succ n ih =>
    intro hn h
    have h2 : r.toNat < 2 ^ (64 - n) := Nat.lt_of_lt_of_le h (Nat.pow_le_pow_right (by decide) (by omega))
    show cz P (czn P n r) = _
    rw [ih (by omega) h2]
    unfold cz
    have hm : (r <<< n).msb = false := by
      rw [BitVec.msb_eq_getLsbD_last, BitVec.getLsbD_shiftLeft]
      rw [bb_hi h (show 64 - (n + 1) ≤ 64 - 1 - n by omega)]
      simp
    rw [hm, if_neg (by decide), ← BitVec.shiftLeft_add]
/-- the bit that comes, at the register's top -/
def tb (b : Bool) : BitVec 64 := if b then BitVec.twoPow 64 63 else 0#64
/-- the register behind n bits of f, from place a on -/
def rgN (P : BitVec 64) (f : Nat → Bool) (r : BitVec 64) (a : Nat) : Nat → BitVec 64
  | 0 => r
  | k + 1 => cz P (rgN P f r a k ^^^ tb (f (a + k)))
theorem rg_add (P : BitVec 64) (f : Nat → Bool) (r : BitVec 64) (a m n : Nat) : rgN P f r a (m + n) = rgN P f (rgN P f r a m) (a + m) n := by
  induction n with
  | zero => rfl
  | succ n ih =>
    show cz P (rgN P f r a (m + n) ^^^ tb (f (a + (m + n)))) = cz P (rgN P f (rgN P f r a m) (a + m) n ^^^ tb (f (a + m + n)))
    rw [ih, Nat.add_assoc]
theorem rg_congr {P : BitVec 64} {f g : Nat → Bool} {r : BitVec 64} {a b : Nat} : ∀ {n : Nat}, (∀ k, k < n → f (a + k) = g (b + k)) → rgN P f r a n = rgN P g r b n := by
  intro n
  induction n with
  | zero => intro _; rfl
  | succ n ih =>
    intro h
    show cz P (rgN P f r a n ^^^ tb (f (a + n))) = cz P (rgN P g r b n ^^^ tb (g (b + n)))
    rw [ih (fun k hk => h k (by omega)), h n (by omega)]
theorem bx_ac (a b c : BitVec 64) : a ^^^ b ^^^ c = a ^^^ c ^^^ b := by
  rw [BitVec.xor_assoc, BitVec.xor_comm b c, ← BitVec.xor_assoc]
theorem rg_xor (P : BitVec 64) (f : Nat → Bool) (r s : BitVec 64) (a n : Nat) : rgN P f (r ^^^ s) a n = rgN P f r a n ^^^ czn P n s := by
  induction n with
  | zero => rfl
  | succ n ih =>
    show cz P (rgN P f (r ^^^ s) a n ^^^ tb (f (a + n))) = cz P (rgN P f r a n ^^^ tb (f (a + n))) ^^^ cz P (czn P n s)
    rw [ih, bx_ac, cz_xor]
def wN (f : Nat → Bool) (a : Nat) : Nat → BitVec 64
  | 0 => 0#64
  | n + 1 => wN f a n ^^^ (if f (a + n) then BitVec.twoPow 64 (63 - n) else 0#64)
theorem tb_czn (P : BitVec 64) (b : Bool) {n : Nat} (hn : n < 64) : czn P n (if b then BitVec.twoPow 64 (63 - n) else 0#64) = tb b := by
  cases b with
  | false => exact czn_0 P n
  | true =>
    show czn P n (BitVec.twoPow 64 (63 - n)) = BitVec.twoPow 64 63
    rw [czn_shl P _ n (by omega)]
    · apply BitVec.eq_of_getLsbD_eq
      intro i hi
      rw [BitVec.getLsbD_shiftLeft, BitVec.getLsbD_twoPow, BitVec.getLsbD_twoPow]
      rcases Nat.lt_trichotomy i 63 with h | h | h
      · have e1 : decide (63 = i) = false := by simp; omega
        rcases Nat.lt_or_ge i n with q | q
        · have e2 : decide (i < n) = true := by simp; omega
          rw [e1, e2]; simp
        · have e2 : decide (63 - n = i - n) = false := by simp; omega
          rw [e1, e2]; simp
      · subst h
        have e2 : decide (63 < n) = false := by simp; omega
        rw [e2]; simp; omega
      · omega
    · rw [BitVec.toNat_twoPow, Nat.mod_eq_of_lt (Nat.pow_lt_pow_right (by decide) (by omega))]
      exact Nat.pow_lt_pow_right (by decide) (by omega)
theorem rg_w (P : BitVec 64) (f : Nat → Bool) (r : BitVec 64) (a : Nat) : ∀ n, n ≤ 64 → rgN P f r a n = czn P n (r ^^^ wN f a n) := by
  intro n
  induction n with
  | zero => intro _; show r = r ^^^ 0#64; simp
  | succ n ih =>
    intro hn
    show cz P (rgN P f r a n ^^^ tb (f (a + n))) = cz P (czn P n (r ^^^ (wN f a n ^^^ _)))
    rw [ih (by omega), ← BitVec.xor_assoc, czn_xor P n (r ^^^ wN f a n), tb_czn P _ (by omega)]
theorem wN_bit (f : Nat → Bool) (a : Nat) : ∀ n, n ≤ 64 → ∀ j, j < 64 → (wN f a n).getLsbD j = (decide (63 - j < n) && f (a + (63 - j))) := by
  intro n
  induction n with
  | zero => intro _ j _; show (0#64).getLsbD j = _; simp
  | succ n ih =>
    intro hn j hj
    show (wN f a n ^^^ _).getLsbD j = _
    rw [BitVec.getLsbD_xor, ih (by omega) j hj]
    have e0 : (if f (a + n) then BitVec.twoPow 64 (63 - n) else 0#64).getLsbD j = (decide (63 - n = j) && f (a + n)) := by
      cases f (a + n) with
      | false => simp
      | true =>
        simp only [↓reduceIte, Bool.and_true]
        rw [BitVec.getLsbD_twoPow]
        have : decide (63 - n < 64) = true := by simp; omega
        rw [this]; simp
    rw [e0]
    rcases Nat.lt_trichotomy (63 - j) n with h | h | h
    · have e1 : decide (63 - j < n) = true := by simpa using h
      have e2 : decide (63 - n = j) = false := by simp; omega
      have e3 : decide (63 - j < n + 1) = true := by simp; omega
      rw [e1, e2, e3]; simp
    · have e1 : decide (63 - j < n) = false := by simp; omega
      have e2 : decide (63 - n = j) = true := by simp; omega
      have e3 : decide (63 - j < n + 1) = true := by simp; omega
      rw [e1, e2, e3, h]; simp
    · have e1 : decide (63 - j < n) = false := by simp; omega
      have e2 : decide (63 - n = j) = false := by simp; omega
      have e3 : decide (63 - j < n + 1) = false := by simp; omega
      rw [e1, e2, e3]; simp
theorem rg_word {P : BitVec 64} {f : Nat → Bool} {r X : BitVec 64} {a n : Nat} (hn : n ≤ 64) (h : ∀ j, j < 64 → X.getLsbD j = (decide (63 - j < n) && f (a + (63 - j)))) : rgN P f r a n = czn P n (r ^^^ X) := by
  rw [rg_w P f r a n hn]
  have : wN f a n = X := BitVec.eq_of_getLsbD_eq (fun i hi => by rw [wN_bit f a n hn i hi, h i hi])
  rw [this]
/-- the lowest s bits are 0 -/
def lz (s : Nat) (r : BitVec 64) : Prop := ∀ j, j < s → r.getLsbD j = false
theorem lz_xor {s : Nat} {r t : BitVec 64} (h : lz s r) (h2 : lz s t) : lz s (r ^^^ t) := fun j hj => by rw [BitVec.getLsbD_xor, h j hj, h2 j hj]; rfl
theorem lz_0 (s : Nat) : lz s 0#64 := fun j _ => by simp
theorem lz_shl (s : Nat) (x : BitVec 64) : lz s (x <<< s) := fun j hj => by
  rw [BitVec.getLsbD_shiftLeft]
  have : decide (j < s) = true := by simpa using hj
  rw [this]; simp
theorem lz_cz {s : Nat} {P r : BitVec 64} (hP : lz s P) (h : lz s r) : lz s (cz P r) := by
  have h1 : lz s (r <<< 1) := fun j hj => by
    rw [BitVec.getLsbD_shiftLeft, h (j - 1) (by omega)]; simp
  unfold cz
  split
  · exact lz_xor h1 hP
  · exact h1
theorem lz_czn {s : Nat} {P r : BitVec 64} (hP : lz s P) (h : lz s r) : ∀ n, lz s (czn P n r) := by
  intro n
  induction n with
  | zero => exact h
  | succ n ih => exact lz_cz hP ih
theorem lz_tb {s : Nat} (hs : s ≤ 63) (b : Bool) : lz s (tb b) := fun j hj => by
  cases b with
  | false => show (0#64).getLsbD j = false; simp
  | true =>
    show (BitVec.twoPow 64 63).getLsbD j = false
    rw [BitVec.getLsbD_twoPow]
    have : decide (63 = j) = false := by simp; omega
    rw [this]; simp
theorem lz_rg {s : Nat} {P r : BitVec 64} {f : Nat → Bool} {a : Nat} (hs : s ≤ 63) (hP : lz s P) (h : lz s r) : ∀ n, lz s (rgN P f r a n) := by
  intro n
  induction n with
  | zero => exact h
  | succ n ih => exact lz_cz hP (lz_xor ih (lz_tb hs _))
/-- the product of two registers, A's highest coefficient first -/
def px (P A B : BitVec 64) : Nat → BitVec 64
  | 0 => 0#64
  | n + 1 => cz P (px P A B n) ^^^ (if A.getLsbD (63 - n) then B else 0#64)
theorem bx_4 (a b c d : BitVec 64) : (a ^^^ b) ^^^ (c ^^^ d) = (a ^^^ c) ^^^ (b ^^^ d) := by
  rw [← BitVec.xor_assoc, bx_ac a b c, BitVec.xor_assoc]
theorem px_xor (P A B C : BitVec 64) (n : Nat) : px P A (B ^^^ C) n = px P A B n ^^^ px P A C n := by
  induction n with
  | zero => show 0#64 = 0#64 ^^^ 0#64; simp
  | succ n ih =>
    show cz P (px P A (B ^^^ C) n) ^^^ _ = (cz P (px P A B n) ^^^ _) ^^^ (cz P (px P A C n) ^^^ _)
    rw [ih, cz_xor, bx_4]
    cases A.getLsbD (63 - n) <;> simp
theorem px_cz (P A B : BitVec 64) (n : Nat) : px P A (cz P B) n = cz P (px P A B n) := by
  induction n with
  | zero => show 0#64 = cz P 0#64; rw [cz_0]
  | succ n ih =>
    show cz P (px P A (cz P B) n) ^^^ _ = cz P (cz P (px P A B n) ^^^ _)
    rw [ih, cz_xor]
    cases A.getLsbD (63 - n) <;> simp [cz_0]
theorem px_czn (P A B : BitVec 64) (n : Nat) : ∀ k, px P A (czn P k B) n = czn P k (px P A B n) := by
  intro k
  induction k with
  | zero => rfl
  | succ k ih => show px P A (cz P (czn P k B)) n = cz P (czn P k (px P A B n)); rw [px_cz, ih]
theorem px_0 (P A : BitVec 64) (n : Nat) : px P A 0#64 n = 0#64 := by
  induction n with
  | zero => rfl
  | succ n ih =>
    show cz P (px P A 0#64 n) ^^^ _ = _
    rw [ih, cz_0]
    cases A.getLsbD (63 - n) <;> simp
theorem px_comm (P A B C : BitVec 64) (m : Nat) : ∀ n, px P A (px P B C n) m = px P B (px P A C m) n := by
  intro n
  induction n with
  | zero => exact px_0 P A m
  | succ n ih =>
    show px P A (cz P (px P B C n) ^^^ _) m = cz P (px P B (px P A C m) n) ^^^ _
    rw [px_xor, px_cz, ih]
    cases B.getLsbD (63 - n) <;> simp [px_0]
theorem px_n (P A : BitVec 64) {s : Nat} : ∀ n, n + s ≤ 64 → px P A (1#64 <<< s) n = (A >>> (64 - n)) <<< s := by
  intro n
  induction n with
  | zero =>
    intro _
    show 0#64 = _
    apply BitVec.eq_of_getLsbD_eq
    intro i hi
    rw [BitVec.getLsbD_shiftLeft, BitVec.getLsbD_ushiftRight, BitVec.getLsbD_of_ge A _ (by omega)]
    simp
  | succ n ih =>
    intro hn
    show cz P (px P A (1#64 <<< s) n) ^^^ _ = _
    rw [ih (by omega)]
    have hm : ((A >>> (64 - n)) <<< s).msb = false := by
      rw [BitVec.msb_eq_getLsbD_last, BitVec.getLsbD_shiftLeft, BitVec.getLsbD_ushiftRight, BitVec.getLsbD_of_ge A _ (by omega)]
      simp
    unfold cz
    rw [hm, if_neg (by decide)]
    apply BitVec.eq_of_getLsbD_eq
    intro i hi
    have e0 : (if A.getLsbD (63 - n) then 1#64 <<< s else 0#64).getLsbD i = (decide (i = s) && A.getLsbD (63 - n)) := by
      cases A.getLsbD (63 - n) with
      | false => simp
      | true =>
        simp only [↓reduceIte, Bool.and_true]
        rw [BitVec.getLsbD_shiftLeft, BitVec.getLsbD_one]
        rcases Nat.lt_trichotomy i s with h | h | h
        · have e1 : decide (i < s) = true := by simpa using h
          have e2 : decide (i = s) = false := by simp; omega
          rw [e1, e2]; simp
        · subst h; simp; omega
        · have e1 : decide (i - s = 0) = false := by simp; omega
          have e2 : decide (i = s) = false := by simp; omega
          rw [e1, e2]; simp
    rw [BitVec.getLsbD_xor, e0, BitVec.getLsbD_shiftLeft, BitVec.getLsbD_shiftLeft, BitVec.getLsbD_ushiftRight, BitVec.getLsbD_shiftLeft, BitVec.getLsbD_ushiftRight]
    rcases Nat.lt_trichotomy i s with h | h | h
    · have e1 : decide (i < s) = true := by simpa using h
      have e2 : decide (i = s) = false := by simp; omega
      have e3 : decide (i - 1 < s) = true := by simp; omega
      rw [e1, e2, e3]; simp
    · subst h
      have e1 : decide (i < i) = false := by simp
      have e2 : decide (i < 64) = true := by simpa using hi
      rcases Nat.eq_zero_or_pos i with q | q
      · subst q; simp
      · have e3 : decide (i - 1 < i) = true := by simp; omega
        rw [e1, e2, e3, show 64 - (n + 1) + (i - i) = 63 - n by omega]; simp
    · have e1 : decide (i < s) = false := by simp; omega
      have e2 : decide (i = s) = false := by simp; omega
      have e3 : decide (i - 1 < s) = false := by simp; omega
      have e4 : decide (i < 1) = false := by simp; omega
      have e5 : decide (i - 1 < 64) = true := by simp; omega
      have e6 : decide (i < 64) = true := by simpa using hi
      rw [e1, e2, e3, e4, e5, e6, show 64 - (n + 1) + (i - s) = 64 - n + (i - 1 - s) by omega]; simp
theorem px_one {P A : BitVec 64} {wd : Nat} (hw : wd ≤ 64) (hA : lz (64 - wd) A) : px P A (1#64 <<< (64 - wd)) wd = A := by
  rw [px_n P A wd (by omega)]
  apply BitVec.eq_of_getLsbD_eq
  intro i hi
  rw [BitVec.getLsbD_shiftLeft, BitVec.getLsbD_ushiftRight]
  rcases Nat.lt_or_ge i (64 - wd) with h | h
  · have e1 : decide (i < 64 - wd) = true := by simpa using h
    rw [hA i h, e1]; simp
  · have e1 : decide (i < 64 - wd) = false := by simp; omega
    have e2 : decide (i < 64) = true := by simpa using hi
    rw [e1, e2, show 64 - wd + (i - (64 - wd)) = i by omega]; simp
/-- times x to the m, either way round -/
theorem px_l {P A : BitVec 64} {wd : Nat} (hw : wd ≤ 64) (hA : lz (64 - wd) A) (m : Nat) : px P A (czn P m (1#64 <<< (64 - wd))) wd = czn P m A := by
  rw [px_czn, px_one hw hA]
theorem px_r {P B : BitVec 64} {wd : Nat} (hw : wd ≤ 64) (hP : lz (64 - wd) P) (hB : lz (64 - wd) B) (m : Nat) : px P (czn P m (1#64 <<< (64 - wd))) B wd = czn P m B := by
  have h1 : lz (64 - wd) (czn P m (1#64 <<< (64 - wd))) := lz_czn hP (lz_shl _ _) m
  have h2 := px_comm P (czn P m (1#64 <<< (64 - wd))) B (1#64 <<< (64 - wd)) wd wd
  rw [px_one hw hB, px_one hw h1] at h2
  rw [h2, px_l hw hB]
