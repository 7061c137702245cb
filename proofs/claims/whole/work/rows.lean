section
-- ===== PART A: goes FIRST, ahead of the names: the tables' words, and 'selects' of the private methods out of them =====
/-- a private method of a class that the tables say can be made, by its rows of tables_1 -/
def lw_okq (q : MethodName × Nat) : Prop := (q.1.cls ≠ "java/lang/invoke/MethodHandle" ∧ q.1.cls ≠ "java/lang/invoke/VarHandle") ∧ Cond.instantiable q.1.cls q.2 ∈ tables_1 ∧ Cond.privateMethod q.1 ∈ tables_1 ∧ Cond.instanceMethod q.1 ∈ tables_1
theorem lw_p0 : lw_okq (⟨"SliceChecks", "turnBytesOfRow", "()V"⟩, 11) := ⟨⟨by decide +kernel, by decide +kernel⟩, List.mem_of_getElem? (i := 6) (by decide +kernel), List.mem_of_getElem? (i := 20) (by decide +kernel), List.mem_of_getElem? (i := 21) (by decide +kernel)⟩
theorem lw_p1 : lw_okq (⟨"SliceChecks", "lowerBits", "(J)J"⟩, 11) := ⟨⟨by decide +kernel, by decide +kernel⟩, List.mem_of_getElem? (i := 6) (by decide +kernel), List.mem_of_getElem? (i := 30) (by decide +kernel), List.mem_of_getElem? (i := 31) (by decide +kernel)⟩
theorem lw_p2 : lw_okq (⟨"SliceChecks", "atTop", "(J)J"⟩, 11) := ⟨⟨by decide +kernel, by decide +kernel⟩, List.mem_of_getElem? (i := 6) (by decide +kernel), List.mem_of_getElem? (i := 34) (by decide +kernel), List.mem_of_getElem? (i := 35) (by decide +kernel)⟩
theorem lw_p3 : lw_okq (⟨"SliceChecks", "fromTop", "(J)J"⟩, 11) := ⟨⟨by decide +kernel, by decide +kernel⟩, List.mem_of_getElem? (i := 6) (by decide +kernel), List.mem_of_getElem? (i := 38) (by decide +kernel), List.mem_of_getElem? (i := 39) (by decide +kernel)⟩
theorem lw_p4 : lw_okq (⟨"SliceChecks", "fillSlices", "()V"⟩, 11) := ⟨⟨by decide +kernel, by decide +kernel⟩, List.mem_of_getElem? (i := 6) (by decide +kernel), List.mem_of_getElem? (i := 42) (by decide +kernel), List.mem_of_getElem? (i := 43) (by decide +kernel)⟩
theorem lw_p5 : lw_okq (⟨"SliceChecks", "behindByte", "(JI)J"⟩, 11) := ⟨⟨by decide +kernel, by decide +kernel⟩, List.mem_of_getElem? (i := 6) (by decide +kernel), List.mem_of_getElem? (i := 46) (by decide +kernel), List.mem_of_getElem? (i := 47) (by decide +kernel)⟩
theorem lw_p6 : lw_okq (⟨"SliceChecks", "behindBit", "(JI)J"⟩, 11) := ⟨⟨by decide +kernel, by decide +kernel⟩, List.mem_of_getElem? (i := 6) (by decide +kernel), List.mem_of_getElem? (i := 50) (by decide +kernel), List.mem_of_getElem? (i := 51) (by decide +kernel)⟩
theorem lw_p7 : lw_okq (⟨"SliceChecks", "behindByteByTable", "(JI)J"⟩, 11) := ⟨⟨by decide +kernel, by decide +kernel⟩, List.mem_of_getElem? (i := 6) (by decide +kernel), List.mem_of_getElem? (i := 54) (by decide +kernel), List.mem_of_getElem? (i := 55) (by decide +kernel)⟩
theorem lw_p8 : lw_okq (⟨"SliceChecks", "asItComes", "(I)J"⟩, 11) := ⟨⟨by decide +kernel, by decide +kernel⟩, List.mem_of_getElem? (i := 6) (by decide +kernel), List.mem_of_getElem? (i := 101) (by decide +kernel), List.mem_of_getElem? (i := 102) (by decide +kernel)⟩
theorem lw_p9 : lw_okq (⟨"SliceChecks", "bitsOfRow", "()I"⟩, 11) := ⟨⟨by decide +kernel, by decide +kernel⟩, List.mem_of_getElem? (i := 6) (by decide +kernel), List.mem_of_getElem? (i := 122) (by decide +kernel), List.mem_of_getElem? (i := 123) (by decide +kernel)⟩
theorem lw_p10 : lw_okq (⟨"SliceChecks", "bitByBit", "()J"⟩, 11) := ⟨⟨by decide +kernel, by decide +kernel⟩, List.mem_of_getElem? (i := 6) (by decide +kernel), List.mem_of_getElem? (i := 130) (by decide +kernel), List.mem_of_getElem? (i := 131) (by decide +kernel)⟩
theorem lw_p11 : lw_okq (⟨"SliceChecks", "byteAt", "(I)I"⟩, 11) := ⟨⟨by decide +kernel, by decide +kernel⟩, List.mem_of_getElem? (i := 6) (by decide +kernel), List.mem_of_getElem? (i := 134) (by decide +kernel), List.mem_of_getElem? (i := 135) (by decide +kernel)⟩
theorem lw_p12 : lw_okq (⟨"SliceChecks", "checkOf", "(J)J"⟩, 11) := ⟨⟨by decide +kernel, by decide +kernel⟩, List.mem_of_getElem? (i := 6) (by decide +kernel), List.mem_of_getElem? (i := 138) (by decide +kernel), List.mem_of_getElem? (i := 139) (by decide +kernel)⟩
theorem lw_p13 : lw_okq (⟨"SliceChecks", "byteByByte", "(JII)J"⟩, 11) := ⟨⟨by decide +kernel, by decide +kernel⟩, List.mem_of_getElem? (i := 6) (by decide +kernel), List.mem_of_getElem? (i := 142) (by decide +kernel), List.mem_of_getElem? (i := 143) (by decide +kernel)⟩
theorem lw_p14 : lw_okq (⟨"SliceChecks", "eightAtOnce", "(II)J"⟩, 11) := ⟨⟨by decide +kernel, by decide +kernel⟩, List.mem_of_getElem? (i := 6) (by decide +kernel), List.mem_of_getElem? (i := 146) (by decide +kernel), List.mem_of_getElem? (i := 147) (by decide +kernel)⟩
theorem lw_p15 : lw_okq (⟨"SliceChecks", "behindWordByTables", "(JJ)J"⟩, 11) := ⟨⟨by decide +kernel, by decide +kernel⟩, List.mem_of_getElem? (i := 6) (by decide +kernel), List.mem_of_getElem? (i := 150) (by decide +kernel), List.mem_of_getElem? (i := 151) (by decide +kernel)⟩
def lw_privs_1 : List (MethodName × Nat) := [(⟨"SliceChecks", "turnBytesOfRow", "()V"⟩, 11), (⟨"SliceChecks", "lowerBits", "(J)J"⟩, 11), (⟨"SliceChecks", "atTop", "(J)J"⟩, 11), (⟨"SliceChecks", "fromTop", "(J)J"⟩, 11), (⟨"SliceChecks", "fillSlices", "()V"⟩, 11), (⟨"SliceChecks", "behindByte", "(JI)J"⟩, 11), (⟨"SliceChecks", "behindBit", "(JI)J"⟩, 11), (⟨"SliceChecks", "behindByteByTable", "(JI)J"⟩, 11), (⟨"SliceChecks", "asItComes", "(I)J"⟩, 11), (⟨"SliceChecks", "bitsOfRow", "()I"⟩, 11), (⟨"SliceChecks", "bitByBit", "()J"⟩, 11), (⟨"SliceChecks", "byteAt", "(I)I"⟩, 11), (⟨"SliceChecks", "checkOf", "(J)J"⟩, 11), (⟨"SliceChecks", "byteByByte", "(JII)J"⟩, 11), (⟨"SliceChecks", "eightAtOnce", "(II)J"⟩, 11), (⟨"SliceChecks", "behindWordByTables", "(JJ)J"⟩, 11)]
theorem lw_r1 : ∀ q ∈ lw_privs_1, lw_okq q := List.forall_mem_cons.mpr ⟨lw_p0, List.forall_mem_cons.mpr ⟨lw_p1, List.forall_mem_cons.mpr ⟨lw_p2, List.forall_mem_cons.mpr ⟨lw_p3, List.forall_mem_cons.mpr ⟨lw_p4, List.forall_mem_cons.mpr ⟨lw_p5, List.forall_mem_cons.mpr ⟨lw_p6, List.forall_mem_cons.mpr ⟨lw_p7, List.forall_mem_cons.mpr ⟨lw_p8, List.forall_mem_cons.mpr ⟨lw_p9, List.forall_mem_cons.mpr ⟨lw_p10, List.forall_mem_cons.mpr ⟨lw_p11, List.forall_mem_cons.mpr ⟨lw_p12, List.forall_mem_cons.mpr ⟨lw_p13, List.forall_mem_cons.mpr ⟨lw_p14, List.forall_mem_cons.mpr ⟨lw_p15, fun _ h => absurd h List.not_mem_nil⟩⟩⟩⟩⟩⟩⟩⟩⟩⟩⟩⟩⟩⟩⟩⟩
theorem lw_p16 : lw_okq (⟨"SliceChecks", "byDividing", "()J"⟩, 11) := ⟨⟨by decide +kernel, by decide +kernel⟩, List.mem_of_getElem? (i := 6) (by decide +kernel), List.mem_of_getElem? (i := 155) (by decide +kernel), List.mem_of_getElem? (i := 156) (by decide +kernel)⟩
theorem lw_p17 : lw_okq (⟨"SliceChecks", "addPolynomialAt", "(I)V"⟩, 11) := ⟨⟨by decide +kernel, by decide +kernel⟩, List.mem_of_getElem? (i := 6) (by decide +kernel), List.mem_of_getElem? (i := 162) (by decide +kernel), List.mem_of_getElem? (i := 163) (by decide +kernel)⟩
theorem lw_p18 : lw_okq (⟨"SliceChecks", "dividendFrom", "(I)J"⟩, 11) := ⟨⟨by decide +kernel, by decide +kernel⟩, List.mem_of_getElem? (i := 6) (by decide +kernel), List.mem_of_getElem? (i := 166) (by decide +kernel), List.mem_of_getElem? (i := 167) (by decide +kernel)⟩
theorem lw_p19 : lw_okq (⟨"SliceChecks", "registerOf", "(J)J"⟩, 11) := ⟨⟨by decide +kernel, by decide +kernel⟩, List.mem_of_getElem? (i := 6) (by decide +kernel), List.mem_of_getElem? (i := 178) (by decide +kernel), List.mem_of_getElem? (i := 179) (by decide +kernel)⟩
theorem lw_p20 : lw_okq (⟨"SliceChecks", "behindZeros", "(JJ)J"⟩, 11) := ⟨⟨by decide +kernel, by decide +kernel⟩, List.mem_of_getElem? (i := 6) (by decide +kernel), List.mem_of_getElem? (i := 183) (by decide +kernel), List.mem_of_getElem? (i := 184) (by decide +kernel)⟩
theorem lw_p21 : lw_okq (⟨"SliceChecks", "product", "(JJ)J"⟩, 11) := ⟨⟨by decide +kernel, by decide +kernel⟩, List.mem_of_getElem? (i := 6) (by decide +kernel), List.mem_of_getElem? (i := 187) (by decide +kernel), List.mem_of_getElem? (i := 188) (by decide +kernel)⟩
theorem lw_p22 : lw_okq (⟨"SliceChecksModel", "cut", "(J)J"⟩, 8) := ⟨⟨by decide +kernel, by decide +kernel⟩, List.mem_of_getElem? (i := 219) (by decide +kernel), List.mem_of_getElem? (i := 257) (by decide +kernel), List.mem_of_getElem? (i := 258) (by decide +kernel)⟩
theorem lw_p23 : lw_okq (⟨"SliceChecksModel", "over", "(II)J"⟩, 8) := ⟨⟨by decide +kernel, by decide +kernel⟩, List.mem_of_getElem? (i := 219) (by decide +kernel), List.mem_of_getElem? (i := 280) (by decide +kernel), List.mem_of_getElem? (i := 281) (by decide +kernel)⟩
theorem lw_p24 : lw_okq (⟨"SliceChecksModel", "oneByte", "(JI)J"⟩, 8) := ⟨⟨by decide +kernel, by decide +kernel⟩, List.mem_of_getElem? (i := 219) (by decide +kernel), List.mem_of_getElem? (i := 284) (by decide +kernel), List.mem_of_getElem? (i := 285) (by decide +kernel)⟩
theorem lw_p25 : lw_okq (⟨"SliceChecksModel", "bit", "(JI)J"⟩, 8) := ⟨⟨by decide +kernel, by decide +kernel⟩, List.mem_of_getElem? (i := 219) (by decide +kernel), List.mem_of_getElem? (i := 288) (by decide +kernel), List.mem_of_getElem? (i := 289) (by decide +kernel)⟩
theorem lw_p26 : lw_okq (⟨"SliceChecksModel", "told", "(J)J"⟩, 8) := ⟨⟨by decide +kernel, by decide +kernel⟩, List.mem_of_getElem? (i := 219) (by decide +kernel), List.mem_of_getElem? (i := 292) (by decide +kernel), List.mem_of_getElem? (i := 293) (by decide +kernel)⟩
theorem lw_p27 : lw_okq (⟨"SliceChecksModel", "turned", "(J)J"⟩, 8) := ⟨⟨by decide +kernel, by decide +kernel⟩, List.mem_of_getElem? (i := 219) (by decide +kernel), List.mem_of_getElem? (i := 296) (by decide +kernel), List.mem_of_getElem? (i := 297) (by decide +kernel)⟩
theorem lw_p28 : lw_okq (⟨"SliceChecksModel", "register", "(J)J"⟩, 8) := ⟨⟨by decide +kernel, by decide +kernel⟩, List.mem_of_getElem? (i := 219) (by decide +kernel), List.mem_of_getElem? (i := 308) (by decide +kernel), List.mem_of_getElem? (i := 309) (by decide +kernel)⟩
theorem lw_p29 : lw_okq (⟨"SliceChecksModel", "behind", "(JJ)J"⟩, 8) := ⟨⟨by decide +kernel, by decide +kernel⟩, List.mem_of_getElem? (i := 219) (by decide +kernel), List.mem_of_getElem? (i := 313) (by decide +kernel), List.mem_of_getElem? (i := 314) (by decide +kernel)⟩
theorem lw_p30 : lw_okq (⟨"SliceChecksModel", "times", "(JJ)J"⟩, 8) := ⟨⟨by decide +kernel, by decide +kernel⟩, List.mem_of_getElem? (i := 219) (by decide +kernel), List.mem_of_getElem? (i := 318) (by decide +kernel), List.mem_of_getElem? (i := 319) (by decide +kernel)⟩
def lw_privs_2 : List (MethodName × Nat) := [(⟨"SliceChecks", "byDividing", "()J"⟩, 11), (⟨"SliceChecks", "addPolynomialAt", "(I)V"⟩, 11), (⟨"SliceChecks", "dividendFrom", "(I)J"⟩, 11), (⟨"SliceChecks", "registerOf", "(J)J"⟩, 11), (⟨"SliceChecks", "behindZeros", "(JJ)J"⟩, 11), (⟨"SliceChecks", "product", "(JJ)J"⟩, 11), (⟨"SliceChecksModel", "cut", "(J)J"⟩, 8), (⟨"SliceChecksModel", "over", "(II)J"⟩, 8), (⟨"SliceChecksModel", "oneByte", "(JI)J"⟩, 8), (⟨"SliceChecksModel", "bit", "(JI)J"⟩, 8), (⟨"SliceChecksModel", "told", "(J)J"⟩, 8), (⟨"SliceChecksModel", "turned", "(J)J"⟩, 8), (⟨"SliceChecksModel", "register", "(J)J"⟩, 8), (⟨"SliceChecksModel", "behind", "(JJ)J"⟩, 8), (⟨"SliceChecksModel", "times", "(JJ)J"⟩, 8)]
theorem lw_r2 : ∀ q ∈ lw_privs_2, lw_okq q := List.forall_mem_cons.mpr ⟨lw_p16, List.forall_mem_cons.mpr ⟨lw_p17, List.forall_mem_cons.mpr ⟨lw_p18, List.forall_mem_cons.mpr ⟨lw_p19, List.forall_mem_cons.mpr ⟨lw_p20, List.forall_mem_cons.mpr ⟨lw_p21, List.forall_mem_cons.mpr ⟨lw_p22, List.forall_mem_cons.mpr ⟨lw_p23, List.forall_mem_cons.mpr ⟨lw_p24, List.forall_mem_cons.mpr ⟨lw_p25, List.forall_mem_cons.mpr ⟨lw_p26, List.forall_mem_cons.mpr ⟨lw_p27, List.forall_mem_cons.mpr ⟨lw_p28, List.forall_mem_cons.mpr ⟨lw_p29, List.forall_mem_cons.mpr ⟨lw_p30, fun _ h => absurd h List.not_mem_nil⟩⟩⟩⟩⟩⟩⟩⟩⟩⟩⟩⟩⟩⟩⟩
def lw_privs : List (MethodName × Nat) := lw_privs_1 ++ (lw_privs_2)
def lw_tbl : List Cond := k2_sels lw_privs ++ tables_1
theorem lw_privs_ok : ∀ q ∈ lw_privs, lw_okq q := by
  show ∀ q ∈ lw_privs_1 ++ (lw_privs_2), lw_okq q
  exact List.forall_mem_append.mpr ⟨lw_r1, lw_r2⟩

/-! ===== BEGIN words of one list among another's, by their places ===== -/
theorem goodIn_r {big : List Cond} (ws : List Cond) (ps : List Nat) (hp : ws = ps.filterMap (fun i => big[i]?)) (h : ws.all goodWord = true) : GoodIn big ws := by
  intro w hw
  have h1 := List.all_eq_true.mp h w hw
  rw [hp] at hw
  obtain ⟨i, -, hi⟩ := List.mem_filterMap.mp hw
  have hm : w ∈ big := by first | exact List.mem_of_getElem? hi | exact List.getElem?_mem hi
  exact ⟨hm, good_of_word h1⟩
theorem goodIn_app {big a b : List Cond} (ha : GoodIn big a) (hb : GoodIn big b) : GoodIn big (a ++ b) := fun w h => (List.mem_append.mp h).elim (ha w) (hb w)
theorem goodIn_ca {big a b : List Cond} {c : Cond} (ha : GoodIn big (c :: a)) (hb : GoodIn big b) : GoodIn big (c :: (a ++ b)) := fun w h => (List.mem_cons.mp h).elim (fun e => ha w (List.mem_cons.mpr (Or.inl e))) (fun h => (List.mem_append.mp h).elim (fun h => ha w (List.mem_cons.mpr (Or.inr h))) (hb w))
theorem goodIn_sub {big ws : List Cond} (hm : ∀ w ∈ ws, w ∈ big) (h : ws.all goodWord = true) : GoodIn big ws := fun w hw => ⟨hm w hw, good_of_word (List.all_eq_true.mp h w hw)⟩
/-! ===== END ===== -/

/-! ===== BEGIN printed: names, fields, word lists, decode rows ===== -/
def RX0 : String := "SliceChecks"
def TX0 : u_T := fun k => match k with
  | 0 => ("SliceChecks", "row", "[J", true)
  | 1 => ("SliceChecks", "dividend", "[J", true)
  | 2 => ("SliceChecks", "slices", "[J", true)
  | 3 => ("SliceChecks", "bytes", "I", false)
  | 4 => ("SliceChecks", "width", "I", false)
  | 5 => ("SliceChecks", "polynomial", "J", false)
  | 6 => ("SliceChecks", "topPolynomial", "J", false)
  | 7 => ("SliceChecks", "first", "J", false)
  | 8 => ("SliceChecks", "last", "J", false)
  | 9 => ("SliceChecks", "in", "Z", false)
  | _ => ("SliceChecks", "out", "Z", false)
def tyX0 : Nat → FieldType := fun k => match k with
  | 0 => .array .long
  | 1 => .array .long
  | 2 => .array .long
  | 3 => .int
  | 4 => .int
  | 5 => .long
  | 6 => .long
  | 7 => .long
  | 8 => .long
  | 9 => .boolean
  | _ => .boolean
abbrev wsX00 : List Cond := u_ws RX0 TX0 11
theorem nmX0 : ∀ a, a < 11 → ∀ b, b < 11 → a ≠ b → (TX0 a).2.1 ≠ (TX0 b).2.1 := by decide +kernel
theorem tyX0_ok : ∀ k, k < 11 → parseFieldDescriptor (TX0 k).2.2.1 = some (tyX0 k) := by decide +kernel
abbrev cX0_init : ByteArray := prog_1_method_1_code
def yX0_init : MethodName := ⟨RX0, "<init>", "()V"⟩
abbrev cX0_kind : ByteArray := prog_1_method_2_code
def yX0_kind : MethodName := ⟨RX0, "kind", "(IJJZZJ)Z"⟩
abbrev cX0_feed : ByteArray := prog_1_method_3_code
def yX0_feed : MethodName := ⟨RX0, "feed", "(II)Z"⟩
abbrev cX0_clear : ByteArray := prog_1_method_4_code
def yX0_clear : MethodName := ⟨RX0, "clear", "()V"⟩
abbrev cX0_flip : ByteArray := prog_1_method_5_code
def yX0_flip : MethodName := ⟨RX0, "flip", "(I)Z"⟩
abbrev cX0_check : ByteArray := prog_1_method_6_code
def yX0_check : MethodName := ⟨RX0, "check", "(I)J"⟩
abbrev cX0_part : ByteArray := prog_1_method_7_code
def yX0_part : MethodName := ⟨RX0, "part", "(II)J"⟩
abbrev cX0_joined : ByteArray := prog_1_method_8_code
def yX0_joined : MethodName := ⟨RX0, "joined", "(JJI)J"⟩
abbrev cX0_entry : ByteArray := prog_1_method_9_code
def yX0_entry : MethodName := ⟨RX0, "entry", "(II)J"⟩
abbrev cX0_zeros : ByteArray := prog_1_method_10_code
def yX0_zeros : MethodName := ⟨RX0, "zeros", "(JI)J"⟩
abbrev cX0_round : ByteArray := prog_1_method_11_code
def yX0_round : MethodName := ⟨RX0, "round", "()I"⟩
abbrev cX0_holds : ByteArray := prog_1_method_12_code
def yX0_holds : MethodName := ⟨RX0, "holds", "()Z"⟩
abbrev cX0_count : ByteArray := prog_1_method_13_code
def yX0_count : MethodName := ⟨RX0, "count", "(I)I"⟩
abbrev cX0_told : ByteArray := prog_1_method_14_code
def yX0_told : MethodName := ⟨RX0, "told", "(I)J"⟩
abbrev cX0_atTop : ByteArray := prog_1_method_15_code
def yX0_atTop : MethodName := ⟨RX0, "atTop", "(J)J"⟩
abbrev cX0_fromTop : ByteArray := prog_1_method_16_code
def yX0_fromTop : MethodName := ⟨RX0, "fromTop", "(J)J"⟩
abbrev cX0_lowerBits : ByteArray := prog_1_method_17_code
def yX0_lowerBits : MethodName := ⟨RX0, "lowerBits", "(J)J"⟩
abbrev cX0_checkOf : ByteArray := prog_1_method_18_code
def yX0_checkOf : MethodName := ⟨RX0, "checkOf", "(J)J"⟩
abbrev cX0_registerOf : ByteArray := prog_1_method_19_code
def yX0_registerOf : MethodName := ⟨RX0, "registerOf", "(J)J"⟩
abbrev cX0_turned : ByteArray := prog_1_method_20_code
def yX0_turned : MethodName := ⟨RX0, "turned", "(JI)J"⟩
abbrev cX0_behindBit : ByteArray := prog_1_method_21_code
def yX0_behindBit : MethodName := ⟨RX0, "behindBit", "(JI)J"⟩
abbrev cX0_behindByte : ByteArray := prog_1_method_22_code
def yX0_behindByte : MethodName := ⟨RX0, "behindByte", "(JI)J"⟩
abbrev cX0_behindByteByTable : ByteArray := prog_1_method_23_code
def yX0_behindByteByTable : MethodName := ⟨RX0, "behindByteByTable", "(JI)J"⟩
abbrev cX0_behindWordByTables : ByteArray := prog_1_method_24_code
def yX0_behindWordByTables : MethodName := ⟨RX0, "behindWordByTables", "(JJ)J"⟩
abbrev cX0_fillSlices : ByteArray := prog_1_method_25_code
def yX0_fillSlices : MethodName := ⟨RX0, "fillSlices", "()V"⟩
abbrev cX0_behindZeros : ByteArray := prog_1_method_26_code
def yX0_behindZeros : MethodName := ⟨RX0, "behindZeros", "(JJ)J"⟩
abbrev cX0_product : ByteArray := prog_1_method_27_code
def yX0_product : MethodName := ⟨RX0, "product", "(JJ)J"⟩
abbrev cX0_isByte : ByteArray := prog_1_method_28_code
def yX0_isByte : MethodName := ⟨RX0, "isByte", "(I)Z"⟩
abbrev cX0_asItComes : ByteArray := prog_1_method_29_code
def yX0_asItComes : MethodName := ⟨RX0, "asItComes", "(I)J"⟩
abbrev cX0_bitsOfRow : ByteArray := prog_1_method_30_code
def yX0_bitsOfRow : MethodName := ⟨RX0, "bitsOfRow", "()I"⟩
abbrev cX0_shiftOfByte : ByteArray := prog_1_method_31_code
def yX0_shiftOfByte : MethodName := ⟨RX0, "shiftOfByte", "(I)I"⟩
abbrev cX0_byteAt : ByteArray := prog_1_method_32_code
def yX0_byteAt : MethodName := ⟨RX0, "byteAt", "(I)I"⟩
abbrev cX0_turnBytesOfRow : ByteArray := prog_1_method_33_code
def yX0_turnBytesOfRow : MethodName := ⟨RX0, "turnBytesOfRow", "()V"⟩
abbrev cX0_bytesTurned : ByteArray := prog_1_method_34_code
def yX0_bytesTurned : MethodName := ⟨RX0, "bytesTurned", "(J)J"⟩
abbrev cX0_bitByBit : ByteArray := prog_1_method_35_code
def yX0_bitByBit : MethodName := ⟨RX0, "bitByBit", "()J"⟩
abbrev cX0_byteByByte : ByteArray := prog_1_method_36_code
def yX0_byteByByte : MethodName := ⟨RX0, "byteByByte", "(JII)J"⟩
abbrev cX0_eightAtOnce : ByteArray := prog_1_method_37_code
def yX0_eightAtOnce : MethodName := ⟨RX0, "eightAtOnce", "(II)J"⟩
abbrev cX0_byDividing : ByteArray := prog_1_method_38_code
def yX0_byDividing : MethodName := ⟨RX0, "byDividing", "()J"⟩
abbrev cX0_addPolynomialAt : ByteArray := prog_1_method_39_code
def yX0_addPolynomialAt : MethodName := ⟨RX0, "addPolynomialAt", "(I)V"⟩
abbrev cX0_dividendFrom : ByteArray := prog_1_method_40_code
def yX0_dividendFrom : MethodName := ⟨RX0, "dividendFrom", "(I)J"⟩
def RX1 : String := "SliceChecksModel"
def TX1 : u_T := fun k => match k with
  | 0 => ("SliceChecksModel", "width", "I", false)
  | 1 => ("SliceChecksModel", "polynomial", "J", false)
  | 2 => ("SliceChecksModel", "first", "J", false)
  | 3 => ("SliceChecksModel", "last", "J", false)
  | 4 => ("SliceChecksModel", "in", "Z", false)
  | 5 => ("SliceChecksModel", "out", "Z", false)
  | 6 => ("SliceChecksModel", "bytes", "[I", true)
  | _ => ("SliceChecksModel", "count", "I", false)
def tyX1 : Nat → FieldType := fun k => match k with
  | 0 => .int
  | 1 => .long
  | 2 => .long
  | 3 => .long
  | 4 => .boolean
  | 5 => .boolean
  | 6 => .array .int
  | _ => .int
abbrev wsX10 : List Cond := u_ws RX1 TX1 8
theorem nmX1 : ∀ a, a < 8 → ∀ b, b < 8 → a ≠ b → (TX1 a).2.1 ≠ (TX1 b).2.1 := by decide +kernel
theorem tyX1_ok : ∀ k, k < 8 → parseFieldDescriptor (TX1 k).2.2.1 = some (tyX1 k) := by decide +kernel
abbrev cX1_init : ByteArray := prog_3_method_1_code
def yX1_init : MethodName := ⟨RX1, "<init>", "()V"⟩
abbrev cX1_low : ByteArray := prog_3_method_2_code
def yX1_low : MethodName := ⟨RX1, "low", "(JI)J"⟩
abbrev cX1_cut : ByteArray := prog_3_method_3_code
def yX1_cut : MethodName := ⟨RX1, "cut", "(J)J"⟩
abbrev cX1_kind : ByteArray := prog_3_method_4_code
def yX1_kind : MethodName := ⟨RX1, "kind", "(IJJZZJ)Z"⟩
abbrev cX1_feed : ByteArray := prog_3_method_5_code
def yX1_feed : MethodName := ⟨RX1, "feed", "(II)Z"⟩
abbrev cX1_clear : ByteArray := prog_3_method_6_code
def yX1_clear : MethodName := ⟨RX1, "clear", "()V"⟩
abbrev cX1_flip : ByteArray := prog_3_method_7_code
def yX1_flip : MethodName := ⟨RX1, "flip", "(I)Z"⟩
abbrev cX1_bit : ByteArray := prog_3_method_8_code
def yX1_bit : MethodName := ⟨RX1, "bit", "(JI)J"⟩
abbrev cX1_oneByte : ByteArray := prog_3_method_9_code
def yX1_oneByte : MethodName := ⟨RX1, "oneByte", "(JI)J"⟩
abbrev cX1_turned : ByteArray := prog_3_method_10_code
def yX1_turned : MethodName := ⟨RX1, "turned", "(J)J"⟩
abbrev cX1_told : ByteArray := prog_3_method_11_code
def yX1_told : MethodName := ⟨RX1, "told", "(J)J"⟩
abbrev cX1_register : ByteArray := prog_3_method_12_code
def yX1_register : MethodName := ⟨RX1, "register", "(J)J"⟩
abbrev cX1_over : ByteArray := prog_3_method_13_code
def yX1_over : MethodName := ⟨RX1, "over", "(II)J"⟩
abbrev cX1_check : ByteArray := prog_3_method_14_code
def yX1_check : MethodName := ⟨RX1, "check", "(I)J"⟩
abbrev cX1_part : ByteArray := prog_3_method_15_code
def yX1_part : MethodName := ⟨RX1, "part", "(II)J"⟩
abbrev cX1_times : ByteArray := prog_3_method_16_code
def yX1_times : MethodName := ⟨RX1, "times", "(JJ)J"⟩
abbrev cX1_behind : ByteArray := prog_3_method_17_code
def yX1_behind : MethodName := ⟨RX1, "behind", "(JJ)J"⟩
abbrev cX1_joined : ByteArray := prog_3_method_18_code
def yX1_joined : MethodName := ⟨RX1, "joined", "(JJI)J"⟩
abbrev cX1_entry : ByteArray := prog_3_method_19_code
def yX1_entry : MethodName := ⟨RX1, "entry", "(II)J"⟩
abbrev cX1_zeros : ByteArray := prog_3_method_20_code
def yX1_zeros : MethodName := ⟨RX1, "zeros", "(JI)J"⟩
abbrev cX1_round : ByteArray := prog_3_method_21_code
def yX1_round : MethodName := ⟨RX1, "round", "()I"⟩
abbrev cX1_holds : ByteArray := prog_3_method_22_code
def yX1_holds : MethodName := ⟨RX1, "holds", "()Z"⟩
abbrev cX1_count : ByteArray := prog_3_method_23_code
def yX1_count : MethodName := ⟨RX1, "count", "(I)I"⟩
abbrev cX1_told_ : ByteArray := prog_3_method_24_code
def yX1_told_ : MethodName := ⟨RX1, "told", "(I)J"⟩
def RJ10 : String := "java/lang/System"
def TJ10 : u_T := fun k => match k with
  | _ => ("", "", "", false)
def tyJ10 : Nat → FieldType := fun k => match k with
  | _ => .int
abbrev wsJ100 : List Cond := u_ws RJ10 TJ10 0
theorem nmJ10 : ∀ a, a < 0 → ∀ b, b < 0 → a ≠ b → (TJ10 a).2.1 ≠ (TJ10 b).2.1 := by decide +kernel
theorem tyJ10_ok : ∀ k, k < 0 → parseFieldDescriptor (TJ10 k).2.2.1 = some (tyJ10 k) := by decide +kernel
def RJ7 : String := "java/util/Arrays"
def TJ7 : u_T := fun k => match k with
  | _ => ("", "", "", false)
def tyJ7 : Nat → FieldType := fun k => match k with
  | _ => .int
abbrev wsJ70 : List Cond := u_ws RJ7 TJ7 0
theorem nmJ7 : ∀ a, a < 0 → ∀ b, b < 0 → a ≠ b → (TJ7 a).2.1 ≠ (TJ7 b).2.1 := by decide +kernel
theorem tyJ7_ok : ∀ k, k < 0 → parseFieldDescriptor (TJ7 k).2.2.1 = some (tyJ7 k) := by decide +kernel
abbrev cJ7_fill_d0a16 : ByteArray := prog_5_method_101_code
def yJ7_fill_d0a16 : MethodName := ⟨RJ7, "fill", "([JJ)V"⟩
def RL : String := "SliceChecksLaw"
abbrev cL_law : ByteArray := code
def yL_law : MethodName := ⟨RL, "law", "([I)Z"⟩
def wsX0_bytesTurned : List Cond := .code yX0_bytesTurned cX0_bytesTurned 6 (some .long) :: ([.constantLong RX0 151 (1085102592571150095), .constantLong RX0 153 (3689348814741910323), .constantLong RX0 155 (6148914691236517205)])
def wsX0_turnBytesOfRow : List Cond := .code yX0_turnBytesOfRow cX0_turnBytesOfRow 3 none :: ([.fieldLink RX0 68 "SliceChecks" "bytes" "I", .fieldLink RX0 9 "SliceChecks" "row" "[J", .methodLink RX0 148 yX0_bytesTurned, .static yX0_bytesTurned, .initialized RX0, .code yX0_bytesTurned cX0_bytesTurned 6 (some .long), .constantLong RX0 151 (1085102592571150095), .constantLong RX0 153 (3689348814741910323), .constantLong RX0 155 (6148914691236517205)] ++ wsX00)
def wsX0_atTop : List Cond := .code yX0_atTop cX0_atTop 3 (some .long) :: ([.fieldLink RX0 34 "SliceChecks" "width" "I"] ++ wsX00)
def wsX0_fromTop : List Cond := .code yX0_fromTop cX0_fromTop 3 (some .long) :: ([.fieldLink RX0 34 "SliceChecks" "width" "I"] ++ wsX00)
def wsX0_lowerBits : List Cond := .code yX0_lowerBits cX0_lowerBits 3 (some .long) :: ([.methodLink RX0 46 yX0_atTop, .instanceMethod yX0_atTop, .selects RX0 yX0_atTop yX0_atTop, .initialized RX0, .code yX0_atTop cX0_atTop 3 (some .long), .fieldLink RX0 34 "SliceChecks" "width" "I", .methodLink RX0 116 yX0_fromTop, .instanceMethod yX0_fromTop, .selects RX0 yX0_fromTop yX0_fromTop, .code yX0_fromTop cX0_fromTop 3 (some .long)] ++ wsX00)
def wsX0_behindBit : List Cond := .code yX0_behindBit cX0_behindBit 6 (some .long) :: ([.fieldLink RX0 49 "SliceChecks" "topPolynomial" "J"] ++ wsX00)
def wsX0_behindByte : List Cond := .code yX0_behindByte cX0_behindByte 7 (some .long) :: ([.methodLink RX0 120 yX0_behindBit, .instanceMethod yX0_behindBit, .selects RX0 yX0_behindBit yX0_behindBit, .initialized RX0, .code yX0_behindBit cX0_behindBit 6 (some .long), .fieldLink RX0 49 "SliceChecks" "topPolynomial" "J"] ++ wsX00)
def wsX0_behindByteByTable : List Cond := .code yX0_behindByteByTable cX0_behindByteByTable 4 (some .long) :: ([.fieldLink RX0 16 "SliceChecks" "slices" "[J"] ++ wsX00)
def wsX0_fillSlices : List Cond := .code yX0_fillSlices cX0_fillSlices 2 none :: ([.fieldLink RX0 16 "SliceChecks" "slices" "[J", .methodLink RX0 139 yX0_behindByte, .instanceMethod yX0_behindByte, .selects RX0 yX0_behindByte yX0_behindByte, .initialized RX0, .code yX0_behindByte cX0_behindByte 7 (some .long), .methodLink RX0 120 yX0_behindBit, .instanceMethod yX0_behindBit, .selects RX0 yX0_behindBit yX0_behindBit, .code yX0_behindBit cX0_behindBit 6 (some .long), .fieldLink RX0 49 "SliceChecks" "topPolynomial" "J", .methodLink RX0 142 yX0_behindByteByTable, .instanceMethod yX0_behindByteByTable, .selects RX0 yX0_behindByteByTable yX0_behindByteByTable, .code yX0_behindByteByTable cX0_behindByteByTable 4 (some .long)] ++ wsX00)
def wsX0_kind_r1 : List Cond := [Cond.fieldLink RX0 27 "SliceChecks" "in" "Z", Cond.fieldLink RX0 34 "SliceChecks" "width" "I", Cond.fieldLink RX0 42 "SliceChecks" "polynomial" "J", Cond.fieldLink RX0 49 "SliceChecks" "topPolynomial" "J", Cond.fieldLink RX0 52 "SliceChecks" "first" "J", Cond.fieldLink RX0 55 "SliceChecks" "out" "Z", Cond.fieldLink RX0 58 "SliceChecks" "last" "J", Cond.methodLink RX0 31 yX0_turnBytesOfRow, Cond.instanceMethod yX0_turnBytesOfRow, Cond.selects RX0 yX0_turnBytesOfRow yX0_turnBytesOfRow, Cond.initialized RX0, Cond.code yX0_turnBytesOfRow cX0_turnBytesOfRow 3 none, Cond.fieldLink RX0 68 "SliceChecks" "bytes" "I", Cond.fieldLink RX0 9 "SliceChecks" "row" "[J", Cond.methodLink RX0 148 yX0_bytesTurned, Cond.static yX0_bytesTurned, Cond.code yX0_bytesTurned cX0_bytesTurned 6 (some .long), Cond.constantLong RX0 151 (1085102592571150095), Cond.constantLong RX0 153 (3689348814741910323), Cond.constantLong RX0 155 (6148914691236517205), Cond.methodLink RX0 38 yX0_lowerBits, Cond.instanceMethod yX0_lowerBits, Cond.selects RX0 yX0_lowerBits yX0_lowerBits, Cond.code yX0_lowerBits cX0_lowerBits 3 (some .long)]
def wsX0_kind_r2 : List Cond := [Cond.methodLink RX0 46 yX0_atTop, Cond.instanceMethod yX0_atTop, Cond.selects RX0 yX0_atTop yX0_atTop, Cond.code yX0_atTop cX0_atTop 3 (some .long), Cond.methodLink RX0 116 yX0_fromTop, Cond.instanceMethod yX0_fromTop, Cond.selects RX0 yX0_fromTop yX0_fromTop, Cond.code yX0_fromTop cX0_fromTop 3 (some .long), Cond.methodLink RX0 61 yX0_fillSlices, Cond.instanceMethod yX0_fillSlices, Cond.selects RX0 yX0_fillSlices yX0_fillSlices, Cond.code yX0_fillSlices cX0_fillSlices 2 none, Cond.fieldLink RX0 16 "SliceChecks" "slices" "[J", Cond.methodLink RX0 139 yX0_behindByte, Cond.instanceMethod yX0_behindByte, Cond.selects RX0 yX0_behindByte yX0_behindByte, Cond.code yX0_behindByte cX0_behindByte 7 (some .long), Cond.methodLink RX0 120 yX0_behindBit, Cond.instanceMethod yX0_behindBit, Cond.selects RX0 yX0_behindBit yX0_behindBit, Cond.code yX0_behindBit cX0_behindBit 6 (some .long), Cond.methodLink RX0 142 yX0_behindByteByTable, Cond.instanceMethod yX0_behindByteByTable, Cond.selects RX0 yX0_behindByteByTable yX0_behindByteByTable]
def wsX0_kind_r3 : List Cond := [Cond.code yX0_behindByteByTable cX0_behindByteByTable 4 (some .long)]
def wsX0_kind : List Cond := .code yX0_kind cX0_kind 10 (some .boolean) :: ((wsX0_kind_r1 ++ (wsX0_kind_r2 ++ wsX0_kind_r3)) ++ wsX00)
def wsX0_init_r1 : List Cond := [Cond.methodLink RX0 3 objectInit, Cond.instanceMethod objectInit, Cond.code objectInit ⟨#[0xb1]⟩ 1 none, Cond.arrayClass .long, Cond.fieldLink RX0 9 "SliceChecks" "row" "[J", Cond.fieldLink RX0 13 "SliceChecks" "dividend" "[J", Cond.fieldLink RX0 16 "SliceChecks" "slices" "[J", Cond.constantLong RX0 19 (79764919), Cond.constantLong RX0 21 (-1), Cond.methodLink RX0 23 yX0_kind, Cond.instanceMethod yX0_kind, Cond.selects RX0 yX0_kind yX0_kind, Cond.initialized RX0, Cond.code yX0_kind cX0_kind 10 (some .boolean), Cond.fieldLink RX0 27 "SliceChecks" "in" "Z", Cond.fieldLink RX0 34 "SliceChecks" "width" "I", Cond.fieldLink RX0 42 "SliceChecks" "polynomial" "J", Cond.fieldLink RX0 49 "SliceChecks" "topPolynomial" "J", Cond.fieldLink RX0 52 "SliceChecks" "first" "J", Cond.fieldLink RX0 55 "SliceChecks" "out" "Z", Cond.fieldLink RX0 58 "SliceChecks" "last" "J", Cond.methodLink RX0 31 yX0_turnBytesOfRow, Cond.instanceMethod yX0_turnBytesOfRow, Cond.selects RX0 yX0_turnBytesOfRow yX0_turnBytesOfRow]
def wsX0_init_r2 : List Cond := [Cond.code yX0_turnBytesOfRow cX0_turnBytesOfRow 3 none, Cond.fieldLink RX0 68 "SliceChecks" "bytes" "I", Cond.methodLink RX0 148 yX0_bytesTurned, Cond.static yX0_bytesTurned, Cond.code yX0_bytesTurned cX0_bytesTurned 6 (some .long), Cond.constantLong RX0 151 (1085102592571150095), Cond.constantLong RX0 153 (3689348814741910323), Cond.constantLong RX0 155 (6148914691236517205), Cond.methodLink RX0 38 yX0_lowerBits, Cond.instanceMethod yX0_lowerBits, Cond.selects RX0 yX0_lowerBits yX0_lowerBits, Cond.code yX0_lowerBits cX0_lowerBits 3 (some .long), Cond.methodLink RX0 46 yX0_atTop, Cond.instanceMethod yX0_atTop, Cond.selects RX0 yX0_atTop yX0_atTop, Cond.code yX0_atTop cX0_atTop 3 (some .long), Cond.methodLink RX0 116 yX0_fromTop, Cond.instanceMethod yX0_fromTop, Cond.selects RX0 yX0_fromTop yX0_fromTop, Cond.code yX0_fromTop cX0_fromTop 3 (some .long), Cond.methodLink RX0 61 yX0_fillSlices, Cond.instanceMethod yX0_fillSlices, Cond.selects RX0 yX0_fillSlices yX0_fillSlices, Cond.code yX0_fillSlices cX0_fillSlices 2 none]
def wsX0_init_r3 : List Cond := [Cond.methodLink RX0 139 yX0_behindByte, Cond.instanceMethod yX0_behindByte, Cond.selects RX0 yX0_behindByte yX0_behindByte, Cond.code yX0_behindByte cX0_behindByte 7 (some .long), Cond.methodLink RX0 120 yX0_behindBit, Cond.instanceMethod yX0_behindBit, Cond.selects RX0 yX0_behindBit yX0_behindBit, Cond.code yX0_behindBit cX0_behindBit 6 (some .long), Cond.methodLink RX0 142 yX0_behindByteByTable, Cond.instanceMethod yX0_behindByteByTable, Cond.selects RX0 yX0_behindByteByTable yX0_behindByteByTable, Cond.code yX0_behindByteByTable cX0_behindByteByTable 4 (some .long)]
def wsX0_init : List Cond := .code yX0_init cX0_init 1 none :: ((wsX0_init_r1 ++ (wsX0_init_r2 ++ wsX0_init_r3)) ++ wsX00)
def wsX0_isByte : List Cond := .code yX0_isByte cX0_isByte 1 (some .boolean) :: ([])
def wsX0_turned : List Cond := .code yX0_turned cX0_turned 6 (some .long) :: ([])
def wsX0_asItComes : List Cond := .code yX0_asItComes cX0_asItComes 2 (some .long) :: ([.fieldLink RX0 27 "SliceChecks" "in" "Z", .methodLink RX0 134 yX0_turned, .static yX0_turned, .initialized RX0, .code yX0_turned cX0_turned 6 (some .long)] ++ wsX00)
def wsX0_shiftOfByte : List Cond := .code yX0_shiftOfByte cX0_shiftOfByte 1 (some .int) :: ([])
def wsX0_feed : List Cond := .code yX0_feed cX0_feed 6 (some .boolean) :: ([.fieldLink RX0 68 "SliceChecks" "bytes" "I", .fieldLink RX0 9 "SliceChecks" "row" "[J", .methodLink RX0 64 yX0_isByte, .static yX0_isByte, .initialized RX0, .code yX0_isByte cX0_isByte 1 (some .boolean), .methodLink RX0 71 yX0_asItComes, .instanceMethod yX0_asItComes, .selects RX0 yX0_asItComes yX0_asItComes, .code yX0_asItComes cX0_asItComes 2 (some .long), .fieldLink RX0 27 "SliceChecks" "in" "Z", .methodLink RX0 134 yX0_turned, .static yX0_turned, .code yX0_turned cX0_turned 6 (some .long), .methodLink RX0 75 yX0_shiftOfByte, .static yX0_shiftOfByte, .code yX0_shiftOfByte cX0_shiftOfByte 1 (some .int)] ++ wsX00)
def wsJ7_fill_d0a16 : List Cond := .code yJ7_fill_d0a16 cJ7_fill_d0a16 5 none :: ([])
def wsX0_clear : List Cond := .code yX0_clear cX0_clear 1 none :: ([.fieldLink RX0 9 "SliceChecks" "row" "[J", .fieldLink RX0 68 "SliceChecks" "bytes" "I", .methodLink RX0 79 yJ7_fill_d0a16, .static yJ7_fill_d0a16, .initialized RJ7, .code yJ7_fill_d0a16 cJ7_fill_d0a16 5 none] ++ wsX00)
def wsX0_bitsOfRow : List Cond := .code yX0_bitsOfRow cX0_bitsOfRow 1 (some .int) :: ([.fieldLink RX0 68 "SliceChecks" "bytes" "I"] ++ wsX00)
def wsX0_flip : List Cond := .code yX0_flip cX0_flip 2 (some .boolean) :: ([.fieldLink RX0 9 "SliceChecks" "row" "[J", .methodLink RX0 85 yX0_bitsOfRow, .instanceMethod yX0_bitsOfRow, .selects RX0 yX0_bitsOfRow yX0_bitsOfRow, .initialized RX0, .code yX0_bitsOfRow cX0_bitsOfRow 1 (some .int), .fieldLink RX0 68 "SliceChecks" "bytes" "I"] ++ wsX00)
def wsX0_byteAt : List Cond := .code yX0_byteAt cX0_byteAt 2 (some .int) :: ([.fieldLink RX0 9 "SliceChecks" "row" "[J", .methodLink RX0 75 yX0_shiftOfByte, .static yX0_shiftOfByte, .initialized RX0, .code yX0_shiftOfByte cX0_shiftOfByte 1 (some .int)] ++ wsX00)
def wsX0_bitByBit_r1 : List Cond := [Cond.fieldLink RX0 52 "SliceChecks" "first" "J", Cond.fieldLink RX0 68 "SliceChecks" "bytes" "I", Cond.methodLink RX0 46 yX0_atTop, Cond.instanceMethod yX0_atTop, Cond.selects RX0 yX0_atTop yX0_atTop, Cond.initialized RX0, Cond.code yX0_atTop cX0_atTop 3 (some .long), Cond.fieldLink RX0 34 "SliceChecks" "width" "I", Cond.methodLink RX0 157 yX0_byteAt, Cond.instanceMethod yX0_byteAt, Cond.selects RX0 yX0_byteAt yX0_byteAt, Cond.code yX0_byteAt cX0_byteAt 2 (some .int), Cond.fieldLink RX0 9 "SliceChecks" "row" "[J", Cond.methodLink RX0 75 yX0_shiftOfByte, Cond.static yX0_shiftOfByte, Cond.code yX0_shiftOfByte cX0_shiftOfByte 1 (some .int), Cond.methodLink RX0 139 yX0_behindByte, Cond.instanceMethod yX0_behindByte, Cond.selects RX0 yX0_behindByte yX0_behindByte, Cond.code yX0_behindByte cX0_behindByte 7 (some .long), Cond.methodLink RX0 120 yX0_behindBit, Cond.instanceMethod yX0_behindBit, Cond.selects RX0 yX0_behindBit yX0_behindBit, Cond.code yX0_behindBit cX0_behindBit 6 (some .long)]
def wsX0_bitByBit_r2 : List Cond := [Cond.fieldLink RX0 49 "SliceChecks" "topPolynomial" "J"]
def wsX0_bitByBit : List Cond := .code yX0_bitByBit cX0_bitByBit 4 (some .long) :: ((wsX0_bitByBit_r1 ++ wsX0_bitByBit_r2) ++ wsX00)
def wsX0_checkOf : List Cond := .code yX0_checkOf cX0_checkOf 5 (some .long) :: ([.fieldLink RX0 55 "SliceChecks" "out" "Z", .fieldLink RX0 34 "SliceChecks" "width" "I", .fieldLink RX0 58 "SliceChecks" "last" "J", .methodLink RX0 116 yX0_fromTop, .instanceMethod yX0_fromTop, .selects RX0 yX0_fromTop yX0_fromTop, .initialized RX0, .code yX0_fromTop cX0_fromTop 3 (some .long), .methodLink RX0 134 yX0_turned, .static yX0_turned, .code yX0_turned cX0_turned 6 (some .long)] ++ wsX00)
def wsX0_byteByByte : List Cond := .code yX0_byteByByte cX0_byteByByte 8 (some .long) :: ([.methodLink RX0 157 yX0_byteAt, .instanceMethod yX0_byteAt, .selects RX0 yX0_byteAt yX0_byteAt, .initialized RX0, .code yX0_byteAt cX0_byteAt 2 (some .int), .fieldLink RX0 9 "SliceChecks" "row" "[J", .methodLink RX0 75 yX0_shiftOfByte, .static yX0_shiftOfByte, .code yX0_shiftOfByte cX0_shiftOfByte 1 (some .int), .methodLink RX0 142 yX0_behindByteByTable, .instanceMethod yX0_behindByteByTable, .selects RX0 yX0_behindByteByTable yX0_behindByteByTable, .code yX0_behindByteByTable cX0_behindByteByTable 4 (some .long), .fieldLink RX0 16 "SliceChecks" "slices" "[J"] ++ wsX00)
def wsX0_behindWordByTables : List Cond := .code yX0_behindWordByTables cX0_behindWordByTables 10 (some .long) :: ([.fieldLink RX0 16 "SliceChecks" "slices" "[J", .constantLong RX0 137 (255)] ++ wsX00)
def wsX0_eightAtOnce_r1 : List Cond := [Cond.fieldLink RX0 52 "SliceChecks" "first" "J", Cond.fieldLink RX0 9 "SliceChecks" "row" "[J", Cond.methodLink RX0 46 yX0_atTop, Cond.instanceMethod yX0_atTop, Cond.selects RX0 yX0_atTop yX0_atTop, Cond.initialized RX0, Cond.code yX0_atTop cX0_atTop 3 (some .long), Cond.fieldLink RX0 34 "SliceChecks" "width" "I", Cond.methodLink RX0 96 yX0_byteByByte, Cond.instanceMethod yX0_byteByByte, Cond.selects RX0 yX0_byteByByte yX0_byteByByte, Cond.code yX0_byteByByte cX0_byteByByte 8 (some .long), Cond.methodLink RX0 157 yX0_byteAt, Cond.instanceMethod yX0_byteAt, Cond.selects RX0 yX0_byteAt yX0_byteAt, Cond.code yX0_byteAt cX0_byteAt 2 (some .int), Cond.methodLink RX0 75 yX0_shiftOfByte, Cond.static yX0_shiftOfByte, Cond.code yX0_shiftOfByte cX0_shiftOfByte 1 (some .int), Cond.methodLink RX0 142 yX0_behindByteByTable, Cond.instanceMethod yX0_behindByteByTable, Cond.selects RX0 yX0_behindByteByTable yX0_behindByteByTable, Cond.code yX0_behindByteByTable cX0_behindByteByTable 4 (some .long), Cond.fieldLink RX0 16 "SliceChecks" "slices" "[J"]
def wsX0_eightAtOnce_r2 : List Cond := [Cond.methodLink RX0 160 yX0_behindWordByTables, Cond.instanceMethod yX0_behindWordByTables, Cond.selects RX0 yX0_behindWordByTables yX0_behindWordByTables, Cond.code yX0_behindWordByTables cX0_behindWordByTables 10 (some .long), Cond.constantLong RX0 137 (255)]
def wsX0_eightAtOnce : List Cond := .code yX0_eightAtOnce cX0_eightAtOnce 8 (some .long) :: ((wsX0_eightAtOnce_r1 ++ wsX0_eightAtOnce_r2) ++ wsX00)
def wsX0_addPolynomialAt : List Cond := .code yX0_addPolynomialAt cX0_addPolynomialAt 4 none :: ([.fieldLink RX0 13 "SliceChecks" "dividend" "[J", .fieldLink RX0 49 "SliceChecks" "topPolynomial" "J"] ++ wsX00)
def wsX0_dividendFrom : List Cond := .code yX0_dividendFrom cX0_dividendFrom 4 (some .long) :: ([.fieldLink RX0 13 "SliceChecks" "dividend" "[J"] ++ wsX00)
def wsX0_byDividing_r1 : List Cond := [Cond.fieldLink RX0 9 "SliceChecks" "row" "[J", Cond.fieldLink RX0 13 "SliceChecks" "dividend" "[J", Cond.methodLink RX0 163 arraycopyName, Cond.native arraycopyName, Cond.static arraycopyName, Cond.initialized "java/lang/System", Cond.fieldLink RX0 52 "SliceChecks" "first" "J", Cond.methodLink RX0 46 yX0_atTop, Cond.instanceMethod yX0_atTop, Cond.selects RX0 yX0_atTop yX0_atTop, Cond.initialized RX0, Cond.code yX0_atTop cX0_atTop 3 (some .long), Cond.fieldLink RX0 34 "SliceChecks" "width" "I", Cond.methodLink RX0 85 yX0_bitsOfRow, Cond.instanceMethod yX0_bitsOfRow, Cond.selects RX0 yX0_bitsOfRow yX0_bitsOfRow, Cond.code yX0_bitsOfRow cX0_bitsOfRow 1 (some .int), Cond.fieldLink RX0 68 "SliceChecks" "bytes" "I", Cond.methodLink RX0 169 yX0_addPolynomialAt, Cond.instanceMethod yX0_addPolynomialAt, Cond.selects RX0 yX0_addPolynomialAt yX0_addPolynomialAt, Cond.code yX0_addPolynomialAt cX0_addPolynomialAt 4 none, Cond.fieldLink RX0 49 "SliceChecks" "topPolynomial" "J", Cond.methodLink RX0 173 yX0_dividendFrom]
def wsX0_byDividing_r2 : List Cond := [Cond.instanceMethod yX0_dividendFrom, Cond.selects RX0 yX0_dividendFrom yX0_dividendFrom, Cond.code yX0_dividendFrom cX0_dividendFrom 4 (some .long)]
def wsX0_byDividing : List Cond := .code yX0_byDividing cX0_byDividing 3 (some .long) :: ((wsX0_byDividing_r1 ++ wsX0_byDividing_r2) ++ wsX00)
def wsX0_check_r1 : List Cond := [Cond.fieldLink RX0 52 "SliceChecks" "first" "J", Cond.fieldLink RX0 68 "SliceChecks" "bytes" "I", Cond.methodLink RX0 89 yX0_bitByBit, Cond.instanceMethod yX0_bitByBit, Cond.selects RX0 yX0_bitByBit yX0_bitByBit, Cond.initialized RX0, Cond.code yX0_bitByBit cX0_bitByBit 4 (some .long), Cond.methodLink RX0 46 yX0_atTop, Cond.instanceMethod yX0_atTop, Cond.selects RX0 yX0_atTop yX0_atTop, Cond.code yX0_atTop cX0_atTop 3 (some .long), Cond.fieldLink RX0 34 "SliceChecks" "width" "I", Cond.methodLink RX0 157 yX0_byteAt, Cond.instanceMethod yX0_byteAt, Cond.selects RX0 yX0_byteAt yX0_byteAt, Cond.code yX0_byteAt cX0_byteAt 2 (some .int), Cond.fieldLink RX0 9 "SliceChecks" "row" "[J", Cond.methodLink RX0 75 yX0_shiftOfByte, Cond.static yX0_shiftOfByte, Cond.code yX0_shiftOfByte cX0_shiftOfByte 1 (some .int), Cond.methodLink RX0 139 yX0_behindByte, Cond.instanceMethod yX0_behindByte, Cond.selects RX0 yX0_behindByte yX0_behindByte, Cond.code yX0_behindByte cX0_behindByte 7 (some .long)]
def wsX0_check_r2 : List Cond := [Cond.methodLink RX0 120 yX0_behindBit, Cond.instanceMethod yX0_behindBit, Cond.selects RX0 yX0_behindBit yX0_behindBit, Cond.code yX0_behindBit cX0_behindBit 6 (some .long), Cond.fieldLink RX0 49 "SliceChecks" "topPolynomial" "J", Cond.methodLink RX0 93 yX0_checkOf, Cond.instanceMethod yX0_checkOf, Cond.selects RX0 yX0_checkOf yX0_checkOf, Cond.code yX0_checkOf cX0_checkOf 5 (some .long), Cond.fieldLink RX0 55 "SliceChecks" "out" "Z", Cond.fieldLink RX0 58 "SliceChecks" "last" "J", Cond.methodLink RX0 116 yX0_fromTop, Cond.instanceMethod yX0_fromTop, Cond.selects RX0 yX0_fromTop yX0_fromTop, Cond.code yX0_fromTop cX0_fromTop 3 (some .long), Cond.methodLink RX0 134 yX0_turned, Cond.static yX0_turned, Cond.code yX0_turned cX0_turned 6 (some .long), Cond.methodLink RX0 96 yX0_byteByByte, Cond.instanceMethod yX0_byteByByte, Cond.selects RX0 yX0_byteByByte yX0_byteByByte, Cond.code yX0_byteByByte cX0_byteByByte 8 (some .long), Cond.methodLink RX0 142 yX0_behindByteByTable, Cond.instanceMethod yX0_behindByteByTable]
def wsX0_check_r3 : List Cond := [Cond.selects RX0 yX0_behindByteByTable yX0_behindByteByTable, Cond.code yX0_behindByteByTable cX0_behindByteByTable 4 (some .long), Cond.fieldLink RX0 16 "SliceChecks" "slices" "[J", Cond.methodLink RX0 100 yX0_eightAtOnce, Cond.instanceMethod yX0_eightAtOnce, Cond.selects RX0 yX0_eightAtOnce yX0_eightAtOnce, Cond.code yX0_eightAtOnce cX0_eightAtOnce 8 (some .long), Cond.methodLink RX0 160 yX0_behindWordByTables, Cond.instanceMethod yX0_behindWordByTables, Cond.selects RX0 yX0_behindWordByTables yX0_behindWordByTables, Cond.code yX0_behindWordByTables cX0_behindWordByTables 10 (some .long), Cond.constantLong RX0 137 (255), Cond.methodLink RX0 104 yX0_byDividing, Cond.instanceMethod yX0_byDividing, Cond.selects RX0 yX0_byDividing yX0_byDividing, Cond.code yX0_byDividing cX0_byDividing 3 (some .long), Cond.fieldLink RX0 13 "SliceChecks" "dividend" "[J", Cond.methodLink RX0 163 arraycopyName, Cond.native arraycopyName, Cond.static arraycopyName, Cond.initialized "java/lang/System", Cond.methodLink RX0 85 yX0_bitsOfRow, Cond.instanceMethod yX0_bitsOfRow, Cond.selects RX0 yX0_bitsOfRow yX0_bitsOfRow]
def wsX0_check_r4 : List Cond := [Cond.code yX0_bitsOfRow cX0_bitsOfRow 1 (some .int), Cond.methodLink RX0 169 yX0_addPolynomialAt, Cond.instanceMethod yX0_addPolynomialAt, Cond.selects RX0 yX0_addPolynomialAt yX0_addPolynomialAt, Cond.code yX0_addPolynomialAt cX0_addPolynomialAt 4 none, Cond.methodLink RX0 173 yX0_dividendFrom, Cond.instanceMethod yX0_dividendFrom, Cond.selects RX0 yX0_dividendFrom yX0_dividendFrom, Cond.code yX0_dividendFrom cX0_dividendFrom 4 (some .long)]
def wsX0_check : List Cond := .code yX0_check cX0_check 2 (some .long) :: ((wsX0_check_r1 ++ (wsX0_check_r2 ++ (wsX0_check_r3 ++ wsX0_check_r4))) ++ wsX00)
def wsX0_part_r1 : List Cond := [Cond.fieldLink RX0 68 "SliceChecks" "bytes" "I", Cond.methodLink RX0 100 yX0_eightAtOnce, Cond.instanceMethod yX0_eightAtOnce, Cond.selects RX0 yX0_eightAtOnce yX0_eightAtOnce, Cond.initialized RX0, Cond.code yX0_eightAtOnce cX0_eightAtOnce 8 (some .long), Cond.fieldLink RX0 52 "SliceChecks" "first" "J", Cond.fieldLink RX0 9 "SliceChecks" "row" "[J", Cond.methodLink RX0 46 yX0_atTop, Cond.instanceMethod yX0_atTop, Cond.selects RX0 yX0_atTop yX0_atTop, Cond.code yX0_atTop cX0_atTop 3 (some .long), Cond.fieldLink RX0 34 "SliceChecks" "width" "I", Cond.methodLink RX0 96 yX0_byteByByte, Cond.instanceMethod yX0_byteByByte, Cond.selects RX0 yX0_byteByByte yX0_byteByByte, Cond.code yX0_byteByByte cX0_byteByByte 8 (some .long), Cond.methodLink RX0 157 yX0_byteAt, Cond.instanceMethod yX0_byteAt, Cond.selects RX0 yX0_byteAt yX0_byteAt, Cond.code yX0_byteAt cX0_byteAt 2 (some .int), Cond.methodLink RX0 75 yX0_shiftOfByte, Cond.static yX0_shiftOfByte, Cond.code yX0_shiftOfByte cX0_shiftOfByte 1 (some .int)]
def wsX0_part_r2 : List Cond := [Cond.methodLink RX0 142 yX0_behindByteByTable, Cond.instanceMethod yX0_behindByteByTable, Cond.selects RX0 yX0_behindByteByTable yX0_behindByteByTable, Cond.code yX0_behindByteByTable cX0_behindByteByTable 4 (some .long), Cond.fieldLink RX0 16 "SliceChecks" "slices" "[J", Cond.methodLink RX0 160 yX0_behindWordByTables, Cond.instanceMethod yX0_behindWordByTables, Cond.selects RX0 yX0_behindWordByTables yX0_behindWordByTables, Cond.code yX0_behindWordByTables cX0_behindWordByTables 10 (some .long), Cond.constantLong RX0 137 (255), Cond.methodLink RX0 93 yX0_checkOf, Cond.instanceMethod yX0_checkOf, Cond.selects RX0 yX0_checkOf yX0_checkOf, Cond.code yX0_checkOf cX0_checkOf 5 (some .long), Cond.fieldLink RX0 55 "SliceChecks" "out" "Z", Cond.fieldLink RX0 58 "SliceChecks" "last" "J", Cond.methodLink RX0 116 yX0_fromTop, Cond.instanceMethod yX0_fromTop, Cond.selects RX0 yX0_fromTop yX0_fromTop, Cond.code yX0_fromTop cX0_fromTop 3 (some .long), Cond.methodLink RX0 134 yX0_turned, Cond.static yX0_turned, Cond.code yX0_turned cX0_turned 6 (some .long)]
def wsX0_part : List Cond := .code yX0_part cX0_part 3 (some .long) :: ((wsX0_part_r1 ++ wsX0_part_r2) ++ wsX00)
def wsX0_registerOf : List Cond := .code yX0_registerOf cX0_registerOf 5 (some .long) :: ([.fieldLink RX0 58 "SliceChecks" "last" "J", .fieldLink RX0 55 "SliceChecks" "out" "Z", .fieldLink RX0 34 "SliceChecks" "width" "I", .methodLink RX0 134 yX0_turned, .static yX0_turned, .initialized RX0, .code yX0_turned cX0_turned 6 (some .long), .methodLink RX0 46 yX0_atTop, .instanceMethod yX0_atTop, .selects RX0 yX0_atTop yX0_atTop, .code yX0_atTop cX0_atTop 3 (some .long)] ++ wsX00)
def wsX0_product : List Cond := .code yX0_product cX0_product 8 (some .long) :: ([.fieldLink RX0 34 "SliceChecks" "width" "I", .methodLink RX0 120 yX0_behindBit, .instanceMethod yX0_behindBit, .selects RX0 yX0_behindBit yX0_behindBit, .initialized RX0, .code yX0_behindBit cX0_behindBit 6 (some .long), .fieldLink RX0 49 "SliceChecks" "topPolynomial" "J"] ++ wsX00)
def wsX0_behindZeros : List Cond := .code yX0_behindZeros cX0_behindZeros 10 (some .long) :: ([.methodLink RX0 46 yX0_atTop, .instanceMethod yX0_atTop, .selects RX0 yX0_atTop yX0_atTop, .initialized RX0, .code yX0_atTop cX0_atTop 3 (some .long), .fieldLink RX0 34 "SliceChecks" "width" "I", .methodLink RX0 120 yX0_behindBit, .instanceMethod yX0_behindBit, .selects RX0 yX0_behindBit yX0_behindBit, .code yX0_behindBit cX0_behindBit 6 (some .long), .fieldLink RX0 49 "SliceChecks" "topPolynomial" "J", .methodLink RX0 145 yX0_product, .instanceMethod yX0_product, .selects RX0 yX0_product yX0_product, .code yX0_product cX0_product 8 (some .long)] ++ wsX00)
def wsX0_joined_r1 : List Cond := [Cond.fieldLink RX0 52 "SliceChecks" "first" "J", Cond.constantLong RX0 110 (8), Cond.methodLink RX0 107 yX0_registerOf, Cond.instanceMethod yX0_registerOf, Cond.selects RX0 yX0_registerOf yX0_registerOf, Cond.initialized RX0, Cond.code yX0_registerOf cX0_registerOf 5 (some .long), Cond.fieldLink RX0 58 "SliceChecks" "last" "J", Cond.fieldLink RX0 55 "SliceChecks" "out" "Z", Cond.fieldLink RX0 34 "SliceChecks" "width" "I", Cond.methodLink RX0 134 yX0_turned, Cond.static yX0_turned, Cond.code yX0_turned cX0_turned 6 (some .long), Cond.methodLink RX0 46 yX0_atTop, Cond.instanceMethod yX0_atTop, Cond.selects RX0 yX0_atTop yX0_atTop, Cond.code yX0_atTop cX0_atTop 3 (some .long), Cond.methodLink RX0 112 yX0_behindZeros, Cond.instanceMethod yX0_behindZeros, Cond.selects RX0 yX0_behindZeros yX0_behindZeros, Cond.code yX0_behindZeros cX0_behindZeros 10 (some .long), Cond.methodLink RX0 120 yX0_behindBit, Cond.instanceMethod yX0_behindBit, Cond.selects RX0 yX0_behindBit yX0_behindBit]
def wsX0_joined_r2 : List Cond := [Cond.code yX0_behindBit cX0_behindBit 6 (some .long), Cond.fieldLink RX0 49 "SliceChecks" "topPolynomial" "J", Cond.methodLink RX0 145 yX0_product, Cond.instanceMethod yX0_product, Cond.selects RX0 yX0_product yX0_product, Cond.code yX0_product cX0_product 8 (some .long), Cond.methodLink RX0 93 yX0_checkOf, Cond.instanceMethod yX0_checkOf, Cond.selects RX0 yX0_checkOf yX0_checkOf, Cond.code yX0_checkOf cX0_checkOf 5 (some .long), Cond.methodLink RX0 116 yX0_fromTop, Cond.instanceMethod yX0_fromTop, Cond.selects RX0 yX0_fromTop yX0_fromTop, Cond.code yX0_fromTop cX0_fromTop 3 (some .long)]
def wsX0_joined : List Cond := .code yX0_joined cX0_joined 8 (some .long) :: ((wsX0_joined_r1 ++ wsX0_joined_r2) ++ wsX00)
def wsX0_entry : List Cond := .code yX0_entry cX0_entry 3 (some .long) :: ([.fieldLink RX0 16 "SliceChecks" "slices" "[J", .methodLink RX0 64 yX0_isByte, .static yX0_isByte, .initialized RX0, .code yX0_isByte cX0_isByte 1 (some .boolean), .methodLink RX0 71 yX0_asItComes, .instanceMethod yX0_asItComes, .selects RX0 yX0_asItComes yX0_asItComes, .code yX0_asItComes cX0_asItComes 2 (some .long), .fieldLink RX0 27 "SliceChecks" "in" "Z", .methodLink RX0 134 yX0_turned, .static yX0_turned, .code yX0_turned cX0_turned 6 (some .long), .methodLink RX0 116 yX0_fromTop, .instanceMethod yX0_fromTop, .selects RX0 yX0_fromTop yX0_fromTop, .code yX0_fromTop cX0_fromTop 3 (some .long), .fieldLink RX0 34 "SliceChecks" "width" "I"] ++ wsX00)
def wsX0_zeros : List Cond := .code yX0_zeros cX0_zeros 4 (some .long) :: ([.constant RX0 119 (1000000), .methodLink RX0 46 yX0_atTop, .instanceMethod yX0_atTop, .selects RX0 yX0_atTop yX0_atTop, .initialized RX0, .code yX0_atTop cX0_atTop 3 (some .long), .fieldLink RX0 34 "SliceChecks" "width" "I", .methodLink RX0 112 yX0_behindZeros, .instanceMethod yX0_behindZeros, .selects RX0 yX0_behindZeros yX0_behindZeros, .code yX0_behindZeros cX0_behindZeros 10 (some .long), .methodLink RX0 120 yX0_behindBit, .instanceMethod yX0_behindBit, .selects RX0 yX0_behindBit yX0_behindBit, .code yX0_behindBit cX0_behindBit 6 (some .long), .fieldLink RX0 49 "SliceChecks" "topPolynomial" "J", .methodLink RX0 145 yX0_product, .instanceMethod yX0_product, .selects RX0 yX0_product yX0_product, .code yX0_product cX0_product 8 (some .long), .methodLink RX0 116 yX0_fromTop, .instanceMethod yX0_fromTop, .selects RX0 yX0_fromTop yX0_fromTop, .code yX0_fromTop cX0_fromTop 3 (some .long)] ++ wsX00)
def wsX0_round : List Cond := .code yX0_round cX0_round 6 (some .int) :: ([.methodLink RX0 46 yX0_atTop, .instanceMethod yX0_atTop, .selects RX0 yX0_atTop yX0_atTop, .initialized RX0, .code yX0_atTop cX0_atTop 3 (some .long), .fieldLink RX0 34 "SliceChecks" "width" "I", .methodLink RX0 120 yX0_behindBit, .instanceMethod yX0_behindBit, .selects RX0 yX0_behindBit yX0_behindBit, .code yX0_behindBit cX0_behindBit 6 (some .long), .fieldLink RX0 49 "SliceChecks" "topPolynomial" "J"] ++ wsX00)
def wsX0_holds_r1 : List Cond := [Cond.fieldLink RX0 68 "SliceChecks" "bytes" "I", Cond.methodLink RX0 124 yX0_check, Cond.instanceMethod yX0_check, Cond.selects RX0 yX0_check yX0_check, Cond.initialized RX0, Cond.code yX0_check cX0_check 2 (some .long), Cond.fieldLink RX0 52 "SliceChecks" "first" "J", Cond.methodLink RX0 89 yX0_bitByBit, Cond.instanceMethod yX0_bitByBit, Cond.selects RX0 yX0_bitByBit yX0_bitByBit, Cond.code yX0_bitByBit cX0_bitByBit 4 (some .long), Cond.methodLink RX0 46 yX0_atTop, Cond.instanceMethod yX0_atTop, Cond.selects RX0 yX0_atTop yX0_atTop, Cond.code yX0_atTop cX0_atTop 3 (some .long), Cond.fieldLink RX0 34 "SliceChecks" "width" "I", Cond.methodLink RX0 157 yX0_byteAt, Cond.instanceMethod yX0_byteAt, Cond.selects RX0 yX0_byteAt yX0_byteAt, Cond.code yX0_byteAt cX0_byteAt 2 (some .int), Cond.fieldLink RX0 9 "SliceChecks" "row" "[J", Cond.methodLink RX0 75 yX0_shiftOfByte, Cond.static yX0_shiftOfByte, Cond.code yX0_shiftOfByte cX0_shiftOfByte 1 (some .int)]
def wsX0_holds_r2 : List Cond := [Cond.methodLink RX0 139 yX0_behindByte, Cond.instanceMethod yX0_behindByte, Cond.selects RX0 yX0_behindByte yX0_behindByte, Cond.code yX0_behindByte cX0_behindByte 7 (some .long), Cond.methodLink RX0 120 yX0_behindBit, Cond.instanceMethod yX0_behindBit, Cond.selects RX0 yX0_behindBit yX0_behindBit, Cond.code yX0_behindBit cX0_behindBit 6 (some .long), Cond.fieldLink RX0 49 "SliceChecks" "topPolynomial" "J", Cond.methodLink RX0 93 yX0_checkOf, Cond.instanceMethod yX0_checkOf, Cond.selects RX0 yX0_checkOf yX0_checkOf, Cond.code yX0_checkOf cX0_checkOf 5 (some .long), Cond.fieldLink RX0 55 "SliceChecks" "out" "Z", Cond.fieldLink RX0 58 "SliceChecks" "last" "J", Cond.methodLink RX0 116 yX0_fromTop, Cond.instanceMethod yX0_fromTop, Cond.selects RX0 yX0_fromTop yX0_fromTop, Cond.code yX0_fromTop cX0_fromTop 3 (some .long), Cond.methodLink RX0 134 yX0_turned, Cond.static yX0_turned, Cond.code yX0_turned cX0_turned 6 (some .long), Cond.methodLink RX0 96 yX0_byteByByte, Cond.instanceMethod yX0_byteByByte]
def wsX0_holds_r3 : List Cond := [Cond.selects RX0 yX0_byteByByte yX0_byteByByte, Cond.code yX0_byteByByte cX0_byteByByte 8 (some .long), Cond.methodLink RX0 142 yX0_behindByteByTable, Cond.instanceMethod yX0_behindByteByTable, Cond.selects RX0 yX0_behindByteByTable yX0_behindByteByTable, Cond.code yX0_behindByteByTable cX0_behindByteByTable 4 (some .long), Cond.fieldLink RX0 16 "SliceChecks" "slices" "[J", Cond.methodLink RX0 100 yX0_eightAtOnce, Cond.instanceMethod yX0_eightAtOnce, Cond.selects RX0 yX0_eightAtOnce yX0_eightAtOnce, Cond.code yX0_eightAtOnce cX0_eightAtOnce 8 (some .long), Cond.methodLink RX0 160 yX0_behindWordByTables, Cond.instanceMethod yX0_behindWordByTables, Cond.selects RX0 yX0_behindWordByTables yX0_behindWordByTables, Cond.code yX0_behindWordByTables cX0_behindWordByTables 10 (some .long), Cond.constantLong RX0 137 (255), Cond.methodLink RX0 104 yX0_byDividing, Cond.instanceMethod yX0_byDividing, Cond.selects RX0 yX0_byDividing yX0_byDividing, Cond.code yX0_byDividing cX0_byDividing 3 (some .long), Cond.fieldLink RX0 13 "SliceChecks" "dividend" "[J", Cond.methodLink RX0 163 arraycopyName, Cond.native arraycopyName, Cond.static arraycopyName]
def wsX0_holds_r4 : List Cond := [Cond.initialized "java/lang/System", Cond.methodLink RX0 85 yX0_bitsOfRow, Cond.instanceMethod yX0_bitsOfRow, Cond.selects RX0 yX0_bitsOfRow yX0_bitsOfRow, Cond.code yX0_bitsOfRow cX0_bitsOfRow 1 (some .int), Cond.methodLink RX0 169 yX0_addPolynomialAt, Cond.instanceMethod yX0_addPolynomialAt, Cond.selects RX0 yX0_addPolynomialAt yX0_addPolynomialAt, Cond.code yX0_addPolynomialAt cX0_addPolynomialAt 4 none, Cond.methodLink RX0 173 yX0_dividendFrom, Cond.instanceMethod yX0_dividendFrom, Cond.selects RX0 yX0_dividendFrom yX0_dividendFrom, Cond.code yX0_dividendFrom cX0_dividendFrom 4 (some .long), Cond.methodLink RX0 127 yX0_part, Cond.instanceMethod yX0_part, Cond.selects RX0 yX0_part yX0_part, Cond.code yX0_part cX0_part 3 (some .long), Cond.methodLink RX0 130 yX0_joined, Cond.instanceMethod yX0_joined, Cond.selects RX0 yX0_joined yX0_joined, Cond.code yX0_joined cX0_joined 8 (some .long), Cond.constantLong RX0 110 (8), Cond.methodLink RX0 107 yX0_registerOf, Cond.instanceMethod yX0_registerOf]
def wsX0_holds_r5 : List Cond := [Cond.selects RX0 yX0_registerOf yX0_registerOf, Cond.code yX0_registerOf cX0_registerOf 5 (some .long), Cond.methodLink RX0 112 yX0_behindZeros, Cond.instanceMethod yX0_behindZeros, Cond.selects RX0 yX0_behindZeros yX0_behindZeros, Cond.code yX0_behindZeros cX0_behindZeros 10 (some .long), Cond.methodLink RX0 145 yX0_product, Cond.instanceMethod yX0_product, Cond.selects RX0 yX0_product yX0_product, Cond.code yX0_product cX0_product 8 (some .long)]
def wsX0_holds : List Cond := .code yX0_holds cX0_holds 4 (some .boolean) :: ((wsX0_holds_r1 ++ (wsX0_holds_r2 ++ (wsX0_holds_r3 ++ (wsX0_holds_r4 ++ wsX0_holds_r5)))) ++ wsX00)
def wsX0_count : List Cond := .code yX0_count cX0_count 2 (some .int) :: ([.fieldLink RX0 68 "SliceChecks" "bytes" "I", .fieldLink RX0 34 "SliceChecks" "width" "I", .fieldLink RX0 27 "SliceChecks" "in" "Z", .fieldLink RX0 55 "SliceChecks" "out" "Z"] ++ wsX00)
def wsX0_told : List Cond := .code yX0_told cX0_told 2 (some .long) :: ([.fieldLink RX0 42 "SliceChecks" "polynomial" "J", .fieldLink RX0 52 "SliceChecks" "first" "J", .fieldLink RX0 58 "SliceChecks" "last" "J"] ++ wsX00)
def wsX1_init : List Cond := .code yX1_init cX1_init 1 none :: ([.methodLink RX1 1 objectInit, .instanceMethod objectInit, .code objectInit ⟨#[0xb1]⟩ 1 none, .fieldLink RX1 7 "SliceChecksModel" "width" "I", .constantLong RX1 13 (79764919), .fieldLink RX1 15 "SliceChecksModel" "polynomial" "J", .constantLong RX1 19 (4294967295), .fieldLink RX1 21 "SliceChecksModel" "first" "J", .fieldLink RX1 24 "SliceChecksModel" "last" "J", .fieldLink RX1 27 "SliceChecksModel" "in" "Z", .fieldLink RX1 31 "SliceChecksModel" "out" "Z", .arrayClass .int, .fieldLink RX1 34 "SliceChecksModel" "bytes" "[I"] ++ wsX10)
def wsX1_low : List Cond := .code yX1_low cX1_low 3 (some .long) :: ([])
def wsX1_cut : List Cond := .code yX1_cut cX1_cut 3 (some .long) :: ([.fieldLink RX1 7 "SliceChecksModel" "width" "I", .methodLink RX1 38 yX1_low, .static yX1_low, .initialized RX1, .code yX1_low cX1_low 3 (some .long)] ++ wsX10)
def wsX1_kind : List Cond := .code yX1_kind cX1_kind 10 (some .boolean) :: ([.fieldLink RX1 7 "SliceChecksModel" "width" "I", .fieldLink RX1 15 "SliceChecksModel" "polynomial" "J", .fieldLink RX1 21 "SliceChecksModel" "first" "J", .fieldLink RX1 24 "SliceChecksModel" "last" "J", .fieldLink RX1 27 "SliceChecksModel" "in" "Z", .fieldLink RX1 31 "SliceChecksModel" "out" "Z", .methodLink RX1 42 yX1_cut, .instanceMethod yX1_cut, .selects RX1 yX1_cut yX1_cut, .initialized RX1, .code yX1_cut cX1_cut 3 (some .long), .methodLink RX1 38 yX1_low, .static yX1_low, .code yX1_low cX1_low 3 (some .long)] ++ wsX10)
def wsX1_feed : List Cond := .code yX1_feed cX1_feed 4 (some .boolean) :: ([.fieldLink RX1 46 "SliceChecksModel" "count" "I", .fieldLink RX1 34 "SliceChecksModel" "bytes" "[I"] ++ wsX10)
def wsX1_clear : List Cond := .code yX1_clear cX1_clear 1 none :: ([.fieldLink RX1 46 "SliceChecksModel" "count" "I"] ++ wsX10)
def wsX1_flip : List Cond := .code yX1_flip cX1_flip 2 (some .boolean) :: ([.fieldLink RX1 46 "SliceChecksModel" "count" "I", .fieldLink RX1 34 "SliceChecksModel" "bytes" "[I", .fieldLink RX1 27 "SliceChecksModel" "in" "Z"] ++ wsX10)
def wsX1_bit : List Cond := .code yX1_bit cX1_bit 7 (some .long) :: ([.fieldLink RX1 7 "SliceChecksModel" "width" "I", .fieldLink RX1 15 "SliceChecksModel" "polynomial" "J", .methodLink RX1 42 yX1_cut, .instanceMethod yX1_cut, .selects RX1 yX1_cut yX1_cut, .initialized RX1, .code yX1_cut cX1_cut 3 (some .long), .methodLink RX1 38 yX1_low, .static yX1_low, .code yX1_low cX1_low 3 (some .long)] ++ wsX10)
def wsX1_oneByte : List Cond := .code yX1_oneByte cX1_oneByte 7 (some .long) :: ([.fieldLink RX1 27 "SliceChecksModel" "in" "Z", .methodLink RX1 49 yX1_bit, .instanceMethod yX1_bit, .selects RX1 yX1_bit yX1_bit, .initialized RX1, .code yX1_bit cX1_bit 7 (some .long), .fieldLink RX1 7 "SliceChecksModel" "width" "I", .fieldLink RX1 15 "SliceChecksModel" "polynomial" "J", .methodLink RX1 42 yX1_cut, .instanceMethod yX1_cut, .selects RX1 yX1_cut yX1_cut, .code yX1_cut cX1_cut 3 (some .long), .methodLink RX1 38 yX1_low, .static yX1_low, .code yX1_low cX1_low 3 (some .long)] ++ wsX10)
def wsX1_turned : List Cond := .code yX1_turned cX1_turned 6 (some .long) :: ([.fieldLink RX1 7 "SliceChecksModel" "width" "I"] ++ wsX10)
def wsX1_told : List Cond := .code yX1_told cX1_told 3 (some .long) :: ([.fieldLink RX1 31 "SliceChecksModel" "out" "Z", .fieldLink RX1 24 "SliceChecksModel" "last" "J", .methodLink RX1 52 yX1_turned, .instanceMethod yX1_turned, .selects RX1 yX1_turned yX1_turned, .initialized RX1, .code yX1_turned cX1_turned 6 (some .long), .fieldLink RX1 7 "SliceChecksModel" "width" "I"] ++ wsX10)
def wsX1_register : List Cond := .code yX1_register cX1_register 5 (some .long) :: ([.fieldLink RX1 24 "SliceChecksModel" "last" "J", .fieldLink RX1 31 "SliceChecksModel" "out" "Z", .methodLink RX1 42 yX1_cut, .instanceMethod yX1_cut, .selects RX1 yX1_cut yX1_cut, .initialized RX1, .code yX1_cut cX1_cut 3 (some .long), .fieldLink RX1 7 "SliceChecksModel" "width" "I", .methodLink RX1 38 yX1_low, .static yX1_low, .code yX1_low cX1_low 3 (some .long), .methodLink RX1 52 yX1_turned, .instanceMethod yX1_turned, .selects RX1 yX1_turned yX1_turned, .code yX1_turned cX1_turned 6 (some .long)] ++ wsX10)
def wsX1_over_r1 : List Cond := [Cond.fieldLink RX1 21 "SliceChecksModel" "first" "J", Cond.fieldLink RX1 34 "SliceChecksModel" "bytes" "[I", Cond.methodLink RX1 55 yX1_oneByte, Cond.instanceMethod yX1_oneByte, Cond.selects RX1 yX1_oneByte yX1_oneByte, Cond.initialized RX1, Cond.code yX1_oneByte cX1_oneByte 7 (some .long), Cond.fieldLink RX1 27 "SliceChecksModel" "in" "Z", Cond.methodLink RX1 49 yX1_bit, Cond.instanceMethod yX1_bit, Cond.selects RX1 yX1_bit yX1_bit, Cond.code yX1_bit cX1_bit 7 (some .long), Cond.fieldLink RX1 7 "SliceChecksModel" "width" "I", Cond.fieldLink RX1 15 "SliceChecksModel" "polynomial" "J", Cond.methodLink RX1 42 yX1_cut, Cond.instanceMethod yX1_cut, Cond.selects RX1 yX1_cut yX1_cut, Cond.code yX1_cut cX1_cut 3 (some .long), Cond.methodLink RX1 38 yX1_low, Cond.static yX1_low, Cond.code yX1_low cX1_low 3 (some .long), Cond.methodLink RX1 58 yX1_told, Cond.instanceMethod yX1_told, Cond.selects RX1 yX1_told yX1_told]
def wsX1_over_r2 : List Cond := [Cond.code yX1_told cX1_told 3 (some .long), Cond.fieldLink RX1 31 "SliceChecksModel" "out" "Z", Cond.fieldLink RX1 24 "SliceChecksModel" "last" "J", Cond.methodLink RX1 52 yX1_turned, Cond.instanceMethod yX1_turned, Cond.selects RX1 yX1_turned yX1_turned, Cond.code yX1_turned cX1_turned 6 (some .long)]
def wsX1_over : List Cond := .code yX1_over cX1_over 6 (some .long) :: ((wsX1_over_r1 ++ wsX1_over_r2) ++ wsX10)
def wsX1_check_r1 : List Cond := [Cond.fieldLink RX1 46 "SliceChecksModel" "count" "I", Cond.methodLink RX1 61 yX1_over, Cond.instanceMethod yX1_over, Cond.selects RX1 yX1_over yX1_over, Cond.initialized RX1, Cond.code yX1_over cX1_over 6 (some .long), Cond.fieldLink RX1 21 "SliceChecksModel" "first" "J", Cond.fieldLink RX1 34 "SliceChecksModel" "bytes" "[I", Cond.methodLink RX1 55 yX1_oneByte, Cond.instanceMethod yX1_oneByte, Cond.selects RX1 yX1_oneByte yX1_oneByte, Cond.code yX1_oneByte cX1_oneByte 7 (some .long), Cond.fieldLink RX1 27 "SliceChecksModel" "in" "Z", Cond.methodLink RX1 49 yX1_bit, Cond.instanceMethod yX1_bit, Cond.selects RX1 yX1_bit yX1_bit, Cond.code yX1_bit cX1_bit 7 (some .long), Cond.fieldLink RX1 7 "SliceChecksModel" "width" "I", Cond.fieldLink RX1 15 "SliceChecksModel" "polynomial" "J", Cond.methodLink RX1 42 yX1_cut, Cond.instanceMethod yX1_cut, Cond.selects RX1 yX1_cut yX1_cut, Cond.code yX1_cut cX1_cut 3 (some .long), Cond.methodLink RX1 38 yX1_low]
def wsX1_check_r2 : List Cond := [Cond.static yX1_low, Cond.code yX1_low cX1_low 3 (some .long), Cond.methodLink RX1 58 yX1_told, Cond.instanceMethod yX1_told, Cond.selects RX1 yX1_told yX1_told, Cond.code yX1_told cX1_told 3 (some .long), Cond.fieldLink RX1 31 "SliceChecksModel" "out" "Z", Cond.fieldLink RX1 24 "SliceChecksModel" "last" "J", Cond.methodLink RX1 52 yX1_turned, Cond.instanceMethod yX1_turned, Cond.selects RX1 yX1_turned yX1_turned, Cond.code yX1_turned cX1_turned 6 (some .long)]
def wsX1_check : List Cond := .code yX1_check cX1_check 2 (some .long) :: ((wsX1_check_r1 ++ wsX1_check_r2) ++ wsX10)
def wsX1_part_r1 : List Cond := [Cond.fieldLink RX1 46 "SliceChecksModel" "count" "I", Cond.methodLink RX1 61 yX1_over, Cond.instanceMethod yX1_over, Cond.selects RX1 yX1_over yX1_over, Cond.initialized RX1, Cond.code yX1_over cX1_over 6 (some .long), Cond.fieldLink RX1 21 "SliceChecksModel" "first" "J", Cond.fieldLink RX1 34 "SliceChecksModel" "bytes" "[I", Cond.methodLink RX1 55 yX1_oneByte, Cond.instanceMethod yX1_oneByte, Cond.selects RX1 yX1_oneByte yX1_oneByte, Cond.code yX1_oneByte cX1_oneByte 7 (some .long), Cond.fieldLink RX1 27 "SliceChecksModel" "in" "Z", Cond.methodLink RX1 49 yX1_bit, Cond.instanceMethod yX1_bit, Cond.selects RX1 yX1_bit yX1_bit, Cond.code yX1_bit cX1_bit 7 (some .long), Cond.fieldLink RX1 7 "SliceChecksModel" "width" "I", Cond.fieldLink RX1 15 "SliceChecksModel" "polynomial" "J", Cond.methodLink RX1 42 yX1_cut, Cond.instanceMethod yX1_cut, Cond.selects RX1 yX1_cut yX1_cut, Cond.code yX1_cut cX1_cut 3 (some .long), Cond.methodLink RX1 38 yX1_low]
def wsX1_part_r2 : List Cond := [Cond.static yX1_low, Cond.code yX1_low cX1_low 3 (some .long), Cond.methodLink RX1 58 yX1_told, Cond.instanceMethod yX1_told, Cond.selects RX1 yX1_told yX1_told, Cond.code yX1_told cX1_told 3 (some .long), Cond.fieldLink RX1 31 "SliceChecksModel" "out" "Z", Cond.fieldLink RX1 24 "SliceChecksModel" "last" "J", Cond.methodLink RX1 52 yX1_turned, Cond.instanceMethod yX1_turned, Cond.selects RX1 yX1_turned yX1_turned, Cond.code yX1_turned cX1_turned 6 (some .long)]
def wsX1_part : List Cond := .code yX1_part cX1_part 3 (some .long) :: ((wsX1_part_r1 ++ wsX1_part_r2) ++ wsX10)
def wsX1_times : List Cond := .code yX1_times cX1_times 8 (some .long) :: ([.fieldLink RX1 7 "SliceChecksModel" "width" "I", .methodLink RX1 49 yX1_bit, .instanceMethod yX1_bit, .selects RX1 yX1_bit yX1_bit, .initialized RX1, .code yX1_bit cX1_bit 7 (some .long), .fieldLink RX1 15 "SliceChecksModel" "polynomial" "J", .methodLink RX1 42 yX1_cut, .instanceMethod yX1_cut, .selects RX1 yX1_cut yX1_cut, .code yX1_cut cX1_cut 3 (some .long), .methodLink RX1 38 yX1_low, .static yX1_low, .code yX1_low cX1_low 3 (some .long)] ++ wsX10)
def wsX1_behind : List Cond := .code yX1_behind cX1_behind 11 (some .long) :: ([.constantLong RX1 65 (2), .methodLink RX1 49 yX1_bit, .instanceMethod yX1_bit, .selects RX1 yX1_bit yX1_bit, .initialized RX1, .code yX1_bit cX1_bit 7 (some .long), .fieldLink RX1 7 "SliceChecksModel" "width" "I", .fieldLink RX1 15 "SliceChecksModel" "polynomial" "J", .methodLink RX1 42 yX1_cut, .instanceMethod yX1_cut, .selects RX1 yX1_cut yX1_cut, .code yX1_cut cX1_cut 3 (some .long), .methodLink RX1 38 yX1_low, .static yX1_low, .code yX1_low cX1_low 3 (some .long), .methodLink RX1 67 yX1_times, .instanceMethod yX1_times, .selects RX1 yX1_times yX1_times, .code yX1_times cX1_times 8 (some .long)] ++ wsX10)
def wsX1_joined_r1 : List Cond := [Cond.fieldLink RX1 21 "SliceChecksModel" "first" "J", Cond.constantLong RX1 74 (8), Cond.methodLink RX1 71 yX1_register, Cond.instanceMethod yX1_register, Cond.selects RX1 yX1_register yX1_register, Cond.initialized RX1, Cond.code yX1_register cX1_register 5 (some .long), Cond.fieldLink RX1 24 "SliceChecksModel" "last" "J", Cond.fieldLink RX1 31 "SliceChecksModel" "out" "Z", Cond.methodLink RX1 42 yX1_cut, Cond.instanceMethod yX1_cut, Cond.selects RX1 yX1_cut yX1_cut, Cond.code yX1_cut cX1_cut 3 (some .long), Cond.fieldLink RX1 7 "SliceChecksModel" "width" "I", Cond.methodLink RX1 38 yX1_low, Cond.static yX1_low, Cond.code yX1_low cX1_low 3 (some .long), Cond.methodLink RX1 52 yX1_turned, Cond.instanceMethod yX1_turned, Cond.selects RX1 yX1_turned yX1_turned, Cond.code yX1_turned cX1_turned 6 (some .long), Cond.methodLink RX1 76 yX1_behind, Cond.instanceMethod yX1_behind, Cond.selects RX1 yX1_behind yX1_behind]
def wsX1_joined_r2 : List Cond := [Cond.code yX1_behind cX1_behind 11 (some .long), Cond.constantLong RX1 65 (2), Cond.methodLink RX1 49 yX1_bit, Cond.instanceMethod yX1_bit, Cond.selects RX1 yX1_bit yX1_bit, Cond.code yX1_bit cX1_bit 7 (some .long), Cond.fieldLink RX1 15 "SliceChecksModel" "polynomial" "J", Cond.methodLink RX1 67 yX1_times, Cond.instanceMethod yX1_times, Cond.selects RX1 yX1_times yX1_times, Cond.code yX1_times cX1_times 8 (some .long), Cond.methodLink RX1 58 yX1_told, Cond.instanceMethod yX1_told, Cond.selects RX1 yX1_told yX1_told, Cond.code yX1_told cX1_told 3 (some .long)]
def wsX1_joined : List Cond := .code yX1_joined cX1_joined 6 (some .long) :: ((wsX1_joined_r1 ++ wsX1_joined_r2) ++ wsX10)
def wsX1_entry_r1 : List Cond := [Cond.constantLong RX1 74 (8), Cond.methodLink RX1 55 yX1_oneByte, Cond.instanceMethod yX1_oneByte, Cond.selects RX1 yX1_oneByte yX1_oneByte, Cond.initialized RX1, Cond.code yX1_oneByte cX1_oneByte 7 (some .long), Cond.fieldLink RX1 27 "SliceChecksModel" "in" "Z", Cond.methodLink RX1 49 yX1_bit, Cond.instanceMethod yX1_bit, Cond.selects RX1 yX1_bit yX1_bit, Cond.code yX1_bit cX1_bit 7 (some .long), Cond.fieldLink RX1 7 "SliceChecksModel" "width" "I", Cond.fieldLink RX1 15 "SliceChecksModel" "polynomial" "J", Cond.methodLink RX1 42 yX1_cut, Cond.instanceMethod yX1_cut, Cond.selects RX1 yX1_cut yX1_cut, Cond.code yX1_cut cX1_cut 3 (some .long), Cond.methodLink RX1 38 yX1_low, Cond.static yX1_low, Cond.code yX1_low cX1_low 3 (some .long), Cond.methodLink RX1 76 yX1_behind, Cond.instanceMethod yX1_behind, Cond.selects RX1 yX1_behind yX1_behind, Cond.code yX1_behind cX1_behind 11 (some .long)]
def wsX1_entry_r2 : List Cond := [Cond.constantLong RX1 65 (2), Cond.methodLink RX1 67 yX1_times, Cond.instanceMethod yX1_times, Cond.selects RX1 yX1_times yX1_times, Cond.code yX1_times cX1_times 8 (some .long)]
def wsX1_entry : List Cond := .code yX1_entry cX1_entry 3 (some .long) :: ((wsX1_entry_r1 ++ wsX1_entry_r2) ++ wsX10)
def wsX1_zeros : List Cond := .code yX1_zeros cX1_zeros 4 (some .long) :: ([.constant RX1 79 (1000000), .methodLink RX1 42 yX1_cut, .instanceMethod yX1_cut, .selects RX1 yX1_cut yX1_cut, .initialized RX1, .code yX1_cut cX1_cut 3 (some .long), .fieldLink RX1 7 "SliceChecksModel" "width" "I", .methodLink RX1 38 yX1_low, .static yX1_low, .code yX1_low cX1_low 3 (some .long), .methodLink RX1 76 yX1_behind, .instanceMethod yX1_behind, .selects RX1 yX1_behind yX1_behind, .code yX1_behind cX1_behind 11 (some .long), .constantLong RX1 65 (2), .methodLink RX1 49 yX1_bit, .instanceMethod yX1_bit, .selects RX1 yX1_bit yX1_bit, .code yX1_bit cX1_bit 7 (some .long), .fieldLink RX1 15 "SliceChecksModel" "polynomial" "J", .methodLink RX1 67 yX1_times, .instanceMethod yX1_times, .selects RX1 yX1_times yX1_times, .code yX1_times cX1_times 8 (some .long)] ++ wsX10)
def wsX1_round : List Cond := .code yX1_round cX1_round 4 (some .int) :: ([.methodLink RX1 49 yX1_bit, .instanceMethod yX1_bit, .selects RX1 yX1_bit yX1_bit, .initialized RX1, .code yX1_bit cX1_bit 7 (some .long), .fieldLink RX1 7 "SliceChecksModel" "width" "I", .fieldLink RX1 15 "SliceChecksModel" "polynomial" "J", .methodLink RX1 42 yX1_cut, .instanceMethod yX1_cut, .selects RX1 yX1_cut yX1_cut, .code yX1_cut cX1_cut 3 (some .long), .methodLink RX1 38 yX1_low, .static yX1_low, .code yX1_low cX1_low 3 (some .long)] ++ wsX10)
def wsX1_holds : List Cond := .code yX1_holds cX1_holds 1 (some .boolean) :: ([])
def wsX1_count : List Cond := .code yX1_count cX1_count 2 (some .int) :: ([.fieldLink RX1 46 "SliceChecksModel" "count" "I", .fieldLink RX1 7 "SliceChecksModel" "width" "I", .fieldLink RX1 27 "SliceChecksModel" "in" "Z", .fieldLink RX1 31 "SliceChecksModel" "out" "Z"] ++ wsX10)
def wsX1_told_ : List Cond := .code yX1_told_ cX1_told_ 2 (some .long) :: ([.fieldLink RX1 15 "SliceChecksModel" "polynomial" "J", .fieldLink RX1 21 "SliceChecksModel" "first" "J", .fieldLink RX1 24 "SliceChecksModel" "last" "J"] ++ wsX10)
def wsL_law_r1 : List Cond := [Cond.classLink RL 7 RX0, Cond.instantiable RX0 11, Cond.initialized RX0, Cond.classLink RL 10 RX1, Cond.instantiable RX1 8, Cond.initialized RX1, Cond.constantLong RL 13 (4294967295), Cond.methodLink RL 9 yX0_init, Cond.instanceMethod yX0_init, Cond.code yX0_init cX0_init 1 none, Cond.methodLink RX0 3 objectInit, Cond.instanceMethod objectInit, Cond.code objectInit ⟨#[0xb1]⟩ 1 none, Cond.arrayClass .long, Cond.fieldLink RX0 9 "SliceChecks" "row" "[J", Cond.fieldLink RX0 13 "SliceChecks" "dividend" "[J", Cond.fieldLink RX0 16 "SliceChecks" "slices" "[J", Cond.constantLong RX0 19 (79764919), Cond.constantLong RX0 21 (-1), Cond.methodLink RX0 23 yX0_kind, Cond.instanceMethod yX0_kind, Cond.selects RX0 yX0_kind yX0_kind, Cond.code yX0_kind cX0_kind 10 (some .boolean), Cond.fieldLink RX0 27 "SliceChecks" "in" "Z"]
def wsL_law_r2 : List Cond := [Cond.fieldLink RX0 34 "SliceChecks" "width" "I", Cond.fieldLink RX0 42 "SliceChecks" "polynomial" "J", Cond.fieldLink RX0 49 "SliceChecks" "topPolynomial" "J", Cond.fieldLink RX0 52 "SliceChecks" "first" "J", Cond.fieldLink RX0 55 "SliceChecks" "out" "Z", Cond.fieldLink RX0 58 "SliceChecks" "last" "J", Cond.methodLink RX0 31 yX0_turnBytesOfRow, Cond.instanceMethod yX0_turnBytesOfRow, Cond.selects RX0 yX0_turnBytesOfRow yX0_turnBytesOfRow, Cond.code yX0_turnBytesOfRow cX0_turnBytesOfRow 3 none, Cond.fieldLink RX0 68 "SliceChecks" "bytes" "I", Cond.methodLink RX0 148 yX0_bytesTurned, Cond.static yX0_bytesTurned, Cond.code yX0_bytesTurned cX0_bytesTurned 6 (some .long), Cond.constantLong RX0 151 (1085102592571150095), Cond.constantLong RX0 153 (3689348814741910323), Cond.constantLong RX0 155 (6148914691236517205), Cond.methodLink RX0 38 yX0_lowerBits, Cond.instanceMethod yX0_lowerBits, Cond.selects RX0 yX0_lowerBits yX0_lowerBits, Cond.code yX0_lowerBits cX0_lowerBits 3 (some .long), Cond.methodLink RX0 46 yX0_atTop, Cond.instanceMethod yX0_atTop, Cond.selects RX0 yX0_atTop yX0_atTop]
def wsL_law_r3 : List Cond := [Cond.code yX0_atTop cX0_atTop 3 (some .long), Cond.methodLink RX0 116 yX0_fromTop, Cond.instanceMethod yX0_fromTop, Cond.selects RX0 yX0_fromTop yX0_fromTop, Cond.code yX0_fromTop cX0_fromTop 3 (some .long), Cond.methodLink RX0 61 yX0_fillSlices, Cond.instanceMethod yX0_fillSlices, Cond.selects RX0 yX0_fillSlices yX0_fillSlices, Cond.code yX0_fillSlices cX0_fillSlices 2 none, Cond.methodLink RX0 139 yX0_behindByte, Cond.instanceMethod yX0_behindByte, Cond.selects RX0 yX0_behindByte yX0_behindByte, Cond.code yX0_behindByte cX0_behindByte 7 (some .long), Cond.methodLink RX0 120 yX0_behindBit, Cond.instanceMethod yX0_behindBit, Cond.selects RX0 yX0_behindBit yX0_behindBit, Cond.code yX0_behindBit cX0_behindBit 6 (some .long), Cond.methodLink RX0 142 yX0_behindByteByTable, Cond.instanceMethod yX0_behindByteByTable, Cond.selects RX0 yX0_behindByteByTable yX0_behindByteByTable, Cond.code yX0_behindByteByTable cX0_behindByteByTable 4 (some .long), Cond.methodLink RL 12 yX1_init, Cond.instanceMethod yX1_init, Cond.code yX1_init cX1_init 1 none]
def wsL_law_r4 : List Cond := [Cond.methodLink RX1 1 objectInit, Cond.fieldLink RX1 7 "SliceChecksModel" "width" "I", Cond.constantLong RX1 13 (79764919), Cond.fieldLink RX1 15 "SliceChecksModel" "polynomial" "J", Cond.constantLong RX1 19 (4294967295), Cond.fieldLink RX1 21 "SliceChecksModel" "first" "J", Cond.fieldLink RX1 24 "SliceChecksModel" "last" "J", Cond.fieldLink RX1 27 "SliceChecksModel" "in" "Z", Cond.fieldLink RX1 31 "SliceChecksModel" "out" "Z", Cond.arrayClass .int, Cond.fieldLink RX1 34 "SliceChecksModel" "bytes" "[I", Cond.methodLink RL 15 yX0_kind, Cond.methodLink RL 19 yX1_kind, Cond.instanceMethod yX1_kind, Cond.selects RX1 yX1_kind yX1_kind, Cond.code yX1_kind cX1_kind 10 (some .boolean), Cond.methodLink RX1 42 yX1_cut, Cond.instanceMethod yX1_cut, Cond.selects RX1 yX1_cut yX1_cut, Cond.code yX1_cut cX1_cut 3 (some .long), Cond.methodLink RX1 38 yX1_low, Cond.static yX1_low, Cond.code yX1_low cX1_low 3 (some .long), Cond.methodLink RL 20 yX0_feed]
def wsL_law_r5 : List Cond := [Cond.instanceMethod yX0_feed, Cond.selects RX0 yX0_feed yX0_feed, Cond.code yX0_feed cX0_feed 6 (some .boolean), Cond.methodLink RX0 64 yX0_isByte, Cond.static yX0_isByte, Cond.code yX0_isByte cX0_isByte 1 (some .boolean), Cond.methodLink RX0 71 yX0_asItComes, Cond.instanceMethod yX0_asItComes, Cond.selects RX0 yX0_asItComes yX0_asItComes, Cond.code yX0_asItComes cX0_asItComes 2 (some .long), Cond.methodLink RX0 134 yX0_turned, Cond.static yX0_turned, Cond.code yX0_turned cX0_turned 6 (some .long), Cond.methodLink RX0 75 yX0_shiftOfByte, Cond.static yX0_shiftOfByte, Cond.code yX0_shiftOfByte cX0_shiftOfByte 1 (some .int), Cond.methodLink RL 24 yX1_feed, Cond.instanceMethod yX1_feed, Cond.selects RX1 yX1_feed yX1_feed, Cond.code yX1_feed cX1_feed 4 (some .boolean), Cond.fieldLink RX1 46 "SliceChecksModel" "count" "I", Cond.methodLink RL 25 yX0_clear, Cond.instanceMethod yX0_clear, Cond.selects RX0 yX0_clear yX0_clear]
def wsL_law_r6 : List Cond := [Cond.code yX0_clear cX0_clear 1 none, Cond.methodLink RX0 79 yJ7_fill_d0a16, Cond.static yJ7_fill_d0a16, Cond.initialized RJ7, Cond.code yJ7_fill_d0a16 cJ7_fill_d0a16 5 none, Cond.methodLink RL 28 yX1_clear, Cond.instanceMethod yX1_clear, Cond.selects RX1 yX1_clear yX1_clear, Cond.code yX1_clear cX1_clear 1 none, Cond.methodLink RL 29 yX0_flip, Cond.instanceMethod yX0_flip, Cond.selects RX0 yX0_flip yX0_flip, Cond.code yX0_flip cX0_flip 2 (some .boolean), Cond.methodLink RX0 85 yX0_bitsOfRow, Cond.instanceMethod yX0_bitsOfRow, Cond.selects RX0 yX0_bitsOfRow yX0_bitsOfRow, Cond.code yX0_bitsOfRow cX0_bitsOfRow 1 (some .int), Cond.methodLink RL 33 yX1_flip, Cond.instanceMethod yX1_flip, Cond.selects RX1 yX1_flip yX1_flip, Cond.code yX1_flip cX1_flip 2 (some .boolean), Cond.methodLink RL 34 yX0_check, Cond.instanceMethod yX0_check, Cond.selects RX0 yX0_check yX0_check]
def wsL_law_r7 : List Cond := [Cond.code yX0_check cX0_check 2 (some .long), Cond.methodLink RX0 89 yX0_bitByBit, Cond.instanceMethod yX0_bitByBit, Cond.selects RX0 yX0_bitByBit yX0_bitByBit, Cond.code yX0_bitByBit cX0_bitByBit 4 (some .long), Cond.methodLink RX0 157 yX0_byteAt, Cond.instanceMethod yX0_byteAt, Cond.selects RX0 yX0_byteAt yX0_byteAt, Cond.code yX0_byteAt cX0_byteAt 2 (some .int), Cond.methodLink RX0 93 yX0_checkOf, Cond.instanceMethod yX0_checkOf, Cond.selects RX0 yX0_checkOf yX0_checkOf, Cond.code yX0_checkOf cX0_checkOf 5 (some .long), Cond.methodLink RX0 96 yX0_byteByByte, Cond.instanceMethod yX0_byteByByte, Cond.selects RX0 yX0_byteByByte yX0_byteByByte, Cond.code yX0_byteByByte cX0_byteByByte 8 (some .long), Cond.methodLink RX0 100 yX0_eightAtOnce, Cond.instanceMethod yX0_eightAtOnce, Cond.selects RX0 yX0_eightAtOnce yX0_eightAtOnce, Cond.code yX0_eightAtOnce cX0_eightAtOnce 8 (some .long), Cond.methodLink RX0 160 yX0_behindWordByTables, Cond.instanceMethod yX0_behindWordByTables, Cond.selects RX0 yX0_behindWordByTables yX0_behindWordByTables]
def wsL_law_r8 : List Cond := [Cond.code yX0_behindWordByTables cX0_behindWordByTables 10 (some .long), Cond.constantLong RX0 137 (255), Cond.methodLink RX0 104 yX0_byDividing, Cond.instanceMethod yX0_byDividing, Cond.selects RX0 yX0_byDividing yX0_byDividing, Cond.code yX0_byDividing cX0_byDividing 3 (some .long), Cond.methodLink RX0 163 arraycopyName, Cond.native arraycopyName, Cond.static arraycopyName, Cond.initialized "java/lang/System", Cond.methodLink RX0 169 yX0_addPolynomialAt, Cond.instanceMethod yX0_addPolynomialAt, Cond.selects RX0 yX0_addPolynomialAt yX0_addPolynomialAt, Cond.code yX0_addPolynomialAt cX0_addPolynomialAt 4 none, Cond.methodLink RX0 173 yX0_dividendFrom, Cond.instanceMethod yX0_dividendFrom, Cond.selects RX0 yX0_dividendFrom yX0_dividendFrom, Cond.code yX0_dividendFrom cX0_dividendFrom 4 (some .long), Cond.methodLink RL 38 yX1_check, Cond.instanceMethod yX1_check, Cond.selects RX1 yX1_check yX1_check, Cond.code yX1_check cX1_check 2 (some .long), Cond.methodLink RX1 61 yX1_over, Cond.instanceMethod yX1_over]
def wsL_law_r9 : List Cond := [Cond.selects RX1 yX1_over yX1_over, Cond.code yX1_over cX1_over 6 (some .long), Cond.methodLink RX1 55 yX1_oneByte, Cond.instanceMethod yX1_oneByte, Cond.selects RX1 yX1_oneByte yX1_oneByte, Cond.code yX1_oneByte cX1_oneByte 7 (some .long), Cond.methodLink RX1 49 yX1_bit, Cond.instanceMethod yX1_bit, Cond.selects RX1 yX1_bit yX1_bit, Cond.code yX1_bit cX1_bit 7 (some .long), Cond.methodLink RX1 58 yX1_told, Cond.instanceMethod yX1_told, Cond.selects RX1 yX1_told yX1_told, Cond.code yX1_told cX1_told 3 (some .long), Cond.methodLink RX1 52 yX1_turned, Cond.instanceMethod yX1_turned, Cond.selects RX1 yX1_turned yX1_turned, Cond.code yX1_turned cX1_turned 6 (some .long), Cond.methodLink RL 39 yX0_part, Cond.instanceMethod yX0_part, Cond.selects RX0 yX0_part yX0_part, Cond.code yX0_part cX0_part 3 (some .long), Cond.methodLink RL 43 yX1_part, Cond.instanceMethod yX1_part]
def wsL_law_r10 : List Cond := [Cond.selects RX1 yX1_part yX1_part, Cond.code yX1_part cX1_part 3 (some .long), Cond.methodLink RL 44 yX0_joined, Cond.instanceMethod yX0_joined, Cond.selects RX0 yX0_joined yX0_joined, Cond.code yX0_joined cX0_joined 8 (some .long), Cond.constantLong RX0 110 (8), Cond.methodLink RX0 107 yX0_registerOf, Cond.instanceMethod yX0_registerOf, Cond.selects RX0 yX0_registerOf yX0_registerOf, Cond.code yX0_registerOf cX0_registerOf 5 (some .long), Cond.methodLink RX0 112 yX0_behindZeros, Cond.instanceMethod yX0_behindZeros, Cond.selects RX0 yX0_behindZeros yX0_behindZeros, Cond.code yX0_behindZeros cX0_behindZeros 10 (some .long), Cond.methodLink RX0 145 yX0_product, Cond.instanceMethod yX0_product, Cond.selects RX0 yX0_product yX0_product, Cond.code yX0_product cX0_product 8 (some .long), Cond.methodLink RL 48 yX1_joined, Cond.instanceMethod yX1_joined, Cond.selects RX1 yX1_joined yX1_joined, Cond.code yX1_joined cX1_joined 6 (some .long), Cond.constantLong RX1 74 (8)]
def wsL_law_r11 : List Cond := [Cond.methodLink RX1 71 yX1_register, Cond.instanceMethod yX1_register, Cond.selects RX1 yX1_register yX1_register, Cond.code yX1_register cX1_register 5 (some .long), Cond.methodLink RX1 76 yX1_behind, Cond.instanceMethod yX1_behind, Cond.selects RX1 yX1_behind yX1_behind, Cond.code yX1_behind cX1_behind 11 (some .long), Cond.constantLong RX1 65 (2), Cond.methodLink RX1 67 yX1_times, Cond.instanceMethod yX1_times, Cond.selects RX1 yX1_times yX1_times, Cond.code yX1_times cX1_times 8 (some .long), Cond.methodLink RL 49 yX0_entry, Cond.instanceMethod yX0_entry, Cond.selects RX0 yX0_entry yX0_entry, Cond.code yX0_entry cX0_entry 3 (some .long), Cond.methodLink RL 52 yX1_entry, Cond.instanceMethod yX1_entry, Cond.selects RX1 yX1_entry yX1_entry, Cond.code yX1_entry cX1_entry 3 (some .long), Cond.methodLink RL 53 yX0_zeros, Cond.instanceMethod yX0_zeros, Cond.selects RX0 yX0_zeros yX0_zeros]
def wsL_law_r12 : List Cond := [Cond.code yX0_zeros cX0_zeros 4 (some .long), Cond.constant RX0 119 (1000000), Cond.methodLink RL 57 yX1_zeros, Cond.instanceMethod yX1_zeros, Cond.selects RX1 yX1_zeros yX1_zeros, Cond.code yX1_zeros cX1_zeros 4 (some .long), Cond.constant RX1 79 (1000000), Cond.methodLink RL 58 yX0_round, Cond.instanceMethod yX0_round, Cond.selects RX0 yX0_round yX0_round, Cond.code yX0_round cX0_round 6 (some .int), Cond.methodLink RL 62 yX1_round, Cond.instanceMethod yX1_round, Cond.selects RX1 yX1_round yX1_round, Cond.code yX1_round cX1_round 4 (some .int), Cond.methodLink RL 63 yX0_holds, Cond.instanceMethod yX0_holds, Cond.selects RX0 yX0_holds yX0_holds, Cond.code yX0_holds cX0_holds 4 (some .boolean), Cond.methodLink RX0 124 yX0_check, Cond.methodLink RX0 127 yX0_part, Cond.methodLink RX0 130 yX0_joined, Cond.methodLink RL 67 yX1_holds, Cond.instanceMethod yX1_holds]
def wsL_law_r13 : List Cond := [Cond.selects RX1 yX1_holds yX1_holds, Cond.code yX1_holds cX1_holds 1 (some .boolean), Cond.methodLink RL 68 yX0_count, Cond.instanceMethod yX0_count, Cond.selects RX0 yX0_count yX0_count, Cond.code yX0_count cX0_count 2 (some .int), Cond.methodLink RL 72 yX1_count, Cond.instanceMethod yX1_count, Cond.selects RX1 yX1_count yX1_count, Cond.code yX1_count cX1_count 2 (some .int), Cond.methodLink RL 73 yX0_told, Cond.instanceMethod yX0_told, Cond.selects RX0 yX0_told yX0_told, Cond.code yX0_told cX0_told 2 (some .long), Cond.methodLink RL 76 yX1_told_, Cond.instanceMethod yX1_told_, Cond.selects RX1 yX1_told_ yX1_told_, Cond.code yX1_told_ cX1_told_ 2 (some .long)]
def wsL_law : List Cond := (wsL_law_r1 ++ (wsL_law_r2 ++ (wsL_law_r3 ++ (wsL_law_r4 ++ (wsL_law_r5 ++ (wsL_law_r6 ++ (wsL_law_r7 ++ (wsL_law_r8 ++ (wsL_law_r9 ++ (wsL_law_r10 ++ (wsL_law_r11 ++ (wsL_law_r12 ++ wsL_law_r13)))))))))))) ++ wsX00 ++ wsX10 ++ ([] : List Cond)
set_option maxRecDepth 20000 in
theorem wsL_law_in : ∀ w ∈ wsL_law, w ∈ lw_tbl := fun w h => (goodIn_p wsL_law [40, 43, 49, 53, 56, 63, 67, 71, 75, 79, 83, 87, 253, 286, 290, 293, 127, 130, 134, 137, 140, 297, 144, 147, 301, 151, 155, 305, 159, 163, 167, 171, 175, 179, 183, 188, 195, 199, 309, 313, 317, 321, 325, 329, 203, 333, 207, 211, 216, 220, 337, 341, 346, 351, 224, 355, 228, 359, 233, 364, 237, 368, 244, 372, 248, 376] (by decide +kernel) (by decide +kernel) w h).1
theorem inlX0 : ∀ w ∈ wsX00, w ∈ wsL_law := fun _ h => List.mem_append_left _ (List.mem_append_left _ (List.mem_append_right _ h))
theorem inX0 : ∀ w ∈ wsX00, w ∈ lw_tbl := fun w h => wsL_law_in w (inlX0 w h)
theorem inlX1 : ∀ w ∈ wsX10, w ∈ wsL_law := fun _ h => List.mem_append_left _ (List.mem_append_right _ h)
theorem inX1 : ∀ w ∈ wsX10, w ∈ lw_tbl := fun w h => wsL_law_in w (inlX1 w h)
theorem inJ10 : ∀ w ∈ wsJ100, w ∈ lw_tbl := by decide +kernel
theorem inJ7 : ∀ w ∈ wsJ70, w ∈ lw_tbl := by decide +kernel
end
section
set_option maxRecDepth 20000 in
theorem ggX0_init_X0_kind : GoodIn wsX0_init wsX0_kind := goodIn_r _ [14, 15, 16, 17, 18, 19, 20, 21, 22, 23, 24, 13, 25, 26, 5, 27, 28, 29, 30, 31, 32, 33, 34, 35, 36, 37, 38, 39, 40, 41, 42, 43, 44, 45, 46, 47, 48, 7, 49, 50, 51, 52, 53, 54, 55, 56, 57, 58, 59, 60, 61, 62, 63, 64, 65, 66, 67, 68, 69, 70, 71] (by decide +kernel) (by decide +kernel)
set_option maxRecDepth 20000 in
theorem gX0_init_X0_kind : GoodIn wsX0_init (wsV RX0 23 RX0 yX0_kind wsX0_kind) := goodIn_app (goodIn_of _ (by decide +kernel)) ggX0_init_X0_kind
theorem dX0_init_0 : decode cX0_init 0 = .ok (.aload_n 0, 1) := by decide +kernel
theorem dX0_init_1 : decode cX0_init 1 = .ok (.invokespecial 3, 3) := by decide +kernel
theorem dX0_init_4 : decode cX0_init 4 = .ok (.aload_n 0, 1) := by decide +kernel
theorem dX0_init_5 : decode cX0_init 5 = .ok (.sipush 625, 3) := by decide +kernel
theorem dX0_init_8 : decode cX0_init 8 = .ok (.newarray .long, 2) := by decide +kernel
theorem dX0_init_10 : decode cX0_init 10 = .ok (.putfield 9, 3) := by decide +kernel
theorem dX0_init_13 : decode cX0_init 13 = .ok (.aload_n 0, 1) := by decide +kernel
theorem dX0_init_14 : decode cX0_init 14 = .ok (.sipush 626, 3) := by decide +kernel
theorem dX0_init_17 : decode cX0_init 17 = .ok (.newarray .long, 2) := by decide +kernel
theorem dX0_init_19 : decode cX0_init 19 = .ok (.putfield 13, 3) := by decide +kernel
theorem dX0_init_22 : decode cX0_init 22 = .ok (.aload_n 0, 1) := by decide +kernel
theorem dX0_init_23 : decode cX0_init 23 = .ok (.sipush 2048, 3) := by decide +kernel
theorem dX0_init_26 : decode cX0_init 26 = .ok (.newarray .long, 2) := by decide +kernel
theorem dX0_init_28 : decode cX0_init 28 = .ok (.putfield 16, 3) := by decide +kernel
theorem dX0_init_31 : decode cX0_init 31 = .ok (.aload_n 0, 1) := by decide +kernel
theorem dX0_init_32 : decode cX0_init 32 = .ok (.bipush 32, 2) := by decide +kernel
theorem dX0_init_34 : decode cX0_init 34 = .ok (.ldc2_w 19, 3) := by decide +kernel
theorem dX0_init_37 : decode cX0_init 37 = .ok (.ldc2_w 21, 3) := by decide +kernel
theorem dX0_init_40 : decode cX0_init 40 = .ok (.iconst 1, 1) := by decide +kernel
theorem dX0_init_41 : decode cX0_init 41 = .ok (.iconst 1, 1) := by decide +kernel
theorem dX0_init_42 : decode cX0_init 42 = .ok (.ldc2_w 21, 3) := by decide +kernel
theorem dX0_init_45 : decode cX0_init 45 = .ok (.invokevirtual 23, 3) := by decide +kernel
theorem dX0_init_48 : decode cX0_init 48 = .ok (.pop, 1) := by decide +kernel
theorem dX0_init_49 : decode cX0_init 49 = .ok (.return_, 1) := by decide +kernel
set_option maxRecDepth 20000 in
theorem ggX0_kind_X0_turnBytesOfRow : GoodIn wsX0_kind wsX0_turnBytesOfRow := goodIn_r _ [12, 13, 14, 15, 16, 11, 17, 18, 19, 20, 50, 51, 52, 53, 54, 55, 56, 57, 58, 59, 60] (by decide +kernel) (by decide +kernel)
set_option maxRecDepth 20000 in
theorem gX0_kind_X0_turnBytesOfRow : GoodIn wsX0_kind (wsV RX0 31 RX0 yX0_turnBytesOfRow wsX0_turnBytesOfRow) := goodIn_app (goodIn_of _ (by decide +kernel)) ggX0_kind_X0_turnBytesOfRow
set_option maxRecDepth 20000 in
theorem ggX0_kind_X0_lowerBits : GoodIn wsX0_kind wsX0_lowerBits := goodIn_r _ [24, 25, 26, 27, 11, 28, 2, 29, 30, 31, 32, 50, 51, 52, 53, 54, 55, 56, 57, 58, 59, 60] (by decide +kernel) (by decide +kernel)
set_option maxRecDepth 20000 in
theorem gX0_kind_X0_lowerBits : GoodIn wsX0_kind (wsV RX0 38 RX0 yX0_lowerBits wsX0_lowerBits) := goodIn_app (goodIn_of _ (by decide +kernel)) ggX0_kind_X0_lowerBits
set_option maxRecDepth 20000 in
theorem ggX0_kind_X0_atTop : GoodIn wsX0_kind wsX0_atTop := goodIn_r _ [28, 2, 50, 51, 52, 53, 54, 55, 56, 57, 58, 59, 60] (by decide +kernel) (by decide +kernel)
set_option maxRecDepth 20000 in
theorem gX0_kind_X0_atTop : GoodIn wsX0_kind (wsV RX0 46 RX0 yX0_atTop wsX0_atTop) := goodIn_app (goodIn_of _ (by decide +kernel)) ggX0_kind_X0_atTop
set_option maxRecDepth 20000 in
theorem ggX0_kind_X0_fillSlices : GoodIn wsX0_kind wsX0_fillSlices := goodIn_r _ [36, 37, 38, 39, 40, 11, 41, 42, 43, 44, 45, 4, 46, 47, 48, 49, 50, 51, 52, 53, 54, 55, 56, 57, 58, 59, 60] (by decide +kernel) (by decide +kernel)
set_option maxRecDepth 20000 in
theorem gX0_kind_X0_fillSlices : GoodIn wsX0_kind (wsV RX0 61 RX0 yX0_fillSlices wsX0_fillSlices) := goodIn_app (goodIn_of _ (by decide +kernel)) ggX0_kind_X0_fillSlices
theorem dX0_kind_0 : decode cX0_kind 0 = .ok (.iload_n 1, 1) := by decide +kernel
theorem dX0_kind_1 : decode cX0_kind 1 = .ok (.iconst 1, 1) := by decide +kernel
theorem dX0_kind_2 : decode cX0_kind 2 = .ok (.if_icmp .lt 9, 3) := by decide +kernel
theorem dX0_kind_5 : decode cX0_kind 5 = .ok (.iload_n 1, 1) := by decide +kernel
theorem dX0_kind_6 : decode cX0_kind 6 = .ok (.bipush 64, 2) := by decide +kernel
theorem dX0_kind_8 : decode cX0_kind 8 = .ok (.if_icmp .le 5, 3) := by decide +kernel
theorem dX0_kind_11 : decode cX0_kind 11 = .ok (.iconst 0, 1) := by decide +kernel
theorem dX0_kind_12 : decode cX0_kind 12 = .ok (.ireturn, 1) := by decide +kernel
theorem dX0_kind_13 : decode cX0_kind 13 = .ok (.aload_n 0, 1) := by decide +kernel
theorem dX0_kind_14 : decode cX0_kind 14 = .ok (.getfield 27, 3) := by decide +kernel
theorem dX0_kind_17 : decode cX0_kind 17 = .ok (.iload 6, 2) := by decide +kernel
theorem dX0_kind_19 : decode cX0_kind 19 = .ok (.if_icmp .eq 7, 3) := by decide +kernel
theorem dX0_kind_22 : decode cX0_kind 22 = .ok (.aload_n 0, 1) := by decide +kernel
theorem dX0_kind_23 : decode cX0_kind 23 = .ok (.invokevirtual 31, 3) := by decide +kernel
theorem dX0_kind_26 : decode cX0_kind 26 = .ok (.aload_n 0, 1) := by decide +kernel
theorem dX0_kind_27 : decode cX0_kind 27 = .ok (.iload_n 1, 1) := by decide +kernel
theorem dX0_kind_28 : decode cX0_kind 28 = .ok (.putfield 34, 3) := by decide +kernel
theorem dX0_kind_31 : decode cX0_kind 31 = .ok (.aload_n 0, 1) := by decide +kernel
theorem dX0_kind_32 : decode cX0_kind 32 = .ok (.aload_n 0, 1) := by decide +kernel
theorem dX0_kind_33 : decode cX0_kind 33 = .ok (.lload_n 2, 1) := by decide +kernel
theorem dX0_kind_34 : decode cX0_kind 34 = .ok (.invokevirtual 38, 3) := by decide +kernel
theorem dX0_kind_37 : decode cX0_kind 37 = .ok (.putfield 42, 3) := by decide +kernel
theorem dX0_kind_40 : decode cX0_kind 40 = .ok (.aload_n 0, 1) := by decide +kernel
theorem dX0_kind_41 : decode cX0_kind 41 = .ok (.aload_n 0, 1) := by decide +kernel
theorem dX0_kind_42 : decode cX0_kind 42 = .ok (.lload_n 2, 1) := by decide +kernel
theorem dX0_kind_43 : decode cX0_kind 43 = .ok (.invokevirtual 46, 3) := by decide +kernel
theorem dX0_kind_46 : decode cX0_kind 46 = .ok (.putfield 49, 3) := by decide +kernel
theorem dX0_kind_49 : decode cX0_kind 49 = .ok (.aload_n 0, 1) := by decide +kernel
theorem dX0_kind_50 : decode cX0_kind 50 = .ok (.aload_n 0, 1) := by decide +kernel
theorem dX0_kind_51 : decode cX0_kind 51 = .ok (.lload 4, 2) := by decide +kernel
theorem dX0_kind_53 : decode cX0_kind 53 = .ok (.invokevirtual 38, 3) := by decide +kernel
theorem dX0_kind_56 : decode cX0_kind 56 = .ok (.putfield 52, 3) := by decide +kernel
theorem dX0_kind_59 : decode cX0_kind 59 = .ok (.aload_n 0, 1) := by decide +kernel
theorem dX0_kind_60 : decode cX0_kind 60 = .ok (.iload 6, 2) := by decide +kernel
theorem dX0_kind_62 : decode cX0_kind 62 = .ok (.putfield 27, 3) := by decide +kernel
theorem dX0_kind_65 : decode cX0_kind 65 = .ok (.aload_n 0, 1) := by decide +kernel
theorem dX0_kind_66 : decode cX0_kind 66 = .ok (.iload 7, 2) := by decide +kernel
theorem dX0_kind_68 : decode cX0_kind 68 = .ok (.putfield 55, 3) := by decide +kernel
theorem dX0_kind_71 : decode cX0_kind 71 = .ok (.aload_n 0, 1) := by decide +kernel
theorem dX0_kind_72 : decode cX0_kind 72 = .ok (.aload_n 0, 1) := by decide +kernel
theorem dX0_kind_73 : decode cX0_kind 73 = .ok (.lload 8, 2) := by decide +kernel
theorem dX0_kind_75 : decode cX0_kind 75 = .ok (.invokevirtual 38, 3) := by decide +kernel
theorem dX0_kind_78 : decode cX0_kind 78 = .ok (.putfield 58, 3) := by decide +kernel
theorem dX0_kind_81 : decode cX0_kind 81 = .ok (.aload_n 0, 1) := by decide +kernel
theorem dX0_kind_82 : decode cX0_kind 82 = .ok (.invokevirtual 61, 3) := by decide +kernel
theorem dX0_kind_85 : decode cX0_kind 85 = .ok (.iconst 1, 1) := by decide +kernel
theorem dX0_kind_86 : decode cX0_kind 86 = .ok (.ireturn, 1) := by decide +kernel
set_option maxRecDepth 20000 in
theorem ggX0_feed_X0_isByte : GoodIn wsX0_feed wsX0_isByte := goodIn_r _ [6] (by decide +kernel) (by decide +kernel)
set_option maxRecDepth 20000 in
theorem gX0_feed_X0_isByte : GoodIn wsX0_feed (va_wsS RX0 64 yX0_isByte wsX0_isByte) := goodIn_app (goodIn_of _ (by decide +kernel)) ggX0_feed_X0_isByte
set_option maxRecDepth 20000 in
theorem ggX0_feed_X0_asItComes : GoodIn wsX0_feed wsX0_asItComes := goodIn_r _ [10, 11, 12, 13, 5, 14, 18, 19, 20, 21, 22, 23, 24, 25, 26, 27, 28] (by decide +kernel) (by decide +kernel)
set_option maxRecDepth 20000 in
theorem gX0_feed_X0_asItComes : GoodIn wsX0_feed (wsV RX0 71 RX0 yX0_asItComes wsX0_asItComes) := goodIn_app (goodIn_of _ (by decide +kernel)) ggX0_feed_X0_asItComes
set_option maxRecDepth 20000 in
theorem ggX0_feed_X0_shiftOfByte : GoodIn wsX0_feed wsX0_shiftOfByte := goodIn_r _ [17] (by decide +kernel) (by decide +kernel)
set_option maxRecDepth 20000 in
theorem gX0_feed_X0_shiftOfByte : GoodIn wsX0_feed (va_wsS RX0 75 yX0_shiftOfByte wsX0_shiftOfByte) := goodIn_app (goodIn_of _ (by decide +kernel)) ggX0_feed_X0_shiftOfByte
theorem dX0_feed_0 : decode cX0_feed 0 = .ok (.iload_n 1, 1) := by decide +kernel
theorem dX0_feed_1 : decode cX0_feed 1 = .ok (.invokestatic 64, 3) := by decide +kernel
theorem dX0_feed_4 : decode cX0_feed 4 = .ok (.ifCond .eq 20, 3) := by decide +kernel
theorem dX0_feed_7 : decode cX0_feed 7 = .ok (.iload_n 2, 1) := by decide +kernel
theorem dX0_feed_8 : decode cX0_feed 8 = .ok (.iconst 1, 1) := by decide +kernel
theorem dX0_feed_9 : decode cX0_feed 9 = .ok (.if_icmp .lt 15, 3) := by decide +kernel
theorem dX0_feed_12 : decode cX0_feed 12 = .ok (.iload_n 2, 1) := by decide +kernel
theorem dX0_feed_13 : decode cX0_feed 13 = .ok (.sipush 5000, 3) := by decide +kernel
theorem dX0_feed_16 : decode cX0_feed 16 = .ok (.aload_n 0, 1) := by decide +kernel
theorem dX0_feed_17 : decode cX0_feed 17 = .ok (.getfield 68, 3) := by decide +kernel
theorem dX0_feed_20 : decode cX0_feed 20 = .ok (.isub, 1) := by decide +kernel
theorem dX0_feed_21 : decode cX0_feed 21 = .ok (.if_icmp .le 5, 3) := by decide +kernel
theorem dX0_feed_24 : decode cX0_feed 24 = .ok (.iconst 0, 1) := by decide +kernel
theorem dX0_feed_25 : decode cX0_feed 25 = .ok (.ireturn, 1) := by decide +kernel
theorem dX0_feed_26 : decode cX0_feed 26 = .ok (.aload_n 0, 1) := by decide +kernel
theorem dX0_feed_27 : decode cX0_feed 27 = .ok (.iload_n 1, 1) := by decide +kernel
theorem dX0_feed_28 : decode cX0_feed 28 = .ok (.invokevirtual 71, 3) := by decide +kernel
theorem dX0_feed_31 : decode cX0_feed 31 = .ok (.lstore_n 3, 1) := by decide +kernel
theorem dX0_feed_32 : decode cX0_feed 32 = .ok (.iconst 0, 1) := by decide +kernel
theorem dX0_feed_33 : decode cX0_feed 33 = .ok (.istore 5, 2) := by decide +kernel
theorem dX0_feed_35 : decode cX0_feed 35 = .ok (.iload 5, 2) := by decide +kernel
theorem dX0_feed_37 : decode cX0_feed 37 = .ok (.iload_n 2, 1) := by decide +kernel
theorem dX0_feed_38 : decode cX0_feed 38 = .ok (.if_icmp .ge 43, 3) := by decide +kernel
theorem dX0_feed_41 : decode cX0_feed 41 = .ok (.aload_n 0, 1) := by decide +kernel
theorem dX0_feed_42 : decode cX0_feed 42 = .ok (.getfield 9, 3) := by decide +kernel
theorem dX0_feed_45 : decode cX0_feed 45 = .ok (.aload_n 0, 1) := by decide +kernel
theorem dX0_feed_46 : decode cX0_feed 46 = .ok (.getfield 68, 3) := by decide +kernel
theorem dX0_feed_49 : decode cX0_feed 49 = .ok (.bipush 8, 2) := by decide +kernel
theorem dX0_feed_51 : decode cX0_feed 51 = .ok (.idiv, 1) := by decide +kernel
theorem dX0_feed_52 : decode cX0_feed 52 = .ok (.dup2, 1) := by decide +kernel
theorem dX0_feed_53 : decode cX0_feed 53 = .ok (.laload, 1) := by decide +kernel
theorem dX0_feed_54 : decode cX0_feed 54 = .ok (.lload_n 3, 1) := by decide +kernel
theorem dX0_feed_55 : decode cX0_feed 55 = .ok (.aload_n 0, 1) := by decide +kernel
theorem dX0_feed_56 : decode cX0_feed 56 = .ok (.getfield 68, 3) := by decide +kernel
theorem dX0_feed_59 : decode cX0_feed 59 = .ok (.invokestatic 75, 3) := by decide +kernel
theorem dX0_feed_62 : decode cX0_feed 62 = .ok (.lshl, 1) := by decide +kernel
theorem dX0_feed_63 : decode cX0_feed 63 = .ok (.lor, 1) := by decide +kernel
theorem dX0_feed_64 : decode cX0_feed 64 = .ok (.lastore, 1) := by decide +kernel
theorem dX0_feed_65 : decode cX0_feed 65 = .ok (.aload_n 0, 1) := by decide +kernel
theorem dX0_feed_66 : decode cX0_feed 66 = .ok (.dup, 1) := by decide +kernel
theorem dX0_feed_67 : decode cX0_feed 67 = .ok (.getfield 68, 3) := by decide +kernel
theorem dX0_feed_70 : decode cX0_feed 70 = .ok (.iconst 1, 1) := by decide +kernel
theorem dX0_feed_71 : decode cX0_feed 71 = .ok (.iadd, 1) := by decide +kernel
theorem dX0_feed_72 : decode cX0_feed 72 = .ok (.putfield 68, 3) := by decide +kernel
theorem dX0_feed_75 : decode cX0_feed 75 = .ok (.iinc 5 1, 3) := by decide +kernel
theorem dX0_feed_78 : decode cX0_feed 78 = .ok (.goto (-43), 3) := by decide +kernel
theorem dX0_feed_81 : decode cX0_feed 81 = .ok (.iconst 1, 1) := by decide +kernel
theorem dX0_feed_82 : decode cX0_feed 82 = .ok (.ireturn, 1) := by decide +kernel
set_option maxRecDepth 20000 in
theorem ggX0_clear_J7_fill_d0a16 : GoodIn wsX0_clear wsJ7_fill_d0a16 := goodIn_r _ [6] (by decide +kernel) (by decide +kernel)
set_option maxRecDepth 20000 in
theorem gX0_clear_J7_fill_d0a16 : GoodIn wsX0_clear (va_wsS RX0 79 yJ7_fill_d0a16 wsJ7_fill_d0a16) := goodIn_app (goodIn_of _ (by decide +kernel)) ggX0_clear_J7_fill_d0a16
theorem dX0_clear_0 : decode cX0_clear 0 = .ok (.aload_n 0, 1) := by decide +kernel
theorem dX0_clear_1 : decode cX0_clear 1 = .ok (.getfield 9, 3) := by decide +kernel
theorem dX0_clear_4 : decode cX0_clear 4 = .ok (.lconst 0, 1) := by decide +kernel
theorem dX0_clear_5 : decode cX0_clear 5 = .ok (.invokestatic 79, 3) := by decide +kernel
theorem dX0_clear_8 : decode cX0_clear 8 = .ok (.aload_n 0, 1) := by decide +kernel
theorem dX0_clear_9 : decode cX0_clear 9 = .ok (.iconst 0, 1) := by decide +kernel
theorem dX0_clear_10 : decode cX0_clear 10 = .ok (.putfield 68, 3) := by decide +kernel
theorem dX0_clear_13 : decode cX0_clear 13 = .ok (.return_, 1) := by decide +kernel
set_option maxRecDepth 20000 in
theorem ggX0_flip_X0_bitsOfRow : GoodIn wsX0_flip wsX0_bitsOfRow := goodIn_r _ [6, 7, 8, 9, 10, 11, 12, 13, 14, 15, 16, 17, 18] (by decide +kernel) (by decide +kernel)
set_option maxRecDepth 20000 in
theorem gX0_flip_X0_bitsOfRow : GoodIn wsX0_flip (wsV RX0 85 RX0 yX0_bitsOfRow wsX0_bitsOfRow) := goodIn_app (goodIn_of _ (by decide +kernel)) ggX0_flip_X0_bitsOfRow
theorem dX0_flip_0 : decode cX0_flip 0 = .ok (.iload_n 1, 1) := by decide +kernel
theorem dX0_flip_1 : decode cX0_flip 1 = .ok (.ifCond .lt 11, 3) := by decide +kernel
theorem dX0_flip_4 : decode cX0_flip 4 = .ok (.iload_n 1, 1) := by decide +kernel
theorem dX0_flip_5 : decode cX0_flip 5 = .ok (.aload_n 0, 1) := by decide +kernel
theorem dX0_flip_6 : decode cX0_flip 6 = .ok (.invokevirtual 85, 3) := by decide +kernel
theorem dX0_flip_9 : decode cX0_flip 9 = .ok (.if_icmp .lt 5, 3) := by decide +kernel
theorem dX0_flip_12 : decode cX0_flip 12 = .ok (.iconst 0, 1) := by decide +kernel
theorem dX0_flip_13 : decode cX0_flip 13 = .ok (.ireturn, 1) := by decide +kernel
theorem dX0_flip_14 : decode cX0_flip 14 = .ok (.aload_n 0, 1) := by decide +kernel
theorem dX0_flip_15 : decode cX0_flip 15 = .ok (.getfield 9, 3) := by decide +kernel
theorem dX0_flip_18 : decode cX0_flip 18 = .ok (.iload_n 1, 1) := by decide +kernel
theorem dX0_flip_19 : decode cX0_flip 19 = .ok (.bipush 64, 2) := by decide +kernel
theorem dX0_flip_21 : decode cX0_flip 21 = .ok (.idiv, 1) := by decide +kernel
theorem dX0_flip_22 : decode cX0_flip 22 = .ok (.dup2, 1) := by decide +kernel
theorem dX0_flip_23 : decode cX0_flip 23 = .ok (.laload, 1) := by decide +kernel
theorem dX0_flip_24 : decode cX0_flip 24 = .ok (.lconst 1, 1) := by decide +kernel
theorem dX0_flip_25 : decode cX0_flip 25 = .ok (.bipush 63, 2) := by decide +kernel
theorem dX0_flip_27 : decode cX0_flip 27 = .ok (.iload_n 1, 1) := by decide +kernel
theorem dX0_flip_28 : decode cX0_flip 28 = .ok (.bipush 64, 2) := by decide +kernel
theorem dX0_flip_30 : decode cX0_flip 30 = .ok (.irem, 1) := by decide +kernel
theorem dX0_flip_31 : decode cX0_flip 31 = .ok (.isub, 1) := by decide +kernel
theorem dX0_flip_32 : decode cX0_flip 32 = .ok (.lshl, 1) := by decide +kernel
theorem dX0_flip_33 : decode cX0_flip 33 = .ok (.lxor, 1) := by decide +kernel
theorem dX0_flip_34 : decode cX0_flip 34 = .ok (.lastore, 1) := by decide +kernel
theorem dX0_flip_35 : decode cX0_flip 35 = .ok (.iconst 1, 1) := by decide +kernel
theorem dX0_flip_36 : decode cX0_flip 36 = .ok (.ireturn, 1) := by decide +kernel
set_option maxRecDepth 20000 in
theorem ggX0_check_X0_bitByBit : GoodIn wsX0_check wsX0_bitByBit := goodIn_r _ [7, 1, 2, 8, 9, 10, 6, 11, 12, 13, 14, 15, 16, 17, 18, 19, 20, 21, 22, 23, 24, 25, 26, 27, 28, 29, 82, 83, 84, 85, 86, 87, 88, 89, 90, 91, 92] (by decide +kernel) (by decide +kernel)
set_option maxRecDepth 20000 in
theorem gX0_check_X0_bitByBit : GoodIn wsX0_check (wsV RX0 89 RX0 yX0_bitByBit wsX0_bitByBit) := goodIn_app (goodIn_of _ (by decide +kernel)) ggX0_check_X0_bitByBit
set_option maxRecDepth 20000 in
theorem ggX0_check_X0_checkOf : GoodIn wsX0_check wsX0_checkOf := goodIn_r _ [33, 34, 12, 35, 36, 37, 38, 6, 39, 40, 41, 42, 82, 83, 84, 85, 86, 87, 88, 89, 90, 91, 92] (by decide +kernel) (by decide +kernel)
set_option maxRecDepth 20000 in
theorem gX0_check_X0_checkOf : GoodIn wsX0_check (wsV RX0 93 RX0 yX0_checkOf wsX0_checkOf) := goodIn_app (goodIn_of _ (by decide +kernel)) ggX0_check_X0_checkOf
set_option maxRecDepth 20000 in
theorem ggX0_check_X0_atTop : GoodIn wsX0_check wsX0_atTop := goodIn_r _ [11, 12, 82, 83, 84, 85, 86, 87, 88, 89, 90, 91, 92] (by decide +kernel) (by decide +kernel)
set_option maxRecDepth 20000 in
theorem gX0_check_X0_atTop : GoodIn wsX0_check (wsV RX0 46 RX0 yX0_atTop wsX0_atTop) := goodIn_app (goodIn_of _ (by decide +kernel)) ggX0_check_X0_atTop
set_option maxRecDepth 20000 in
theorem ggX0_check_X0_byteByByte : GoodIn wsX0_check wsX0_byteByByte := goodIn_r _ [46, 13, 14, 15, 6, 16, 17, 18, 19, 20, 47, 48, 49, 50, 51, 82, 83, 84, 85, 86, 87, 88, 89, 90, 91, 92] (by decide +kernel) (by decide +kernel)
set_option maxRecDepth 20000 in
theorem gX0_check_X0_byteByByte : GoodIn wsX0_check (wsV RX0 96 RX0 yX0_byteByByte wsX0_byteByByte) := goodIn_app (goodIn_of _ (by decide +kernel)) ggX0_check_X0_byteByByte
set_option maxRecDepth 20000 in
theorem ggX0_check_X0_eightAtOnce : GoodIn wsX0_check wsX0_eightAtOnce := goodIn_r _ [55, 1, 17, 8, 9, 10, 6, 11, 12, 43, 44, 45, 46, 13, 14, 15, 16, 18, 19, 20, 47, 48, 49, 50, 51, 56, 57, 58, 59, 60, 82, 83, 84, 85, 86, 87, 88, 89, 90, 91, 92] (by decide +kernel) (by decide +kernel)
set_option maxRecDepth 20000 in
theorem gX0_check_X0_eightAtOnce : GoodIn wsX0_check (wsV RX0 100 RX0 yX0_eightAtOnce wsX0_eightAtOnce) := goodIn_app (goodIn_of _ (by decide +kernel)) ggX0_check_X0_eightAtOnce
set_option maxRecDepth 20000 in
theorem ggX0_check_X0_byDividing : GoodIn wsX0_check wsX0_byDividing := goodIn_r _ [64, 17, 65, 66, 67, 68, 69, 1, 8, 9, 10, 6, 11, 12, 70, 71, 72, 73, 2, 74, 75, 76, 77, 29, 78, 79, 80, 81, 82, 83, 84, 85, 86, 87, 88, 89, 90, 91, 92] (by decide +kernel) (by decide +kernel)
set_option maxRecDepth 20000 in
theorem gX0_check_X0_byDividing : GoodIn wsX0_check (wsV RX0 104 RX0 yX0_byDividing wsX0_byDividing) := goodIn_app (goodIn_of _ (by decide +kernel)) ggX0_check_X0_byDividing
theorem dX0_check_0 : decode cX0_check 0 = .ok (.iload_n 1, 1) := by decide +kernel
theorem dX0_check_1 : decode cX0_check 1 = .ok (.tableswitch 85 0 3 #[31, 40, 62, 76], 31) := by decide +kernel
theorem dX0_check_32 : decode cX0_check 32 = .ok (.aload_n 0, 1) := by decide +kernel
theorem dX0_check_33 : decode cX0_check 33 = .ok (.aload_n 0, 1) := by decide +kernel
theorem dX0_check_34 : decode cX0_check 34 = .ok (.invokevirtual 89, 3) := by decide +kernel
theorem dX0_check_37 : decode cX0_check 37 = .ok (.invokevirtual 93, 3) := by decide +kernel
theorem dX0_check_40 : decode cX0_check 40 = .ok (.lreturn, 1) := by decide +kernel
theorem dX0_check_41 : decode cX0_check 41 = .ok (.aload_n 0, 1) := by decide +kernel
theorem dX0_check_42 : decode cX0_check 42 = .ok (.aload_n 0, 1) := by decide +kernel
theorem dX0_check_43 : decode cX0_check 43 = .ok (.aload_n 0, 1) := by decide +kernel
theorem dX0_check_44 : decode cX0_check 44 = .ok (.aload_n 0, 1) := by decide +kernel
theorem dX0_check_45 : decode cX0_check 45 = .ok (.getfield 52, 3) := by decide +kernel
theorem dX0_check_48 : decode cX0_check 48 = .ok (.invokevirtual 46, 3) := by decide +kernel
theorem dX0_check_51 : decode cX0_check 51 = .ok (.iconst 0, 1) := by decide +kernel
theorem dX0_check_52 : decode cX0_check 52 = .ok (.aload_n 0, 1) := by decide +kernel
theorem dX0_check_53 : decode cX0_check 53 = .ok (.getfield 68, 3) := by decide +kernel
theorem dX0_check_56 : decode cX0_check 56 = .ok (.invokevirtual 96, 3) := by decide +kernel
theorem dX0_check_59 : decode cX0_check 59 = .ok (.invokevirtual 93, 3) := by decide +kernel
theorem dX0_check_62 : decode cX0_check 62 = .ok (.lreturn, 1) := by decide +kernel
theorem dX0_check_63 : decode cX0_check 63 = .ok (.aload_n 0, 1) := by decide +kernel
theorem dX0_check_64 : decode cX0_check 64 = .ok (.aload_n 0, 1) := by decide +kernel
theorem dX0_check_65 : decode cX0_check 65 = .ok (.iconst 0, 1) := by decide +kernel
theorem dX0_check_66 : decode cX0_check 66 = .ok (.aload_n 0, 1) := by decide +kernel
theorem dX0_check_67 : decode cX0_check 67 = .ok (.getfield 68, 3) := by decide +kernel
theorem dX0_check_70 : decode cX0_check 70 = .ok (.invokevirtual 100, 3) := by decide +kernel
theorem dX0_check_73 : decode cX0_check 73 = .ok (.invokevirtual 93, 3) := by decide +kernel
theorem dX0_check_76 : decode cX0_check 76 = .ok (.lreturn, 1) := by decide +kernel
theorem dX0_check_77 : decode cX0_check 77 = .ok (.aload_n 0, 1) := by decide +kernel
theorem dX0_check_78 : decode cX0_check 78 = .ok (.aload_n 0, 1) := by decide +kernel
theorem dX0_check_79 : decode cX0_check 79 = .ok (.invokevirtual 104, 3) := by decide +kernel
theorem dX0_check_82 : decode cX0_check 82 = .ok (.invokevirtual 93, 3) := by decide +kernel
theorem dX0_check_85 : decode cX0_check 85 = .ok (.lreturn, 1) := by decide +kernel
theorem dX0_check_86 : decode cX0_check 86 = .ok (.lconst 0, 1) := by decide +kernel
theorem dX0_check_87 : decode cX0_check 87 = .ok (.lreturn, 1) := by decide +kernel
set_option maxRecDepth 20000 in
theorem ggX0_part_X0_eightAtOnce : GoodIn wsX0_part wsX0_eightAtOnce := goodIn_r _ [6, 7, 8, 9, 10, 11, 5, 12, 13, 14, 15, 16, 17, 18, 19, 20, 21, 22, 23, 24, 25, 26, 27, 28, 29, 30, 31, 32, 33, 34, 48, 49, 50, 51, 52, 53, 54, 55, 56, 57, 58] (by decide +kernel) (by decide +kernel)
set_option maxRecDepth 20000 in
theorem gX0_part_X0_eightAtOnce : GoodIn wsX0_part (wsV RX0 100 RX0 yX0_eightAtOnce wsX0_eightAtOnce) := goodIn_app (goodIn_of _ (by decide +kernel)) ggX0_part_X0_eightAtOnce
set_option maxRecDepth 20000 in
theorem ggX0_part_X0_checkOf : GoodIn wsX0_part wsX0_checkOf := goodIn_r _ [38, 39, 13, 40, 41, 42, 43, 5, 44, 45, 46, 47, 48, 49, 50, 51, 52, 53, 54, 55, 56, 57, 58] (by decide +kernel) (by decide +kernel)
set_option maxRecDepth 20000 in
theorem gX0_part_X0_checkOf : GoodIn wsX0_part (wsV RX0 93 RX0 yX0_checkOf wsX0_checkOf) := goodIn_app (goodIn_of _ (by decide +kernel)) ggX0_part_X0_checkOf
theorem dX0_part_0 : decode cX0_part 0 = .ok (.iload_n 1, 1) := by decide +kernel
theorem dX0_part_1 : decode cX0_part 1 = .ok (.ifCond .lt 16, 3) := by decide +kernel
theorem dX0_part_4 : decode cX0_part 4 = .ok (.iload_n 1, 1) := by decide +kernel
theorem dX0_part_5 : decode cX0_part 5 = .ok (.iload_n 2, 1) := by decide +kernel
theorem dX0_part_6 : decode cX0_part 6 = .ok (.if_icmp .gt 11, 3) := by decide +kernel
theorem dX0_part_9 : decode cX0_part 9 = .ok (.iload_n 2, 1) := by decide +kernel
theorem dX0_part_10 : decode cX0_part 10 = .ok (.aload_n 0, 1) := by decide +kernel
theorem dX0_part_11 : decode cX0_part 11 = .ok (.getfield 68, 3) := by decide +kernel
theorem dX0_part_14 : decode cX0_part 14 = .ok (.if_icmp .le 5, 3) := by decide +kernel
theorem dX0_part_17 : decode cX0_part 17 = .ok (.lconst 0, 1) := by decide +kernel
theorem dX0_part_18 : decode cX0_part 18 = .ok (.lreturn, 1) := by decide +kernel
theorem dX0_part_19 : decode cX0_part 19 = .ok (.aload_n 0, 1) := by decide +kernel
theorem dX0_part_20 : decode cX0_part 20 = .ok (.aload_n 0, 1) := by decide +kernel
theorem dX0_part_21 : decode cX0_part 21 = .ok (.iload_n 1, 1) := by decide +kernel
theorem dX0_part_22 : decode cX0_part 22 = .ok (.iload_n 2, 1) := by decide +kernel
theorem dX0_part_23 : decode cX0_part 23 = .ok (.invokevirtual 100, 3) := by decide +kernel
theorem dX0_part_26 : decode cX0_part 26 = .ok (.invokevirtual 93, 3) := by decide +kernel
theorem dX0_part_29 : decode cX0_part 29 = .ok (.lreturn, 1) := by decide +kernel
set_option maxRecDepth 20000 in
theorem ggX0_joined_X0_registerOf : GoodIn wsX0_joined wsX0_registerOf := goodIn_r _ [7, 8, 9, 10, 11, 12, 6, 13, 14, 15, 16, 17, 39, 40, 41, 42, 43, 44, 45, 46, 47, 48, 49] (by decide +kernel) (by decide +kernel)
set_option maxRecDepth 20000 in
theorem gX0_joined_X0_registerOf : GoodIn wsX0_joined (wsV RX0 107 RX0 yX0_registerOf wsX0_registerOf) := goodIn_app (goodIn_of _ (by decide +kernel)) ggX0_joined_X0_registerOf
set_option maxRecDepth 20000 in
theorem ggX0_joined_X0_atTop : GoodIn wsX0_joined wsX0_atTop := goodIn_r _ [17, 10, 39, 40, 41, 42, 43, 44, 45, 46, 47, 48, 49] (by decide +kernel) (by decide +kernel)
set_option maxRecDepth 20000 in
theorem gX0_joined_X0_atTop : GoodIn wsX0_joined (wsV RX0 46 RX0 yX0_atTop wsX0_atTop) := goodIn_app (goodIn_of _ (by decide +kernel)) ggX0_joined_X0_atTop
set_option maxRecDepth 20000 in
theorem ggX0_joined_X0_behindZeros : GoodIn wsX0_joined wsX0_behindZeros := goodIn_r _ [21, 14, 15, 16, 6, 17, 10, 22, 23, 24, 25, 26, 27, 28, 29, 30, 39, 40, 41, 42, 43, 44, 45, 46, 47, 48, 49] (by decide +kernel) (by decide +kernel)
set_option maxRecDepth 20000 in
theorem gX0_joined_X0_behindZeros : GoodIn wsX0_joined (wsV RX0 112 RX0 yX0_behindZeros wsX0_behindZeros) := goodIn_app (goodIn_of _ (by decide +kernel)) ggX0_joined_X0_behindZeros
set_option maxRecDepth 20000 in
theorem ggX0_joined_X0_checkOf : GoodIn wsX0_joined wsX0_checkOf := goodIn_r _ [34, 9, 10, 8, 35, 36, 37, 6, 38, 11, 12, 13, 39, 40, 41, 42, 43, 44, 45, 46, 47, 48, 49] (by decide +kernel) (by decide +kernel)
set_option maxRecDepth 20000 in
theorem gX0_joined_X0_checkOf : GoodIn wsX0_joined (wsV RX0 93 RX0 yX0_checkOf wsX0_checkOf) := goodIn_app (goodIn_of _ (by decide +kernel)) ggX0_joined_X0_checkOf
theorem dX0_joined_0 : decode cX0_joined 0 = .ok (.iload 5, 2) := by decide +kernel
theorem dX0_joined_2 : decode cX0_joined 2 = .ok (.ifCond .ge 5, 3) := by decide +kernel
theorem dX0_joined_5 : decode cX0_joined 5 = .ok (.lconst 0, 1) := by decide +kernel
theorem dX0_joined_6 : decode cX0_joined 6 = .ok (.lreturn, 1) := by decide +kernel
theorem dX0_joined_7 : decode cX0_joined 7 = .ok (.aload_n 0, 1) := by decide +kernel
theorem dX0_joined_8 : decode cX0_joined 8 = .ok (.lload_n 1, 1) := by decide +kernel
theorem dX0_joined_9 : decode cX0_joined 9 = .ok (.invokevirtual 107, 3) := by decide +kernel
theorem dX0_joined_12 : decode cX0_joined 12 = .ok (.aload_n 0, 1) := by decide +kernel
theorem dX0_joined_13 : decode cX0_joined 13 = .ok (.aload_n 0, 1) := by decide +kernel
theorem dX0_joined_14 : decode cX0_joined 14 = .ok (.getfield 52, 3) := by decide +kernel
theorem dX0_joined_17 : decode cX0_joined 17 = .ok (.invokevirtual 46, 3) := by decide +kernel
theorem dX0_joined_20 : decode cX0_joined 20 = .ok (.lxor, 1) := by decide +kernel
theorem dX0_joined_21 : decode cX0_joined 21 = .ok (.lstore 6, 2) := by decide +kernel
theorem dX0_joined_23 : decode cX0_joined 23 = .ok (.aload_n 0, 1) := by decide +kernel
theorem dX0_joined_24 : decode cX0_joined 24 = .ok (.aload_n 0, 1) := by decide +kernel
theorem dX0_joined_25 : decode cX0_joined 25 = .ok (.lload_n 3, 1) := by decide +kernel
theorem dX0_joined_26 : decode cX0_joined 26 = .ok (.invokevirtual 107, 3) := by decide +kernel
theorem dX0_joined_29 : decode cX0_joined 29 = .ok (.aload_n 0, 1) := by decide +kernel
theorem dX0_joined_30 : decode cX0_joined 30 = .ok (.lload 6, 2) := by decide +kernel
theorem dX0_joined_32 : decode cX0_joined 32 = .ok (.iload 5, 2) := by decide +kernel
theorem dX0_joined_34 : decode cX0_joined 34 = .ok (.i2l, 1) := by decide +kernel
theorem dX0_joined_35 : decode cX0_joined 35 = .ok (.ldc2_w 110, 3) := by decide +kernel
theorem dX0_joined_38 : decode cX0_joined 38 = .ok (.lmul, 1) := by decide +kernel
theorem dX0_joined_39 : decode cX0_joined 39 = .ok (.invokevirtual 112, 3) := by decide +kernel
theorem dX0_joined_42 : decode cX0_joined 42 = .ok (.lxor, 1) := by decide +kernel
theorem dX0_joined_43 : decode cX0_joined 43 = .ok (.invokevirtual 93, 3) := by decide +kernel
theorem dX0_joined_46 : decode cX0_joined 46 = .ok (.lreturn, 1) := by decide +kernel
set_option maxRecDepth 20000 in
theorem ggX0_entry_X0_isByte : GoodIn wsX0_entry wsX0_isByte := goodIn_r _ [5] (by decide +kernel) (by decide +kernel)
set_option maxRecDepth 20000 in
theorem gX0_entry_X0_isByte : GoodIn wsX0_entry (va_wsS RX0 64 yX0_isByte wsX0_isByte) := goodIn_app (goodIn_of _ (by decide +kernel)) ggX0_entry_X0_isByte
set_option maxRecDepth 20000 in
theorem ggX0_entry_X0_asItComes : GoodIn wsX0_entry wsX0_asItComes := goodIn_r _ [9, 10, 11, 12, 4, 13, 19, 20, 21, 22, 23, 24, 25, 26, 27, 28, 29] (by decide +kernel) (by decide +kernel)
set_option maxRecDepth 20000 in
theorem gX0_entry_X0_asItComes : GoodIn wsX0_entry (wsV RX0 71 RX0 yX0_asItComes wsX0_asItComes) := goodIn_app (goodIn_of _ (by decide +kernel)) ggX0_entry_X0_asItComes
set_option maxRecDepth 20000 in
theorem ggX0_entry_X0_fromTop : GoodIn wsX0_entry wsX0_fromTop := goodIn_r _ [17, 18, 19, 20, 21, 22, 23, 24, 25, 26, 27, 28, 29] (by decide +kernel) (by decide +kernel)
set_option maxRecDepth 20000 in
theorem gX0_entry_X0_fromTop : GoodIn wsX0_entry (wsV RX0 116 RX0 yX0_fromTop wsX0_fromTop) := goodIn_app (goodIn_of _ (by decide +kernel)) ggX0_entry_X0_fromTop
theorem dX0_entry_0 : decode cX0_entry 0 = .ok (.iload_n 1, 1) := by decide +kernel
theorem dX0_entry_1 : decode cX0_entry 1 = .ok (.ifCond .lt 16, 3) := by decide +kernel
theorem dX0_entry_4 : decode cX0_entry 4 = .ok (.iload_n 1, 1) := by decide +kernel
theorem dX0_entry_5 : decode cX0_entry 5 = .ok (.bipush 8, 2) := by decide +kernel
theorem dX0_entry_7 : decode cX0_entry 7 = .ok (.if_icmp .ge 10, 3) := by decide +kernel
theorem dX0_entry_10 : decode cX0_entry 10 = .ok (.iload_n 2, 1) := by decide +kernel
theorem dX0_entry_11 : decode cX0_entry 11 = .ok (.invokestatic 64, 3) := by decide +kernel
theorem dX0_entry_14 : decode cX0_entry 14 = .ok (.ifCond .ne 5, 3) := by decide +kernel
theorem dX0_entry_17 : decode cX0_entry 17 = .ok (.lconst 0, 1) := by decide +kernel
theorem dX0_entry_18 : decode cX0_entry 18 = .ok (.lreturn, 1) := by decide +kernel
theorem dX0_entry_19 : decode cX0_entry 19 = .ok (.aload_n 0, 1) := by decide +kernel
theorem dX0_entry_20 : decode cX0_entry 20 = .ok (.aload_n 0, 1) := by decide +kernel
theorem dX0_entry_21 : decode cX0_entry 21 = .ok (.getfield 16, 3) := by decide +kernel
theorem dX0_entry_24 : decode cX0_entry 24 = .ok (.iload_n 1, 1) := by decide +kernel
theorem dX0_entry_25 : decode cX0_entry 25 = .ok (.sipush 256, 3) := by decide +kernel
theorem dX0_entry_28 : decode cX0_entry 28 = .ok (.imul, 1) := by decide +kernel
theorem dX0_entry_29 : decode cX0_entry 29 = .ok (.aload_n 0, 1) := by decide +kernel
theorem dX0_entry_30 : decode cX0_entry 30 = .ok (.iload_n 2, 1) := by decide +kernel
theorem dX0_entry_31 : decode cX0_entry 31 = .ok (.invokevirtual 71, 3) := by decide +kernel
theorem dX0_entry_34 : decode cX0_entry 34 = .ok (.l2i, 1) := by decide +kernel
theorem dX0_entry_35 : decode cX0_entry 35 = .ok (.iadd, 1) := by decide +kernel
theorem dX0_entry_36 : decode cX0_entry 36 = .ok (.laload, 1) := by decide +kernel
theorem dX0_entry_37 : decode cX0_entry 37 = .ok (.invokevirtual 116, 3) := by decide +kernel
theorem dX0_entry_40 : decode cX0_entry 40 = .ok (.lreturn, 1) := by decide +kernel
set_option maxRecDepth 20000 in
theorem ggX0_zeros_X0_atTop : GoodIn wsX0_zeros wsX0_atTop := goodIn_r _ [6, 7, 25, 26, 27, 28, 29, 30, 31, 32, 33, 34, 35] (by decide +kernel) (by decide +kernel)
set_option maxRecDepth 20000 in
theorem gX0_zeros_X0_atTop : GoodIn wsX0_zeros (wsV RX0 46 RX0 yX0_atTop wsX0_atTop) := goodIn_app (goodIn_of _ (by decide +kernel)) ggX0_zeros_X0_atTop
set_option maxRecDepth 20000 in
theorem ggX0_zeros_X0_behindZeros : GoodIn wsX0_zeros wsX0_behindZeros := goodIn_r _ [11, 2, 3, 4, 5, 6, 7, 12, 13, 14, 15, 16, 17, 18, 19, 20, 25, 26, 27, 28, 29, 30, 31, 32, 33, 34, 35] (by decide +kernel) (by decide +kernel)
set_option maxRecDepth 20000 in
theorem gX0_zeros_X0_behindZeros : GoodIn wsX0_zeros (wsV RX0 112 RX0 yX0_behindZeros wsX0_behindZeros) := goodIn_app (goodIn_of _ (by decide +kernel)) ggX0_zeros_X0_behindZeros
set_option maxRecDepth 20000 in
theorem ggX0_zeros_X0_fromTop : GoodIn wsX0_zeros wsX0_fromTop := goodIn_r _ [24, 7, 25, 26, 27, 28, 29, 30, 31, 32, 33, 34, 35] (by decide +kernel) (by decide +kernel)
set_option maxRecDepth 20000 in
theorem gX0_zeros_X0_fromTop : GoodIn wsX0_zeros (wsV RX0 116 RX0 yX0_fromTop wsX0_fromTop) := goodIn_app (goodIn_of _ (by decide +kernel)) ggX0_zeros_X0_fromTop
theorem dX0_zeros_0 : decode cX0_zeros 0 = .ok (.iload_n 3, 1) := by decide +kernel
theorem dX0_zeros_1 : decode cX0_zeros 1 = .ok (.ifCond .lt 9, 3) := by decide +kernel
theorem dX0_zeros_4 : decode cX0_zeros 4 = .ok (.iload_n 3, 1) := by decide +kernel
theorem dX0_zeros_5 : decode cX0_zeros 5 = .ok (.ldc 119, 2) := by decide +kernel
theorem dX0_zeros_7 : decode cX0_zeros 7 = .ok (.if_icmp .le 5, 3) := by decide +kernel
theorem dX0_zeros_10 : decode cX0_zeros 10 = .ok (.lconst 0, 1) := by decide +kernel
theorem dX0_zeros_11 : decode cX0_zeros 11 = .ok (.lreturn, 1) := by decide +kernel
theorem dX0_zeros_12 : decode cX0_zeros 12 = .ok (.aload_n 0, 1) := by decide +kernel
theorem dX0_zeros_13 : decode cX0_zeros 13 = .ok (.aload_n 0, 1) := by decide +kernel
theorem dX0_zeros_14 : decode cX0_zeros 14 = .ok (.aload_n 0, 1) := by decide +kernel
theorem dX0_zeros_15 : decode cX0_zeros 15 = .ok (.lload_n 1, 1) := by decide +kernel
theorem dX0_zeros_16 : decode cX0_zeros 16 = .ok (.invokevirtual 46, 3) := by decide +kernel
theorem dX0_zeros_19 : decode cX0_zeros 19 = .ok (.iload_n 3, 1) := by decide +kernel
theorem dX0_zeros_20 : decode cX0_zeros 20 = .ok (.i2l, 1) := by decide +kernel
theorem dX0_zeros_21 : decode cX0_zeros 21 = .ok (.invokevirtual 112, 3) := by decide +kernel
theorem dX0_zeros_24 : decode cX0_zeros 24 = .ok (.invokevirtual 116, 3) := by decide +kernel
theorem dX0_zeros_27 : decode cX0_zeros 27 = .ok (.lreturn, 1) := by decide +kernel
set_option maxRecDepth 20000 in
theorem ggX0_round_X0_atTop : GoodIn wsX0_round wsX0_atTop := goodIn_r _ [5, 6, 12, 13, 14, 15, 16, 17, 18, 19, 20, 21, 22] (by decide +kernel) (by decide +kernel)
set_option maxRecDepth 20000 in
theorem gX0_round_X0_atTop : GoodIn wsX0_round (wsV RX0 46 RX0 yX0_atTop wsX0_atTop) := goodIn_app (goodIn_of _ (by decide +kernel)) ggX0_round_X0_atTop
set_option maxRecDepth 20000 in
theorem ggX0_round_X0_behindBit : GoodIn wsX0_round wsX0_behindBit := goodIn_r _ [10, 11, 12, 13, 14, 15, 16, 17, 18, 19, 20, 21, 22] (by decide +kernel) (by decide +kernel)
set_option maxRecDepth 20000 in
theorem gX0_round_X0_behindBit : GoodIn wsX0_round (wsV RX0 120 RX0 yX0_behindBit wsX0_behindBit) := goodIn_app (goodIn_of _ (by decide +kernel)) ggX0_round_X0_behindBit
theorem dX0_round_0 : decode cX0_round 0 = .ok (.aload_n 0, 1) := by decide +kernel
theorem dX0_round_1 : decode cX0_round 1 = .ok (.lconst 1, 1) := by decide +kernel
theorem dX0_round_2 : decode cX0_round 2 = .ok (.invokevirtual 46, 3) := by decide +kernel
theorem dX0_round_5 : decode cX0_round 5 = .ok (.lstore_n 1, 1) := by decide +kernel
theorem dX0_round_6 : decode cX0_round 6 = .ok (.lload_n 1, 1) := by decide +kernel
theorem dX0_round_7 : decode cX0_round 7 = .ok (.lstore_n 3, 1) := by decide +kernel
theorem dX0_round_8 : decode cX0_round 8 = .ok (.iconst 1, 1) := by decide +kernel
theorem dX0_round_9 : decode cX0_round 9 = .ok (.istore 5, 2) := by decide +kernel
theorem dX0_round_11 : decode cX0_round 11 = .ok (.iload 5, 2) := by decide +kernel
theorem dX0_round_13 : decode cX0_round 13 = .ok (.sipush 4096, 3) := by decide +kernel
theorem dX0_round_16 : decode cX0_round 16 = .ok (.if_icmp .gt 25, 3) := by decide +kernel
theorem dX0_round_19 : decode cX0_round 19 = .ok (.aload_n 0, 1) := by decide +kernel
theorem dX0_round_20 : decode cX0_round 20 = .ok (.lload_n 3, 1) := by decide +kernel
theorem dX0_round_21 : decode cX0_round 21 = .ok (.iconst 0, 1) := by decide +kernel
theorem dX0_round_22 : decode cX0_round 22 = .ok (.invokevirtual 120, 3) := by decide +kernel
theorem dX0_round_25 : decode cX0_round 25 = .ok (.lstore_n 3, 1) := by decide +kernel
theorem dX0_round_26 : decode cX0_round 26 = .ok (.lload_n 3, 1) := by decide +kernel
theorem dX0_round_27 : decode cX0_round 27 = .ok (.lload_n 1, 1) := by decide +kernel
theorem dX0_round_28 : decode cX0_round 28 = .ok (.lcmp, 1) := by decide +kernel
theorem dX0_round_29 : decode cX0_round 29 = .ok (.ifCond .ne 6, 3) := by decide +kernel
theorem dX0_round_32 : decode cX0_round 32 = .ok (.iload 5, 2) := by decide +kernel
theorem dX0_round_34 : decode cX0_round 34 = .ok (.ireturn, 1) := by decide +kernel
theorem dX0_round_35 : decode cX0_round 35 = .ok (.iinc 5 1, 3) := by decide +kernel
theorem dX0_round_38 : decode cX0_round 38 = .ok (.goto (-27), 3) := by decide +kernel
theorem dX0_round_41 : decode cX0_round 41 = .ok (.iconst (-1), 1) := by decide +kernel
theorem dX0_round_42 : decode cX0_round 42 = .ok (.ireturn, 1) := by decide +kernel
set_option maxRecDepth 20000 in
theorem ggX0_holds_X0_check : GoodIn wsX0_holds wsX0_check := goodIn_r _ [6, 7, 1, 8, 9, 10, 5, 11, 12, 13, 14, 15, 16, 17, 18, 19, 20, 21, 22, 23, 24, 25, 26, 27, 28, 29, 30, 31, 32, 33, 34, 35, 36, 37, 38, 39, 40, 41, 42, 43, 44, 45, 46, 47, 48, 49, 50, 51, 52, 53, 54, 55, 56, 57, 58, 59, 60, 61, 62, 63, 64, 65, 66, 67, 68, 69, 70, 71, 72, 73, 74, 75, 76, 77, 78, 79, 80, 81, 82, 83, 84, 85, 107, 108, 109, 110, 111, 112, 113, 114, 115, 116, 117] (by decide +kernel) (by decide +kernel)
set_option maxRecDepth 20000 in
theorem gX0_holds_X0_check : GoodIn wsX0_holds (wsV RX0 124 RX0 yX0_check wsX0_check) := goodIn_app (goodIn_of _ (by decide +kernel)) ggX0_holds_X0_check
set_option maxRecDepth 20000 in
theorem ggX0_holds_X0_part : GoodIn wsX0_holds wsX0_part := goodIn_r _ [89, 1, 56, 57, 58, 5, 59, 7, 21, 12, 13, 14, 15, 16, 47, 48, 49, 50, 17, 18, 19, 20, 22, 23, 24, 51, 52, 53, 54, 55, 60, 61, 62, 63, 64, 34, 35, 36, 37, 38, 39, 40, 41, 42, 43, 44, 45, 46, 107, 108, 109, 110, 111, 112, 113, 114, 115, 116, 117] (by decide +kernel) (by decide +kernel)
set_option maxRecDepth 20000 in
theorem gX0_holds_X0_part : GoodIn wsX0_holds (wsV RX0 127 RX0 yX0_part wsX0_part) := goodIn_app (goodIn_of _ (by decide +kernel)) ggX0_holds_X0_part
set_option maxRecDepth 20000 in
theorem ggX0_holds_X0_joined : GoodIn wsX0_holds wsX0_joined := goodIn_r _ [93, 7, 94, 95, 96, 97, 5, 98, 39, 38, 16, 44, 45, 46, 12, 13, 14, 15, 99, 100, 101, 102, 29, 30, 31, 32, 33, 103, 104, 105, 106, 34, 35, 36, 37, 40, 41, 42, 43, 107, 108, 109, 110, 111, 112, 113, 114, 115, 116, 117] (by decide +kernel) (by decide +kernel)
set_option maxRecDepth 20000 in
theorem gX0_holds_X0_joined : GoodIn wsX0_holds (wsV RX0 130 RX0 yX0_joined wsX0_joined) := goodIn_app (goodIn_of _ (by decide +kernel)) ggX0_holds_X0_joined
theorem dX0_holds_0 : decode cX0_holds 0 = .ok (.aload_n 0, 1) := by decide +kernel
theorem dX0_holds_1 : decode cX0_holds 1 = .ok (.iconst 0, 1) := by decide +kernel
theorem dX0_holds_2 : decode cX0_holds 2 = .ok (.invokevirtual 124, 3) := by decide +kernel
theorem dX0_holds_5 : decode cX0_holds 5 = .ok (.lstore_n 1, 1) := by decide +kernel
theorem dX0_holds_6 : decode cX0_holds 6 = .ok (.aload_n 0, 1) := by decide +kernel
theorem dX0_holds_7 : decode cX0_holds 7 = .ok (.iconst 1, 1) := by decide +kernel
theorem dX0_holds_8 : decode cX0_holds 8 = .ok (.invokevirtual 124, 3) := by decide +kernel
theorem dX0_holds_11 : decode cX0_holds 11 = .ok (.lload_n 1, 1) := by decide +kernel
theorem dX0_holds_12 : decode cX0_holds 12 = .ok (.lcmp, 1) := by decide +kernel
theorem dX0_holds_13 : decode cX0_holds 13 = .ok (.ifCond .ne 23, 3) := by decide +kernel
theorem dX0_holds_16 : decode cX0_holds 16 = .ok (.aload_n 0, 1) := by decide +kernel
theorem dX0_holds_17 : decode cX0_holds 17 = .ok (.iconst 2, 1) := by decide +kernel
theorem dX0_holds_18 : decode cX0_holds 18 = .ok (.invokevirtual 124, 3) := by decide +kernel
theorem dX0_holds_21 : decode cX0_holds 21 = .ok (.lload_n 1, 1) := by decide +kernel
theorem dX0_holds_22 : decode cX0_holds 22 = .ok (.lcmp, 1) := by decide +kernel
theorem dX0_holds_23 : decode cX0_holds 23 = .ok (.ifCond .ne 13, 3) := by decide +kernel
theorem dX0_holds_26 : decode cX0_holds 26 = .ok (.aload_n 0, 1) := by decide +kernel
theorem dX0_holds_27 : decode cX0_holds 27 = .ok (.iconst 3, 1) := by decide +kernel
theorem dX0_holds_28 : decode cX0_holds 28 = .ok (.invokevirtual 124, 3) := by decide +kernel
theorem dX0_holds_31 : decode cX0_holds 31 = .ok (.lload_n 1, 1) := by decide +kernel
theorem dX0_holds_32 : decode cX0_holds 32 = .ok (.lcmp, 1) := by decide +kernel
theorem dX0_holds_33 : decode cX0_holds 33 = .ok (.ifCond .eq 5, 3) := by decide +kernel
theorem dX0_holds_36 : decode cX0_holds 36 = .ok (.iconst 0, 1) := by decide +kernel
theorem dX0_holds_37 : decode cX0_holds 37 = .ok (.ireturn, 1) := by decide +kernel
theorem dX0_holds_38 : decode cX0_holds 38 = .ok (.iconst 0, 1) := by decide +kernel
theorem dX0_holds_39 : decode cX0_holds 39 = .ok (.istore_n 3, 1) := by decide +kernel
theorem dX0_holds_40 : decode cX0_holds 40 = .ok (.iload_n 3, 1) := by decide +kernel
theorem dX0_holds_41 : decode cX0_holds 41 = .ok (.bipush 70, 2) := by decide +kernel
theorem dX0_holds_43 : decode cX0_holds 43 = .ok (.if_icmp .gt 49, 3) := by decide +kernel
theorem dX0_holds_46 : decode cX0_holds 46 = .ok (.iload_n 3, 1) := by decide +kernel
theorem dX0_holds_47 : decode cX0_holds 47 = .ok (.aload_n 0, 1) := by decide +kernel
theorem dX0_holds_48 : decode cX0_holds 48 = .ok (.getfield 68, 3) := by decide +kernel
theorem dX0_holds_51 : decode cX0_holds 51 = .ok (.if_icmp .gt 41, 3) := by decide +kernel
theorem dX0_holds_54 : decode cX0_holds 54 = .ok (.aload_n 0, 1) := by decide +kernel
theorem dX0_holds_55 : decode cX0_holds 55 = .ok (.aload_n 0, 1) := by decide +kernel
theorem dX0_holds_56 : decode cX0_holds 56 = .ok (.iconst 0, 1) := by decide +kernel
theorem dX0_holds_57 : decode cX0_holds 57 = .ok (.iload_n 3, 1) := by decide +kernel
theorem dX0_holds_58 : decode cX0_holds 58 = .ok (.invokevirtual 127, 3) := by decide +kernel
theorem dX0_holds_61 : decode cX0_holds 61 = .ok (.aload_n 0, 1) := by decide +kernel
theorem dX0_holds_62 : decode cX0_holds 62 = .ok (.iload_n 3, 1) := by decide +kernel
theorem dX0_holds_63 : decode cX0_holds 63 = .ok (.aload_n 0, 1) := by decide +kernel
theorem dX0_holds_64 : decode cX0_holds 64 = .ok (.getfield 68, 3) := by decide +kernel
theorem dX0_holds_67 : decode cX0_holds 67 = .ok (.invokevirtual 127, 3) := by decide +kernel
theorem dX0_holds_70 : decode cX0_holds 70 = .ok (.aload_n 0, 1) := by decide +kernel
theorem dX0_holds_71 : decode cX0_holds 71 = .ok (.getfield 68, 3) := by decide +kernel
theorem dX0_holds_74 : decode cX0_holds 74 = .ok (.iload_n 3, 1) := by decide +kernel
theorem dX0_holds_75 : decode cX0_holds 75 = .ok (.isub, 1) := by decide +kernel
theorem dX0_holds_76 : decode cX0_holds 76 = .ok (.invokevirtual 130, 3) := by decide +kernel
theorem dX0_holds_79 : decode cX0_holds 79 = .ok (.lload_n 1, 1) := by decide +kernel
theorem dX0_holds_80 : decode cX0_holds 80 = .ok (.lcmp, 1) := by decide +kernel
theorem dX0_holds_81 : decode cX0_holds 81 = .ok (.ifCond .eq 5, 3) := by decide +kernel
theorem dX0_holds_84 : decode cX0_holds 84 = .ok (.iconst 0, 1) := by decide +kernel
theorem dX0_holds_85 : decode cX0_holds 85 = .ok (.ireturn, 1) := by decide +kernel
theorem dX0_holds_86 : decode cX0_holds 86 = .ok (.iinc 3 7, 3) := by decide +kernel
theorem dX0_holds_89 : decode cX0_holds 89 = .ok (.goto (-49), 3) := by decide +kernel
theorem dX0_holds_92 : decode cX0_holds 92 = .ok (.iconst 1, 1) := by decide +kernel
theorem dX0_holds_93 : decode cX0_holds 93 = .ok (.ireturn, 1) := by decide +kernel
theorem dX0_count_0 : decode cX0_count 0 = .ok (.iload_n 1, 1) := by decide +kernel
theorem dX0_count_1 : decode cX0_count 1 = .ok (.tableswitch 67 0 3 #[31, 36, 41, 54], 31) := by decide +kernel
theorem dX0_count_32 : decode cX0_count 32 = .ok (.aload_n 0, 1) := by decide +kernel
theorem dX0_count_33 : decode cX0_count 33 = .ok (.getfield 68, 3) := by decide +kernel
theorem dX0_count_36 : decode cX0_count 36 = .ok (.ireturn, 1) := by decide +kernel
theorem dX0_count_37 : decode cX0_count 37 = .ok (.aload_n 0, 1) := by decide +kernel
theorem dX0_count_38 : decode cX0_count 38 = .ok (.getfield 34, 3) := by decide +kernel
theorem dX0_count_41 : decode cX0_count 41 = .ok (.ireturn, 1) := by decide +kernel
theorem dX0_count_42 : decode cX0_count 42 = .ok (.aload_n 0, 1) := by decide +kernel
theorem dX0_count_43 : decode cX0_count 43 = .ok (.getfield 27, 3) := by decide +kernel
theorem dX0_count_46 : decode cX0_count 46 = .ok (.ifCond .eq 7, 3) := by decide +kernel
theorem dX0_count_49 : decode cX0_count 49 = .ok (.iconst 1, 1) := by decide +kernel
theorem dX0_count_50 : decode cX0_count 50 = .ok (.goto 4, 3) := by decide +kernel
theorem dX0_count_53 : decode cX0_count 53 = .ok (.iconst 0, 1) := by decide +kernel
theorem dX0_count_54 : decode cX0_count 54 = .ok (.ireturn, 1) := by decide +kernel
theorem dX0_count_55 : decode cX0_count 55 = .ok (.aload_n 0, 1) := by decide +kernel
theorem dX0_count_56 : decode cX0_count 56 = .ok (.getfield 55, 3) := by decide +kernel
theorem dX0_count_59 : decode cX0_count 59 = .ok (.ifCond .eq 7, 3) := by decide +kernel
theorem dX0_count_62 : decode cX0_count 62 = .ok (.iconst 1, 1) := by decide +kernel
theorem dX0_count_63 : decode cX0_count 63 = .ok (.goto 4, 3) := by decide +kernel
theorem dX0_count_66 : decode cX0_count 66 = .ok (.iconst 0, 1) := by decide +kernel
theorem dX0_count_67 : decode cX0_count 67 = .ok (.ireturn, 1) := by decide +kernel
theorem dX0_count_68 : decode cX0_count 68 = .ok (.iconst (-1), 1) := by decide +kernel
theorem dX0_count_69 : decode cX0_count 69 = .ok (.ireturn, 1) := by decide +kernel
theorem dX0_told_0 : decode cX0_told 0 = .ok (.iload_n 1, 1) := by decide +kernel
theorem dX0_told_1 : decode cX0_told 1 = .ok (.tableswitch 42 0 2 #[27, 32, 37], 27) := by decide +kernel
theorem dX0_told_28 : decode cX0_told 28 = .ok (.aload_n 0, 1) := by decide +kernel
theorem dX0_told_29 : decode cX0_told 29 = .ok (.getfield 42, 3) := by decide +kernel
theorem dX0_told_32 : decode cX0_told 32 = .ok (.lreturn, 1) := by decide +kernel
theorem dX0_told_33 : decode cX0_told 33 = .ok (.aload_n 0, 1) := by decide +kernel
theorem dX0_told_34 : decode cX0_told 34 = .ok (.getfield 52, 3) := by decide +kernel
theorem dX0_told_37 : decode cX0_told 37 = .ok (.lreturn, 1) := by decide +kernel
theorem dX0_told_38 : decode cX0_told 38 = .ok (.aload_n 0, 1) := by decide +kernel
theorem dX0_told_39 : decode cX0_told 39 = .ok (.getfield 58, 3) := by decide +kernel
theorem dX0_told_42 : decode cX0_told 42 = .ok (.lreturn, 1) := by decide +kernel
theorem dX0_told_43 : decode cX0_told 43 = .ok (.lconst 0, 1) := by decide +kernel
theorem dX0_told_44 : decode cX0_told 44 = .ok (.lreturn, 1) := by decide +kernel
theorem dX0_atTop_0 : decode cX0_atTop 0 = .ok (.lload_n 1, 1) := by decide +kernel
theorem dX0_atTop_1 : decode cX0_atTop 1 = .ok (.bipush 64, 2) := by decide +kernel
theorem dX0_atTop_3 : decode cX0_atTop 3 = .ok (.aload_n 0, 1) := by decide +kernel
theorem dX0_atTop_4 : decode cX0_atTop 4 = .ok (.getfield 34, 3) := by decide +kernel
theorem dX0_atTop_7 : decode cX0_atTop 7 = .ok (.isub, 1) := by decide +kernel
theorem dX0_atTop_8 : decode cX0_atTop 8 = .ok (.lshl, 1) := by decide +kernel
theorem dX0_atTop_9 : decode cX0_atTop 9 = .ok (.lreturn, 1) := by decide +kernel
theorem dX0_fromTop_0 : decode cX0_fromTop 0 = .ok (.lload_n 1, 1) := by decide +kernel
theorem dX0_fromTop_1 : decode cX0_fromTop 1 = .ok (.bipush 64, 2) := by decide +kernel
theorem dX0_fromTop_3 : decode cX0_fromTop 3 = .ok (.aload_n 0, 1) := by decide +kernel
theorem dX0_fromTop_4 : decode cX0_fromTop 4 = .ok (.getfield 34, 3) := by decide +kernel
theorem dX0_fromTop_7 : decode cX0_fromTop 7 = .ok (.isub, 1) := by decide +kernel
theorem dX0_fromTop_8 : decode cX0_fromTop 8 = .ok (.lushr, 1) := by decide +kernel
theorem dX0_fromTop_9 : decode cX0_fromTop 9 = .ok (.lreturn, 1) := by decide +kernel
set_option maxRecDepth 20000 in
theorem ggX0_lowerBits_X0_atTop : GoodIn wsX0_lowerBits wsX0_atTop := goodIn_r _ [5, 6, 11, 12, 13, 14, 15, 16, 17, 18, 19, 20, 21] (by decide +kernel) (by decide +kernel)
set_option maxRecDepth 20000 in
theorem gX0_lowerBits_X0_atTop : GoodIn wsX0_lowerBits (wsV RX0 46 RX0 yX0_atTop wsX0_atTop) := goodIn_app (goodIn_of _ (by decide +kernel)) ggX0_lowerBits_X0_atTop
set_option maxRecDepth 20000 in
theorem ggX0_lowerBits_X0_fromTop : GoodIn wsX0_lowerBits wsX0_fromTop := goodIn_r _ [10, 6, 11, 12, 13, 14, 15, 16, 17, 18, 19, 20, 21] (by decide +kernel) (by decide +kernel)
set_option maxRecDepth 20000 in
theorem gX0_lowerBits_X0_fromTop : GoodIn wsX0_lowerBits (wsV RX0 116 RX0 yX0_fromTop wsX0_fromTop) := goodIn_app (goodIn_of _ (by decide +kernel)) ggX0_lowerBits_X0_fromTop
theorem dX0_lowerBits_0 : decode cX0_lowerBits 0 = .ok (.aload_n 0, 1) := by decide +kernel
theorem dX0_lowerBits_1 : decode cX0_lowerBits 1 = .ok (.aload_n 0, 1) := by decide +kernel
theorem dX0_lowerBits_2 : decode cX0_lowerBits 2 = .ok (.lload_n 1, 1) := by decide +kernel
theorem dX0_lowerBits_3 : decode cX0_lowerBits 3 = .ok (.invokevirtual 46, 3) := by decide +kernel
theorem dX0_lowerBits_6 : decode cX0_lowerBits 6 = .ok (.invokevirtual 116, 3) := by decide +kernel
theorem dX0_lowerBits_9 : decode cX0_lowerBits 9 = .ok (.lreturn, 1) := by decide +kernel
set_option maxRecDepth 20000 in
theorem ggX0_checkOf_X0_fromTop : GoodIn wsX0_checkOf wsX0_fromTop := goodIn_r _ [8, 2, 12, 13, 14, 15, 16, 17, 18, 19, 20, 21, 22] (by decide +kernel) (by decide +kernel)
set_option maxRecDepth 20000 in
theorem gX0_checkOf_X0_fromTop : GoodIn wsX0_checkOf (wsV RX0 116 RX0 yX0_fromTop wsX0_fromTop) := goodIn_app (goodIn_of _ (by decide +kernel)) ggX0_checkOf_X0_fromTop
set_option maxRecDepth 20000 in
theorem ggX0_checkOf_X0_turned : GoodIn wsX0_checkOf wsX0_turned := goodIn_r _ [11] (by decide +kernel) (by decide +kernel)
set_option maxRecDepth 20000 in
theorem gX0_checkOf_X0_turned : GoodIn wsX0_checkOf (va_wsS RX0 134 yX0_turned wsX0_turned) := goodIn_app (goodIn_of _ (by decide +kernel)) ggX0_checkOf_X0_turned
theorem dX0_checkOf_0 : decode cX0_checkOf 0 = .ok (.aload_n 0, 1) := by decide +kernel
theorem dX0_checkOf_1 : decode cX0_checkOf 1 = .ok (.lload_n 1, 1) := by decide +kernel
theorem dX0_checkOf_2 : decode cX0_checkOf 2 = .ok (.invokevirtual 116, 3) := by decide +kernel
theorem dX0_checkOf_5 : decode cX0_checkOf 5 = .ok (.lstore_n 3, 1) := by decide +kernel
theorem dX0_checkOf_6 : decode cX0_checkOf 6 = .ok (.aload_n 0, 1) := by decide +kernel
theorem dX0_checkOf_7 : decode cX0_checkOf 7 = .ok (.getfield 55, 3) := by decide +kernel
theorem dX0_checkOf_10 : decode cX0_checkOf 10 = .ok (.ifCond .eq 14, 3) := by decide +kernel
theorem dX0_checkOf_13 : decode cX0_checkOf 13 = .ok (.lload_n 3, 1) := by decide +kernel
theorem dX0_checkOf_14 : decode cX0_checkOf 14 = .ok (.aload_n 0, 1) := by decide +kernel
theorem dX0_checkOf_15 : decode cX0_checkOf 15 = .ok (.getfield 34, 3) := by decide +kernel
theorem dX0_checkOf_18 : decode cX0_checkOf 18 = .ok (.invokestatic 134, 3) := by decide +kernel
theorem dX0_checkOf_21 : decode cX0_checkOf 21 = .ok (.goto 4, 3) := by decide +kernel
theorem dX0_checkOf_24 : decode cX0_checkOf 24 = .ok (.lload_n 3, 1) := by decide +kernel
theorem dX0_checkOf_25 : decode cX0_checkOf 25 = .ok (.aload_n 0, 1) := by decide +kernel
theorem dX0_checkOf_26 : decode cX0_checkOf 26 = .ok (.getfield 58, 3) := by decide +kernel
theorem dX0_checkOf_29 : decode cX0_checkOf 29 = .ok (.lxor, 1) := by decide +kernel
theorem dX0_checkOf_30 : decode cX0_checkOf 30 = .ok (.lreturn, 1) := by decide +kernel
set_option maxRecDepth 20000 in
theorem ggX0_registerOf_X0_turned : GoodIn wsX0_registerOf wsX0_turned := goodIn_r _ [7] (by decide +kernel) (by decide +kernel)
set_option maxRecDepth 20000 in
theorem gX0_registerOf_X0_turned : GoodIn wsX0_registerOf (va_wsS RX0 134 yX0_turned wsX0_turned) := goodIn_app (goodIn_of _ (by decide +kernel)) ggX0_registerOf_X0_turned
set_option maxRecDepth 20000 in
theorem ggX0_registerOf_X0_atTop : GoodIn wsX0_registerOf wsX0_atTop := goodIn_r _ [11, 3, 12, 13, 14, 15, 16, 17, 18, 19, 20, 21, 22] (by decide +kernel) (by decide +kernel)
set_option maxRecDepth 20000 in
theorem gX0_registerOf_X0_atTop : GoodIn wsX0_registerOf (wsV RX0 46 RX0 yX0_atTop wsX0_atTop) := goodIn_app (goodIn_of _ (by decide +kernel)) ggX0_registerOf_X0_atTop
theorem dX0_registerOf_0 : decode cX0_registerOf 0 = .ok (.lload_n 1, 1) := by decide +kernel
theorem dX0_registerOf_1 : decode cX0_registerOf 1 = .ok (.aload_n 0, 1) := by decide +kernel
theorem dX0_registerOf_2 : decode cX0_registerOf 2 = .ok (.getfield 58, 3) := by decide +kernel
theorem dX0_registerOf_5 : decode cX0_registerOf 5 = .ok (.lxor, 1) := by decide +kernel
theorem dX0_registerOf_6 : decode cX0_registerOf 6 = .ok (.lstore_n 3, 1) := by decide +kernel
theorem dX0_registerOf_7 : decode cX0_registerOf 7 = .ok (.aload_n 0, 1) := by decide +kernel
theorem dX0_registerOf_8 : decode cX0_registerOf 8 = .ok (.aload_n 0, 1) := by decide +kernel
theorem dX0_registerOf_9 : decode cX0_registerOf 9 = .ok (.getfield 55, 3) := by decide +kernel
theorem dX0_registerOf_12 : decode cX0_registerOf 12 = .ok (.ifCond .eq 14, 3) := by decide +kernel
theorem dX0_registerOf_15 : decode cX0_registerOf 15 = .ok (.lload_n 3, 1) := by decide +kernel
theorem dX0_registerOf_16 : decode cX0_registerOf 16 = .ok (.aload_n 0, 1) := by decide +kernel
theorem dX0_registerOf_17 : decode cX0_registerOf 17 = .ok (.getfield 34, 3) := by decide +kernel
theorem dX0_registerOf_20 : decode cX0_registerOf 20 = .ok (.invokestatic 134, 3) := by decide +kernel
theorem dX0_registerOf_23 : decode cX0_registerOf 23 = .ok (.goto 4, 3) := by decide +kernel
theorem dX0_registerOf_26 : decode cX0_registerOf 26 = .ok (.lload_n 3, 1) := by decide +kernel
theorem dX0_registerOf_27 : decode cX0_registerOf 27 = .ok (.invokevirtual 46, 3) := by decide +kernel
theorem dX0_registerOf_30 : decode cX0_registerOf 30 = .ok (.lreturn, 1) := by decide +kernel
theorem dX0_turned_0 : decode cX0_turned 0 = .ok (.lconst 0, 1) := by decide +kernel
theorem dX0_turned_1 : decode cX0_turned 1 = .ok (.lstore_n 3, 1) := by decide +kernel
theorem dX0_turned_2 : decode cX0_turned 2 = .ok (.iconst 0, 1) := by decide +kernel
theorem dX0_turned_3 : decode cX0_turned 3 = .ok (.istore 5, 2) := by decide +kernel
theorem dX0_turned_5 : decode cX0_turned 5 = .ok (.iload 5, 2) := by decide +kernel
theorem dX0_turned_7 : decode cX0_turned 7 = .ok (.iload_n 2, 1) := by decide +kernel
theorem dX0_turned_8 : decode cX0_turned 8 = .ok (.if_icmp .ge 20, 3) := by decide +kernel
theorem dX0_turned_11 : decode cX0_turned 11 = .ok (.lload_n 3, 1) := by decide +kernel
theorem dX0_turned_12 : decode cX0_turned 12 = .ok (.iconst 1, 1) := by decide +kernel
theorem dX0_turned_13 : decode cX0_turned 13 = .ok (.lshl, 1) := by decide +kernel
theorem dX0_turned_14 : decode cX0_turned 14 = .ok (.lload_n 0, 1) := by decide +kernel
theorem dX0_turned_15 : decode cX0_turned 15 = .ok (.iload 5, 2) := by decide +kernel
theorem dX0_turned_17 : decode cX0_turned 17 = .ok (.lushr, 1) := by decide +kernel
theorem dX0_turned_18 : decode cX0_turned 18 = .ok (.lconst 1, 1) := by decide +kernel
theorem dX0_turned_19 : decode cX0_turned 19 = .ok (.land, 1) := by decide +kernel
theorem dX0_turned_20 : decode cX0_turned 20 = .ok (.lor, 1) := by decide +kernel
theorem dX0_turned_21 : decode cX0_turned 21 = .ok (.lstore_n 3, 1) := by decide +kernel
theorem dX0_turned_22 : decode cX0_turned 22 = .ok (.iinc 5 1, 3) := by decide +kernel
theorem dX0_turned_25 : decode cX0_turned 25 = .ok (.goto (-20), 3) := by decide +kernel
theorem dX0_turned_28 : decode cX0_turned 28 = .ok (.lload_n 3, 1) := by decide +kernel
theorem dX0_turned_29 : decode cX0_turned 29 = .ok (.lreturn, 1) := by decide +kernel
theorem dX0_behindBit_0 : decode cX0_behindBit 0 = .ok (.lload_n 1, 1) := by decide +kernel
theorem dX0_behindBit_1 : decode cX0_behindBit 1 = .ok (.iconst 1, 1) := by decide +kernel
theorem dX0_behindBit_2 : decode cX0_behindBit 2 = .ok (.lshl, 1) := by decide +kernel
theorem dX0_behindBit_3 : decode cX0_behindBit 3 = .ok (.lstore 4, 2) := by decide +kernel
theorem dX0_behindBit_5 : decode cX0_behindBit 5 = .ok (.lload_n 1, 1) := by decide +kernel
theorem dX0_behindBit_6 : decode cX0_behindBit 6 = .ok (.bipush 63, 2) := by decide +kernel
theorem dX0_behindBit_8 : decode cX0_behindBit 8 = .ok (.lushr, 1) := by decide +kernel
theorem dX0_behindBit_9 : decode cX0_behindBit 9 = .ok (.iload_n 3, 1) := by decide +kernel
theorem dX0_behindBit_10 : decode cX0_behindBit 10 = .ok (.i2l, 1) := by decide +kernel
theorem dX0_behindBit_11 : decode cX0_behindBit 11 = .ok (.lcmp, 1) := by decide +kernel
theorem dX0_behindBit_12 : decode cX0_behindBit 12 = .ok (.ifCond .eq 13, 3) := by decide +kernel
theorem dX0_behindBit_15 : decode cX0_behindBit 15 = .ok (.lload 4, 2) := by decide +kernel
theorem dX0_behindBit_17 : decode cX0_behindBit 17 = .ok (.aload_n 0, 1) := by decide +kernel
theorem dX0_behindBit_18 : decode cX0_behindBit 18 = .ok (.getfield 49, 3) := by decide +kernel
theorem dX0_behindBit_21 : decode cX0_behindBit 21 = .ok (.lxor, 1) := by decide +kernel
theorem dX0_behindBit_22 : decode cX0_behindBit 22 = .ok (.goto 5, 3) := by decide +kernel
theorem dX0_behindBit_25 : decode cX0_behindBit 25 = .ok (.lload 4, 2) := by decide +kernel
theorem dX0_behindBit_27 : decode cX0_behindBit 27 = .ok (.lreturn, 1) := by decide +kernel
set_option maxRecDepth 20000 in
theorem ggX0_behindByte_X0_behindBit : GoodIn wsX0_behindByte wsX0_behindBit := goodIn_r _ [5, 6, 7, 8, 9, 10, 11, 12, 13, 14, 15, 16, 17] (by decide +kernel) (by decide +kernel)
set_option maxRecDepth 20000 in
theorem gX0_behindByte_X0_behindBit : GoodIn wsX0_behindByte (wsV RX0 120 RX0 yX0_behindBit wsX0_behindBit) := goodIn_app (goodIn_of _ (by decide +kernel)) ggX0_behindByte_X0_behindBit
theorem dX0_behindByte_0 : decode cX0_behindByte 0 = .ok (.lload_n 1, 1) := by decide +kernel
theorem dX0_behindByte_1 : decode cX0_behindByte 1 = .ok (.lstore 4, 2) := by decide +kernel
theorem dX0_behindByte_3 : decode cX0_behindByte 3 = .ok (.bipush 7, 2) := by decide +kernel
theorem dX0_behindByte_5 : decode cX0_behindByte 5 = .ok (.istore 6, 2) := by decide +kernel
theorem dX0_behindByte_7 : decode cX0_behindByte 7 = .ok (.iload 6, 2) := by decide +kernel
theorem dX0_behindByte_9 : decode cX0_behindByte 9 = .ok (.ifCond .lt 23, 3) := by decide +kernel
theorem dX0_behindByte_12 : decode cX0_behindByte 12 = .ok (.aload_n 0, 1) := by decide +kernel
theorem dX0_behindByte_13 : decode cX0_behindByte 13 = .ok (.lload 4, 2) := by decide +kernel
theorem dX0_behindByte_15 : decode cX0_behindByte 15 = .ok (.iload_n 3, 1) := by decide +kernel
theorem dX0_behindByte_16 : decode cX0_behindByte 16 = .ok (.iload 6, 2) := by decide +kernel
theorem dX0_behindByte_18 : decode cX0_behindByte 18 = .ok (.iushr, 1) := by decide +kernel
theorem dX0_behindByte_19 : decode cX0_behindByte 19 = .ok (.iconst 1, 1) := by decide +kernel
theorem dX0_behindByte_20 : decode cX0_behindByte 20 = .ok (.iand, 1) := by decide +kernel
theorem dX0_behindByte_21 : decode cX0_behindByte 21 = .ok (.invokevirtual 120, 3) := by decide +kernel
theorem dX0_behindByte_24 : decode cX0_behindByte 24 = .ok (.lstore 4, 2) := by decide +kernel
theorem dX0_behindByte_26 : decode cX0_behindByte 26 = .ok (.iinc 6 (-1), 3) := by decide +kernel
theorem dX0_behindByte_29 : decode cX0_behindByte 29 = .ok (.goto (-22), 3) := by decide +kernel
theorem dX0_behindByte_32 : decode cX0_behindByte 32 = .ok (.lload 4, 2) := by decide +kernel
theorem dX0_behindByte_34 : decode cX0_behindByte 34 = .ok (.lreturn, 1) := by decide +kernel
theorem dX0_behindByteByTable_0 : decode cX0_behindByteByTable 0 = .ok (.lload_n 1, 1) := by decide +kernel
theorem dX0_behindByteByTable_1 : decode cX0_behindByteByTable 1 = .ok (.bipush 8, 2) := by decide +kernel
theorem dX0_behindByteByTable_3 : decode cX0_behindByteByTable 3 = .ok (.lshl, 1) := by decide +kernel
theorem dX0_behindByteByTable_4 : decode cX0_behindByteByTable 4 = .ok (.aload_n 0, 1) := by decide +kernel
theorem dX0_behindByteByTable_5 : decode cX0_behindByteByTable 5 = .ok (.getfield 16, 3) := by decide +kernel
theorem dX0_behindByteByTable_8 : decode cX0_behindByteByTable 8 = .ok (.lload_n 1, 1) := by decide +kernel
theorem dX0_behindByteByTable_9 : decode cX0_behindByteByTable 9 = .ok (.bipush 56, 2) := by decide +kernel
theorem dX0_behindByteByTable_11 : decode cX0_behindByteByTable 11 = .ok (.lushr, 1) := by decide +kernel
theorem dX0_behindByteByTable_12 : decode cX0_behindByteByTable 12 = .ok (.l2i, 1) := by decide +kernel
theorem dX0_behindByteByTable_13 : decode cX0_behindByteByTable 13 = .ok (.iload_n 3, 1) := by decide +kernel
theorem dX0_behindByteByTable_14 : decode cX0_behindByteByTable 14 = .ok (.ixor, 1) := by decide +kernel
theorem dX0_behindByteByTable_15 : decode cX0_behindByteByTable 15 = .ok (.laload, 1) := by decide +kernel
theorem dX0_behindByteByTable_16 : decode cX0_behindByteByTable 16 = .ok (.lxor, 1) := by decide +kernel
theorem dX0_behindByteByTable_17 : decode cX0_behindByteByTable 17 = .ok (.lreturn, 1) := by decide +kernel
theorem dX0_behindWordByTables_0 : decode cX0_behindWordByTables 0 = .ok (.lload_n 1, 1) := by decide +kernel
theorem dX0_behindWordByTables_1 : decode cX0_behindWordByTables 1 = .ok (.lload_n 3, 1) := by decide +kernel
theorem dX0_behindWordByTables_2 : decode cX0_behindWordByTables 2 = .ok (.lxor, 1) := by decide +kernel
theorem dX0_behindWordByTables_3 : decode cX0_behindWordByTables 3 = .ok (.lstore 5, 2) := by decide +kernel
theorem dX0_behindWordByTables_5 : decode cX0_behindWordByTables 5 = .ok (.lconst 0, 1) := by decide +kernel
theorem dX0_behindWordByTables_6 : decode cX0_behindWordByTables 6 = .ok (.lstore 7, 2) := by decide +kernel
theorem dX0_behindWordByTables_8 : decode cX0_behindWordByTables 8 = .ok (.iconst 0, 1) := by decide +kernel
theorem dX0_behindWordByTables_9 : decode cX0_behindWordByTables 9 = .ok (.istore 9, 2) := by decide +kernel
theorem dX0_behindWordByTables_11 : decode cX0_behindWordByTables 11 = .ok (.iload 9, 2) := by decide +kernel
theorem dX0_behindWordByTables_13 : decode cX0_behindWordByTables 13 = .ok (.bipush 8, 2) := by decide +kernel
theorem dX0_behindWordByTables_15 : decode cX0_behindWordByTables 15 = .ok (.if_icmp .ge 40, 3) := by decide +kernel
theorem dX0_behindWordByTables_18 : decode cX0_behindWordByTables 18 = .ok (.lload 7, 2) := by decide +kernel
theorem dX0_behindWordByTables_20 : decode cX0_behindWordByTables 20 = .ok (.aload_n 0, 1) := by decide +kernel
theorem dX0_behindWordByTables_21 : decode cX0_behindWordByTables 21 = .ok (.getfield 16, 3) := by decide +kernel
theorem dX0_behindWordByTables_24 : decode cX0_behindWordByTables 24 = .ok (.iload 9, 2) := by decide +kernel
theorem dX0_behindWordByTables_26 : decode cX0_behindWordByTables 26 = .ok (.sipush 256, 3) := by decide +kernel
theorem dX0_behindWordByTables_29 : decode cX0_behindWordByTables 29 = .ok (.imul, 1) := by decide +kernel
theorem dX0_behindWordByTables_30 : decode cX0_behindWordByTables 30 = .ok (.lload 5, 2) := by decide +kernel
theorem dX0_behindWordByTables_32 : decode cX0_behindWordByTables 32 = .ok (.ldc2_w 137, 3) := by decide +kernel
theorem dX0_behindWordByTables_35 : decode cX0_behindWordByTables 35 = .ok (.land, 1) := by decide +kernel
theorem dX0_behindWordByTables_36 : decode cX0_behindWordByTables 36 = .ok (.l2i, 1) := by decide +kernel
theorem dX0_behindWordByTables_37 : decode cX0_behindWordByTables 37 = .ok (.iadd, 1) := by decide +kernel
theorem dX0_behindWordByTables_38 : decode cX0_behindWordByTables 38 = .ok (.laload, 1) := by decide +kernel
theorem dX0_behindWordByTables_39 : decode cX0_behindWordByTables 39 = .ok (.lxor, 1) := by decide +kernel
theorem dX0_behindWordByTables_40 : decode cX0_behindWordByTables 40 = .ok (.lstore 7, 2) := by decide +kernel
theorem dX0_behindWordByTables_42 : decode cX0_behindWordByTables 42 = .ok (.lload 5, 2) := by decide +kernel
theorem dX0_behindWordByTables_44 : decode cX0_behindWordByTables 44 = .ok (.bipush 8, 2) := by decide +kernel
theorem dX0_behindWordByTables_46 : decode cX0_behindWordByTables 46 = .ok (.lushr, 1) := by decide +kernel
theorem dX0_behindWordByTables_47 : decode cX0_behindWordByTables 47 = .ok (.lstore 5, 2) := by decide +kernel
theorem dX0_behindWordByTables_49 : decode cX0_behindWordByTables 49 = .ok (.iinc 9 1, 3) := by decide +kernel
theorem dX0_behindWordByTables_52 : decode cX0_behindWordByTables 52 = .ok (.goto (-41), 3) := by decide +kernel
theorem dX0_behindWordByTables_55 : decode cX0_behindWordByTables 55 = .ok (.lload 7, 2) := by decide +kernel
theorem dX0_behindWordByTables_57 : decode cX0_behindWordByTables 57 = .ok (.lreturn, 1) := by decide +kernel
set_option maxRecDepth 20000 in
theorem ggX0_fillSlices_X0_behindByte : GoodIn wsX0_fillSlices wsX0_behindByte := goodIn_r _ [6, 7, 8, 9, 5, 10, 11, 16, 17, 18, 19, 20, 21, 22, 23, 24, 25, 26] (by decide +kernel) (by decide +kernel)
set_option maxRecDepth 20000 in
theorem gX0_fillSlices_X0_behindByte : GoodIn wsX0_fillSlices (wsV RX0 139 RX0 yX0_behindByte wsX0_behindByte) := goodIn_app (goodIn_of _ (by decide +kernel)) ggX0_fillSlices_X0_behindByte
set_option maxRecDepth 20000 in
theorem ggX0_fillSlices_X0_behindByteByTable : GoodIn wsX0_fillSlices wsX0_behindByteByTable := goodIn_r _ [15, 1, 16, 17, 18, 19, 20, 21, 22, 23, 24, 25, 26] (by decide +kernel) (by decide +kernel)
set_option maxRecDepth 20000 in
theorem gX0_fillSlices_X0_behindByteByTable : GoodIn wsX0_fillSlices (wsV RX0 142 RX0 yX0_behindByteByTable wsX0_behindByteByTable) := goodIn_app (goodIn_of _ (by decide +kernel)) ggX0_fillSlices_X0_behindByteByTable
theorem dX0_fillSlices_0 : decode cX0_fillSlices 0 = .ok (.iconst 0, 1) := by decide +kernel
theorem dX0_fillSlices_1 : decode cX0_fillSlices 1 = .ok (.istore_n 1, 1) := by decide +kernel
theorem dX0_fillSlices_2 : decode cX0_fillSlices 2 = .ok (.iload_n 1, 1) := by decide +kernel
theorem dX0_fillSlices_3 : decode cX0_fillSlices 3 = .ok (.sipush 256, 3) := by decide +kernel
theorem dX0_fillSlices_6 : decode cX0_fillSlices 6 = .ok (.if_icmp .ge 21, 3) := by decide +kernel
theorem dX0_fillSlices_9 : decode cX0_fillSlices 9 = .ok (.aload_n 0, 1) := by decide +kernel
theorem dX0_fillSlices_10 : decode cX0_fillSlices 10 = .ok (.getfield 16, 3) := by decide +kernel
theorem dX0_fillSlices_13 : decode cX0_fillSlices 13 = .ok (.iload_n 1, 1) := by decide +kernel
theorem dX0_fillSlices_14 : decode cX0_fillSlices 14 = .ok (.aload_n 0, 1) := by decide +kernel
theorem dX0_fillSlices_15 : decode cX0_fillSlices 15 = .ok (.lconst 0, 1) := by decide +kernel
theorem dX0_fillSlices_16 : decode cX0_fillSlices 16 = .ok (.iload_n 1, 1) := by decide +kernel
theorem dX0_fillSlices_17 : decode cX0_fillSlices 17 = .ok (.invokevirtual 139, 3) := by decide +kernel
theorem dX0_fillSlices_20 : decode cX0_fillSlices 20 = .ok (.lastore, 1) := by decide +kernel
theorem dX0_fillSlices_21 : decode cX0_fillSlices 21 = .ok (.iinc 1 1, 3) := by decide +kernel
theorem dX0_fillSlices_24 : decode cX0_fillSlices 24 = .ok (.goto (-22), 3) := by decide +kernel
theorem dX0_fillSlices_27 : decode cX0_fillSlices 27 = .ok (.sipush 256, 3) := by decide +kernel
theorem dX0_fillSlices_30 : decode cX0_fillSlices 30 = .ok (.istore_n 1, 1) := by decide +kernel
theorem dX0_fillSlices_31 : decode cX0_fillSlices 31 = .ok (.iload_n 1, 1) := by decide +kernel
theorem dX0_fillSlices_32 : decode cX0_fillSlices 32 = .ok (.aload_n 0, 1) := by decide +kernel
theorem dX0_fillSlices_33 : decode cX0_fillSlices 33 = .ok (.getfield 16, 3) := by decide +kernel
theorem dX0_fillSlices_36 : decode cX0_fillSlices 36 = .ok (.arraylength, 1) := by decide +kernel
theorem dX0_fillSlices_37 : decode cX0_fillSlices 37 = .ok (.if_icmp .ge 30, 3) := by decide +kernel
theorem dX0_fillSlices_40 : decode cX0_fillSlices 40 = .ok (.aload_n 0, 1) := by decide +kernel
theorem dX0_fillSlices_41 : decode cX0_fillSlices 41 = .ok (.getfield 16, 3) := by decide +kernel
theorem dX0_fillSlices_44 : decode cX0_fillSlices 44 = .ok (.iload_n 1, 1) := by decide +kernel
theorem dX0_fillSlices_45 : decode cX0_fillSlices 45 = .ok (.aload_n 0, 1) := by decide +kernel
theorem dX0_fillSlices_46 : decode cX0_fillSlices 46 = .ok (.aload_n 0, 1) := by decide +kernel
theorem dX0_fillSlices_47 : decode cX0_fillSlices 47 = .ok (.getfield 16, 3) := by decide +kernel
theorem dX0_fillSlices_50 : decode cX0_fillSlices 50 = .ok (.iload_n 1, 1) := by decide +kernel
theorem dX0_fillSlices_51 : decode cX0_fillSlices 51 = .ok (.sipush 256, 3) := by decide +kernel
theorem dX0_fillSlices_54 : decode cX0_fillSlices 54 = .ok (.isub, 1) := by decide +kernel
theorem dX0_fillSlices_55 : decode cX0_fillSlices 55 = .ok (.laload, 1) := by decide +kernel
theorem dX0_fillSlices_56 : decode cX0_fillSlices 56 = .ok (.iconst 0, 1) := by decide +kernel
theorem dX0_fillSlices_57 : decode cX0_fillSlices 57 = .ok (.invokevirtual 142, 3) := by decide +kernel
theorem dX0_fillSlices_60 : decode cX0_fillSlices 60 = .ok (.lastore, 1) := by decide +kernel
theorem dX0_fillSlices_61 : decode cX0_fillSlices 61 = .ok (.iinc 1 1, 3) := by decide +kernel
theorem dX0_fillSlices_64 : decode cX0_fillSlices 64 = .ok (.goto (-33), 3) := by decide +kernel
theorem dX0_fillSlices_67 : decode cX0_fillSlices 67 = .ok (.return_, 1) := by decide +kernel
set_option maxRecDepth 20000 in
theorem ggX0_behindZeros_X0_atTop : GoodIn wsX0_behindZeros wsX0_atTop := goodIn_r _ [5, 6, 16, 17, 18, 19, 20, 21, 22, 23, 24, 25, 26] (by decide +kernel) (by decide +kernel)
set_option maxRecDepth 20000 in
theorem gX0_behindZeros_X0_atTop : GoodIn wsX0_behindZeros (wsV RX0 46 RX0 yX0_atTop wsX0_atTop) := goodIn_app (goodIn_of _ (by decide +kernel)) ggX0_behindZeros_X0_atTop
set_option maxRecDepth 20000 in
theorem ggX0_behindZeros_X0_behindBit : GoodIn wsX0_behindZeros wsX0_behindBit := goodIn_r _ [10, 11, 16, 17, 18, 19, 20, 21, 22, 23, 24, 25, 26] (by decide +kernel) (by decide +kernel)
set_option maxRecDepth 20000 in
theorem gX0_behindZeros_X0_behindBit : GoodIn wsX0_behindZeros (wsV RX0 120 RX0 yX0_behindBit wsX0_behindBit) := goodIn_app (goodIn_of _ (by decide +kernel)) ggX0_behindZeros_X0_behindBit
set_option maxRecDepth 20000 in
theorem ggX0_behindZeros_X0_product : GoodIn wsX0_behindZeros wsX0_product := goodIn_r _ [15, 6, 7, 8, 9, 4, 10, 11, 16, 17, 18, 19, 20, 21, 22, 23, 24, 25, 26] (by decide +kernel) (by decide +kernel)
set_option maxRecDepth 20000 in
theorem gX0_behindZeros_X0_product : GoodIn wsX0_behindZeros (wsV RX0 145 RX0 yX0_product wsX0_product) := goodIn_app (goodIn_of _ (by decide +kernel)) ggX0_behindZeros_X0_product
theorem dX0_behindZeros_0 : decode cX0_behindZeros 0 = .ok (.lload_n 1, 1) := by decide +kernel
theorem dX0_behindZeros_1 : decode cX0_behindZeros 1 = .ok (.lstore 5, 2) := by decide +kernel
theorem dX0_behindZeros_3 : decode cX0_behindZeros 3 = .ok (.aload_n 0, 1) := by decide +kernel
theorem dX0_behindZeros_4 : decode cX0_behindZeros 4 = .ok (.aload_n 0, 1) := by decide +kernel
theorem dX0_behindZeros_5 : decode cX0_behindZeros 5 = .ok (.lconst 1, 1) := by decide +kernel
theorem dX0_behindZeros_6 : decode cX0_behindZeros 6 = .ok (.invokevirtual 46, 3) := by decide +kernel
theorem dX0_behindZeros_9 : decode cX0_behindZeros 9 = .ok (.iconst 0, 1) := by decide +kernel
theorem dX0_behindZeros_10 : decode cX0_behindZeros 10 = .ok (.invokevirtual 120, 3) := by decide +kernel
theorem dX0_behindZeros_13 : decode cX0_behindZeros 13 = .ok (.lstore 7, 2) := by decide +kernel
theorem dX0_behindZeros_15 : decode cX0_behindZeros 15 = .ok (.iconst 0, 1) := by decide +kernel
theorem dX0_behindZeros_16 : decode cX0_behindZeros 16 = .ok (.istore 9, 2) := by decide +kernel
theorem dX0_behindZeros_18 : decode cX0_behindZeros 18 = .ok (.iload 9, 2) := by decide +kernel
theorem dX0_behindZeros_20 : decode cX0_behindZeros 20 = .ok (.bipush 34, 2) := by decide +kernel
theorem dX0_behindZeros_22 : decode cX0_behindZeros 22 = .ok (.if_icmp .ge 49, 3) := by decide +kernel
theorem dX0_behindZeros_25 : decode cX0_behindZeros 25 = .ok (.lload_n 3, 1) := by decide +kernel
theorem dX0_behindZeros_26 : decode cX0_behindZeros 26 = .ok (.iload 9, 2) := by decide +kernel
theorem dX0_behindZeros_28 : decode cX0_behindZeros 28 = .ok (.lushr, 1) := by decide +kernel
theorem dX0_behindZeros_29 : decode cX0_behindZeros 29 = .ok (.lconst 0, 1) := by decide +kernel
theorem dX0_behindZeros_30 : decode cX0_behindZeros 30 = .ok (.lcmp, 1) := by decide +kernel
theorem dX0_behindZeros_31 : decode cX0_behindZeros 31 = .ok (.ifCond .eq 40, 3) := by decide +kernel
theorem dX0_behindZeros_34 : decode cX0_behindZeros 34 = .ok (.lload_n 3, 1) := by decide +kernel
theorem dX0_behindZeros_35 : decode cX0_behindZeros 35 = .ok (.iload 9, 2) := by decide +kernel
theorem dX0_behindZeros_37 : decode cX0_behindZeros 37 = .ok (.lushr, 1) := by decide +kernel
theorem dX0_behindZeros_38 : decode cX0_behindZeros 38 = .ok (.lconst 1, 1) := by decide +kernel
theorem dX0_behindZeros_39 : decode cX0_behindZeros 39 = .ok (.land, 1) := by decide +kernel
theorem dX0_behindZeros_40 : decode cX0_behindZeros 40 = .ok (.lconst 1, 1) := by decide +kernel
theorem dX0_behindZeros_41 : decode cX0_behindZeros 41 = .ok (.lcmp, 1) := by decide +kernel
theorem dX0_behindZeros_42 : decode cX0_behindZeros 42 = .ok (.ifCond .ne 13, 3) := by decide +kernel
theorem dX0_behindZeros_45 : decode cX0_behindZeros 45 = .ok (.aload_n 0, 1) := by decide +kernel
theorem dX0_behindZeros_46 : decode cX0_behindZeros 46 = .ok (.lload 5, 2) := by decide +kernel
theorem dX0_behindZeros_48 : decode cX0_behindZeros 48 = .ok (.lload 7, 2) := by decide +kernel
theorem dX0_behindZeros_50 : decode cX0_behindZeros 50 = .ok (.invokevirtual 145, 3) := by decide +kernel
theorem dX0_behindZeros_53 : decode cX0_behindZeros 53 = .ok (.lstore 5, 2) := by decide +kernel
theorem dX0_behindZeros_55 : decode cX0_behindZeros 55 = .ok (.aload_n 0, 1) := by decide +kernel
theorem dX0_behindZeros_56 : decode cX0_behindZeros 56 = .ok (.lload 7, 2) := by decide +kernel
theorem dX0_behindZeros_58 : decode cX0_behindZeros 58 = .ok (.lload 7, 2) := by decide +kernel
theorem dX0_behindZeros_60 : decode cX0_behindZeros 60 = .ok (.invokevirtual 145, 3) := by decide +kernel
theorem dX0_behindZeros_63 : decode cX0_behindZeros 63 = .ok (.lstore 7, 2) := by decide +kernel
theorem dX0_behindZeros_65 : decode cX0_behindZeros 65 = .ok (.iinc 9 1, 3) := by decide +kernel
theorem dX0_behindZeros_68 : decode cX0_behindZeros 68 = .ok (.goto (-50), 3) := by decide +kernel
theorem dX0_behindZeros_71 : decode cX0_behindZeros 71 = .ok (.lload 5, 2) := by decide +kernel
theorem dX0_behindZeros_73 : decode cX0_behindZeros 73 = .ok (.lreturn, 1) := by decide +kernel
set_option maxRecDepth 20000 in
theorem ggX0_product_X0_behindBit : GoodIn wsX0_product wsX0_behindBit := goodIn_r _ [6, 7, 8, 9, 10, 11, 12, 13, 14, 15, 16, 17, 18] (by decide +kernel) (by decide +kernel)
set_option maxRecDepth 20000 in
theorem gX0_product_X0_behindBit : GoodIn wsX0_product (wsV RX0 120 RX0 yX0_behindBit wsX0_behindBit) := goodIn_app (goodIn_of _ (by decide +kernel)) ggX0_product_X0_behindBit
theorem dX0_product_0 : decode cX0_product 0 = .ok (.lconst 0, 1) := by decide +kernel
theorem dX0_product_1 : decode cX0_product 1 = .ok (.lstore 5, 2) := by decide +kernel
theorem dX0_product_3 : decode cX0_product 3 = .ok (.iconst 0, 1) := by decide +kernel
theorem dX0_product_4 : decode cX0_product 4 = .ok (.istore 7, 2) := by decide +kernel
theorem dX0_product_6 : decode cX0_product 6 = .ok (.iload 7, 2) := by decide +kernel
theorem dX0_product_8 : decode cX0_product 8 = .ok (.aload_n 0, 1) := by decide +kernel
theorem dX0_product_9 : decode cX0_product 9 = .ok (.getfield 34, 3) := by decide +kernel
theorem dX0_product_12 : decode cX0_product 12 = .ok (.if_icmp .ge 33, 3) := by decide +kernel
theorem dX0_product_15 : decode cX0_product 15 = .ok (.aload_n 0, 1) := by decide +kernel
theorem dX0_product_16 : decode cX0_product 16 = .ok (.lload 5, 2) := by decide +kernel
theorem dX0_product_18 : decode cX0_product 18 = .ok (.iconst 0, 1) := by decide +kernel
theorem dX0_product_19 : decode cX0_product 19 = .ok (.invokevirtual 120, 3) := by decide +kernel
theorem dX0_product_22 : decode cX0_product 22 = .ok (.lstore 5, 2) := by decide +kernel
theorem dX0_product_24 : decode cX0_product 24 = .ok (.lload_n 1, 1) := by decide +kernel
theorem dX0_product_25 : decode cX0_product 25 = .ok (.iload 7, 2) := by decide +kernel
theorem dX0_product_27 : decode cX0_product 27 = .ok (.lshl, 1) := by decide +kernel
theorem dX0_product_28 : decode cX0_product 28 = .ok (.lconst 0, 1) := by decide +kernel
theorem dX0_product_29 : decode cX0_product 29 = .ok (.lcmp, 1) := by decide +kernel
theorem dX0_product_30 : decode cX0_product 30 = .ok (.ifCond .ge 9, 3) := by decide +kernel
theorem dX0_product_33 : decode cX0_product 33 = .ok (.lload 5, 2) := by decide +kernel
theorem dX0_product_35 : decode cX0_product 35 = .ok (.lload_n 3, 1) := by decide +kernel
theorem dX0_product_36 : decode cX0_product 36 = .ok (.lxor, 1) := by decide +kernel
theorem dX0_product_37 : decode cX0_product 37 = .ok (.lstore 5, 2) := by decide +kernel
theorem dX0_product_39 : decode cX0_product 39 = .ok (.iinc 7 1, 3) := by decide +kernel
theorem dX0_product_42 : decode cX0_product 42 = .ok (.goto (-36), 3) := by decide +kernel
theorem dX0_product_45 : decode cX0_product 45 = .ok (.lload 5, 2) := by decide +kernel
theorem dX0_product_47 : decode cX0_product 47 = .ok (.lreturn, 1) := by decide +kernel
theorem dX0_isByte_0 : decode cX0_isByte 0 = .ok (.iload_n 0, 1) := by decide +kernel
theorem dX0_isByte_1 : decode cX0_isByte 1 = .ok (.ifCond .lt 14, 3) := by decide +kernel
theorem dX0_isByte_4 : decode cX0_isByte 4 = .ok (.iload_n 0, 1) := by decide +kernel
theorem dX0_isByte_5 : decode cX0_isByte 5 = .ok (.sipush 256, 3) := by decide +kernel
theorem dX0_isByte_8 : decode cX0_isByte 8 = .ok (.if_icmp .ge 7, 3) := by decide +kernel
theorem dX0_isByte_11 : decode cX0_isByte 11 = .ok (.iconst 1, 1) := by decide +kernel
theorem dX0_isByte_12 : decode cX0_isByte 12 = .ok (.goto 4, 3) := by decide +kernel
theorem dX0_isByte_15 : decode cX0_isByte 15 = .ok (.iconst 0, 1) := by decide +kernel
theorem dX0_isByte_16 : decode cX0_isByte 16 = .ok (.ireturn, 1) := by decide +kernel
set_option maxRecDepth 20000 in
theorem ggX0_asItComes_X0_turned : GoodIn wsX0_asItComes wsX0_turned := goodIn_r _ [5] (by decide +kernel) (by decide +kernel)
set_option maxRecDepth 20000 in
theorem gX0_asItComes_X0_turned : GoodIn wsX0_asItComes (va_wsS RX0 134 yX0_turned wsX0_turned) := goodIn_app (goodIn_of _ (by decide +kernel)) ggX0_asItComes_X0_turned
theorem dX0_asItComes_0 : decode cX0_asItComes 0 = .ok (.aload_n 0, 1) := by decide +kernel
theorem dX0_asItComes_1 : decode cX0_asItComes 1 = .ok (.getfield 27, 3) := by decide +kernel
theorem dX0_asItComes_4 : decode cX0_asItComes 4 = .ok (.ifCond .eq 13, 3) := by decide +kernel
theorem dX0_asItComes_7 : decode cX0_asItComes 7 = .ok (.iload_n 1, 1) := by decide +kernel
theorem dX0_asItComes_8 : decode cX0_asItComes 8 = .ok (.i2l, 1) := by decide +kernel
theorem dX0_asItComes_9 : decode cX0_asItComes 9 = .ok (.bipush 8, 2) := by decide +kernel
theorem dX0_asItComes_11 : decode cX0_asItComes 11 = .ok (.invokestatic 134, 3) := by decide +kernel
theorem dX0_asItComes_14 : decode cX0_asItComes 14 = .ok (.goto 5, 3) := by decide +kernel
theorem dX0_asItComes_17 : decode cX0_asItComes 17 = .ok (.iload_n 1, 1) := by decide +kernel
theorem dX0_asItComes_18 : decode cX0_asItComes 18 = .ok (.i2l, 1) := by decide +kernel
theorem dX0_asItComes_19 : decode cX0_asItComes 19 = .ok (.lreturn, 1) := by decide +kernel
theorem dX0_bitsOfRow_0 : decode cX0_bitsOfRow 0 = .ok (.aload_n 0, 1) := by decide +kernel
theorem dX0_bitsOfRow_1 : decode cX0_bitsOfRow 1 = .ok (.getfield 68, 3) := by decide +kernel
theorem dX0_bitsOfRow_4 : decode cX0_bitsOfRow 4 = .ok (.bipush 8, 2) := by decide +kernel
theorem dX0_bitsOfRow_6 : decode cX0_bitsOfRow 6 = .ok (.imul, 1) := by decide +kernel
theorem dX0_bitsOfRow_7 : decode cX0_bitsOfRow 7 = .ok (.ireturn, 1) := by decide +kernel
theorem dX0_shiftOfByte_0 : decode cX0_shiftOfByte 0 = .ok (.bipush 56, 2) := by decide +kernel
theorem dX0_shiftOfByte_2 : decode cX0_shiftOfByte 2 = .ok (.iload_n 0, 1) := by decide +kernel
theorem dX0_shiftOfByte_3 : decode cX0_shiftOfByte 3 = .ok (.bipush 8, 2) := by decide +kernel
theorem dX0_shiftOfByte_5 : decode cX0_shiftOfByte 5 = .ok (.irem, 1) := by decide +kernel
theorem dX0_shiftOfByte_6 : decode cX0_shiftOfByte 6 = .ok (.bipush 8, 2) := by decide +kernel
theorem dX0_shiftOfByte_8 : decode cX0_shiftOfByte 8 = .ok (.imul, 1) := by decide +kernel
theorem dX0_shiftOfByte_9 : decode cX0_shiftOfByte 9 = .ok (.isub, 1) := by decide +kernel
theorem dX0_shiftOfByte_10 : decode cX0_shiftOfByte 10 = .ok (.ireturn, 1) := by decide +kernel
set_option maxRecDepth 20000 in
theorem ggX0_byteAt_X0_shiftOfByte : GoodIn wsX0_byteAt wsX0_shiftOfByte := goodIn_r _ [5] (by decide +kernel) (by decide +kernel)
set_option maxRecDepth 20000 in
theorem gX0_byteAt_X0_shiftOfByte : GoodIn wsX0_byteAt (va_wsS RX0 75 yX0_shiftOfByte wsX0_shiftOfByte) := goodIn_app (goodIn_of _ (by decide +kernel)) ggX0_byteAt_X0_shiftOfByte
theorem dX0_byteAt_0 : decode cX0_byteAt 0 = .ok (.aload_n 0, 1) := by decide +kernel
theorem dX0_byteAt_1 : decode cX0_byteAt 1 = .ok (.getfield 9, 3) := by decide +kernel
theorem dX0_byteAt_4 : decode cX0_byteAt 4 = .ok (.iload_n 1, 1) := by decide +kernel
theorem dX0_byteAt_5 : decode cX0_byteAt 5 = .ok (.bipush 8, 2) := by decide +kernel
theorem dX0_byteAt_7 : decode cX0_byteAt 7 = .ok (.idiv, 1) := by decide +kernel
theorem dX0_byteAt_8 : decode cX0_byteAt 8 = .ok (.laload, 1) := by decide +kernel
theorem dX0_byteAt_9 : decode cX0_byteAt 9 = .ok (.iload_n 1, 1) := by decide +kernel
theorem dX0_byteAt_10 : decode cX0_byteAt 10 = .ok (.invokestatic 75, 3) := by decide +kernel
theorem dX0_byteAt_13 : decode cX0_byteAt 13 = .ok (.lushr, 1) := by decide +kernel
theorem dX0_byteAt_14 : decode cX0_byteAt 14 = .ok (.l2i, 1) := by decide +kernel
theorem dX0_byteAt_15 : decode cX0_byteAt 15 = .ok (.sipush 255, 3) := by decide +kernel
theorem dX0_byteAt_18 : decode cX0_byteAt 18 = .ok (.iand, 1) := by decide +kernel
theorem dX0_byteAt_19 : decode cX0_byteAt 19 = .ok (.ireturn, 1) := by decide +kernel
set_option maxRecDepth 20000 in
theorem ggX0_turnBytesOfRow_X0_bytesTurned : GoodIn wsX0_turnBytesOfRow wsX0_bytesTurned := goodIn_r _ [6, 7, 8, 9] (by decide +kernel) (by decide +kernel)
set_option maxRecDepth 20000 in
theorem gX0_turnBytesOfRow_X0_bytesTurned : GoodIn wsX0_turnBytesOfRow (va_wsS RX0 148 yX0_bytesTurned wsX0_bytesTurned) := goodIn_app (goodIn_of _ (by decide +kernel)) ggX0_turnBytesOfRow_X0_bytesTurned
theorem dX0_turnBytesOfRow_0 : decode cX0_turnBytesOfRow 0 = .ok (.aload_n 0, 1) := by decide +kernel
theorem dX0_turnBytesOfRow_1 : decode cX0_turnBytesOfRow 1 = .ok (.getfield 68, 3) := by decide +kernel
theorem dX0_turnBytesOfRow_4 : decode cX0_turnBytesOfRow 4 = .ok (.bipush 8, 2) := by decide +kernel
theorem dX0_turnBytesOfRow_6 : decode cX0_turnBytesOfRow 6 = .ok (.iadd, 1) := by decide +kernel
theorem dX0_turnBytesOfRow_7 : decode cX0_turnBytesOfRow 7 = .ok (.iconst 1, 1) := by decide +kernel
theorem dX0_turnBytesOfRow_8 : decode cX0_turnBytesOfRow 8 = .ok (.isub, 1) := by decide +kernel
theorem dX0_turnBytesOfRow_9 : decode cX0_turnBytesOfRow 9 = .ok (.bipush 8, 2) := by decide +kernel
theorem dX0_turnBytesOfRow_11 : decode cX0_turnBytesOfRow 11 = .ok (.idiv, 1) := by decide +kernel
theorem dX0_turnBytesOfRow_12 : decode cX0_turnBytesOfRow 12 = .ok (.istore_n 1, 1) := by decide +kernel
theorem dX0_turnBytesOfRow_13 : decode cX0_turnBytesOfRow 13 = .ok (.iconst 0, 1) := by decide +kernel
theorem dX0_turnBytesOfRow_14 : decode cX0_turnBytesOfRow 14 = .ok (.istore_n 2, 1) := by decide +kernel
theorem dX0_turnBytesOfRow_15 : decode cX0_turnBytesOfRow 15 = .ok (.iload_n 2, 1) := by decide +kernel
theorem dX0_turnBytesOfRow_16 : decode cX0_turnBytesOfRow 16 = .ok (.iload_n 1, 1) := by decide +kernel
theorem dX0_turnBytesOfRow_17 : decode cX0_turnBytesOfRow 17 = .ok (.if_icmp .ge 24, 3) := by decide +kernel
theorem dX0_turnBytesOfRow_20 : decode cX0_turnBytesOfRow 20 = .ok (.aload_n 0, 1) := by decide +kernel
theorem dX0_turnBytesOfRow_21 : decode cX0_turnBytesOfRow 21 = .ok (.getfield 9, 3) := by decide +kernel
theorem dX0_turnBytesOfRow_24 : decode cX0_turnBytesOfRow 24 = .ok (.iload_n 2, 1) := by decide +kernel
theorem dX0_turnBytesOfRow_25 : decode cX0_turnBytesOfRow 25 = .ok (.aload_n 0, 1) := by decide +kernel
theorem dX0_turnBytesOfRow_26 : decode cX0_turnBytesOfRow 26 = .ok (.getfield 9, 3) := by decide +kernel
theorem dX0_turnBytesOfRow_29 : decode cX0_turnBytesOfRow 29 = .ok (.iload_n 2, 1) := by decide +kernel
theorem dX0_turnBytesOfRow_30 : decode cX0_turnBytesOfRow 30 = .ok (.laload, 1) := by decide +kernel
theorem dX0_turnBytesOfRow_31 : decode cX0_turnBytesOfRow 31 = .ok (.invokestatic 148, 3) := by decide +kernel
theorem dX0_turnBytesOfRow_34 : decode cX0_turnBytesOfRow 34 = .ok (.lastore, 1) := by decide +kernel
theorem dX0_turnBytesOfRow_35 : decode cX0_turnBytesOfRow 35 = .ok (.iinc 2 1, 3) := by decide +kernel
theorem dX0_turnBytesOfRow_38 : decode cX0_turnBytesOfRow 38 = .ok (.goto (-23), 3) := by decide +kernel
theorem dX0_turnBytesOfRow_41 : decode cX0_turnBytesOfRow 41 = .ok (.return_, 1) := by decide +kernel
theorem dX0_bytesTurned_0 : decode cX0_bytesTurned 0 = .ok (.lload_n 0, 1) := by decide +kernel
theorem dX0_bytesTurned_1 : decode cX0_bytesTurned 1 = .ok (.ldc2_w 151, 3) := by decide +kernel
theorem dX0_bytesTurned_4 : decode cX0_bytesTurned 4 = .ok (.land, 1) := by decide +kernel
theorem dX0_bytesTurned_5 : decode cX0_bytesTurned 5 = .ok (.iconst 4, 1) := by decide +kernel
theorem dX0_bytesTurned_6 : decode cX0_bytesTurned 6 = .ok (.lshl, 1) := by decide +kernel
theorem dX0_bytesTurned_7 : decode cX0_bytesTurned 7 = .ok (.lload_n 0, 1) := by decide +kernel
theorem dX0_bytesTurned_8 : decode cX0_bytesTurned 8 = .ok (.iconst 4, 1) := by decide +kernel
theorem dX0_bytesTurned_9 : decode cX0_bytesTurned 9 = .ok (.lushr, 1) := by decide +kernel
theorem dX0_bytesTurned_10 : decode cX0_bytesTurned 10 = .ok (.ldc2_w 151, 3) := by decide +kernel
theorem dX0_bytesTurned_13 : decode cX0_bytesTurned 13 = .ok (.land, 1) := by decide +kernel
theorem dX0_bytesTurned_14 : decode cX0_bytesTurned 14 = .ok (.lor, 1) := by decide +kernel
theorem dX0_bytesTurned_15 : decode cX0_bytesTurned 15 = .ok (.lstore_n 2, 1) := by decide +kernel
theorem dX0_bytesTurned_16 : decode cX0_bytesTurned 16 = .ok (.lload_n 2, 1) := by decide +kernel
theorem dX0_bytesTurned_17 : decode cX0_bytesTurned 17 = .ok (.ldc2_w 153, 3) := by decide +kernel
theorem dX0_bytesTurned_20 : decode cX0_bytesTurned 20 = .ok (.land, 1) := by decide +kernel
theorem dX0_bytesTurned_21 : decode cX0_bytesTurned 21 = .ok (.iconst 2, 1) := by decide +kernel
theorem dX0_bytesTurned_22 : decode cX0_bytesTurned 22 = .ok (.lshl, 1) := by decide +kernel
theorem dX0_bytesTurned_23 : decode cX0_bytesTurned 23 = .ok (.lload_n 2, 1) := by decide +kernel
theorem dX0_bytesTurned_24 : decode cX0_bytesTurned 24 = .ok (.iconst 2, 1) := by decide +kernel
theorem dX0_bytesTurned_25 : decode cX0_bytesTurned 25 = .ok (.lushr, 1) := by decide +kernel
theorem dX0_bytesTurned_26 : decode cX0_bytesTurned 26 = .ok (.ldc2_w 153, 3) := by decide +kernel
theorem dX0_bytesTurned_29 : decode cX0_bytesTurned 29 = .ok (.land, 1) := by decide +kernel
theorem dX0_bytesTurned_30 : decode cX0_bytesTurned 30 = .ok (.lor, 1) := by decide +kernel
theorem dX0_bytesTurned_31 : decode cX0_bytesTurned 31 = .ok (.lstore 4, 2) := by decide +kernel
theorem dX0_bytesTurned_33 : decode cX0_bytesTurned 33 = .ok (.lload 4, 2) := by decide +kernel
theorem dX0_bytesTurned_35 : decode cX0_bytesTurned 35 = .ok (.ldc2_w 155, 3) := by decide +kernel
theorem dX0_bytesTurned_38 : decode cX0_bytesTurned 38 = .ok (.land, 1) := by decide +kernel
theorem dX0_bytesTurned_39 : decode cX0_bytesTurned 39 = .ok (.iconst 1, 1) := by decide +kernel
theorem dX0_bytesTurned_40 : decode cX0_bytesTurned 40 = .ok (.lshl, 1) := by decide +kernel
theorem dX0_bytesTurned_41 : decode cX0_bytesTurned 41 = .ok (.lload 4, 2) := by decide +kernel
theorem dX0_bytesTurned_43 : decode cX0_bytesTurned 43 = .ok (.iconst 1, 1) := by decide +kernel
theorem dX0_bytesTurned_44 : decode cX0_bytesTurned 44 = .ok (.lushr, 1) := by decide +kernel
theorem dX0_bytesTurned_45 : decode cX0_bytesTurned 45 = .ok (.ldc2_w 155, 3) := by decide +kernel
theorem dX0_bytesTurned_48 : decode cX0_bytesTurned 48 = .ok (.land, 1) := by decide +kernel
theorem dX0_bytesTurned_49 : decode cX0_bytesTurned 49 = .ok (.lor, 1) := by decide +kernel
theorem dX0_bytesTurned_50 : decode cX0_bytesTurned 50 = .ok (.lreturn, 1) := by decide +kernel
set_option maxRecDepth 20000 in
theorem ggX0_bitByBit_X0_atTop : GoodIn wsX0_bitByBit wsX0_atTop := goodIn_r _ [7, 8, 26, 27, 28, 29, 30, 31, 32, 33, 34, 35, 36] (by decide +kernel) (by decide +kernel)
set_option maxRecDepth 20000 in
theorem gX0_bitByBit_X0_atTop : GoodIn wsX0_bitByBit (wsV RX0 46 RX0 yX0_atTop wsX0_atTop) := goodIn_app (goodIn_of _ (by decide +kernel)) ggX0_bitByBit_X0_atTop
set_option maxRecDepth 20000 in
theorem ggX0_bitByBit_X0_byteAt : GoodIn wsX0_bitByBit wsX0_byteAt := goodIn_r _ [12, 13, 14, 15, 6, 16, 26, 27, 28, 29, 30, 31, 32, 33, 34, 35, 36] (by decide +kernel) (by decide +kernel)
set_option maxRecDepth 20000 in
theorem gX0_bitByBit_X0_byteAt : GoodIn wsX0_bitByBit (wsV RX0 157 RX0 yX0_byteAt wsX0_byteAt) := goodIn_app (goodIn_of _ (by decide +kernel)) ggX0_bitByBit_X0_byteAt
set_option maxRecDepth 20000 in
theorem ggX0_bitByBit_X0_behindByte : GoodIn wsX0_bitByBit wsX0_behindByte := goodIn_r _ [20, 21, 22, 23, 6, 24, 25, 26, 27, 28, 29, 30, 31, 32, 33, 34, 35, 36] (by decide +kernel) (by decide +kernel)
set_option maxRecDepth 20000 in
theorem gX0_bitByBit_X0_behindByte : GoodIn wsX0_bitByBit (wsV RX0 139 RX0 yX0_behindByte wsX0_behindByte) := goodIn_app (goodIn_of _ (by decide +kernel)) ggX0_bitByBit_X0_behindByte
theorem dX0_bitByBit_0 : decode cX0_bitByBit 0 = .ok (.aload_n 0, 1) := by decide +kernel
theorem dX0_bitByBit_1 : decode cX0_bitByBit 1 = .ok (.aload_n 0, 1) := by decide +kernel
theorem dX0_bitByBit_2 : decode cX0_bitByBit 2 = .ok (.getfield 52, 3) := by decide +kernel
theorem dX0_bitByBit_5 : decode cX0_bitByBit 5 = .ok (.invokevirtual 46, 3) := by decide +kernel
theorem dX0_bitByBit_8 : decode cX0_bitByBit 8 = .ok (.lstore_n 1, 1) := by decide +kernel
theorem dX0_bitByBit_9 : decode cX0_bitByBit 9 = .ok (.iconst 0, 1) := by decide +kernel
theorem dX0_bitByBit_10 : decode cX0_bitByBit 10 = .ok (.istore_n 3, 1) := by decide +kernel
theorem dX0_bitByBit_11 : decode cX0_bitByBit 11 = .ok (.iload_n 3, 1) := by decide +kernel
theorem dX0_bitByBit_12 : decode cX0_bitByBit 12 = .ok (.aload_n 0, 1) := by decide +kernel
theorem dX0_bitByBit_13 : decode cX0_bitByBit 13 = .ok (.getfield 68, 3) := by decide +kernel
theorem dX0_bitByBit_16 : decode cX0_bitByBit 16 = .ok (.if_icmp .ge 20, 3) := by decide +kernel
theorem dX0_bitByBit_19 : decode cX0_bitByBit 19 = .ok (.aload_n 0, 1) := by decide +kernel
theorem dX0_bitByBit_20 : decode cX0_bitByBit 20 = .ok (.lload_n 1, 1) := by decide +kernel
theorem dX0_bitByBit_21 : decode cX0_bitByBit 21 = .ok (.aload_n 0, 1) := by decide +kernel
theorem dX0_bitByBit_22 : decode cX0_bitByBit 22 = .ok (.iload_n 3, 1) := by decide +kernel
theorem dX0_bitByBit_23 : decode cX0_bitByBit 23 = .ok (.invokevirtual 157, 3) := by decide +kernel
theorem dX0_bitByBit_26 : decode cX0_bitByBit 26 = .ok (.invokevirtual 139, 3) := by decide +kernel
theorem dX0_bitByBit_29 : decode cX0_bitByBit 29 = .ok (.lstore_n 1, 1) := by decide +kernel
theorem dX0_bitByBit_30 : decode cX0_bitByBit 30 = .ok (.iinc 3 1, 3) := by decide +kernel
theorem dX0_bitByBit_33 : decode cX0_bitByBit 33 = .ok (.goto (-22), 3) := by decide +kernel
theorem dX0_bitByBit_36 : decode cX0_bitByBit 36 = .ok (.lload_n 1, 1) := by decide +kernel
theorem dX0_bitByBit_37 : decode cX0_bitByBit 37 = .ok (.lreturn, 1) := by decide +kernel
set_option maxRecDepth 20000 in
theorem ggX0_byteByByte_X0_byteAt : GoodIn wsX0_byteByByte wsX0_byteAt := goodIn_r _ [5, 6, 7, 8, 4, 9, 15, 16, 17, 18, 19, 20, 21, 22, 23, 24, 25] (by decide +kernel) (by decide +kernel)
set_option maxRecDepth 20000 in
theorem gX0_byteByByte_X0_byteAt : GoodIn wsX0_byteByByte (wsV RX0 157 RX0 yX0_byteAt wsX0_byteAt) := goodIn_app (goodIn_of _ (by decide +kernel)) ggX0_byteByByte_X0_byteAt
set_option maxRecDepth 20000 in
theorem ggX0_byteByByte_X0_behindByteByTable : GoodIn wsX0_byteByByte wsX0_behindByteByTable := goodIn_r _ [13, 14, 15, 16, 17, 18, 19, 20, 21, 22, 23, 24, 25] (by decide +kernel) (by decide +kernel)
set_option maxRecDepth 20000 in
theorem gX0_byteByByte_X0_behindByteByTable : GoodIn wsX0_byteByByte (wsV RX0 142 RX0 yX0_behindByteByTable wsX0_behindByteByTable) := goodIn_app (goodIn_of _ (by decide +kernel)) ggX0_byteByByte_X0_behindByteByTable
theorem dX0_byteByByte_0 : decode cX0_byteByByte 0 = .ok (.lload_n 1, 1) := by decide +kernel
theorem dX0_byteByByte_1 : decode cX0_byteByByte 1 = .ok (.lstore 5, 2) := by decide +kernel
theorem dX0_byteByByte_3 : decode cX0_byteByByte 3 = .ok (.iload_n 3, 1) := by decide +kernel
theorem dX0_byteByByte_4 : decode cX0_byteByByte 4 = .ok (.istore 7, 2) := by decide +kernel
theorem dX0_byteByByte_6 : decode cX0_byteByByte 6 = .ok (.iload 7, 2) := by decide +kernel
theorem dX0_byteByByte_8 : decode cX0_byteByByte 8 = .ok (.iload 4, 2) := by decide +kernel
theorem dX0_byteByByte_10 : decode cX0_byteByByte 10 = .ok (.if_icmp .ge 23, 3) := by decide +kernel
theorem dX0_byteByByte_13 : decode cX0_byteByByte 13 = .ok (.aload_n 0, 1) := by decide +kernel
theorem dX0_byteByByte_14 : decode cX0_byteByByte 14 = .ok (.lload 5, 2) := by decide +kernel
theorem dX0_byteByByte_16 : decode cX0_byteByByte 16 = .ok (.aload_n 0, 1) := by decide +kernel
theorem dX0_byteByByte_17 : decode cX0_byteByByte 17 = .ok (.iload 7, 2) := by decide +kernel
theorem dX0_byteByByte_19 : decode cX0_byteByByte 19 = .ok (.invokevirtual 157, 3) := by decide +kernel
theorem dX0_byteByByte_22 : decode cX0_byteByByte 22 = .ok (.invokevirtual 142, 3) := by decide +kernel
theorem dX0_byteByByte_25 : decode cX0_byteByByte 25 = .ok (.lstore 5, 2) := by decide +kernel
theorem dX0_byteByByte_27 : decode cX0_byteByByte 27 = .ok (.iinc 7 1, 3) := by decide +kernel
theorem dX0_byteByByte_30 : decode cX0_byteByByte 30 = .ok (.goto (-24), 3) := by decide +kernel
theorem dX0_byteByByte_33 : decode cX0_byteByByte 33 = .ok (.lload 5, 2) := by decide +kernel
theorem dX0_byteByByte_35 : decode cX0_byteByByte 35 = .ok (.lreturn, 1) := by decide +kernel
set_option maxRecDepth 20000 in
theorem ggX0_eightAtOnce_X0_atTop : GoodIn wsX0_eightAtOnce wsX0_atTop := goodIn_r _ [7, 8, 30, 31, 32, 33, 34, 35, 36, 37, 38, 39, 40] (by decide +kernel) (by decide +kernel)
set_option maxRecDepth 20000 in
theorem gX0_eightAtOnce_X0_atTop : GoodIn wsX0_eightAtOnce (wsV RX0 46 RX0 yX0_atTop wsX0_atTop) := goodIn_app (goodIn_of _ (by decide +kernel)) ggX0_eightAtOnce_X0_atTop
set_option maxRecDepth 20000 in
theorem ggX0_eightAtOnce_X0_byteByByte : GoodIn wsX0_eightAtOnce wsX0_byteByByte := goodIn_r _ [12, 13, 14, 15, 6, 16, 2, 17, 18, 19, 20, 21, 22, 23, 24, 30, 31, 32, 33, 34, 35, 36, 37, 38, 39, 40] (by decide +kernel) (by decide +kernel)
set_option maxRecDepth 20000 in
theorem gX0_eightAtOnce_X0_byteByByte : GoodIn wsX0_eightAtOnce (wsV RX0 96 RX0 yX0_byteByByte wsX0_byteByByte) := goodIn_app (goodIn_of _ (by decide +kernel)) ggX0_eightAtOnce_X0_byteByByte
set_option maxRecDepth 20000 in
theorem ggX0_eightAtOnce_X0_behindWordByTables : GoodIn wsX0_eightAtOnce wsX0_behindWordByTables := goodIn_r _ [28, 24, 29, 30, 31, 32, 33, 34, 35, 36, 37, 38, 39, 40] (by decide +kernel) (by decide +kernel)
set_option maxRecDepth 20000 in
theorem gX0_eightAtOnce_X0_behindWordByTables : GoodIn wsX0_eightAtOnce (wsV RX0 160 RX0 yX0_behindWordByTables wsX0_behindWordByTables) := goodIn_app (goodIn_of _ (by decide +kernel)) ggX0_eightAtOnce_X0_behindWordByTables
theorem dX0_eightAtOnce_0 : decode cX0_eightAtOnce 0 = .ok (.iload_n 1, 1) := by decide +kernel
theorem dX0_eightAtOnce_1 : decode cX0_eightAtOnce 1 = .ok (.bipush 8, 2) := by decide +kernel
theorem dX0_eightAtOnce_3 : decode cX0_eightAtOnce 3 = .ok (.iadd, 1) := by decide +kernel
theorem dX0_eightAtOnce_4 : decode cX0_eightAtOnce 4 = .ok (.iconst 1, 1) := by decide +kernel
theorem dX0_eightAtOnce_5 : decode cX0_eightAtOnce 5 = .ok (.isub, 1) := by decide +kernel
theorem dX0_eightAtOnce_6 : decode cX0_eightAtOnce 6 = .ok (.bipush 8, 2) := by decide +kernel
theorem dX0_eightAtOnce_8 : decode cX0_eightAtOnce 8 = .ok (.idiv, 1) := by decide +kernel
theorem dX0_eightAtOnce_9 : decode cX0_eightAtOnce 9 = .ok (.istore_n 3, 1) := by decide +kernel
theorem dX0_eightAtOnce_10 : decode cX0_eightAtOnce 10 = .ok (.iload_n 2, 1) := by decide +kernel
theorem dX0_eightAtOnce_11 : decode cX0_eightAtOnce 11 = .ok (.bipush 8, 2) := by decide +kernel
theorem dX0_eightAtOnce_13 : decode cX0_eightAtOnce 13 = .ok (.idiv, 1) := by decide +kernel
theorem dX0_eightAtOnce_14 : decode cX0_eightAtOnce 14 = .ok (.istore 4, 2) := by decide +kernel
theorem dX0_eightAtOnce_16 : decode cX0_eightAtOnce 16 = .ok (.iload_n 3, 1) := by decide +kernel
theorem dX0_eightAtOnce_17 : decode cX0_eightAtOnce 17 = .ok (.iload 4, 2) := by decide +kernel
theorem dX0_eightAtOnce_19 : decode cX0_eightAtOnce 19 = .ok (.if_icmp .lt 18, 3) := by decide +kernel
theorem dX0_eightAtOnce_22 : decode cX0_eightAtOnce 22 = .ok (.aload_n 0, 1) := by decide +kernel
theorem dX0_eightAtOnce_23 : decode cX0_eightAtOnce 23 = .ok (.aload_n 0, 1) := by decide +kernel
theorem dX0_eightAtOnce_24 : decode cX0_eightAtOnce 24 = .ok (.aload_n 0, 1) := by decide +kernel
theorem dX0_eightAtOnce_25 : decode cX0_eightAtOnce 25 = .ok (.getfield 52, 3) := by decide +kernel
theorem dX0_eightAtOnce_28 : decode cX0_eightAtOnce 28 = .ok (.invokevirtual 46, 3) := by decide +kernel
theorem dX0_eightAtOnce_31 : decode cX0_eightAtOnce 31 = .ok (.iload_n 1, 1) := by decide +kernel
theorem dX0_eightAtOnce_32 : decode cX0_eightAtOnce 32 = .ok (.iload_n 2, 1) := by decide +kernel
theorem dX0_eightAtOnce_33 : decode cX0_eightAtOnce 33 = .ok (.invokevirtual 96, 3) := by decide +kernel
theorem dX0_eightAtOnce_36 : decode cX0_eightAtOnce 36 = .ok (.lreturn, 1) := by decide +kernel
theorem dX0_eightAtOnce_37 : decode cX0_eightAtOnce 37 = .ok (.aload_n 0, 1) := by decide +kernel
theorem dX0_eightAtOnce_38 : decode cX0_eightAtOnce 38 = .ok (.aload_n 0, 1) := by decide +kernel
theorem dX0_eightAtOnce_39 : decode cX0_eightAtOnce 39 = .ok (.aload_n 0, 1) := by decide +kernel
theorem dX0_eightAtOnce_40 : decode cX0_eightAtOnce 40 = .ok (.getfield 52, 3) := by decide +kernel
theorem dX0_eightAtOnce_43 : decode cX0_eightAtOnce 43 = .ok (.invokevirtual 46, 3) := by decide +kernel
theorem dX0_eightAtOnce_46 : decode cX0_eightAtOnce 46 = .ok (.iload_n 1, 1) := by decide +kernel
theorem dX0_eightAtOnce_47 : decode cX0_eightAtOnce 47 = .ok (.iload_n 3, 1) := by decide +kernel
theorem dX0_eightAtOnce_48 : decode cX0_eightAtOnce 48 = .ok (.bipush 8, 2) := by decide +kernel
theorem dX0_eightAtOnce_50 : decode cX0_eightAtOnce 50 = .ok (.imul, 1) := by decide +kernel
theorem dX0_eightAtOnce_51 : decode cX0_eightAtOnce 51 = .ok (.invokevirtual 96, 3) := by decide +kernel
theorem dX0_eightAtOnce_54 : decode cX0_eightAtOnce 54 = .ok (.lstore 5, 2) := by decide +kernel
theorem dX0_eightAtOnce_56 : decode cX0_eightAtOnce 56 = .ok (.iload_n 3, 1) := by decide +kernel
theorem dX0_eightAtOnce_57 : decode cX0_eightAtOnce 57 = .ok (.istore 7, 2) := by decide +kernel
theorem dX0_eightAtOnce_59 : decode cX0_eightAtOnce 59 = .ok (.iload 7, 2) := by decide +kernel
theorem dX0_eightAtOnce_61 : decode cX0_eightAtOnce 61 = .ok (.iload 4, 2) := by decide +kernel
theorem dX0_eightAtOnce_63 : decode cX0_eightAtOnce 63 = .ok (.if_icmp .ge 24, 3) := by decide +kernel
theorem dX0_eightAtOnce_66 : decode cX0_eightAtOnce 66 = .ok (.aload_n 0, 1) := by decide +kernel
theorem dX0_eightAtOnce_67 : decode cX0_eightAtOnce 67 = .ok (.lload 5, 2) := by decide +kernel
theorem dX0_eightAtOnce_69 : decode cX0_eightAtOnce 69 = .ok (.aload_n 0, 1) := by decide +kernel
theorem dX0_eightAtOnce_70 : decode cX0_eightAtOnce 70 = .ok (.getfield 9, 3) := by decide +kernel
theorem dX0_eightAtOnce_73 : decode cX0_eightAtOnce 73 = .ok (.iload 7, 2) := by decide +kernel
theorem dX0_eightAtOnce_75 : decode cX0_eightAtOnce 75 = .ok (.laload, 1) := by decide +kernel
theorem dX0_eightAtOnce_76 : decode cX0_eightAtOnce 76 = .ok (.invokevirtual 160, 3) := by decide +kernel
theorem dX0_eightAtOnce_79 : decode cX0_eightAtOnce 79 = .ok (.lstore 5, 2) := by decide +kernel
theorem dX0_eightAtOnce_81 : decode cX0_eightAtOnce 81 = .ok (.iinc 7 1, 3) := by decide +kernel
theorem dX0_eightAtOnce_84 : decode cX0_eightAtOnce 84 = .ok (.goto (-25), 3) := by decide +kernel
theorem dX0_eightAtOnce_87 : decode cX0_eightAtOnce 87 = .ok (.aload_n 0, 1) := by decide +kernel
theorem dX0_eightAtOnce_88 : decode cX0_eightAtOnce 88 = .ok (.lload 5, 2) := by decide +kernel
theorem dX0_eightAtOnce_90 : decode cX0_eightAtOnce 90 = .ok (.iload 4, 2) := by decide +kernel
theorem dX0_eightAtOnce_92 : decode cX0_eightAtOnce 92 = .ok (.bipush 8, 2) := by decide +kernel
theorem dX0_eightAtOnce_94 : decode cX0_eightAtOnce 94 = .ok (.imul, 1) := by decide +kernel
theorem dX0_eightAtOnce_95 : decode cX0_eightAtOnce 95 = .ok (.iload_n 2, 1) := by decide +kernel
theorem dX0_eightAtOnce_96 : decode cX0_eightAtOnce 96 = .ok (.invokevirtual 96, 3) := by decide +kernel
theorem dX0_eightAtOnce_99 : decode cX0_eightAtOnce 99 = .ok (.lreturn, 1) := by decide +kernel
set_option maxRecDepth 20000 in
theorem ggX0_byDividing_X0_atTop : GoodIn wsX0_byDividing wsX0_atTop := goodIn_r _ [12, 13, 28, 29, 30, 31, 32, 33, 34, 35, 36, 37, 38] (by decide +kernel) (by decide +kernel)
set_option maxRecDepth 20000 in
theorem gX0_byDividing_X0_atTop : GoodIn wsX0_byDividing (wsV RX0 46 RX0 yX0_atTop wsX0_atTop) := goodIn_app (goodIn_of _ (by decide +kernel)) ggX0_byDividing_X0_atTop
set_option maxRecDepth 20000 in
theorem ggX0_byDividing_X0_bitsOfRow : GoodIn wsX0_byDividing wsX0_bitsOfRow := goodIn_r _ [17, 18, 28, 29, 30, 31, 32, 33, 34, 35, 36, 37, 38] (by decide +kernel) (by decide +kernel)
set_option maxRecDepth 20000 in
theorem gX0_byDividing_X0_bitsOfRow : GoodIn wsX0_byDividing (wsV RX0 85 RX0 yX0_bitsOfRow wsX0_bitsOfRow) := goodIn_app (goodIn_of _ (by decide +kernel)) ggX0_byDividing_X0_bitsOfRow
set_option maxRecDepth 20000 in
theorem ggX0_byDividing_X0_addPolynomialAt : GoodIn wsX0_byDividing wsX0_addPolynomialAt := goodIn_r _ [22, 2, 23, 28, 29, 30, 31, 32, 33, 34, 35, 36, 37, 38] (by decide +kernel) (by decide +kernel)
set_option maxRecDepth 20000 in
theorem gX0_byDividing_X0_addPolynomialAt : GoodIn wsX0_byDividing (wsV RX0 169 RX0 yX0_addPolynomialAt wsX0_addPolynomialAt) := goodIn_app (goodIn_of _ (by decide +kernel)) ggX0_byDividing_X0_addPolynomialAt
set_option maxRecDepth 20000 in
theorem ggX0_byDividing_X0_dividendFrom : GoodIn wsX0_byDividing wsX0_dividendFrom := goodIn_r _ [27, 2, 28, 29, 30, 31, 32, 33, 34, 35, 36, 37, 38] (by decide +kernel) (by decide +kernel)
set_option maxRecDepth 20000 in
theorem gX0_byDividing_X0_dividendFrom : GoodIn wsX0_byDividing (wsV RX0 173 RX0 yX0_dividendFrom wsX0_dividendFrom) := goodIn_app (goodIn_of _ (by decide +kernel)) ggX0_byDividing_X0_dividendFrom
theorem dX0_byDividing_0 : decode cX0_byDividing 0 = .ok (.aload_n 0, 1) := by decide +kernel
theorem dX0_byDividing_1 : decode cX0_byDividing 1 = .ok (.getfield 9, 3) := by decide +kernel
theorem dX0_byDividing_4 : decode cX0_byDividing 4 = .ok (.iconst 0, 1) := by decide +kernel
theorem dX0_byDividing_5 : decode cX0_byDividing 5 = .ok (.aload_n 0, 1) := by decide +kernel
theorem dX0_byDividing_6 : decode cX0_byDividing 6 = .ok (.getfield 13, 3) := by decide +kernel
theorem dX0_byDividing_9 : decode cX0_byDividing 9 = .ok (.iconst 0, 1) := by decide +kernel
theorem dX0_byDividing_10 : decode cX0_byDividing 10 = .ok (.sipush 625, 3) := by decide +kernel
theorem dX0_byDividing_13 : decode cX0_byDividing 13 = .ok (.invokestatic 163, 3) := by decide +kernel
theorem dX0_byDividing_16 : decode cX0_byDividing 16 = .ok (.aload_n 0, 1) := by decide +kernel
theorem dX0_byDividing_17 : decode cX0_byDividing 17 = .ok (.getfield 13, 3) := by decide +kernel
theorem dX0_byDividing_20 : decode cX0_byDividing 20 = .ok (.sipush 625, 3) := by decide +kernel
theorem dX0_byDividing_23 : decode cX0_byDividing 23 = .ok (.lconst 0, 1) := by decide +kernel
theorem dX0_byDividing_24 : decode cX0_byDividing 24 = .ok (.lastore, 1) := by decide +kernel
theorem dX0_byDividing_25 : decode cX0_byDividing 25 = .ok (.aload_n 0, 1) := by decide +kernel
theorem dX0_byDividing_26 : decode cX0_byDividing 26 = .ok (.getfield 13, 3) := by decide +kernel
theorem dX0_byDividing_29 : decode cX0_byDividing 29 = .ok (.iconst 0, 1) := by decide +kernel
theorem dX0_byDividing_30 : decode cX0_byDividing 30 = .ok (.dup2, 1) := by decide +kernel
theorem dX0_byDividing_31 : decode cX0_byDividing 31 = .ok (.laload, 1) := by decide +kernel
theorem dX0_byDividing_32 : decode cX0_byDividing 32 = .ok (.aload_n 0, 1) := by decide +kernel
theorem dX0_byDividing_33 : decode cX0_byDividing 33 = .ok (.aload_n 0, 1) := by decide +kernel
theorem dX0_byDividing_34 : decode cX0_byDividing 34 = .ok (.getfield 52, 3) := by decide +kernel
theorem dX0_byDividing_37 : decode cX0_byDividing 37 = .ok (.invokevirtual 46, 3) := by decide +kernel
theorem dX0_byDividing_40 : decode cX0_byDividing 40 = .ok (.lxor, 1) := by decide +kernel
theorem dX0_byDividing_41 : decode cX0_byDividing 41 = .ok (.lastore, 1) := by decide +kernel
theorem dX0_byDividing_42 : decode cX0_byDividing 42 = .ok (.aload_n 0, 1) := by decide +kernel
theorem dX0_byDividing_43 : decode cX0_byDividing 43 = .ok (.invokevirtual 85, 3) := by decide +kernel
theorem dX0_byDividing_46 : decode cX0_byDividing 46 = .ok (.istore_n 1, 1) := by decide +kernel
theorem dX0_byDividing_47 : decode cX0_byDividing 47 = .ok (.iconst 0, 1) := by decide +kernel
theorem dX0_byDividing_48 : decode cX0_byDividing 48 = .ok (.istore_n 2, 1) := by decide +kernel
theorem dX0_byDividing_49 : decode cX0_byDividing 49 = .ok (.iload_n 2, 1) := by decide +kernel
theorem dX0_byDividing_50 : decode cX0_byDividing 50 = .ok (.iload_n 1, 1) := by decide +kernel
theorem dX0_byDividing_51 : decode cX0_byDividing 51 = .ok (.if_icmp .ge 33, 3) := by decide +kernel
theorem dX0_byDividing_54 : decode cX0_byDividing 54 = .ok (.aload_n 0, 1) := by decide +kernel
theorem dX0_byDividing_55 : decode cX0_byDividing 55 = .ok (.getfield 13, 3) := by decide +kernel
theorem dX0_byDividing_58 : decode cX0_byDividing 58 = .ok (.iload_n 2, 1) := by decide +kernel
theorem dX0_byDividing_59 : decode cX0_byDividing 59 = .ok (.bipush 64, 2) := by decide +kernel
theorem dX0_byDividing_61 : decode cX0_byDividing 61 = .ok (.idiv, 1) := by decide +kernel
theorem dX0_byDividing_62 : decode cX0_byDividing 62 = .ok (.laload, 1) := by decide +kernel
theorem dX0_byDividing_63 : decode cX0_byDividing 63 = .ok (.iload_n 2, 1) := by decide +kernel
theorem dX0_byDividing_64 : decode cX0_byDividing 64 = .ok (.bipush 64, 2) := by decide +kernel
theorem dX0_byDividing_66 : decode cX0_byDividing 66 = .ok (.irem, 1) := by decide +kernel
theorem dX0_byDividing_67 : decode cX0_byDividing 67 = .ok (.lshl, 1) := by decide +kernel
theorem dX0_byDividing_68 : decode cX0_byDividing 68 = .ok (.lconst 0, 1) := by decide +kernel
theorem dX0_byDividing_69 : decode cX0_byDividing 69 = .ok (.lcmp, 1) := by decide +kernel
theorem dX0_byDividing_70 : decode cX0_byDividing 70 = .ok (.ifCond .ge 8, 3) := by decide +kernel
theorem dX0_byDividing_73 : decode cX0_byDividing 73 = .ok (.aload_n 0, 1) := by decide +kernel
theorem dX0_byDividing_74 : decode cX0_byDividing 74 = .ok (.iload_n 2, 1) := by decide +kernel
theorem dX0_byDividing_75 : decode cX0_byDividing 75 = .ok (.invokevirtual 169, 3) := by decide +kernel
theorem dX0_byDividing_78 : decode cX0_byDividing 78 = .ok (.iinc 2 1, 3) := by decide +kernel
theorem dX0_byDividing_81 : decode cX0_byDividing 81 = .ok (.goto (-32), 3) := by decide +kernel
theorem dX0_byDividing_84 : decode cX0_byDividing 84 = .ok (.aload_n 0, 1) := by decide +kernel
theorem dX0_byDividing_85 : decode cX0_byDividing 85 = .ok (.iload_n 1, 1) := by decide +kernel
theorem dX0_byDividing_86 : decode cX0_byDividing 86 = .ok (.invokevirtual 173, 3) := by decide +kernel
theorem dX0_byDividing_89 : decode cX0_byDividing 89 = .ok (.lreturn, 1) := by decide +kernel
theorem dX0_addPolynomialAt_0 : decode cX0_addPolynomialAt 0 = .ok (.aload_n 0, 1) := by decide +kernel
theorem dX0_addPolynomialAt_1 : decode cX0_addPolynomialAt 1 = .ok (.getfield 13, 3) := by decide +kernel
theorem dX0_addPolynomialAt_4 : decode cX0_addPolynomialAt 4 = .ok (.iload_n 1, 1) := by decide +kernel
theorem dX0_addPolynomialAt_5 : decode cX0_addPolynomialAt 5 = .ok (.bipush 64, 2) := by decide +kernel
theorem dX0_addPolynomialAt_7 : decode cX0_addPolynomialAt 7 = .ok (.idiv, 1) := by decide +kernel
theorem dX0_addPolynomialAt_8 : decode cX0_addPolynomialAt 8 = .ok (.dup2, 1) := by decide +kernel
theorem dX0_addPolynomialAt_9 : decode cX0_addPolynomialAt 9 = .ok (.laload, 1) := by decide +kernel
theorem dX0_addPolynomialAt_10 : decode cX0_addPolynomialAt 10 = .ok (.lconst 1, 1) := by decide +kernel
theorem dX0_addPolynomialAt_11 : decode cX0_addPolynomialAt 11 = .ok (.bipush 63, 2) := by decide +kernel
theorem dX0_addPolynomialAt_13 : decode cX0_addPolynomialAt 13 = .ok (.iload_n 1, 1) := by decide +kernel
theorem dX0_addPolynomialAt_14 : decode cX0_addPolynomialAt 14 = .ok (.bipush 64, 2) := by decide +kernel
theorem dX0_addPolynomialAt_16 : decode cX0_addPolynomialAt 16 = .ok (.irem, 1) := by decide +kernel
theorem dX0_addPolynomialAt_17 : decode cX0_addPolynomialAt 17 = .ok (.isub, 1) := by decide +kernel
theorem dX0_addPolynomialAt_18 : decode cX0_addPolynomialAt 18 = .ok (.lshl, 1) := by decide +kernel
theorem dX0_addPolynomialAt_19 : decode cX0_addPolynomialAt 19 = .ok (.lxor, 1) := by decide +kernel
theorem dX0_addPolynomialAt_20 : decode cX0_addPolynomialAt 20 = .ok (.lastore, 1) := by decide +kernel
theorem dX0_addPolynomialAt_21 : decode cX0_addPolynomialAt 21 = .ok (.iload_n 1, 1) := by decide +kernel
theorem dX0_addPolynomialAt_22 : decode cX0_addPolynomialAt 22 = .ok (.iconst 1, 1) := by decide +kernel
theorem dX0_addPolynomialAt_23 : decode cX0_addPolynomialAt 23 = .ok (.iadd, 1) := by decide +kernel
theorem dX0_addPolynomialAt_24 : decode cX0_addPolynomialAt 24 = .ok (.bipush 64, 2) := by decide +kernel
theorem dX0_addPolynomialAt_26 : decode cX0_addPolynomialAt 26 = .ok (.idiv, 1) := by decide +kernel
theorem dX0_addPolynomialAt_27 : decode cX0_addPolynomialAt 27 = .ok (.istore_n 2, 1) := by decide +kernel
theorem dX0_addPolynomialAt_28 : decode cX0_addPolynomialAt 28 = .ok (.iload_n 1, 1) := by decide +kernel
theorem dX0_addPolynomialAt_29 : decode cX0_addPolynomialAt 29 = .ok (.iconst 1, 1) := by decide +kernel
theorem dX0_addPolynomialAt_30 : decode cX0_addPolynomialAt 30 = .ok (.iadd, 1) := by decide +kernel
theorem dX0_addPolynomialAt_31 : decode cX0_addPolynomialAt 31 = .ok (.bipush 64, 2) := by decide +kernel
theorem dX0_addPolynomialAt_33 : decode cX0_addPolynomialAt 33 = .ok (.irem, 1) := by decide +kernel
theorem dX0_addPolynomialAt_34 : decode cX0_addPolynomialAt 34 = .ok (.istore_n 3, 1) := by decide +kernel
theorem dX0_addPolynomialAt_35 : decode cX0_addPolynomialAt 35 = .ok (.aload_n 0, 1) := by decide +kernel
theorem dX0_addPolynomialAt_36 : decode cX0_addPolynomialAt 36 = .ok (.getfield 13, 3) := by decide +kernel
theorem dX0_addPolynomialAt_39 : decode cX0_addPolynomialAt 39 = .ok (.iload_n 2, 1) := by decide +kernel
theorem dX0_addPolynomialAt_40 : decode cX0_addPolynomialAt 40 = .ok (.dup2, 1) := by decide +kernel
theorem dX0_addPolynomialAt_41 : decode cX0_addPolynomialAt 41 = .ok (.laload, 1) := by decide +kernel
theorem dX0_addPolynomialAt_42 : decode cX0_addPolynomialAt 42 = .ok (.aload_n 0, 1) := by decide +kernel
theorem dX0_addPolynomialAt_43 : decode cX0_addPolynomialAt 43 = .ok (.getfield 49, 3) := by decide +kernel
theorem dX0_addPolynomialAt_46 : decode cX0_addPolynomialAt 46 = .ok (.iload_n 3, 1) := by decide +kernel
theorem dX0_addPolynomialAt_47 : decode cX0_addPolynomialAt 47 = .ok (.lushr, 1) := by decide +kernel
theorem dX0_addPolynomialAt_48 : decode cX0_addPolynomialAt 48 = .ok (.lxor, 1) := by decide +kernel
theorem dX0_addPolynomialAt_49 : decode cX0_addPolynomialAt 49 = .ok (.lastore, 1) := by decide +kernel
theorem dX0_addPolynomialAt_50 : decode cX0_addPolynomialAt 50 = .ok (.iload_n 3, 1) := by decide +kernel
theorem dX0_addPolynomialAt_51 : decode cX0_addPolynomialAt 51 = .ok (.ifCond .eq 23, 3) := by decide +kernel
theorem dX0_addPolynomialAt_54 : decode cX0_addPolynomialAt 54 = .ok (.aload_n 0, 1) := by decide +kernel
theorem dX0_addPolynomialAt_55 : decode cX0_addPolynomialAt 55 = .ok (.getfield 13, 3) := by decide +kernel
theorem dX0_addPolynomialAt_58 : decode cX0_addPolynomialAt 58 = .ok (.iload_n 2, 1) := by decide +kernel
theorem dX0_addPolynomialAt_59 : decode cX0_addPolynomialAt 59 = .ok (.iconst 1, 1) := by decide +kernel
theorem dX0_addPolynomialAt_60 : decode cX0_addPolynomialAt 60 = .ok (.iadd, 1) := by decide +kernel
theorem dX0_addPolynomialAt_61 : decode cX0_addPolynomialAt 61 = .ok (.dup2, 1) := by decide +kernel
theorem dX0_addPolynomialAt_62 : decode cX0_addPolynomialAt 62 = .ok (.laload, 1) := by decide +kernel
theorem dX0_addPolynomialAt_63 : decode cX0_addPolynomialAt 63 = .ok (.aload_n 0, 1) := by decide +kernel
theorem dX0_addPolynomialAt_64 : decode cX0_addPolynomialAt 64 = .ok (.getfield 49, 3) := by decide +kernel
theorem dX0_addPolynomialAt_67 : decode cX0_addPolynomialAt 67 = .ok (.bipush 64, 2) := by decide +kernel
theorem dX0_addPolynomialAt_69 : decode cX0_addPolynomialAt 69 = .ok (.iload_n 3, 1) := by decide +kernel
theorem dX0_addPolynomialAt_70 : decode cX0_addPolynomialAt 70 = .ok (.isub, 1) := by decide +kernel
theorem dX0_addPolynomialAt_71 : decode cX0_addPolynomialAt 71 = .ok (.lshl, 1) := by decide +kernel
theorem dX0_addPolynomialAt_72 : decode cX0_addPolynomialAt 72 = .ok (.lxor, 1) := by decide +kernel
theorem dX0_addPolynomialAt_73 : decode cX0_addPolynomialAt 73 = .ok (.lastore, 1) := by decide +kernel
theorem dX0_addPolynomialAt_74 : decode cX0_addPolynomialAt 74 = .ok (.return_, 1) := by decide +kernel
theorem dX0_dividendFrom_0 : decode cX0_dividendFrom 0 = .ok (.iload_n 1, 1) := by decide +kernel
theorem dX0_dividendFrom_1 : decode cX0_dividendFrom 1 = .ok (.bipush 64, 2) := by decide +kernel
theorem dX0_dividendFrom_3 : decode cX0_dividendFrom 3 = .ok (.idiv, 1) := by decide +kernel
theorem dX0_dividendFrom_4 : decode cX0_dividendFrom 4 = .ok (.istore_n 2, 1) := by decide +kernel
theorem dX0_dividendFrom_5 : decode cX0_dividendFrom 5 = .ok (.iload_n 1, 1) := by decide +kernel
theorem dX0_dividendFrom_6 : decode cX0_dividendFrom 6 = .ok (.bipush 64, 2) := by decide +kernel
theorem dX0_dividendFrom_8 : decode cX0_dividendFrom 8 = .ok (.irem, 1) := by decide +kernel
theorem dX0_dividendFrom_9 : decode cX0_dividendFrom 9 = .ok (.istore_n 3, 1) := by decide +kernel
theorem dX0_dividendFrom_10 : decode cX0_dividendFrom 10 = .ok (.iload_n 3, 1) := by decide +kernel
theorem dX0_dividendFrom_11 : decode cX0_dividendFrom 11 = .ok (.ifCond .ne 12, 3) := by decide +kernel
theorem dX0_dividendFrom_14 : decode cX0_dividendFrom 14 = .ok (.aload_n 0, 1) := by decide +kernel
theorem dX0_dividendFrom_15 : decode cX0_dividendFrom 15 = .ok (.getfield 13, 3) := by decide +kernel
theorem dX0_dividendFrom_18 : decode cX0_dividendFrom 18 = .ok (.iload_n 2, 1) := by decide +kernel
theorem dX0_dividendFrom_19 : decode cX0_dividendFrom 19 = .ok (.laload, 1) := by decide +kernel
theorem dX0_dividendFrom_20 : decode cX0_dividendFrom 20 = .ok (.goto 25, 3) := by decide +kernel
theorem dX0_dividendFrom_23 : decode cX0_dividendFrom 23 = .ok (.aload_n 0, 1) := by decide +kernel
theorem dX0_dividendFrom_24 : decode cX0_dividendFrom 24 = .ok (.getfield 13, 3) := by decide +kernel
theorem dX0_dividendFrom_27 : decode cX0_dividendFrom 27 = .ok (.iload_n 2, 1) := by decide +kernel
theorem dX0_dividendFrom_28 : decode cX0_dividendFrom 28 = .ok (.laload, 1) := by decide +kernel
theorem dX0_dividendFrom_29 : decode cX0_dividendFrom 29 = .ok (.iload_n 3, 1) := by decide +kernel
theorem dX0_dividendFrom_30 : decode cX0_dividendFrom 30 = .ok (.lshl, 1) := by decide +kernel
theorem dX0_dividendFrom_31 : decode cX0_dividendFrom 31 = .ok (.aload_n 0, 1) := by decide +kernel
theorem dX0_dividendFrom_32 : decode cX0_dividendFrom 32 = .ok (.getfield 13, 3) := by decide +kernel
theorem dX0_dividendFrom_35 : decode cX0_dividendFrom 35 = .ok (.iload_n 2, 1) := by decide +kernel
theorem dX0_dividendFrom_36 : decode cX0_dividendFrom 36 = .ok (.iconst 1, 1) := by decide +kernel
theorem dX0_dividendFrom_37 : decode cX0_dividendFrom 37 = .ok (.iadd, 1) := by decide +kernel
theorem dX0_dividendFrom_38 : decode cX0_dividendFrom 38 = .ok (.laload, 1) := by decide +kernel
theorem dX0_dividendFrom_39 : decode cX0_dividendFrom 39 = .ok (.bipush 64, 2) := by decide +kernel
theorem dX0_dividendFrom_41 : decode cX0_dividendFrom 41 = .ok (.iload_n 3, 1) := by decide +kernel
theorem dX0_dividendFrom_42 : decode cX0_dividendFrom 42 = .ok (.isub, 1) := by decide +kernel
theorem dX0_dividendFrom_43 : decode cX0_dividendFrom 43 = .ok (.lushr, 1) := by decide +kernel
theorem dX0_dividendFrom_44 : decode cX0_dividendFrom 44 = .ok (.lor, 1) := by decide +kernel
theorem dX0_dividendFrom_45 : decode cX0_dividendFrom 45 = .ok (.lreturn, 1) := by decide +kernel
end
section
theorem dX1_init_0 : decode cX1_init 0 = .ok (.aload_n 0, 1) := by decide +kernel
theorem dX1_init_1 : decode cX1_init 1 = .ok (.invokespecial 1, 3) := by decide +kernel
theorem dX1_init_4 : decode cX1_init 4 = .ok (.aload_n 0, 1) := by decide +kernel
theorem dX1_init_5 : decode cX1_init 5 = .ok (.bipush 32, 2) := by decide +kernel
theorem dX1_init_7 : decode cX1_init 7 = .ok (.putfield 7, 3) := by decide +kernel
theorem dX1_init_10 : decode cX1_init 10 = .ok (.aload_n 0, 1) := by decide +kernel
theorem dX1_init_11 : decode cX1_init 11 = .ok (.ldc2_w 13, 3) := by decide +kernel
theorem dX1_init_14 : decode cX1_init 14 = .ok (.putfield 15, 3) := by decide +kernel
theorem dX1_init_17 : decode cX1_init 17 = .ok (.aload_n 0, 1) := by decide +kernel
theorem dX1_init_18 : decode cX1_init 18 = .ok (.ldc2_w 19, 3) := by decide +kernel
theorem dX1_init_21 : decode cX1_init 21 = .ok (.putfield 21, 3) := by decide +kernel
theorem dX1_init_24 : decode cX1_init 24 = .ok (.aload_n 0, 1) := by decide +kernel
theorem dX1_init_25 : decode cX1_init 25 = .ok (.ldc2_w 19, 3) := by decide +kernel
theorem dX1_init_28 : decode cX1_init 28 = .ok (.putfield 24, 3) := by decide +kernel
theorem dX1_init_31 : decode cX1_init 31 = .ok (.aload_n 0, 1) := by decide +kernel
theorem dX1_init_32 : decode cX1_init 32 = .ok (.iconst 1, 1) := by decide +kernel
theorem dX1_init_33 : decode cX1_init 33 = .ok (.putfield 27, 3) := by decide +kernel
theorem dX1_init_36 : decode cX1_init 36 = .ok (.aload_n 0, 1) := by decide +kernel
theorem dX1_init_37 : decode cX1_init 37 = .ok (.iconst 1, 1) := by decide +kernel
theorem dX1_init_38 : decode cX1_init 38 = .ok (.putfield 31, 3) := by decide +kernel
theorem dX1_init_41 : decode cX1_init 41 = .ok (.aload_n 0, 1) := by decide +kernel
theorem dX1_init_42 : decode cX1_init 42 = .ok (.sipush 5000, 3) := by decide +kernel
theorem dX1_init_45 : decode cX1_init 45 = .ok (.newarray .int, 2) := by decide +kernel
theorem dX1_init_47 : decode cX1_init 47 = .ok (.putfield 34, 3) := by decide +kernel
theorem dX1_init_50 : decode cX1_init 50 = .ok (.return_, 1) := by decide +kernel
theorem dX1_low_0 : decode cX1_low 0 = .ok (.iload_n 2, 1) := by decide +kernel
theorem dX1_low_1 : decode cX1_low 1 = .ok (.bipush 64, 2) := by decide +kernel
theorem dX1_low_3 : decode cX1_low 3 = .ok (.if_icmp .ne 7, 3) := by decide +kernel
theorem dX1_low_6 : decode cX1_low 6 = .ok (.lload_n 0, 1) := by decide +kernel
theorem dX1_low_7 : decode cX1_low 7 = .ok (.goto 10, 3) := by decide +kernel
theorem dX1_low_10 : decode cX1_low 10 = .ok (.lload_n 0, 1) := by decide +kernel
theorem dX1_low_11 : decode cX1_low 11 = .ok (.lconst 1, 1) := by decide +kernel
theorem dX1_low_12 : decode cX1_low 12 = .ok (.iload_n 2, 1) := by decide +kernel
theorem dX1_low_13 : decode cX1_low 13 = .ok (.lshl, 1) := by decide +kernel
theorem dX1_low_14 : decode cX1_low 14 = .ok (.lconst 1, 1) := by decide +kernel
theorem dX1_low_15 : decode cX1_low 15 = .ok (.lsub, 1) := by decide +kernel
theorem dX1_low_16 : decode cX1_low 16 = .ok (.land, 1) := by decide +kernel
theorem dX1_low_17 : decode cX1_low 17 = .ok (.lreturn, 1) := by decide +kernel
set_option maxRecDepth 20000 in
theorem ggX1_cut_X1_low : GoodIn wsX1_cut wsX1_low := goodIn_r _ [5] (by decide +kernel) (by decide +kernel)
set_option maxRecDepth 20000 in
theorem gX1_cut_X1_low : GoodIn wsX1_cut (va_wsS RX1 38 yX1_low wsX1_low) := goodIn_app (goodIn_of _ (by decide +kernel)) ggX1_cut_X1_low
theorem dX1_cut_0 : decode cX1_cut 0 = .ok (.lload_n 1, 1) := by decide +kernel
theorem dX1_cut_1 : decode cX1_cut 1 = .ok (.aload_n 0, 1) := by decide +kernel
theorem dX1_cut_2 : decode cX1_cut 2 = .ok (.getfield 7, 3) := by decide +kernel
theorem dX1_cut_5 : decode cX1_cut 5 = .ok (.invokestatic 38, 3) := by decide +kernel
theorem dX1_cut_8 : decode cX1_cut 8 = .ok (.lreturn, 1) := by decide +kernel
set_option maxRecDepth 20000 in
theorem ggX1_kind_X1_cut : GoodIn wsX1_kind wsX1_cut := goodIn_r _ [11, 1, 12, 13, 10, 14, 15, 16, 17, 18, 19, 20, 21, 22] (by decide +kernel) (by decide +kernel)
set_option maxRecDepth 20000 in
theorem gX1_kind_X1_cut : GoodIn wsX1_kind (wsV RX1 42 RX1 yX1_cut wsX1_cut) := goodIn_app (goodIn_of _ (by decide +kernel)) ggX1_kind_X1_cut
theorem dX1_kind_0 : decode cX1_kind 0 = .ok (.iload_n 1, 1) := by decide +kernel
theorem dX1_kind_1 : decode cX1_kind 1 = .ok (.iconst 1, 1) := by decide +kernel
theorem dX1_kind_2 : decode cX1_kind 2 = .ok (.if_icmp .lt 9, 3) := by decide +kernel
theorem dX1_kind_5 : decode cX1_kind 5 = .ok (.iload_n 1, 1) := by decide +kernel
theorem dX1_kind_6 : decode cX1_kind 6 = .ok (.bipush 64, 2) := by decide +kernel
theorem dX1_kind_8 : decode cX1_kind 8 = .ok (.if_icmp .le 5, 3) := by decide +kernel
theorem dX1_kind_11 : decode cX1_kind 11 = .ok (.iconst 0, 1) := by decide +kernel
theorem dX1_kind_12 : decode cX1_kind 12 = .ok (.ireturn, 1) := by decide +kernel
theorem dX1_kind_13 : decode cX1_kind 13 = .ok (.aload_n 0, 1) := by decide +kernel
theorem dX1_kind_14 : decode cX1_kind 14 = .ok (.iload_n 1, 1) := by decide +kernel
theorem dX1_kind_15 : decode cX1_kind 15 = .ok (.putfield 7, 3) := by decide +kernel
theorem dX1_kind_18 : decode cX1_kind 18 = .ok (.aload_n 0, 1) := by decide +kernel
theorem dX1_kind_19 : decode cX1_kind 19 = .ok (.aload_n 0, 1) := by decide +kernel
theorem dX1_kind_20 : decode cX1_kind 20 = .ok (.lload_n 2, 1) := by decide +kernel
theorem dX1_kind_21 : decode cX1_kind 21 = .ok (.invokevirtual 42, 3) := by decide +kernel
theorem dX1_kind_24 : decode cX1_kind 24 = .ok (.putfield 15, 3) := by decide +kernel
theorem dX1_kind_27 : decode cX1_kind 27 = .ok (.aload_n 0, 1) := by decide +kernel
theorem dX1_kind_28 : decode cX1_kind 28 = .ok (.aload_n 0, 1) := by decide +kernel
theorem dX1_kind_29 : decode cX1_kind 29 = .ok (.lload 4, 2) := by decide +kernel
theorem dX1_kind_31 : decode cX1_kind 31 = .ok (.invokevirtual 42, 3) := by decide +kernel
theorem dX1_kind_34 : decode cX1_kind 34 = .ok (.putfield 21, 3) := by decide +kernel
theorem dX1_kind_37 : decode cX1_kind 37 = .ok (.aload_n 0, 1) := by decide +kernel
theorem dX1_kind_38 : decode cX1_kind 38 = .ok (.aload_n 0, 1) := by decide +kernel
theorem dX1_kind_39 : decode cX1_kind 39 = .ok (.lload 8, 2) := by decide +kernel
theorem dX1_kind_41 : decode cX1_kind 41 = .ok (.invokevirtual 42, 3) := by decide +kernel
theorem dX1_kind_44 : decode cX1_kind 44 = .ok (.putfield 24, 3) := by decide +kernel
theorem dX1_kind_47 : decode cX1_kind 47 = .ok (.aload_n 0, 1) := by decide +kernel
theorem dX1_kind_48 : decode cX1_kind 48 = .ok (.iload 6, 2) := by decide +kernel
theorem dX1_kind_50 : decode cX1_kind 50 = .ok (.putfield 27, 3) := by decide +kernel
theorem dX1_kind_53 : decode cX1_kind 53 = .ok (.aload_n 0, 1) := by decide +kernel
theorem dX1_kind_54 : decode cX1_kind 54 = .ok (.iload 7, 2) := by decide +kernel
theorem dX1_kind_56 : decode cX1_kind 56 = .ok (.putfield 31, 3) := by decide +kernel
theorem dX1_kind_59 : decode cX1_kind 59 = .ok (.iconst 1, 1) := by decide +kernel
theorem dX1_kind_60 : decode cX1_kind 60 = .ok (.ireturn, 1) := by decide +kernel
theorem dX1_feed_0 : decode cX1_feed 0 = .ok (.iload_n 1, 1) := by decide +kernel
theorem dX1_feed_1 : decode cX1_feed 1 = .ok (.ifCond .lt 27, 3) := by decide +kernel
theorem dX1_feed_4 : decode cX1_feed 4 = .ok (.iload_n 1, 1) := by decide +kernel
theorem dX1_feed_5 : decode cX1_feed 5 = .ok (.sipush 255, 3) := by decide +kernel
theorem dX1_feed_8 : decode cX1_feed 8 = .ok (.if_icmp .gt 20, 3) := by decide +kernel
theorem dX1_feed_11 : decode cX1_feed 11 = .ok (.iload_n 2, 1) := by decide +kernel
theorem dX1_feed_12 : decode cX1_feed 12 = .ok (.iconst 1, 1) := by decide +kernel
theorem dX1_feed_13 : decode cX1_feed 13 = .ok (.if_icmp .lt 15, 3) := by decide +kernel
theorem dX1_feed_16 : decode cX1_feed 16 = .ok (.iload_n 2, 1) := by decide +kernel
theorem dX1_feed_17 : decode cX1_feed 17 = .ok (.sipush 5000, 3) := by decide +kernel
theorem dX1_feed_20 : decode cX1_feed 20 = .ok (.aload_n 0, 1) := by decide +kernel
theorem dX1_feed_21 : decode cX1_feed 21 = .ok (.getfield 46, 3) := by decide +kernel
theorem dX1_feed_24 : decode cX1_feed 24 = .ok (.isub, 1) := by decide +kernel
theorem dX1_feed_25 : decode cX1_feed 25 = .ok (.if_icmp .le 5, 3) := by decide +kernel
theorem dX1_feed_28 : decode cX1_feed 28 = .ok (.iconst 0, 1) := by decide +kernel
theorem dX1_feed_29 : decode cX1_feed 29 = .ok (.ireturn, 1) := by decide +kernel
theorem dX1_feed_30 : decode cX1_feed 30 = .ok (.iconst 0, 1) := by decide +kernel
theorem dX1_feed_31 : decode cX1_feed 31 = .ok (.istore_n 3, 1) := by decide +kernel
theorem dX1_feed_32 : decode cX1_feed 32 = .ok (.iload_n 3, 1) := by decide +kernel
theorem dX1_feed_33 : decode cX1_feed 33 = .ok (.iload_n 2, 1) := by decide +kernel
theorem dX1_feed_34 : decode cX1_feed 34 = .ok (.if_icmp .ge 29, 3) := by decide +kernel
theorem dX1_feed_37 : decode cX1_feed 37 = .ok (.aload_n 0, 1) := by decide +kernel
theorem dX1_feed_38 : decode cX1_feed 38 = .ok (.getfield 34, 3) := by decide +kernel
theorem dX1_feed_41 : decode cX1_feed 41 = .ok (.aload_n 0, 1) := by decide +kernel
theorem dX1_feed_42 : decode cX1_feed 42 = .ok (.getfield 46, 3) := by decide +kernel
theorem dX1_feed_45 : decode cX1_feed 45 = .ok (.iload_n 1, 1) := by decide +kernel
theorem dX1_feed_46 : decode cX1_feed 46 = .ok (.iastore, 1) := by decide +kernel
theorem dX1_feed_47 : decode cX1_feed 47 = .ok (.aload_n 0, 1) := by decide +kernel
theorem dX1_feed_48 : decode cX1_feed 48 = .ok (.dup, 1) := by decide +kernel
theorem dX1_feed_49 : decode cX1_feed 49 = .ok (.getfield 46, 3) := by decide +kernel
theorem dX1_feed_52 : decode cX1_feed 52 = .ok (.iconst 1, 1) := by decide +kernel
theorem dX1_feed_53 : decode cX1_feed 53 = .ok (.iadd, 1) := by decide +kernel
theorem dX1_feed_54 : decode cX1_feed 54 = .ok (.putfield 46, 3) := by decide +kernel
theorem dX1_feed_57 : decode cX1_feed 57 = .ok (.iinc 3 1, 3) := by decide +kernel
theorem dX1_feed_60 : decode cX1_feed 60 = .ok (.goto (-28), 3) := by decide +kernel
theorem dX1_feed_63 : decode cX1_feed 63 = .ok (.iconst 1, 1) := by decide +kernel
theorem dX1_feed_64 : decode cX1_feed 64 = .ok (.ireturn, 1) := by decide +kernel
theorem dX1_clear_0 : decode cX1_clear 0 = .ok (.aload_n 0, 1) := by decide +kernel
theorem dX1_clear_1 : decode cX1_clear 1 = .ok (.iconst 0, 1) := by decide +kernel
theorem dX1_clear_2 : decode cX1_clear 2 = .ok (.putfield 46, 3) := by decide +kernel
theorem dX1_clear_5 : decode cX1_clear 5 = .ok (.return_, 1) := by decide +kernel
theorem dX1_flip_0 : decode cX1_flip 0 = .ok (.iload_n 1, 1) := by decide +kernel
theorem dX1_flip_1 : decode cX1_flip 1 = .ok (.ifCond .lt 14, 3) := by decide +kernel
theorem dX1_flip_4 : decode cX1_flip 4 = .ok (.iload_n 1, 1) := by decide +kernel
theorem dX1_flip_5 : decode cX1_flip 5 = .ok (.bipush 8, 2) := by decide +kernel
theorem dX1_flip_7 : decode cX1_flip 7 = .ok (.aload_n 0, 1) := by decide +kernel
theorem dX1_flip_8 : decode cX1_flip 8 = .ok (.getfield 46, 3) := by decide +kernel
theorem dX1_flip_11 : decode cX1_flip 11 = .ok (.imul, 1) := by decide +kernel
theorem dX1_flip_12 : decode cX1_flip 12 = .ok (.if_icmp .lt 5, 3) := by decide +kernel
theorem dX1_flip_15 : decode cX1_flip 15 = .ok (.iconst 0, 1) := by decide +kernel
theorem dX1_flip_16 : decode cX1_flip 16 = .ok (.ireturn, 1) := by decide +kernel
theorem dX1_flip_17 : decode cX1_flip 17 = .ok (.aload_n 0, 1) := by decide +kernel
theorem dX1_flip_18 : decode cX1_flip 18 = .ok (.getfield 34, 3) := by decide +kernel
theorem dX1_flip_21 : decode cX1_flip 21 = .ok (.iload_n 1, 1) := by decide +kernel
theorem dX1_flip_22 : decode cX1_flip 22 = .ok (.bipush 8, 2) := by decide +kernel
theorem dX1_flip_24 : decode cX1_flip 24 = .ok (.idiv, 1) := by decide +kernel
theorem dX1_flip_25 : decode cX1_flip 25 = .ok (.dup2, 1) := by decide +kernel
theorem dX1_flip_26 : decode cX1_flip 26 = .ok (.iaload, 1) := by decide +kernel
theorem dX1_flip_27 : decode cX1_flip 27 = .ok (.aload_n 0, 1) := by decide +kernel
theorem dX1_flip_28 : decode cX1_flip 28 = .ok (.getfield 27, 3) := by decide +kernel
theorem dX1_flip_31 : decode cX1_flip 31 = .ok (.ifCond .eq 12, 3) := by decide +kernel
theorem dX1_flip_34 : decode cX1_flip 34 = .ok (.iconst 1, 1) := by decide +kernel
theorem dX1_flip_35 : decode cX1_flip 35 = .ok (.iload_n 1, 1) := by decide +kernel
theorem dX1_flip_36 : decode cX1_flip 36 = .ok (.bipush 8, 2) := by decide +kernel
theorem dX1_flip_38 : decode cX1_flip 38 = .ok (.irem, 1) := by decide +kernel
theorem dX1_flip_39 : decode cX1_flip 39 = .ok (.ishl, 1) := by decide +kernel
theorem dX1_flip_40 : decode cX1_flip 40 = .ok (.goto 11, 3) := by decide +kernel
theorem dX1_flip_43 : decode cX1_flip 43 = .ok (.sipush 128, 3) := by decide +kernel
theorem dX1_flip_46 : decode cX1_flip 46 = .ok (.iload_n 1, 1) := by decide +kernel
theorem dX1_flip_47 : decode cX1_flip 47 = .ok (.bipush 8, 2) := by decide +kernel
theorem dX1_flip_49 : decode cX1_flip 49 = .ok (.irem, 1) := by decide +kernel
theorem dX1_flip_50 : decode cX1_flip 50 = .ok (.ishr, 1) := by decide +kernel
theorem dX1_flip_51 : decode cX1_flip 51 = .ok (.ixor, 1) := by decide +kernel
theorem dX1_flip_52 : decode cX1_flip 52 = .ok (.iastore, 1) := by decide +kernel
theorem dX1_flip_53 : decode cX1_flip 53 = .ok (.iconst 1, 1) := by decide +kernel
theorem dX1_flip_54 : decode cX1_flip 54 = .ok (.ireturn, 1) := by decide +kernel
set_option maxRecDepth 20000 in
theorem ggX1_bit_X1_cut : GoodIn wsX1_bit wsX1_cut := goodIn_r _ [7, 1, 8, 9, 6, 10, 11, 12, 13, 14, 15, 16, 17, 18] (by decide +kernel) (by decide +kernel)
set_option maxRecDepth 20000 in
theorem gX1_bit_X1_cut : GoodIn wsX1_bit (wsV RX1 42 RX1 yX1_cut wsX1_cut) := goodIn_app (goodIn_of _ (by decide +kernel)) ggX1_bit_X1_cut
theorem dX1_bit_0 : decode cX1_bit 0 = .ok (.lload_n 1, 1) := by decide +kernel
theorem dX1_bit_1 : decode cX1_bit 1 = .ok (.aload_n 0, 1) := by decide +kernel
theorem dX1_bit_2 : decode cX1_bit 2 = .ok (.getfield 7, 3) := by decide +kernel
theorem dX1_bit_5 : decode cX1_bit 5 = .ok (.iconst 1, 1) := by decide +kernel
theorem dX1_bit_6 : decode cX1_bit 6 = .ok (.isub, 1) := by decide +kernel
theorem dX1_bit_7 : decode cX1_bit 7 = .ok (.lushr, 1) := by decide +kernel
theorem dX1_bit_8 : decode cX1_bit 8 = .ok (.lconst 1, 1) := by decide +kernel
theorem dX1_bit_9 : decode cX1_bit 9 = .ok (.land, 1) := by decide +kernel
theorem dX1_bit_10 : decode cX1_bit 10 = .ok (.lconst 1, 1) := by decide +kernel
theorem dX1_bit_11 : decode cX1_bit 11 = .ok (.lcmp, 1) := by decide +kernel
theorem dX1_bit_12 : decode cX1_bit 12 = .ok (.ifCond .ne 7, 3) := by decide +kernel
theorem dX1_bit_15 : decode cX1_bit 15 = .ok (.iconst 1, 1) := by decide +kernel
theorem dX1_bit_16 : decode cX1_bit 16 = .ok (.goto 4, 3) := by decide +kernel
theorem dX1_bit_19 : decode cX1_bit 19 = .ok (.iconst 0, 1) := by decide +kernel
theorem dX1_bit_20 : decode cX1_bit 20 = .ok (.istore 4, 2) := by decide +kernel
theorem dX1_bit_22 : decode cX1_bit 22 = .ok (.aload_n 0, 1) := by decide +kernel
theorem dX1_bit_23 : decode cX1_bit 23 = .ok (.lload_n 1, 1) := by decide +kernel
theorem dX1_bit_24 : decode cX1_bit 24 = .ok (.iconst 1, 1) := by decide +kernel
theorem dX1_bit_25 : decode cX1_bit 25 = .ok (.lshl, 1) := by decide +kernel
theorem dX1_bit_26 : decode cX1_bit 26 = .ok (.invokevirtual 42, 3) := by decide +kernel
theorem dX1_bit_29 : decode cX1_bit 29 = .ok (.lstore 5, 2) := by decide +kernel
theorem dX1_bit_31 : decode cX1_bit 31 = .ok (.iload 4, 2) := by decide +kernel
theorem dX1_bit_33 : decode cX1_bit 33 = .ok (.iload_n 3, 1) := by decide +kernel
theorem dX1_bit_34 : decode cX1_bit 34 = .ok (.iconst 1, 1) := by decide +kernel
theorem dX1_bit_35 : decode cX1_bit 35 = .ok (.if_icmp .ne 7, 3) := by decide +kernel
theorem dX1_bit_38 : decode cX1_bit 38 = .ok (.iconst 1, 1) := by decide +kernel
theorem dX1_bit_39 : decode cX1_bit 39 = .ok (.goto 4, 3) := by decide +kernel
theorem dX1_bit_42 : decode cX1_bit 42 = .ok (.iconst 0, 1) := by decide +kernel
theorem dX1_bit_43 : decode cX1_bit 43 = .ok (.if_icmp .eq 13, 3) := by decide +kernel
theorem dX1_bit_46 : decode cX1_bit 46 = .ok (.lload 5, 2) := by decide +kernel
theorem dX1_bit_48 : decode cX1_bit 48 = .ok (.aload_n 0, 1) := by decide +kernel
theorem dX1_bit_49 : decode cX1_bit 49 = .ok (.getfield 15, 3) := by decide +kernel
theorem dX1_bit_52 : decode cX1_bit 52 = .ok (.lxor, 1) := by decide +kernel
theorem dX1_bit_53 : decode cX1_bit 53 = .ok (.goto 5, 3) := by decide +kernel
theorem dX1_bit_56 : decode cX1_bit 56 = .ok (.lload 5, 2) := by decide +kernel
theorem dX1_bit_58 : decode cX1_bit 58 = .ok (.lreturn, 1) := by decide +kernel
set_option maxRecDepth 20000 in
theorem ggX1_oneByte_X1_bit : GoodIn wsX1_oneByte wsX1_bit := goodIn_r _ [6, 7, 8, 9, 10, 11, 5, 12, 13, 14, 15, 16, 17, 18, 19, 20, 21, 22, 23] (by decide +kernel) (by decide +kernel)
set_option maxRecDepth 20000 in
theorem gX1_oneByte_X1_bit : GoodIn wsX1_oneByte (wsV RX1 49 RX1 yX1_bit wsX1_bit) := goodIn_app (goodIn_of _ (by decide +kernel)) ggX1_oneByte_X1_bit
theorem dX1_oneByte_0 : decode cX1_oneByte 0 = .ok (.lload_n 1, 1) := by decide +kernel
theorem dX1_oneByte_1 : decode cX1_oneByte 1 = .ok (.lstore 4, 2) := by decide +kernel
theorem dX1_oneByte_3 : decode cX1_oneByte 3 = .ok (.iconst 0, 1) := by decide +kernel
theorem dX1_oneByte_4 : decode cX1_oneByte 4 = .ok (.istore 6, 2) := by decide +kernel
theorem dX1_oneByte_6 : decode cX1_oneByte 6 = .ok (.iload 6, 2) := by decide +kernel
theorem dX1_oneByte_8 : decode cX1_oneByte 8 = .ok (.bipush 8, 2) := by decide +kernel
theorem dX1_oneByte_10 : decode cX1_oneByte 10 = .ok (.if_icmp .ge 42, 3) := by decide +kernel
theorem dX1_oneByte_13 : decode cX1_oneByte 13 = .ok (.aload_n 0, 1) := by decide +kernel
theorem dX1_oneByte_14 : decode cX1_oneByte 14 = .ok (.lload 4, 2) := by decide +kernel
theorem dX1_oneByte_16 : decode cX1_oneByte 16 = .ok (.aload_n 0, 1) := by decide +kernel
theorem dX1_oneByte_17 : decode cX1_oneByte 17 = .ok (.getfield 27, 3) := by decide +kernel
theorem dX1_oneByte_20 : decode cX1_oneByte 20 = .ok (.ifCond .eq 12, 3) := by decide +kernel
theorem dX1_oneByte_23 : decode cX1_oneByte 23 = .ok (.iload_n 3, 1) := by decide +kernel
theorem dX1_oneByte_24 : decode cX1_oneByte 24 = .ok (.iload 6, 2) := by decide +kernel
theorem dX1_oneByte_26 : decode cX1_oneByte 26 = .ok (.ishr, 1) := by decide +kernel
theorem dX1_oneByte_27 : decode cX1_oneByte 27 = .ok (.iconst 1, 1) := by decide +kernel
theorem dX1_oneByte_28 : decode cX1_oneByte 28 = .ok (.iand, 1) := by decide +kernel
theorem dX1_oneByte_29 : decode cX1_oneByte 29 = .ok (.goto 12, 3) := by decide +kernel
theorem dX1_oneByte_32 : decode cX1_oneByte 32 = .ok (.iload_n 3, 1) := by decide +kernel
theorem dX1_oneByte_33 : decode cX1_oneByte 33 = .ok (.bipush 7, 2) := by decide +kernel
theorem dX1_oneByte_35 : decode cX1_oneByte 35 = .ok (.iload 6, 2) := by decide +kernel
theorem dX1_oneByte_37 : decode cX1_oneByte 37 = .ok (.isub, 1) := by decide +kernel
theorem dX1_oneByte_38 : decode cX1_oneByte 38 = .ok (.ishr, 1) := by decide +kernel
theorem dX1_oneByte_39 : decode cX1_oneByte 39 = .ok (.iconst 1, 1) := by decide +kernel
theorem dX1_oneByte_40 : decode cX1_oneByte 40 = .ok (.iand, 1) := by decide +kernel
theorem dX1_oneByte_41 : decode cX1_oneByte 41 = .ok (.invokevirtual 49, 3) := by decide +kernel
theorem dX1_oneByte_44 : decode cX1_oneByte 44 = .ok (.lstore 4, 2) := by decide +kernel
theorem dX1_oneByte_46 : decode cX1_oneByte 46 = .ok (.iinc 6 1, 3) := by decide +kernel
theorem dX1_oneByte_49 : decode cX1_oneByte 49 = .ok (.goto (-43), 3) := by decide +kernel
theorem dX1_oneByte_52 : decode cX1_oneByte 52 = .ok (.lload 4, 2) := by decide +kernel
theorem dX1_oneByte_54 : decode cX1_oneByte 54 = .ok (.lreturn, 1) := by decide +kernel
theorem dX1_turned_0 : decode cX1_turned 0 = .ok (.lconst 0, 1) := by decide +kernel
theorem dX1_turned_1 : decode cX1_turned 1 = .ok (.lstore_n 3, 1) := by decide +kernel
theorem dX1_turned_2 : decode cX1_turned 2 = .ok (.iconst 0, 1) := by decide +kernel
theorem dX1_turned_3 : decode cX1_turned 3 = .ok (.istore 5, 2) := by decide +kernel
theorem dX1_turned_5 : decode cX1_turned 5 = .ok (.iload 5, 2) := by decide +kernel
theorem dX1_turned_7 : decode cX1_turned 7 = .ok (.aload_n 0, 1) := by decide +kernel
theorem dX1_turned_8 : decode cX1_turned 8 = .ok (.getfield 7, 3) := by decide +kernel
theorem dX1_turned_11 : decode cX1_turned 11 = .ok (.if_icmp .ge 20, 3) := by decide +kernel
theorem dX1_turned_14 : decode cX1_turned 14 = .ok (.lload_n 3, 1) := by decide +kernel
theorem dX1_turned_15 : decode cX1_turned 15 = .ok (.iconst 1, 1) := by decide +kernel
theorem dX1_turned_16 : decode cX1_turned 16 = .ok (.lshl, 1) := by decide +kernel
theorem dX1_turned_17 : decode cX1_turned 17 = .ok (.lload_n 1, 1) := by decide +kernel
theorem dX1_turned_18 : decode cX1_turned 18 = .ok (.iload 5, 2) := by decide +kernel
theorem dX1_turned_20 : decode cX1_turned 20 = .ok (.lushr, 1) := by decide +kernel
theorem dX1_turned_21 : decode cX1_turned 21 = .ok (.lconst 1, 1) := by decide +kernel
theorem dX1_turned_22 : decode cX1_turned 22 = .ok (.land, 1) := by decide +kernel
theorem dX1_turned_23 : decode cX1_turned 23 = .ok (.lor, 1) := by decide +kernel
theorem dX1_turned_24 : decode cX1_turned 24 = .ok (.lstore_n 3, 1) := by decide +kernel
theorem dX1_turned_25 : decode cX1_turned 25 = .ok (.iinc 5 1, 3) := by decide +kernel
theorem dX1_turned_28 : decode cX1_turned 28 = .ok (.goto (-23), 3) := by decide +kernel
theorem dX1_turned_31 : decode cX1_turned 31 = .ok (.lload_n 3, 1) := by decide +kernel
theorem dX1_turned_32 : decode cX1_turned 32 = .ok (.lreturn, 1) := by decide +kernel
set_option maxRecDepth 20000 in
theorem ggX1_told_X1_turned : GoodIn wsX1_told wsX1_turned := goodIn_r _ [7, 8, 9, 10, 11, 12, 13, 14, 15, 16] (by decide +kernel) (by decide +kernel)
set_option maxRecDepth 20000 in
theorem gX1_told_X1_turned : GoodIn wsX1_told (wsV RX1 52 RX1 yX1_turned wsX1_turned) := goodIn_app (goodIn_of _ (by decide +kernel)) ggX1_told_X1_turned
theorem dX1_told_0 : decode cX1_told 0 = .ok (.aload_n 0, 1) := by decide +kernel
theorem dX1_told_1 : decode cX1_told 1 = .ok (.getfield 31, 3) := by decide +kernel
theorem dX1_told_4 : decode cX1_told 4 = .ok (.ifCond .eq 11, 3) := by decide +kernel
theorem dX1_told_7 : decode cX1_told 7 = .ok (.aload_n 0, 1) := by decide +kernel
theorem dX1_told_8 : decode cX1_told 8 = .ok (.lload_n 1, 1) := by decide +kernel
theorem dX1_told_9 : decode cX1_told 9 = .ok (.invokevirtual 52, 3) := by decide +kernel
theorem dX1_told_12 : decode cX1_told 12 = .ok (.goto 4, 3) := by decide +kernel
theorem dX1_told_15 : decode cX1_told 15 = .ok (.lload_n 1, 1) := by decide +kernel
theorem dX1_told_16 : decode cX1_told 16 = .ok (.aload_n 0, 1) := by decide +kernel
theorem dX1_told_17 : decode cX1_told 17 = .ok (.getfield 24, 3) := by decide +kernel
theorem dX1_told_20 : decode cX1_told 20 = .ok (.lxor, 1) := by decide +kernel
theorem dX1_told_21 : decode cX1_told 21 = .ok (.lreturn, 1) := by decide +kernel
set_option maxRecDepth 20000 in
theorem ggX1_register_X1_cut : GoodIn wsX1_register wsX1_cut := goodIn_r _ [7, 8, 9, 10, 6, 11, 16, 17, 18, 19, 20, 21, 22, 23] (by decide +kernel) (by decide +kernel)
set_option maxRecDepth 20000 in
theorem gX1_register_X1_cut : GoodIn wsX1_register (wsV RX1 42 RX1 yX1_cut wsX1_cut) := goodIn_app (goodIn_of _ (by decide +kernel)) ggX1_register_X1_cut
set_option maxRecDepth 20000 in
theorem ggX1_register_X1_turned : GoodIn wsX1_register wsX1_turned := goodIn_r _ [15, 8, 16, 17, 18, 19, 20, 21, 22, 23] (by decide +kernel) (by decide +kernel)
set_option maxRecDepth 20000 in
theorem gX1_register_X1_turned : GoodIn wsX1_register (wsV RX1 52 RX1 yX1_turned wsX1_turned) := goodIn_app (goodIn_of _ (by decide +kernel)) ggX1_register_X1_turned
theorem dX1_register_0 : decode cX1_register 0 = .ok (.aload_n 0, 1) := by decide +kernel
theorem dX1_register_1 : decode cX1_register 1 = .ok (.lload_n 1, 1) := by decide +kernel
theorem dX1_register_2 : decode cX1_register 2 = .ok (.invokevirtual 42, 3) := by decide +kernel
theorem dX1_register_5 : decode cX1_register 5 = .ok (.aload_n 0, 1) := by decide +kernel
theorem dX1_register_6 : decode cX1_register 6 = .ok (.getfield 24, 3) := by decide +kernel
theorem dX1_register_9 : decode cX1_register 9 = .ok (.lxor, 1) := by decide +kernel
theorem dX1_register_10 : decode cX1_register 10 = .ok (.lstore_n 3, 1) := by decide +kernel
theorem dX1_register_11 : decode cX1_register 11 = .ok (.aload_n 0, 1) := by decide +kernel
theorem dX1_register_12 : decode cX1_register 12 = .ok (.getfield 31, 3) := by decide +kernel
theorem dX1_register_15 : decode cX1_register 15 = .ok (.ifCond .eq 11, 3) := by decide +kernel
theorem dX1_register_18 : decode cX1_register 18 = .ok (.aload_n 0, 1) := by decide +kernel
theorem dX1_register_19 : decode cX1_register 19 = .ok (.lload_n 3, 1) := by decide +kernel
theorem dX1_register_20 : decode cX1_register 20 = .ok (.invokevirtual 52, 3) := by decide +kernel
theorem dX1_register_23 : decode cX1_register 23 = .ok (.goto 4, 3) := by decide +kernel
theorem dX1_register_26 : decode cX1_register 26 = .ok (.lload_n 3, 1) := by decide +kernel
theorem dX1_register_27 : decode cX1_register 27 = .ok (.lreturn, 1) := by decide +kernel
set_option maxRecDepth 20000 in
theorem ggX1_over_X1_oneByte : GoodIn wsX1_over wsX1_oneByte := goodIn_r _ [7, 8, 9, 10, 11, 6, 12, 13, 14, 15, 16, 17, 18, 19, 20, 21, 32, 33, 34, 35, 36, 37, 38, 39] (by decide +kernel) (by decide +kernel)
set_option maxRecDepth 20000 in
theorem gX1_over_X1_oneByte : GoodIn wsX1_over (wsV RX1 55 RX1 yX1_oneByte wsX1_oneByte) := goodIn_app (goodIn_of _ (by decide +kernel)) ggX1_over_X1_oneByte
set_option maxRecDepth 20000 in
theorem ggX1_over_X1_told : GoodIn wsX1_over wsX1_told := goodIn_r _ [25, 26, 27, 28, 29, 30, 6, 31, 13, 32, 33, 34, 35, 36, 37, 38, 39] (by decide +kernel) (by decide +kernel)
set_option maxRecDepth 20000 in
theorem gX1_over_X1_told : GoodIn wsX1_over (wsV RX1 58 RX1 yX1_told wsX1_told) := goodIn_app (goodIn_of _ (by decide +kernel)) ggX1_over_X1_told
theorem dX1_over_0 : decode cX1_over 0 = .ok (.aload_n 0, 1) := by decide +kernel
theorem dX1_over_1 : decode cX1_over 1 = .ok (.getfield 21, 3) := by decide +kernel
theorem dX1_over_4 : decode cX1_over 4 = .ok (.lstore_n 3, 1) := by decide +kernel
theorem dX1_over_5 : decode cX1_over 5 = .ok (.iload_n 1, 1) := by decide +kernel
theorem dX1_over_6 : decode cX1_over 6 = .ok (.istore 5, 2) := by decide +kernel
theorem dX1_over_8 : decode cX1_over 8 = .ok (.iload 5, 2) := by decide +kernel
theorem dX1_over_10 : decode cX1_over 10 = .ok (.iload_n 2, 1) := by decide +kernel
theorem dX1_over_11 : decode cX1_over 11 = .ok (.if_icmp .ge 22, 3) := by decide +kernel
theorem dX1_over_14 : decode cX1_over 14 = .ok (.aload_n 0, 1) := by decide +kernel
theorem dX1_over_15 : decode cX1_over 15 = .ok (.lload_n 3, 1) := by decide +kernel
theorem dX1_over_16 : decode cX1_over 16 = .ok (.aload_n 0, 1) := by decide +kernel
theorem dX1_over_17 : decode cX1_over 17 = .ok (.getfield 34, 3) := by decide +kernel
theorem dX1_over_20 : decode cX1_over 20 = .ok (.iload 5, 2) := by decide +kernel
theorem dX1_over_22 : decode cX1_over 22 = .ok (.iaload, 1) := by decide +kernel
theorem dX1_over_23 : decode cX1_over 23 = .ok (.invokevirtual 55, 3) := by decide +kernel
theorem dX1_over_26 : decode cX1_over 26 = .ok (.lstore_n 3, 1) := by decide +kernel
theorem dX1_over_27 : decode cX1_over 27 = .ok (.iinc 5 1, 3) := by decide +kernel
theorem dX1_over_30 : decode cX1_over 30 = .ok (.goto (-22), 3) := by decide +kernel
theorem dX1_over_33 : decode cX1_over 33 = .ok (.aload_n 0, 1) := by decide +kernel
theorem dX1_over_34 : decode cX1_over 34 = .ok (.lload_n 3, 1) := by decide +kernel
theorem dX1_over_35 : decode cX1_over 35 = .ok (.invokevirtual 58, 3) := by decide +kernel
theorem dX1_over_38 : decode cX1_over 38 = .ok (.lreturn, 1) := by decide +kernel
set_option maxRecDepth 20000 in
theorem ggX1_check_X1_over : GoodIn wsX1_check wsX1_over := goodIn_r _ [6, 7, 8, 9, 10, 11, 5, 12, 13, 14, 15, 16, 17, 18, 19, 20, 21, 22, 23, 24, 25, 26, 27, 28, 29, 30, 31, 32, 33, 34, 35, 36, 37, 38, 39, 40, 41, 42, 43, 44] (by decide +kernel) (by decide +kernel)
set_option maxRecDepth 20000 in
theorem gX1_check_X1_over : GoodIn wsX1_check (wsV RX1 61 RX1 yX1_over wsX1_over) := goodIn_app (goodIn_of _ (by decide +kernel)) ggX1_check_X1_over
theorem dX1_check_0 : decode cX1_check 0 = .ok (.iload_n 1, 1) := by decide +kernel
theorem dX1_check_1 : decode cX1_check 1 = .ok (.ifCond .lt 8, 3) := by decide +kernel
theorem dX1_check_4 : decode cX1_check 4 = .ok (.iload_n 1, 1) := by decide +kernel
theorem dX1_check_5 : decode cX1_check 5 = .ok (.iconst 3, 1) := by decide +kernel
theorem dX1_check_6 : decode cX1_check 6 = .ok (.if_icmp .le 7, 3) := by decide +kernel
theorem dX1_check_9 : decode cX1_check 9 = .ok (.lconst 0, 1) := by decide +kernel
theorem dX1_check_10 : decode cX1_check 10 = .ok (.goto 12, 3) := by decide +kernel
theorem dX1_check_13 : decode cX1_check 13 = .ok (.aload_n 0, 1) := by decide +kernel
theorem dX1_check_14 : decode cX1_check 14 = .ok (.iconst 0, 1) := by decide +kernel
theorem dX1_check_15 : decode cX1_check 15 = .ok (.aload_n 0, 1) := by decide +kernel
theorem dX1_check_16 : decode cX1_check 16 = .ok (.getfield 46, 3) := by decide +kernel
theorem dX1_check_19 : decode cX1_check 19 = .ok (.invokevirtual 61, 3) := by decide +kernel
theorem dX1_check_22 : decode cX1_check 22 = .ok (.lreturn, 1) := by decide +kernel
set_option maxRecDepth 20000 in
theorem ggX1_part_X1_over : GoodIn wsX1_part wsX1_over := goodIn_r _ [6, 7, 8, 9, 10, 11, 5, 12, 13, 14, 15, 16, 17, 18, 19, 20, 21, 22, 23, 24, 25, 26, 27, 28, 29, 30, 31, 32, 33, 34, 35, 36, 37, 38, 39, 40, 41, 42, 43, 44] (by decide +kernel) (by decide +kernel)
set_option maxRecDepth 20000 in
theorem gX1_part_X1_over : GoodIn wsX1_part (wsV RX1 61 RX1 yX1_over wsX1_over) := goodIn_app (goodIn_of _ (by decide +kernel)) ggX1_part_X1_over
theorem dX1_part_0 : decode cX1_part 0 = .ok (.iload_n 1, 1) := by decide +kernel
theorem dX1_part_1 : decode cX1_part 1 = .ok (.ifCond .lt 16, 3) := by decide +kernel
theorem dX1_part_4 : decode cX1_part 4 = .ok (.iload_n 2, 1) := by decide +kernel
theorem dX1_part_5 : decode cX1_part 5 = .ok (.iload_n 1, 1) := by decide +kernel
theorem dX1_part_6 : decode cX1_part 6 = .ok (.if_icmp .lt 11, 3) := by decide +kernel
theorem dX1_part_9 : decode cX1_part 9 = .ok (.iload_n 2, 1) := by decide +kernel
theorem dX1_part_10 : decode cX1_part 10 = .ok (.aload_n 0, 1) := by decide +kernel
theorem dX1_part_11 : decode cX1_part 11 = .ok (.getfield 46, 3) := by decide +kernel
theorem dX1_part_14 : decode cX1_part 14 = .ok (.if_icmp .le 7, 3) := by decide +kernel
theorem dX1_part_17 : decode cX1_part 17 = .ok (.lconst 0, 1) := by decide +kernel
theorem dX1_part_18 : decode cX1_part 18 = .ok (.goto 9, 3) := by decide +kernel
theorem dX1_part_21 : decode cX1_part 21 = .ok (.aload_n 0, 1) := by decide +kernel
theorem dX1_part_22 : decode cX1_part 22 = .ok (.iload_n 1, 1) := by decide +kernel
theorem dX1_part_23 : decode cX1_part 23 = .ok (.iload_n 2, 1) := by decide +kernel
theorem dX1_part_24 : decode cX1_part 24 = .ok (.invokevirtual 61, 3) := by decide +kernel
theorem dX1_part_27 : decode cX1_part 27 = .ok (.lreturn, 1) := by decide +kernel
set_option maxRecDepth 20000 in
theorem ggX1_times_X1_bit : GoodIn wsX1_times wsX1_bit := goodIn_r _ [6, 1, 7, 8, 9, 10, 5, 11, 12, 13, 14, 15, 16, 17, 18, 19, 20, 21, 22] (by decide +kernel) (by decide +kernel)
set_option maxRecDepth 20000 in
theorem gX1_times_X1_bit : GoodIn wsX1_times (wsV RX1 49 RX1 yX1_bit wsX1_bit) := goodIn_app (goodIn_of _ (by decide +kernel)) ggX1_times_X1_bit
theorem dX1_times_0 : decode cX1_times 0 = .ok (.lconst 0, 1) := by decide +kernel
theorem dX1_times_1 : decode cX1_times 1 = .ok (.lstore 5, 2) := by decide +kernel
theorem dX1_times_3 : decode cX1_times 3 = .ok (.aload_n 0, 1) := by decide +kernel
theorem dX1_times_4 : decode cX1_times 4 = .ok (.getfield 7, 3) := by decide +kernel
theorem dX1_times_7 : decode cX1_times 7 = .ok (.iconst 1, 1) := by decide +kernel
theorem dX1_times_8 : decode cX1_times 8 = .ok (.isub, 1) := by decide +kernel
theorem dX1_times_9 : decode cX1_times 9 = .ok (.istore 7, 2) := by decide +kernel
theorem dX1_times_11 : decode cX1_times 11 = .ok (.iload 7, 2) := by decide +kernel
theorem dX1_times_13 : decode cX1_times 13 = .ok (.ifCond .lt 39, 3) := by decide +kernel
theorem dX1_times_16 : decode cX1_times 16 = .ok (.aload_n 0, 1) := by decide +kernel
theorem dX1_times_17 : decode cX1_times 17 = .ok (.lload 5, 2) := by decide +kernel
theorem dX1_times_19 : decode cX1_times 19 = .ok (.iconst 0, 1) := by decide +kernel
theorem dX1_times_20 : decode cX1_times 20 = .ok (.invokevirtual 49, 3) := by decide +kernel
theorem dX1_times_23 : decode cX1_times 23 = .ok (.lstore 5, 2) := by decide +kernel
theorem dX1_times_25 : decode cX1_times 25 = .ok (.lload 5, 2) := by decide +kernel
theorem dX1_times_27 : decode cX1_times 27 = .ok (.lload_n 3, 1) := by decide +kernel
theorem dX1_times_28 : decode cX1_times 28 = .ok (.iload 7, 2) := by decide +kernel
theorem dX1_times_30 : decode cX1_times 30 = .ok (.lushr, 1) := by decide +kernel
theorem dX1_times_31 : decode cX1_times 31 = .ok (.lconst 1, 1) := by decide +kernel
theorem dX1_times_32 : decode cX1_times 32 = .ok (.land, 1) := by decide +kernel
theorem dX1_times_33 : decode cX1_times 33 = .ok (.lconst 1, 1) := by decide +kernel
theorem dX1_times_34 : decode cX1_times 34 = .ok (.lcmp, 1) := by decide +kernel
theorem dX1_times_35 : decode cX1_times 35 = .ok (.ifCond .ne 7, 3) := by decide +kernel
theorem dX1_times_38 : decode cX1_times 38 = .ok (.lload_n 1, 1) := by decide +kernel
theorem dX1_times_39 : decode cX1_times 39 = .ok (.goto 4, 3) := by decide +kernel
theorem dX1_times_42 : decode cX1_times 42 = .ok (.lconst 0, 1) := by decide +kernel
theorem dX1_times_43 : decode cX1_times 43 = .ok (.lxor, 1) := by decide +kernel
theorem dX1_times_44 : decode cX1_times 44 = .ok (.lstore 5, 2) := by decide +kernel
theorem dX1_times_46 : decode cX1_times 46 = .ok (.iinc 7 (-1), 3) := by decide +kernel
theorem dX1_times_49 : decode cX1_times 49 = .ok (.goto (-38), 3) := by decide +kernel
theorem dX1_times_52 : decode cX1_times 52 = .ok (.lload 5, 2) := by decide +kernel
theorem dX1_times_54 : decode cX1_times 54 = .ok (.lreturn, 1) := by decide +kernel
set_option maxRecDepth 20000 in
theorem ggX1_behind_X1_bit : GoodIn wsX1_behind wsX1_bit := goodIn_r _ [6, 7, 8, 9, 10, 11, 5, 12, 13, 14, 15, 20, 21, 22, 23, 24, 25, 26, 27] (by decide +kernel) (by decide +kernel)
set_option maxRecDepth 20000 in
theorem gX1_behind_X1_bit : GoodIn wsX1_behind (wsV RX1 49 RX1 yX1_bit wsX1_bit) := goodIn_app (goodIn_of _ (by decide +kernel)) ggX1_behind_X1_bit
set_option maxRecDepth 20000 in
theorem ggX1_behind_X1_times : GoodIn wsX1_behind wsX1_times := goodIn_r _ [19, 7, 2, 3, 4, 5, 6, 8, 9, 10, 11, 12, 13, 14, 15, 20, 21, 22, 23, 24, 25, 26, 27] (by decide +kernel) (by decide +kernel)
set_option maxRecDepth 20000 in
theorem gX1_behind_X1_times : GoodIn wsX1_behind (wsV RX1 67 RX1 yX1_times wsX1_times) := goodIn_app (goodIn_of _ (by decide +kernel)) ggX1_behind_X1_times
theorem dX1_behind_0 : decode cX1_behind 0 = .ok (.lload_n 1, 1) := by decide +kernel
theorem dX1_behind_1 : decode cX1_behind 1 = .ok (.lstore 5, 2) := by decide +kernel
theorem dX1_behind_3 : decode cX1_behind 3 = .ok (.aload_n 0, 1) := by decide +kernel
theorem dX1_behind_4 : decode cX1_behind 4 = .ok (.lconst 1, 1) := by decide +kernel
theorem dX1_behind_5 : decode cX1_behind 5 = .ok (.iconst 0, 1) := by decide +kernel
theorem dX1_behind_6 : decode cX1_behind 6 = .ok (.invokevirtual 49, 3) := by decide +kernel
theorem dX1_behind_9 : decode cX1_behind 9 = .ok (.lstore 7, 2) := by decide +kernel
theorem dX1_behind_11 : decode cX1_behind 11 = .ok (.lload_n 3, 1) := by decide +kernel
theorem dX1_behind_12 : decode cX1_behind 12 = .ok (.lstore 9, 2) := by decide +kernel
theorem dX1_behind_14 : decode cX1_behind 14 = .ok (.lload 9, 2) := by decide +kernel
theorem dX1_behind_16 : decode cX1_behind 16 = .ok (.lconst 0, 1) := by decide +kernel
theorem dX1_behind_17 : decode cX1_behind 17 = .ok (.lcmp, 1) := by decide +kernel
theorem dX1_behind_18 : decode cX1_behind 18 = .ok (.ifCond .le 50, 3) := by decide +kernel
theorem dX1_behind_21 : decode cX1_behind 21 = .ok (.lload 9, 2) := by decide +kernel
theorem dX1_behind_23 : decode cX1_behind 23 = .ok (.ldc2_w 65, 3) := by decide +kernel
theorem dX1_behind_26 : decode cX1_behind 26 = .ok (.lrem, 1) := by decide +kernel
theorem dX1_behind_27 : decode cX1_behind 27 = .ok (.lconst 1, 1) := by decide +kernel
theorem dX1_behind_28 : decode cX1_behind 28 = .ok (.lcmp, 1) := by decide +kernel
theorem dX1_behind_29 : decode cX1_behind 29 = .ok (.ifCond .ne 14, 3) := by decide +kernel
theorem dX1_behind_32 : decode cX1_behind 32 = .ok (.aload_n 0, 1) := by decide +kernel
theorem dX1_behind_33 : decode cX1_behind 33 = .ok (.lload 5, 2) := by decide +kernel
theorem dX1_behind_35 : decode cX1_behind 35 = .ok (.lload 7, 2) := by decide +kernel
theorem dX1_behind_37 : decode cX1_behind 37 = .ok (.invokevirtual 67, 3) := by decide +kernel
theorem dX1_behind_40 : decode cX1_behind 40 = .ok (.goto 5, 3) := by decide +kernel
theorem dX1_behind_43 : decode cX1_behind 43 = .ok (.lload 5, 2) := by decide +kernel
theorem dX1_behind_45 : decode cX1_behind 45 = .ok (.lstore 5, 2) := by decide +kernel
theorem dX1_behind_47 : decode cX1_behind 47 = .ok (.aload_n 0, 1) := by decide +kernel
theorem dX1_behind_48 : decode cX1_behind 48 = .ok (.lload 7, 2) := by decide +kernel
theorem dX1_behind_50 : decode cX1_behind 50 = .ok (.lload 7, 2) := by decide +kernel
theorem dX1_behind_52 : decode cX1_behind 52 = .ok (.invokevirtual 67, 3) := by decide +kernel
theorem dX1_behind_55 : decode cX1_behind 55 = .ok (.lstore 7, 2) := by decide +kernel
theorem dX1_behind_57 : decode cX1_behind 57 = .ok (.lload 9, 2) := by decide +kernel
theorem dX1_behind_59 : decode cX1_behind 59 = .ok (.ldc2_w 65, 3) := by decide +kernel
theorem dX1_behind_62 : decode cX1_behind 62 = .ok (.ldiv, 1) := by decide +kernel
theorem dX1_behind_63 : decode cX1_behind 63 = .ok (.lstore 9, 2) := by decide +kernel
theorem dX1_behind_65 : decode cX1_behind 65 = .ok (.goto (-51), 3) := by decide +kernel
theorem dX1_behind_68 : decode cX1_behind 68 = .ok (.lload 5, 2) := by decide +kernel
theorem dX1_behind_70 : decode cX1_behind 70 = .ok (.lreturn, 1) := by decide +kernel
set_option maxRecDepth 20000 in
theorem ggX1_joined_X1_register : GoodIn wsX1_joined wsX1_register := goodIn_r _ [7, 8, 9, 10, 11, 12, 6, 13, 14, 15, 16, 17, 18, 19, 20, 21, 40, 41, 42, 43, 44, 45, 46, 47] (by decide +kernel) (by decide +kernel)
set_option maxRecDepth 20000 in
theorem gX1_joined_X1_register : GoodIn wsX1_joined (wsV RX1 71 RX1 yX1_register wsX1_register) := goodIn_app (goodIn_of _ (by decide +kernel)) ggX1_joined_X1_register
set_option maxRecDepth 20000 in
theorem ggX1_joined_X1_behind : GoodIn wsX1_joined wsX1_behind := goodIn_r _ [25, 26, 27, 28, 29, 6, 30, 14, 31, 10, 11, 12, 13, 15, 16, 17, 32, 33, 34, 35, 40, 41, 42, 43, 44, 45, 46, 47] (by decide +kernel) (by decide +kernel)
set_option maxRecDepth 20000 in
theorem gX1_joined_X1_behind : GoodIn wsX1_joined (wsV RX1 76 RX1 yX1_behind wsX1_behind) := goodIn_app (goodIn_of _ (by decide +kernel)) ggX1_joined_X1_behind
set_option maxRecDepth 20000 in
theorem ggX1_joined_X1_told : GoodIn wsX1_joined wsX1_told := goodIn_r _ [39, 9, 8, 18, 19, 20, 6, 21, 14, 40, 41, 42, 43, 44, 45, 46, 47] (by decide +kernel) (by decide +kernel)
set_option maxRecDepth 20000 in
theorem gX1_joined_X1_told : GoodIn wsX1_joined (wsV RX1 58 RX1 yX1_told wsX1_told) := goodIn_app (goodIn_of _ (by decide +kernel)) ggX1_joined_X1_told
theorem dX1_joined_0 : decode cX1_joined 0 = .ok (.iload 5, 2) := by decide +kernel
theorem dX1_joined_2 : decode cX1_joined 2 = .ok (.ifCond .ge 5, 3) := by decide +kernel
theorem dX1_joined_5 : decode cX1_joined 5 = .ok (.lconst 0, 1) := by decide +kernel
theorem dX1_joined_6 : decode cX1_joined 6 = .ok (.lreturn, 1) := by decide +kernel
theorem dX1_joined_7 : decode cX1_joined 7 = .ok (.aload_n 0, 1) := by decide +kernel
theorem dX1_joined_8 : decode cX1_joined 8 = .ok (.aload_n 0, 1) := by decide +kernel
theorem dX1_joined_9 : decode cX1_joined 9 = .ok (.aload_n 0, 1) := by decide +kernel
theorem dX1_joined_10 : decode cX1_joined 10 = .ok (.lload_n 1, 1) := by decide +kernel
theorem dX1_joined_11 : decode cX1_joined 11 = .ok (.invokevirtual 71, 3) := by decide +kernel
theorem dX1_joined_14 : decode cX1_joined 14 = .ok (.aload_n 0, 1) := by decide +kernel
theorem dX1_joined_15 : decode cX1_joined 15 = .ok (.getfield 21, 3) := by decide +kernel
theorem dX1_joined_18 : decode cX1_joined 18 = .ok (.lxor, 1) := by decide +kernel
theorem dX1_joined_19 : decode cX1_joined 19 = .ok (.ldc2_w 74, 3) := by decide +kernel
theorem dX1_joined_22 : decode cX1_joined 22 = .ok (.iload 5, 2) := by decide +kernel
theorem dX1_joined_24 : decode cX1_joined 24 = .ok (.i2l, 1) := by decide +kernel
theorem dX1_joined_25 : decode cX1_joined 25 = .ok (.lmul, 1) := by decide +kernel
theorem dX1_joined_26 : decode cX1_joined 26 = .ok (.invokevirtual 76, 3) := by decide +kernel
theorem dX1_joined_29 : decode cX1_joined 29 = .ok (.aload_n 0, 1) := by decide +kernel
theorem dX1_joined_30 : decode cX1_joined 30 = .ok (.lload_n 3, 1) := by decide +kernel
theorem dX1_joined_31 : decode cX1_joined 31 = .ok (.invokevirtual 71, 3) := by decide +kernel
theorem dX1_joined_34 : decode cX1_joined 34 = .ok (.lxor, 1) := by decide +kernel
theorem dX1_joined_35 : decode cX1_joined 35 = .ok (.invokevirtual 58, 3) := by decide +kernel
theorem dX1_joined_38 : decode cX1_joined 38 = .ok (.lreturn, 1) := by decide +kernel
set_option maxRecDepth 20000 in
theorem ggX1_entry_X1_oneByte : GoodIn wsX1_entry wsX1_oneByte := goodIn_r _ [6, 7, 8, 9, 10, 5, 11, 12, 13, 14, 15, 16, 17, 18, 19, 20, 30, 31, 32, 33, 34, 35, 36, 37] (by decide +kernel) (by decide +kernel)
set_option maxRecDepth 20000 in
theorem gX1_entry_X1_oneByte : GoodIn wsX1_entry (wsV RX1 55 RX1 yX1_oneByte wsX1_oneByte) := goodIn_app (goodIn_of _ (by decide +kernel)) ggX1_entry_X1_oneByte
set_option maxRecDepth 20000 in
theorem ggX1_entry_X1_behind : GoodIn wsX1_entry wsX1_behind := goodIn_r _ [24, 25, 8, 9, 10, 5, 11, 12, 13, 14, 15, 16, 17, 18, 19, 20, 26, 27, 28, 29, 30, 31, 32, 33, 34, 35, 36, 37] (by decide +kernel) (by decide +kernel)
set_option maxRecDepth 20000 in
theorem gX1_entry_X1_behind : GoodIn wsX1_entry (wsV RX1 76 RX1 yX1_behind wsX1_behind) := goodIn_app (goodIn_of _ (by decide +kernel)) ggX1_entry_X1_behind
theorem dX1_entry_0 : decode cX1_entry 0 = .ok (.iload_n 1, 1) := by decide +kernel
theorem dX1_entry_1 : decode cX1_entry 1 = .ok (.ifCond .lt 20, 3) := by decide +kernel
theorem dX1_entry_4 : decode cX1_entry 4 = .ok (.iload_n 1, 1) := by decide +kernel
theorem dX1_entry_5 : decode cX1_entry 5 = .ok (.bipush 7, 2) := by decide +kernel
theorem dX1_entry_7 : decode cX1_entry 7 = .ok (.if_icmp .gt 14, 3) := by decide +kernel
theorem dX1_entry_10 : decode cX1_entry 10 = .ok (.iload_n 2, 1) := by decide +kernel
theorem dX1_entry_11 : decode cX1_entry 11 = .ok (.ifCond .lt 10, 3) := by decide +kernel
theorem dX1_entry_14 : decode cX1_entry 14 = .ok (.iload_n 2, 1) := by decide +kernel
theorem dX1_entry_15 : decode cX1_entry 15 = .ok (.sipush 255, 3) := by decide +kernel
theorem dX1_entry_18 : decode cX1_entry 18 = .ok (.if_icmp .le 5, 3) := by decide +kernel
theorem dX1_entry_21 : decode cX1_entry 21 = .ok (.lconst 0, 1) := by decide +kernel
theorem dX1_entry_22 : decode cX1_entry 22 = .ok (.lreturn, 1) := by decide +kernel
theorem dX1_entry_23 : decode cX1_entry 23 = .ok (.aload_n 0, 1) := by decide +kernel
theorem dX1_entry_24 : decode cX1_entry 24 = .ok (.aload_n 0, 1) := by decide +kernel
theorem dX1_entry_25 : decode cX1_entry 25 = .ok (.lconst 0, 1) := by decide +kernel
theorem dX1_entry_26 : decode cX1_entry 26 = .ok (.iload_n 2, 1) := by decide +kernel
theorem dX1_entry_27 : decode cX1_entry 27 = .ok (.invokevirtual 55, 3) := by decide +kernel
theorem dX1_entry_30 : decode cX1_entry 30 = .ok (.ldc2_w 74, 3) := by decide +kernel
theorem dX1_entry_33 : decode cX1_entry 33 = .ok (.iload_n 1, 1) := by decide +kernel
theorem dX1_entry_34 : decode cX1_entry 34 = .ok (.i2l, 1) := by decide +kernel
theorem dX1_entry_35 : decode cX1_entry 35 = .ok (.lmul, 1) := by decide +kernel
theorem dX1_entry_36 : decode cX1_entry 36 = .ok (.invokevirtual 76, 3) := by decide +kernel
theorem dX1_entry_39 : decode cX1_entry 39 = .ok (.lreturn, 1) := by decide +kernel
set_option maxRecDepth 20000 in
theorem ggX1_zeros_X1_cut : GoodIn wsX1_zeros wsX1_cut := goodIn_r _ [6, 7, 8, 9, 5, 10, 25, 26, 27, 28, 29, 30, 31, 32] (by decide +kernel) (by decide +kernel)
set_option maxRecDepth 20000 in
theorem gX1_zeros_X1_cut : GoodIn wsX1_zeros (wsV RX1 42 RX1 yX1_cut wsX1_cut) := goodIn_app (goodIn_of _ (by decide +kernel)) ggX1_zeros_X1_cut
set_option maxRecDepth 20000 in
theorem ggX1_zeros_X1_behind : GoodIn wsX1_zeros wsX1_behind := goodIn_r _ [14, 15, 16, 17, 18, 5, 19, 7, 20, 2, 3, 4, 6, 8, 9, 10, 21, 22, 23, 24, 25, 26, 27, 28, 29, 30, 31, 32] (by decide +kernel) (by decide +kernel)
set_option maxRecDepth 20000 in
theorem gX1_zeros_X1_behind : GoodIn wsX1_zeros (wsV RX1 76 RX1 yX1_behind wsX1_behind) := goodIn_app (goodIn_of _ (by decide +kernel)) ggX1_zeros_X1_behind
theorem dX1_zeros_0 : decode cX1_zeros 0 = .ok (.iload_n 3, 1) := by decide +kernel
theorem dX1_zeros_1 : decode cX1_zeros 1 = .ok (.ifCond .lt 9, 3) := by decide +kernel
theorem dX1_zeros_4 : decode cX1_zeros 4 = .ok (.iload_n 3, 1) := by decide +kernel
theorem dX1_zeros_5 : decode cX1_zeros 5 = .ok (.ldc 79, 2) := by decide +kernel
theorem dX1_zeros_7 : decode cX1_zeros 7 = .ok (.if_icmp .le 7, 3) := by decide +kernel
theorem dX1_zeros_10 : decode cX1_zeros 10 = .ok (.lconst 0, 1) := by decide +kernel
theorem dX1_zeros_11 : decode cX1_zeros 11 = .ok (.goto 14, 3) := by decide +kernel
theorem dX1_zeros_14 : decode cX1_zeros 14 = .ok (.aload_n 0, 1) := by decide +kernel
theorem dX1_zeros_15 : decode cX1_zeros 15 = .ok (.aload_n 0, 1) := by decide +kernel
theorem dX1_zeros_16 : decode cX1_zeros 16 = .ok (.lload_n 1, 1) := by decide +kernel
theorem dX1_zeros_17 : decode cX1_zeros 17 = .ok (.invokevirtual 42, 3) := by decide +kernel
theorem dX1_zeros_20 : decode cX1_zeros 20 = .ok (.iload_n 3, 1) := by decide +kernel
theorem dX1_zeros_21 : decode cX1_zeros 21 = .ok (.i2l, 1) := by decide +kernel
theorem dX1_zeros_22 : decode cX1_zeros 22 = .ok (.invokevirtual 76, 3) := by decide +kernel
theorem dX1_zeros_25 : decode cX1_zeros 25 = .ok (.lreturn, 1) := by decide +kernel
set_option maxRecDepth 20000 in
theorem ggX1_round_X1_bit : GoodIn wsX1_round wsX1_bit := goodIn_r _ [5, 6, 7, 8, 9, 10, 4, 11, 12, 13, 14, 15, 16, 17, 18, 19, 20, 21, 22] (by decide +kernel) (by decide +kernel)
set_option maxRecDepth 20000 in
theorem gX1_round_X1_bit : GoodIn wsX1_round (wsV RX1 49 RX1 yX1_bit wsX1_bit) := goodIn_app (goodIn_of _ (by decide +kernel)) ggX1_round_X1_bit
theorem dX1_round_0 : decode cX1_round 0 = .ok (.lconst 1, 1) := by decide +kernel
theorem dX1_round_1 : decode cX1_round 1 = .ok (.lstore_n 1, 1) := by decide +kernel
theorem dX1_round_2 : decode cX1_round 2 = .ok (.iconst 1, 1) := by decide +kernel
theorem dX1_round_3 : decode cX1_round 3 = .ok (.istore_n 3, 1) := by decide +kernel
theorem dX1_round_4 : decode cX1_round 4 = .ok (.iload_n 3, 1) := by decide +kernel
theorem dX1_round_5 : decode cX1_round 5 = .ok (.sipush 4096, 3) := by decide +kernel
theorem dX1_round_8 : decode cX1_round 8 = .ok (.if_icmp .gt 24, 3) := by decide +kernel
theorem dX1_round_11 : decode cX1_round 11 = .ok (.aload_n 0, 1) := by decide +kernel
theorem dX1_round_12 : decode cX1_round 12 = .ok (.lload_n 1, 1) := by decide +kernel
theorem dX1_round_13 : decode cX1_round 13 = .ok (.iconst 0, 1) := by decide +kernel
theorem dX1_round_14 : decode cX1_round 14 = .ok (.invokevirtual 49, 3) := by decide +kernel
theorem dX1_round_17 : decode cX1_round 17 = .ok (.lstore_n 1, 1) := by decide +kernel
theorem dX1_round_18 : decode cX1_round 18 = .ok (.lload_n 1, 1) := by decide +kernel
theorem dX1_round_19 : decode cX1_round 19 = .ok (.lconst 1, 1) := by decide +kernel
theorem dX1_round_20 : decode cX1_round 20 = .ok (.lcmp, 1) := by decide +kernel
theorem dX1_round_21 : decode cX1_round 21 = .ok (.ifCond .ne 5, 3) := by decide +kernel
theorem dX1_round_24 : decode cX1_round 24 = .ok (.iload_n 3, 1) := by decide +kernel
theorem dX1_round_25 : decode cX1_round 25 = .ok (.ireturn, 1) := by decide +kernel
theorem dX1_round_26 : decode cX1_round 26 = .ok (.iinc 3 1, 3) := by decide +kernel
theorem dX1_round_29 : decode cX1_round 29 = .ok (.goto (-25), 3) := by decide +kernel
theorem dX1_round_32 : decode cX1_round 32 = .ok (.iconst (-1), 1) := by decide +kernel
theorem dX1_round_33 : decode cX1_round 33 = .ok (.ireturn, 1) := by decide +kernel
theorem dX1_holds_0 : decode cX1_holds 0 = .ok (.iconst 1, 1) := by decide +kernel
theorem dX1_holds_1 : decode cX1_holds 1 = .ok (.ireturn, 1) := by decide +kernel
theorem dX1_count_0 : decode cX1_count 0 = .ok (.iload_n 1, 1) := by decide +kernel
theorem dX1_count_1 : decode cX1_count 1 = .ok (.tableswitch 67 0 3 #[31, 36, 41, 54], 31) := by decide +kernel
theorem dX1_count_32 : decode cX1_count 32 = .ok (.aload_n 0, 1) := by decide +kernel
theorem dX1_count_33 : decode cX1_count 33 = .ok (.getfield 46, 3) := by decide +kernel
theorem dX1_count_36 : decode cX1_count 36 = .ok (.ireturn, 1) := by decide +kernel
theorem dX1_count_37 : decode cX1_count 37 = .ok (.aload_n 0, 1) := by decide +kernel
theorem dX1_count_38 : decode cX1_count 38 = .ok (.getfield 7, 3) := by decide +kernel
theorem dX1_count_41 : decode cX1_count 41 = .ok (.ireturn, 1) := by decide +kernel
theorem dX1_count_42 : decode cX1_count 42 = .ok (.aload_n 0, 1) := by decide +kernel
theorem dX1_count_43 : decode cX1_count 43 = .ok (.getfield 27, 3) := by decide +kernel
theorem dX1_count_46 : decode cX1_count 46 = .ok (.ifCond .eq 7, 3) := by decide +kernel
theorem dX1_count_49 : decode cX1_count 49 = .ok (.iconst 1, 1) := by decide +kernel
theorem dX1_count_50 : decode cX1_count 50 = .ok (.goto 4, 3) := by decide +kernel
theorem dX1_count_53 : decode cX1_count 53 = .ok (.iconst 0, 1) := by decide +kernel
theorem dX1_count_54 : decode cX1_count 54 = .ok (.ireturn, 1) := by decide +kernel
theorem dX1_count_55 : decode cX1_count 55 = .ok (.aload_n 0, 1) := by decide +kernel
theorem dX1_count_56 : decode cX1_count 56 = .ok (.getfield 31, 3) := by decide +kernel
theorem dX1_count_59 : decode cX1_count 59 = .ok (.ifCond .eq 7, 3) := by decide +kernel
theorem dX1_count_62 : decode cX1_count 62 = .ok (.iconst 1, 1) := by decide +kernel
theorem dX1_count_63 : decode cX1_count 63 = .ok (.goto 4, 3) := by decide +kernel
theorem dX1_count_66 : decode cX1_count 66 = .ok (.iconst 0, 1) := by decide +kernel
theorem dX1_count_67 : decode cX1_count 67 = .ok (.ireturn, 1) := by decide +kernel
theorem dX1_count_68 : decode cX1_count 68 = .ok (.iconst (-1), 1) := by decide +kernel
theorem dX1_count_69 : decode cX1_count 69 = .ok (.ireturn, 1) := by decide +kernel
theorem dX1_told__0 : decode cX1_told_ 0 = .ok (.iload_n 1, 1) := by decide +kernel
theorem dX1_told__1 : decode cX1_told_ 1 = .ok (.ifCond .ne 10, 3) := by decide +kernel
theorem dX1_told__4 : decode cX1_told_ 4 = .ok (.aload_n 0, 1) := by decide +kernel
theorem dX1_told__5 : decode cX1_told_ 5 = .ok (.getfield 15, 3) := by decide +kernel
theorem dX1_told__8 : decode cX1_told_ 8 = .ok (.goto 28, 3) := by decide +kernel
theorem dX1_told__11 : decode cX1_told_ 11 = .ok (.iload_n 1, 1) := by decide +kernel
theorem dX1_told__12 : decode cX1_told_ 12 = .ok (.iconst 1, 1) := by decide +kernel
theorem dX1_told__13 : decode cX1_told_ 13 = .ok (.if_icmp .ne 10, 3) := by decide +kernel
theorem dX1_told__16 : decode cX1_told_ 16 = .ok (.aload_n 0, 1) := by decide +kernel
theorem dX1_told__17 : decode cX1_told_ 17 = .ok (.getfield 21, 3) := by decide +kernel
theorem dX1_told__20 : decode cX1_told_ 20 = .ok (.goto 16, 3) := by decide +kernel
theorem dX1_told__23 : decode cX1_told_ 23 = .ok (.iload_n 1, 1) := by decide +kernel
theorem dX1_told__24 : decode cX1_told_ 24 = .ok (.iconst 2, 1) := by decide +kernel
theorem dX1_told__25 : decode cX1_told_ 25 = .ok (.if_icmp .ne 10, 3) := by decide +kernel
theorem dX1_told__28 : decode cX1_told_ 28 = .ok (.aload_n 0, 1) := by decide +kernel
theorem dX1_told__29 : decode cX1_told_ 29 = .ok (.getfield 24, 3) := by decide +kernel
theorem dX1_told__32 : decode cX1_told_ 32 = .ok (.goto 4, 3) := by decide +kernel
theorem dX1_told__35 : decode cX1_told_ 35 = .ok (.lconst 0, 1) := by decide +kernel
theorem dX1_told__36 : decode cX1_told_ 36 = .ok (.lreturn, 1) := by decide +kernel
theorem dJ7_fill_d0a16_0 : decode cJ7_fill_d0a16 0 = .ok (.iconst 0, 1) := by decide +kernel
theorem dJ7_fill_d0a16_1 : decode cJ7_fill_d0a16 1 = .ok (.istore_n 3, 1) := by decide +kernel
theorem dJ7_fill_d0a16_2 : decode cJ7_fill_d0a16 2 = .ok (.aload_n 0, 1) := by decide +kernel
theorem dJ7_fill_d0a16_3 : decode cJ7_fill_d0a16 3 = .ok (.arraylength, 1) := by decide +kernel
theorem dJ7_fill_d0a16_4 : decode cJ7_fill_d0a16 4 = .ok (.istore 4, 2) := by decide +kernel
theorem dJ7_fill_d0a16_6 : decode cJ7_fill_d0a16 6 = .ok (.iload_n 3, 1) := by decide +kernel
theorem dJ7_fill_d0a16_7 : decode cJ7_fill_d0a16 7 = .ok (.iload 4, 2) := by decide +kernel
theorem dJ7_fill_d0a16_9 : decode cJ7_fill_d0a16 9 = .ok (.if_icmp .ge 13, 3) := by decide +kernel
theorem dJ7_fill_d0a16_12 : decode cJ7_fill_d0a16 12 = .ok (.aload_n 0, 1) := by decide +kernel
theorem dJ7_fill_d0a16_13 : decode cJ7_fill_d0a16 13 = .ok (.iload_n 3, 1) := by decide +kernel
theorem dJ7_fill_d0a16_14 : decode cJ7_fill_d0a16 14 = .ok (.lload_n 1, 1) := by decide +kernel
theorem dJ7_fill_d0a16_15 : decode cJ7_fill_d0a16 15 = .ok (.lastore, 1) := by decide +kernel
theorem dJ7_fill_d0a16_16 : decode cJ7_fill_d0a16 16 = .ok (.iinc 3 1, 3) := by decide +kernel
theorem dJ7_fill_d0a16_19 : decode cJ7_fill_d0a16 19 = .ok (.goto (-13), 3) := by decide +kernel
theorem dJ7_fill_d0a16_22 : decode cJ7_fill_d0a16 22 = .ok (.return_, 1) := by decide +kernel
set_option maxRecDepth 20000 in
theorem ggL_law_X0_init : GoodIn wsL_law wsX0_init := goodIn_r _ [9, 10, 11, 12, 13, 14, 15, 16, 17, 18, 19, 20, 21, 2, 22, 23, 24, 25, 26, 27, 28, 29, 30, 31, 32, 33, 34, 35, 36, 37, 38, 39, 40, 41, 42, 43, 44, 45, 46, 47, 48, 49, 50, 51, 52, 53, 54, 55, 56, 57, 58, 59, 60, 61, 62, 63, 64, 65, 66, 67, 68, 306, 307, 308, 309, 310, 311, 312, 313, 314, 315, 316] (by decide +kernel) (by decide +kernel)
set_option maxRecDepth 20000 in
theorem gL_law_X0_init : GoodIn wsL_law (wsX0_init) := ggL_law_X0_init
set_option maxRecDepth 20000 in
theorem ggL_law_X1_init : GoodIn wsL_law wsX1_init := goodIn_r _ [71, 72, 11, 12, 73, 74, 75, 76, 77, 78, 79, 80, 81, 82, 317, 318, 319, 320, 321, 322, 323, 324] (by decide +kernel) (by decide +kernel)
set_option maxRecDepth 20000 in
theorem gL_law_X1_init : GoodIn wsL_law (wsX1_init) := ggL_law_X1_init
set_option maxRecDepth 20000 in
theorem ggL_law_X0_kind : GoodIn wsL_law wsX0_kind := goodIn_r _ [22, 23, 24, 25, 26, 27, 28, 29, 30, 31, 32, 2, 33, 34, 14, 35, 36, 37, 38, 39, 40, 41, 42, 43, 44, 45, 46, 47, 48, 49, 50, 51, 52, 53, 54, 55, 56, 16, 57, 58, 59, 60, 61, 62, 63, 64, 65, 66, 67, 68, 306, 307, 308, 309, 310, 311, 312, 313, 314, 315, 316] (by decide +kernel) (by decide +kernel)
set_option maxRecDepth 20000 in
theorem gL_law_X0_kind : GoodIn wsL_law (wsV RL 15 RX0 yX0_kind wsX0_kind) := goodIn_app (goodIn_of _ (by decide +kernel)) ggL_law_X0_kind
set_option maxRecDepth 20000 in
theorem ggL_law_X1_kind : GoodIn wsL_law wsX1_kind := goodIn_r _ [87, 73, 75, 77, 78, 79, 80, 88, 89, 90, 5, 91, 92, 93, 94, 317, 318, 319, 320, 321, 322, 323, 324] (by decide +kernel) (by decide +kernel)
set_option maxRecDepth 20000 in
theorem gL_law_X1_kind : GoodIn wsL_law (wsV RL 19 RX1 yX1_kind wsX1_kind) := goodIn_app (goodIn_of _ (by decide +kernel)) ggL_law_X1_kind
set_option maxRecDepth 20000 in
theorem ggL_law_X0_feed : GoodIn wsL_law wsX0_feed := goodIn_r _ [98, 34, 14, 99, 100, 2, 101, 102, 103, 104, 105, 23, 106, 107, 108, 109, 110, 111, 306, 307, 308, 309, 310, 311, 312, 313, 314, 315, 316] (by decide +kernel) (by decide +kernel)
set_option maxRecDepth 20000 in
theorem gL_law_X0_feed : GoodIn wsL_law (wsV RL 20 RX0 yX0_feed wsX0_feed) := goodIn_app (goodIn_of _ (by decide +kernel)) ggL_law_X0_feed
set_option maxRecDepth 20000 in
theorem ggL_law_X1_feed : GoodIn wsL_law wsX1_feed := goodIn_r _ [115, 116, 82, 317, 318, 319, 320, 321, 322, 323, 324] (by decide +kernel) (by decide +kernel)
set_option maxRecDepth 20000 in
theorem gL_law_X1_feed : GoodIn wsL_law (wsV RL 24 RX1 yX1_feed wsX1_feed) := goodIn_app (goodIn_of _ (by decide +kernel)) ggL_law_X1_feed
set_option maxRecDepth 20000 in
theorem ggL_law_X0_clear : GoodIn wsL_law wsX0_clear := goodIn_r _ [120, 14, 34, 121, 122, 123, 124, 306, 307, 308, 309, 310, 311, 312, 313, 314, 315, 316] (by decide +kernel) (by decide +kernel)
set_option maxRecDepth 20000 in
theorem gL_law_X0_clear : GoodIn wsL_law (wsV RL 25 RX0 yX0_clear wsX0_clear) := goodIn_app (goodIn_of _ (by decide +kernel)) ggL_law_X0_clear
set_option maxRecDepth 20000 in
theorem ggL_law_X1_clear : GoodIn wsL_law wsX1_clear := goodIn_r _ [128, 116, 317, 318, 319, 320, 321, 322, 323, 324] (by decide +kernel) (by decide +kernel)
set_option maxRecDepth 20000 in
theorem gL_law_X1_clear : GoodIn wsL_law (wsV RL 28 RX1 yX1_clear wsX1_clear) := goodIn_app (goodIn_of _ (by decide +kernel)) ggL_law_X1_clear
set_option maxRecDepth 20000 in
theorem ggL_law_X0_flip : GoodIn wsL_law wsX0_flip := goodIn_r _ [132, 14, 133, 134, 135, 2, 136, 34, 306, 307, 308, 309, 310, 311, 312, 313, 314, 315, 316] (by decide +kernel) (by decide +kernel)
set_option maxRecDepth 20000 in
theorem gL_law_X0_flip : GoodIn wsL_law (wsV RL 29 RX0 yX0_flip wsX0_flip) := goodIn_app (goodIn_of _ (by decide +kernel)) ggL_law_X0_flip
set_option maxRecDepth 20000 in
theorem ggL_law_X1_flip : GoodIn wsL_law wsX1_flip := goodIn_r _ [140, 116, 82, 79, 317, 318, 319, 320, 321, 322, 323, 324] (by decide +kernel) (by decide +kernel)
set_option maxRecDepth 20000 in
theorem gL_law_X1_flip : GoodIn wsL_law (wsV RL 33 RX1 yX1_flip wsX1_flip) := goodIn_app (goodIn_of _ (by decide +kernel)) ggL_law_X1_flip
set_option maxRecDepth 20000 in
theorem ggL_law_X0_check : GoodIn wsL_law wsX0_check := goodIn_r _ [144, 27, 34, 145, 146, 147, 2, 148, 45, 46, 47, 48, 24, 149, 150, 151, 152, 14, 109, 110, 111, 57, 58, 59, 60, 61, 62, 63, 64, 26, 153, 154, 155, 156, 28, 29, 49, 50, 51, 52, 106, 107, 108, 157, 158, 159, 160, 65, 66, 67, 68, 16, 161, 162, 163, 164, 165, 166, 167, 168, 169, 170, 171, 172, 173, 15, 174, 175, 176, 177, 133, 134, 135, 136, 178, 179, 180, 181, 182, 183, 184, 185, 306, 307, 308, 309, 310, 311, 312, 313, 314, 315, 316] (by decide +kernel) (by decide +kernel)
set_option maxRecDepth 20000 in
theorem gL_law_X0_check : GoodIn wsL_law (wsV RL 34 RX0 yX0_check wsX0_check) := goodIn_app (goodIn_of _ (by decide +kernel)) ggL_law_X0_check
set_option maxRecDepth 20000 in
theorem ggL_law_X1_check : GoodIn wsL_law wsX1_check := goodIn_r _ [189, 116, 190, 191, 192, 5, 193, 77, 82, 194, 195, 196, 197, 79, 198, 199, 200, 201, 73, 75, 88, 89, 90, 91, 92, 93, 94, 202, 203, 204, 205, 80, 78, 206, 207, 208, 209, 317, 318, 319, 320, 321, 322, 323, 324] (by decide +kernel) (by decide +kernel)
set_option maxRecDepth 20000 in
theorem gL_law_X1_check : GoodIn wsL_law (wsV RL 38 RX1 yX1_check wsX1_check) := goodIn_app (goodIn_of _ (by decide +kernel)) ggL_law_X1_check
set_option maxRecDepth 20000 in
theorem ggL_law_X0_part : GoodIn wsL_law wsX0_part := goodIn_r _ [213, 34, 161, 162, 163, 2, 164, 27, 14, 45, 46, 47, 48, 24, 157, 158, 159, 160, 149, 150, 151, 152, 109, 110, 111, 65, 66, 67, 68, 16, 165, 166, 167, 168, 169, 153, 154, 155, 156, 28, 29, 49, 50, 51, 52, 106, 107, 108, 306, 307, 308, 309, 310, 311, 312, 313, 314, 315, 316] (by decide +kernel) (by decide +kernel)
set_option maxRecDepth 20000 in
theorem gL_law_X0_part : GoodIn wsL_law (wsV RL 39 RX0 yX0_part wsX0_part) := goodIn_app (goodIn_of _ (by decide +kernel)) ggL_law_X0_part
set_option maxRecDepth 20000 in
theorem ggL_law_X1_part : GoodIn wsL_law wsX1_part := goodIn_r _ [217, 116, 190, 191, 192, 5, 193, 77, 82, 194, 195, 196, 197, 79, 198, 199, 200, 201, 73, 75, 88, 89, 90, 91, 92, 93, 94, 202, 203, 204, 205, 80, 78, 206, 207, 208, 209, 317, 318, 319, 320, 321, 322, 323, 324] (by decide +kernel) (by decide +kernel)
set_option maxRecDepth 20000 in
theorem gL_law_X1_part : GoodIn wsL_law (wsV RL 43 RX1 yX1_part wsX1_part) := goodIn_app (goodIn_of _ (by decide +kernel)) ggL_law_X1_part
set_option maxRecDepth 20000 in
theorem ggL_law_X0_joined : GoodIn wsL_law wsX0_joined := goodIn_r _ [221, 27, 222, 223, 224, 225, 2, 226, 29, 28, 24, 106, 107, 108, 45, 46, 47, 48, 227, 228, 229, 230, 61, 62, 63, 64, 26, 231, 232, 233, 234, 153, 154, 155, 156, 49, 50, 51, 52, 306, 307, 308, 309, 310, 311, 312, 313, 314, 315, 316] (by decide +kernel) (by decide +kernel)
set_option maxRecDepth 20000 in
theorem gL_law_X0_joined : GoodIn wsL_law (wsV RL 44 RX0 yX0_joined wsX0_joined) := goodIn_app (goodIn_of _ (by decide +kernel)) ggL_law_X0_joined
set_option maxRecDepth 20000 in
theorem ggL_law_X1_joined : GoodIn wsL_law wsX1_joined := goodIn_r _ [238, 77, 239, 240, 241, 242, 5, 243, 78, 80, 88, 89, 90, 91, 73, 92, 93, 94, 206, 207, 208, 209, 244, 245, 246, 247, 248, 198, 199, 200, 201, 75, 249, 250, 251, 252, 202, 203, 204, 205, 317, 318, 319, 320, 321, 322, 323, 324] (by decide +kernel) (by decide +kernel)
set_option maxRecDepth 20000 in
theorem gL_law_X1_joined : GoodIn wsL_law (wsV RL 48 RX1 yX1_joined wsX1_joined) := goodIn_app (goodIn_of _ (by decide +kernel)) ggL_law_X1_joined
set_option maxRecDepth 20000 in
theorem ggL_law_X0_entry : GoodIn wsL_law wsX0_entry := goodIn_r _ [256, 16, 99, 100, 2, 101, 102, 103, 104, 105, 23, 106, 107, 108, 49, 50, 51, 52, 24, 306, 307, 308, 309, 310, 311, 312, 313, 314, 315, 316] (by decide +kernel) (by decide +kernel)
set_option maxRecDepth 20000 in
theorem gL_law_X0_entry : GoodIn wsL_law (wsV RL 49 RX0 yX0_entry wsX0_entry) := goodIn_app (goodIn_of _ (by decide +kernel)) ggL_law_X0_entry
set_option maxRecDepth 20000 in
theorem ggL_law_X1_entry : GoodIn wsL_law wsX1_entry := goodIn_r _ [260, 239, 194, 195, 196, 5, 197, 79, 198, 199, 200, 201, 73, 75, 88, 89, 90, 91, 92, 93, 94, 244, 245, 246, 247, 248, 249, 250, 251, 252, 317, 318, 319, 320, 321, 322, 323, 324] (by decide +kernel) (by decide +kernel)
set_option maxRecDepth 20000 in
theorem gL_law_X1_entry : GoodIn wsL_law (wsV RL 52 RX1 yX1_entry wsX1_entry) := goodIn_app (goodIn_of _ (by decide +kernel)) ggL_law_X1_entry
set_option maxRecDepth 20000 in
theorem ggL_law_X0_zeros : GoodIn wsL_law wsX0_zeros := goodIn_r _ [264, 265, 45, 46, 47, 2, 48, 24, 227, 228, 229, 230, 61, 62, 63, 64, 26, 231, 232, 233, 234, 49, 50, 51, 52, 306, 307, 308, 309, 310, 311, 312, 313, 314, 315, 316] (by decide +kernel) (by decide +kernel)
set_option maxRecDepth 20000 in
theorem gL_law_X0_zeros : GoodIn wsL_law (wsV RL 53 RX0 yX0_zeros wsX0_zeros) := goodIn_app (goodIn_of _ (by decide +kernel)) ggL_law_X0_zeros
set_option maxRecDepth 20000 in
theorem ggL_law_X1_zeros : GoodIn wsL_law wsX1_zeros := goodIn_r _ [269, 270, 88, 89, 90, 5, 91, 73, 92, 93, 94, 244, 245, 246, 247, 248, 198, 199, 200, 201, 75, 249, 250, 251, 252, 317, 318, 319, 320, 321, 322, 323, 324] (by decide +kernel) (by decide +kernel)
set_option maxRecDepth 20000 in
theorem gL_law_X1_zeros : GoodIn wsL_law (wsV RL 57 RX1 yX1_zeros wsX1_zeros) := goodIn_app (goodIn_of _ (by decide +kernel)) ggL_law_X1_zeros
set_option maxRecDepth 20000 in
theorem ggL_law_X0_round : GoodIn wsL_law wsX0_round := goodIn_r _ [274, 45, 46, 47, 2, 48, 24, 61, 62, 63, 64, 26, 306, 307, 308, 309, 310, 311, 312, 313, 314, 315, 316] (by decide +kernel) (by decide +kernel)
set_option maxRecDepth 20000 in
theorem gL_law_X0_round : GoodIn wsL_law (wsV RL 58 RX0 yX0_round wsX0_round) := goodIn_app (goodIn_of _ (by decide +kernel)) ggL_law_X0_round
set_option maxRecDepth 20000 in
theorem ggL_law_X1_round : GoodIn wsL_law wsX1_round := goodIn_r _ [278, 198, 199, 200, 5, 201, 73, 75, 88, 89, 90, 91, 92, 93, 94, 317, 318, 319, 320, 321, 322, 323, 324] (by decide +kernel) (by decide +kernel)
set_option maxRecDepth 20000 in
theorem gL_law_X1_round : GoodIn wsL_law (wsV RL 62 RX1 yX1_round wsX1_round) := goodIn_app (goodIn_of _ (by decide +kernel)) ggL_law_X1_round
set_option maxRecDepth 20000 in
theorem ggL_law_X0_holds : GoodIn wsL_law wsX0_holds := goodIn_r _ [282, 34, 283, 142, 143, 2, 144, 27, 145, 146, 147, 148, 45, 46, 47, 48, 24, 149, 150, 151, 152, 14, 109, 110, 111, 57, 58, 59, 60, 61, 62, 63, 64, 26, 153, 154, 155, 156, 28, 29, 49, 50, 51, 52, 106, 107, 108, 157, 158, 159, 160, 65, 66, 67, 68, 16, 161, 162, 163, 164, 165, 166, 167, 168, 169, 170, 171, 172, 173, 15, 174, 175, 176, 177, 133, 134, 135, 136, 178, 179, 180, 181, 182, 183, 184, 185, 284, 211, 212, 213, 285, 219, 220, 221, 222, 223, 224, 225, 226, 227, 228, 229, 230, 231, 232, 233, 234, 306, 307, 308, 309, 310, 311, 312, 313, 314, 315, 316] (by decide +kernel) (by decide +kernel)
set_option maxRecDepth 20000 in
theorem gL_law_X0_holds : GoodIn wsL_law (wsV RL 63 RX0 yX0_holds wsX0_holds) := goodIn_app (goodIn_of _ (by decide +kernel)) ggL_law_X0_holds
set_option maxRecDepth 20000 in
theorem ggL_law_X1_holds : GoodIn wsL_law wsX1_holds := goodIn_r _ [289] (by decide +kernel) (by decide +kernel)
set_option maxRecDepth 20000 in
theorem gL_law_X1_holds : GoodIn wsL_law (wsV RL 67 RX1 yX1_holds wsX1_holds) := goodIn_app (goodIn_of _ (by decide +kernel)) ggL_law_X1_holds
set_option maxRecDepth 20000 in
theorem ggL_law_X0_count : GoodIn wsL_law wsX0_count := goodIn_r _ [293, 34, 24, 23, 28, 306, 307, 308, 309, 310, 311, 312, 313, 314, 315, 316] (by decide +kernel) (by decide +kernel)
set_option maxRecDepth 20000 in
theorem gL_law_X0_count : GoodIn wsL_law (wsV RL 68 RX0 yX0_count wsX0_count) := goodIn_app (goodIn_of _ (by decide +kernel)) ggL_law_X0_count
set_option maxRecDepth 20000 in
theorem ggL_law_X1_count : GoodIn wsL_law wsX1_count := goodIn_r _ [297, 116, 73, 79, 80, 317, 318, 319, 320, 321, 322, 323, 324] (by decide +kernel) (by decide +kernel)
set_option maxRecDepth 20000 in
theorem gL_law_X1_count : GoodIn wsL_law (wsV RL 72 RX1 yX1_count wsX1_count) := goodIn_app (goodIn_of _ (by decide +kernel)) ggL_law_X1_count
set_option maxRecDepth 20000 in
theorem ggL_law_X0_told : GoodIn wsL_law wsX0_told := goodIn_r _ [301, 25, 27, 29, 306, 307, 308, 309, 310, 311, 312, 313, 314, 315, 316] (by decide +kernel) (by decide +kernel)
set_option maxRecDepth 20000 in
theorem gL_law_X0_told : GoodIn wsL_law (wsV RL 73 RX0 yX0_told wsX0_told) := goodIn_app (goodIn_of _ (by decide +kernel)) ggL_law_X0_told
set_option maxRecDepth 20000 in
theorem ggL_law_X1_told_ : GoodIn wsL_law wsX1_told_ := goodIn_r _ [305, 75, 77, 78, 317, 318, 319, 320, 321, 322, 323, 324] (by decide +kernel) (by decide +kernel)
set_option maxRecDepth 20000 in
theorem gL_law_X1_told_ : GoodIn wsL_law (wsV RL 76 RX1 yX1_told_ wsX1_told_) := goodIn_app (goodIn_of _ (by decide +kernel)) ggL_law_X1_told_
theorem dL_law_0 : decode cL_law 0 = .ok (.new 7, 3) := by decide +kernel
theorem dL_law_3 : decode cL_law 3 = .ok (.dup, 1) := by decide +kernel
theorem dL_law_4 : decode cL_law 4 = .ok (.invokespecial 9, 3) := by decide +kernel
theorem dL_law_7 : decode cL_law 7 = .ok (.astore_n 1, 1) := by decide +kernel
theorem dL_law_8 : decode cL_law 8 = .ok (.new 10, 3) := by decide +kernel
theorem dL_law_11 : decode cL_law 11 = .ok (.dup, 1) := by decide +kernel
theorem dL_law_12 : decode cL_law 12 = .ok (.invokespecial 12, 3) := by decide +kernel
theorem dL_law_15 : decode cL_law 15 = .ok (.astore_n 2, 1) := by decide +kernel
theorem dL_law_16 : decode cL_law 16 = .ok (.iconst 0, 1) := by decide +kernel
theorem dL_law_17 : decode cL_law 17 = .ok (.istore_n 3, 1) := by decide +kernel
theorem dL_law_18 : decode cL_law 18 = .ok (.iload_n 3, 1) := by decide +kernel
theorem dL_law_19 : decode cL_law 19 = .ok (.aload_n 0, 1) := by decide +kernel
theorem dL_law_20 : decode cL_law 20 = .ok (.arraylength, 1) := by decide +kernel
theorem dL_law_21 : decode cL_law 21 = .ok (.bipush 10, 2) := by decide +kernel
theorem dL_law_23 : decode cL_law 23 = .ok (.isub, 1) := by decide +kernel
theorem dL_law_24 : decode cL_law 24 = .ok (.if_icmp .gt 685, 3) := by decide +kernel
theorem dL_law_27 : decode cL_law 27 = .ok (.aload_n 0, 1) := by decide +kernel
theorem dL_law_28 : decode cL_law 28 = .ok (.iload_n 3, 1) := by decide +kernel
theorem dL_law_29 : decode cL_law 29 = .ok (.iaload, 1) := by decide +kernel
theorem dL_law_30 : decode cL_law 30 = .ok (.bipush 15, 2) := by decide +kernel
theorem dL_law_32 : decode cL_law 32 = .ok (.iand, 1) := by decide +kernel
theorem dL_law_33 : decode cL_law 33 = .ok (.tableswitch 670 0 12 #[67, 270, 303, 314, 337, 361, 395, 499, 533, 597, 610, 623, 646], 67) := by decide +kernel
theorem dL_law_100 : decode cL_law 100 = .ok (.aload_n 1, 1) := by decide +kernel
theorem dL_law_101 : decode cL_law 101 = .ok (.aload_n 0, 1) := by decide +kernel
theorem dL_law_102 : decode cL_law 102 = .ok (.iload_n 3, 1) := by decide +kernel
theorem dL_law_103 : decode cL_law 103 = .ok (.iconst 1, 1) := by decide +kernel
theorem dL_law_104 : decode cL_law 104 = .ok (.iadd, 1) := by decide +kernel
theorem dL_law_105 : decode cL_law 105 = .ok (.iaload, 1) := by decide +kernel
theorem dL_law_106 : decode cL_law 106 = .ok (.aload_n 0, 1) := by decide +kernel
theorem dL_law_107 : decode cL_law 107 = .ok (.iload_n 3, 1) := by decide +kernel
theorem dL_law_108 : decode cL_law 108 = .ok (.iconst 2, 1) := by decide +kernel
theorem dL_law_109 : decode cL_law 109 = .ok (.iadd, 1) := by decide +kernel
theorem dL_law_110 : decode cL_law 110 = .ok (.iaload, 1) := by decide +kernel
theorem dL_law_111 : decode cL_law 111 = .ok (.i2l, 1) := by decide +kernel
theorem dL_law_112 : decode cL_law 112 = .ok (.bipush 32, 2) := by decide +kernel
theorem dL_law_114 : decode cL_law 114 = .ok (.lshl, 1) := by decide +kernel
theorem dL_law_115 : decode cL_law 115 = .ok (.aload_n 0, 1) := by decide +kernel
theorem dL_law_116 : decode cL_law 116 = .ok (.iload_n 3, 1) := by decide +kernel
theorem dL_law_117 : decode cL_law 117 = .ok (.iconst 3, 1) := by decide +kernel
theorem dL_law_118 : decode cL_law 118 = .ok (.iadd, 1) := by decide +kernel
theorem dL_law_119 : decode cL_law 119 = .ok (.iaload, 1) := by decide +kernel
theorem dL_law_120 : decode cL_law 120 = .ok (.i2l, 1) := by decide +kernel
theorem dL_law_121 : decode cL_law 121 = .ok (.ldc2_w 13, 3) := by decide +kernel
theorem dL_law_124 : decode cL_law 124 = .ok (.land, 1) := by decide +kernel
theorem dL_law_125 : decode cL_law 125 = .ok (.lor, 1) := by decide +kernel
theorem dL_law_126 : decode cL_law 126 = .ok (.aload_n 0, 1) := by decide +kernel
theorem dL_law_127 : decode cL_law 127 = .ok (.iload_n 3, 1) := by decide +kernel
theorem dL_law_128 : decode cL_law 128 = .ok (.iconst 4, 1) := by decide +kernel
theorem dL_law_129 : decode cL_law 129 = .ok (.iadd, 1) := by decide +kernel
theorem dL_law_130 : decode cL_law 130 = .ok (.iaload, 1) := by decide +kernel
theorem dL_law_131 : decode cL_law 131 = .ok (.i2l, 1) := by decide +kernel
theorem dL_law_132 : decode cL_law 132 = .ok (.bipush 32, 2) := by decide +kernel
theorem dL_law_134 : decode cL_law 134 = .ok (.lshl, 1) := by decide +kernel
theorem dL_law_135 : decode cL_law 135 = .ok (.aload_n 0, 1) := by decide +kernel
theorem dL_law_136 : decode cL_law 136 = .ok (.iload_n 3, 1) := by decide +kernel
theorem dL_law_137 : decode cL_law 137 = .ok (.iconst 5, 1) := by decide +kernel
theorem dL_law_138 : decode cL_law 138 = .ok (.iadd, 1) := by decide +kernel
theorem dL_law_139 : decode cL_law 139 = .ok (.iaload, 1) := by decide +kernel
theorem dL_law_140 : decode cL_law 140 = .ok (.i2l, 1) := by decide +kernel
theorem dL_law_141 : decode cL_law 141 = .ok (.ldc2_w 13, 3) := by decide +kernel
theorem dL_law_144 : decode cL_law 144 = .ok (.land, 1) := by decide +kernel
theorem dL_law_145 : decode cL_law 145 = .ok (.lor, 1) := by decide +kernel
theorem dL_law_146 : decode cL_law 146 = .ok (.aload_n 0, 1) := by decide +kernel
theorem dL_law_147 : decode cL_law 147 = .ok (.iload_n 3, 1) := by decide +kernel
theorem dL_law_148 : decode cL_law 148 = .ok (.bipush 6, 2) := by decide +kernel
theorem dL_law_150 : decode cL_law 150 = .ok (.iadd, 1) := by decide +kernel
theorem dL_law_151 : decode cL_law 151 = .ok (.iaload, 1) := by decide +kernel
theorem dL_law_152 : decode cL_law 152 = .ok (.ifCond .eq 7, 3) := by decide +kernel
theorem dL_law_155 : decode cL_law 155 = .ok (.iconst 1, 1) := by decide +kernel
theorem dL_law_156 : decode cL_law 156 = .ok (.goto 4, 3) := by decide +kernel
theorem dL_law_159 : decode cL_law 159 = .ok (.iconst 0, 1) := by decide +kernel
theorem dL_law_160 : decode cL_law 160 = .ok (.aload_n 0, 1) := by decide +kernel
theorem dL_law_161 : decode cL_law 161 = .ok (.iload_n 3, 1) := by decide +kernel
theorem dL_law_162 : decode cL_law 162 = .ok (.bipush 7, 2) := by decide +kernel
theorem dL_law_164 : decode cL_law 164 = .ok (.iadd, 1) := by decide +kernel
theorem dL_law_165 : decode cL_law 165 = .ok (.iaload, 1) := by decide +kernel
theorem dL_law_166 : decode cL_law 166 = .ok (.ifCond .eq 7, 3) := by decide +kernel
theorem dL_law_169 : decode cL_law 169 = .ok (.iconst 1, 1) := by decide +kernel
theorem dL_law_170 : decode cL_law 170 = .ok (.goto 4, 3) := by decide +kernel
theorem dL_law_173 : decode cL_law 173 = .ok (.iconst 0, 1) := by decide +kernel
theorem dL_law_174 : decode cL_law 174 = .ok (.aload_n 0, 1) := by decide +kernel
theorem dL_law_175 : decode cL_law 175 = .ok (.iload_n 3, 1) := by decide +kernel
theorem dL_law_176 : decode cL_law 176 = .ok (.bipush 8, 2) := by decide +kernel
theorem dL_law_178 : decode cL_law 178 = .ok (.iadd, 1) := by decide +kernel
theorem dL_law_179 : decode cL_law 179 = .ok (.iaload, 1) := by decide +kernel
theorem dL_law_180 : decode cL_law 180 = .ok (.i2l, 1) := by decide +kernel
theorem dL_law_181 : decode cL_law 181 = .ok (.bipush 32, 2) := by decide +kernel
theorem dL_law_183 : decode cL_law 183 = .ok (.lshl, 1) := by decide +kernel
theorem dL_law_184 : decode cL_law 184 = .ok (.aload_n 0, 1) := by decide +kernel
theorem dL_law_185 : decode cL_law 185 = .ok (.iload_n 3, 1) := by decide +kernel
theorem dL_law_186 : decode cL_law 186 = .ok (.bipush 9, 2) := by decide +kernel
theorem dL_law_188 : decode cL_law 188 = .ok (.iadd, 1) := by decide +kernel
theorem dL_law_189 : decode cL_law 189 = .ok (.iaload, 1) := by decide +kernel
theorem dL_law_190 : decode cL_law 190 = .ok (.i2l, 1) := by decide +kernel
theorem dL_law_191 : decode cL_law 191 = .ok (.ldc2_w 13, 3) := by decide +kernel
theorem dL_law_194 : decode cL_law 194 = .ok (.land, 1) := by decide +kernel
theorem dL_law_195 : decode cL_law 195 = .ok (.lor, 1) := by decide +kernel
theorem dL_law_196 : decode cL_law 196 = .ok (.invokevirtual 15, 3) := by decide +kernel
theorem dL_law_199 : decode cL_law 199 = .ok (.aload_n 2, 1) := by decide +kernel
theorem dL_law_200 : decode cL_law 200 = .ok (.aload_n 0, 1) := by decide +kernel
theorem dL_law_201 : decode cL_law 201 = .ok (.iload_n 3, 1) := by decide +kernel
theorem dL_law_202 : decode cL_law 202 = .ok (.iconst 1, 1) := by decide +kernel
theorem dL_law_203 : decode cL_law 203 = .ok (.iadd, 1) := by decide +kernel
theorem dL_law_204 : decode cL_law 204 = .ok (.iaload, 1) := by decide +kernel
theorem dL_law_205 : decode cL_law 205 = .ok (.aload_n 0, 1) := by decide +kernel
theorem dL_law_206 : decode cL_law 206 = .ok (.iload_n 3, 1) := by decide +kernel
theorem dL_law_207 : decode cL_law 207 = .ok (.iconst 2, 1) := by decide +kernel
theorem dL_law_208 : decode cL_law 208 = .ok (.iadd, 1) := by decide +kernel
theorem dL_law_209 : decode cL_law 209 = .ok (.iaload, 1) := by decide +kernel
theorem dL_law_210 : decode cL_law 210 = .ok (.i2l, 1) := by decide +kernel
theorem dL_law_211 : decode cL_law 211 = .ok (.bipush 32, 2) := by decide +kernel
theorem dL_law_213 : decode cL_law 213 = .ok (.lshl, 1) := by decide +kernel
theorem dL_law_214 : decode cL_law 214 = .ok (.aload_n 0, 1) := by decide +kernel
theorem dL_law_215 : decode cL_law 215 = .ok (.iload_n 3, 1) := by decide +kernel
theorem dL_law_216 : decode cL_law 216 = .ok (.iconst 3, 1) := by decide +kernel
theorem dL_law_217 : decode cL_law 217 = .ok (.iadd, 1) := by decide +kernel
theorem dL_law_218 : decode cL_law 218 = .ok (.iaload, 1) := by decide +kernel
theorem dL_law_219 : decode cL_law 219 = .ok (.i2l, 1) := by decide +kernel
theorem dL_law_220 : decode cL_law 220 = .ok (.ldc2_w 13, 3) := by decide +kernel
theorem dL_law_223 : decode cL_law 223 = .ok (.land, 1) := by decide +kernel
theorem dL_law_224 : decode cL_law 224 = .ok (.lor, 1) := by decide +kernel
theorem dL_law_225 : decode cL_law 225 = .ok (.aload_n 0, 1) := by decide +kernel
theorem dL_law_226 : decode cL_law 226 = .ok (.iload_n 3, 1) := by decide +kernel
theorem dL_law_227 : decode cL_law 227 = .ok (.iconst 4, 1) := by decide +kernel
theorem dL_law_228 : decode cL_law 228 = .ok (.iadd, 1) := by decide +kernel
theorem dL_law_229 : decode cL_law 229 = .ok (.iaload, 1) := by decide +kernel
theorem dL_law_230 : decode cL_law 230 = .ok (.i2l, 1) := by decide +kernel
theorem dL_law_231 : decode cL_law 231 = .ok (.bipush 32, 2) := by decide +kernel
theorem dL_law_233 : decode cL_law 233 = .ok (.lshl, 1) := by decide +kernel
theorem dL_law_234 : decode cL_law 234 = .ok (.aload_n 0, 1) := by decide +kernel
theorem dL_law_235 : decode cL_law 235 = .ok (.iload_n 3, 1) := by decide +kernel
theorem dL_law_236 : decode cL_law 236 = .ok (.iconst 5, 1) := by decide +kernel
theorem dL_law_237 : decode cL_law 237 = .ok (.iadd, 1) := by decide +kernel
theorem dL_law_238 : decode cL_law 238 = .ok (.iaload, 1) := by decide +kernel
theorem dL_law_239 : decode cL_law 239 = .ok (.i2l, 1) := by decide +kernel
theorem dL_law_240 : decode cL_law 240 = .ok (.ldc2_w 13, 3) := by decide +kernel
theorem dL_law_243 : decode cL_law 243 = .ok (.land, 1) := by decide +kernel
theorem dL_law_244 : decode cL_law 244 = .ok (.lor, 1) := by decide +kernel
theorem dL_law_245 : decode cL_law 245 = .ok (.aload_n 0, 1) := by decide +kernel
theorem dL_law_246 : decode cL_law 246 = .ok (.iload_n 3, 1) := by decide +kernel
theorem dL_law_247 : decode cL_law 247 = .ok (.bipush 6, 2) := by decide +kernel
theorem dL_law_249 : decode cL_law 249 = .ok (.iadd, 1) := by decide +kernel
theorem dL_law_250 : decode cL_law 250 = .ok (.iaload, 1) := by decide +kernel
theorem dL_law_251 : decode cL_law 251 = .ok (.ifCond .eq 7, 3) := by decide +kernel
theorem dL_law_254 : decode cL_law 254 = .ok (.iconst 1, 1) := by decide +kernel
theorem dL_law_255 : decode cL_law 255 = .ok (.goto 4, 3) := by decide +kernel
theorem dL_law_258 : decode cL_law 258 = .ok (.iconst 0, 1) := by decide +kernel
theorem dL_law_259 : decode cL_law 259 = .ok (.aload_n 0, 1) := by decide +kernel
theorem dL_law_260 : decode cL_law 260 = .ok (.iload_n 3, 1) := by decide +kernel
theorem dL_law_261 : decode cL_law 261 = .ok (.bipush 7, 2) := by decide +kernel
theorem dL_law_263 : decode cL_law 263 = .ok (.iadd, 1) := by decide +kernel
theorem dL_law_264 : decode cL_law 264 = .ok (.iaload, 1) := by decide +kernel
theorem dL_law_265 : decode cL_law 265 = .ok (.ifCond .eq 7, 3) := by decide +kernel
theorem dL_law_268 : decode cL_law 268 = .ok (.iconst 1, 1) := by decide +kernel
theorem dL_law_269 : decode cL_law 269 = .ok (.goto 4, 3) := by decide +kernel
theorem dL_law_272 : decode cL_law 272 = .ok (.iconst 0, 1) := by decide +kernel
theorem dL_law_273 : decode cL_law 273 = .ok (.aload_n 0, 1) := by decide +kernel
theorem dL_law_274 : decode cL_law 274 = .ok (.iload_n 3, 1) := by decide +kernel
theorem dL_law_275 : decode cL_law 275 = .ok (.bipush 8, 2) := by decide +kernel
theorem dL_law_277 : decode cL_law 277 = .ok (.iadd, 1) := by decide +kernel
theorem dL_law_278 : decode cL_law 278 = .ok (.iaload, 1) := by decide +kernel
theorem dL_law_279 : decode cL_law 279 = .ok (.i2l, 1) := by decide +kernel
theorem dL_law_280 : decode cL_law 280 = .ok (.bipush 32, 2) := by decide +kernel
theorem dL_law_282 : decode cL_law 282 = .ok (.lshl, 1) := by decide +kernel
theorem dL_law_283 : decode cL_law 283 = .ok (.aload_n 0, 1) := by decide +kernel
theorem dL_law_284 : decode cL_law 284 = .ok (.iload_n 3, 1) := by decide +kernel
theorem dL_law_285 : decode cL_law 285 = .ok (.bipush 9, 2) := by decide +kernel
theorem dL_law_287 : decode cL_law 287 = .ok (.iadd, 1) := by decide +kernel
theorem dL_law_288 : decode cL_law 288 = .ok (.iaload, 1) := by decide +kernel
theorem dL_law_289 : decode cL_law 289 = .ok (.i2l, 1) := by decide +kernel
theorem dL_law_290 : decode cL_law 290 = .ok (.ldc2_w 13, 3) := by decide +kernel
theorem dL_law_293 : decode cL_law 293 = .ok (.land, 1) := by decide +kernel
theorem dL_law_294 : decode cL_law 294 = .ok (.lor, 1) := by decide +kernel
theorem dL_law_295 : decode cL_law 295 = .ok (.invokevirtual 19, 3) := by decide +kernel
theorem dL_law_298 : decode cL_law 298 = .ok (.if_icmp .eq 405, 3) := by decide +kernel
theorem dL_law_301 : decode cL_law 301 = .ok (.iconst 0, 1) := by decide +kernel
theorem dL_law_302 : decode cL_law 302 = .ok (.ireturn, 1) := by decide +kernel
theorem dL_law_303 : decode cL_law 303 = .ok (.aload_n 1, 1) := by decide +kernel
theorem dL_law_304 : decode cL_law 304 = .ok (.aload_n 0, 1) := by decide +kernel
theorem dL_law_305 : decode cL_law 305 = .ok (.iload_n 3, 1) := by decide +kernel
theorem dL_law_306 : decode cL_law 306 = .ok (.iconst 1, 1) := by decide +kernel
theorem dL_law_307 : decode cL_law 307 = .ok (.iadd, 1) := by decide +kernel
theorem dL_law_308 : decode cL_law 308 = .ok (.iaload, 1) := by decide +kernel
theorem dL_law_309 : decode cL_law 309 = .ok (.aload_n 0, 1) := by decide +kernel
theorem dL_law_310 : decode cL_law 310 = .ok (.iload_n 3, 1) := by decide +kernel
theorem dL_law_311 : decode cL_law 311 = .ok (.iconst 2, 1) := by decide +kernel
theorem dL_law_312 : decode cL_law 312 = .ok (.iadd, 1) := by decide +kernel
theorem dL_law_313 : decode cL_law 313 = .ok (.iaload, 1) := by decide +kernel
theorem dL_law_314 : decode cL_law 314 = .ok (.invokevirtual 20, 3) := by decide +kernel
theorem dL_law_317 : decode cL_law 317 = .ok (.aload_n 2, 1) := by decide +kernel
theorem dL_law_318 : decode cL_law 318 = .ok (.aload_n 0, 1) := by decide +kernel
theorem dL_law_319 : decode cL_law 319 = .ok (.iload_n 3, 1) := by decide +kernel
theorem dL_law_320 : decode cL_law 320 = .ok (.iconst 1, 1) := by decide +kernel
theorem dL_law_321 : decode cL_law 321 = .ok (.iadd, 1) := by decide +kernel
theorem dL_law_322 : decode cL_law 322 = .ok (.iaload, 1) := by decide +kernel
theorem dL_law_323 : decode cL_law 323 = .ok (.aload_n 0, 1) := by decide +kernel
theorem dL_law_324 : decode cL_law 324 = .ok (.iload_n 3, 1) := by decide +kernel
theorem dL_law_325 : decode cL_law 325 = .ok (.iconst 2, 1) := by decide +kernel
theorem dL_law_326 : decode cL_law 326 = .ok (.iadd, 1) := by decide +kernel
theorem dL_law_327 : decode cL_law 327 = .ok (.iaload, 1) := by decide +kernel
theorem dL_law_328 : decode cL_law 328 = .ok (.invokevirtual 24, 3) := by decide +kernel
theorem dL_law_331 : decode cL_law 331 = .ok (.if_icmp .eq 372, 3) := by decide +kernel
theorem dL_law_334 : decode cL_law 334 = .ok (.iconst 0, 1) := by decide +kernel
theorem dL_law_335 : decode cL_law 335 = .ok (.ireturn, 1) := by decide +kernel
theorem dL_law_336 : decode cL_law 336 = .ok (.aload_n 1, 1) := by decide +kernel
theorem dL_law_337 : decode cL_law 337 = .ok (.invokevirtual 25, 3) := by decide +kernel
theorem dL_law_340 : decode cL_law 340 = .ok (.aload_n 2, 1) := by decide +kernel
theorem dL_law_341 : decode cL_law 341 = .ok (.invokevirtual 28, 3) := by decide +kernel
theorem dL_law_344 : decode cL_law 344 = .ok (.goto 359, 3) := by decide +kernel
theorem dL_law_347 : decode cL_law 347 = .ok (.aload_n 1, 1) := by decide +kernel
theorem dL_law_348 : decode cL_law 348 = .ok (.aload_n 0, 1) := by decide +kernel
theorem dL_law_349 : decode cL_law 349 = .ok (.iload_n 3, 1) := by decide +kernel
theorem dL_law_350 : decode cL_law 350 = .ok (.iconst 1, 1) := by decide +kernel
theorem dL_law_351 : decode cL_law 351 = .ok (.iadd, 1) := by decide +kernel
theorem dL_law_352 : decode cL_law 352 = .ok (.iaload, 1) := by decide +kernel
theorem dL_law_353 : decode cL_law 353 = .ok (.invokevirtual 29, 3) := by decide +kernel
theorem dL_law_356 : decode cL_law 356 = .ok (.aload_n 2, 1) := by decide +kernel
theorem dL_law_357 : decode cL_law 357 = .ok (.aload_n 0, 1) := by decide +kernel
theorem dL_law_358 : decode cL_law 358 = .ok (.iload_n 3, 1) := by decide +kernel
theorem dL_law_359 : decode cL_law 359 = .ok (.iconst 1, 1) := by decide +kernel
theorem dL_law_360 : decode cL_law 360 = .ok (.iadd, 1) := by decide +kernel
theorem dL_law_361 : decode cL_law 361 = .ok (.iaload, 1) := by decide +kernel
theorem dL_law_362 : decode cL_law 362 = .ok (.invokevirtual 33, 3) := by decide +kernel
theorem dL_law_365 : decode cL_law 365 = .ok (.if_icmp .eq 338, 3) := by decide +kernel
theorem dL_law_368 : decode cL_law 368 = .ok (.iconst 0, 1) := by decide +kernel
theorem dL_law_369 : decode cL_law 369 = .ok (.ireturn, 1) := by decide +kernel
theorem dL_law_370 : decode cL_law 370 = .ok (.aload_n 1, 1) := by decide +kernel
theorem dL_law_371 : decode cL_law 371 = .ok (.aload_n 0, 1) := by decide +kernel
theorem dL_law_372 : decode cL_law 372 = .ok (.iload_n 3, 1) := by decide +kernel
theorem dL_law_373 : decode cL_law 373 = .ok (.iconst 1, 1) := by decide +kernel
theorem dL_law_374 : decode cL_law 374 = .ok (.iadd, 1) := by decide +kernel
theorem dL_law_375 : decode cL_law 375 = .ok (.iaload, 1) := by decide +kernel
theorem dL_law_376 : decode cL_law 376 = .ok (.invokevirtual 34, 3) := by decide +kernel
theorem dL_law_379 : decode cL_law 379 = .ok (.aload_n 2, 1) := by decide +kernel
theorem dL_law_380 : decode cL_law 380 = .ok (.aload_n 0, 1) := by decide +kernel
theorem dL_law_381 : decode cL_law 381 = .ok (.iload_n 3, 1) := by decide +kernel
theorem dL_law_382 : decode cL_law 382 = .ok (.iconst 1, 1) := by decide +kernel
theorem dL_law_383 : decode cL_law 383 = .ok (.iadd, 1) := by decide +kernel
theorem dL_law_384 : decode cL_law 384 = .ok (.iaload, 1) := by decide +kernel
theorem dL_law_385 : decode cL_law 385 = .ok (.invokevirtual 38, 3) := by decide +kernel
theorem dL_law_388 : decode cL_law 388 = .ok (.lcmp, 1) := by decide +kernel
theorem dL_law_389 : decode cL_law 389 = .ok (.ifCond .eq 314, 3) := by decide +kernel
theorem dL_law_392 : decode cL_law 392 = .ok (.iconst 0, 1) := by decide +kernel
theorem dL_law_393 : decode cL_law 393 = .ok (.ireturn, 1) := by decide +kernel
theorem dL_law_394 : decode cL_law 394 = .ok (.aload_n 1, 1) := by decide +kernel
theorem dL_law_395 : decode cL_law 395 = .ok (.aload_n 0, 1) := by decide +kernel
theorem dL_law_396 : decode cL_law 396 = .ok (.iload_n 3, 1) := by decide +kernel
theorem dL_law_397 : decode cL_law 397 = .ok (.iconst 1, 1) := by decide +kernel
theorem dL_law_398 : decode cL_law 398 = .ok (.iadd, 1) := by decide +kernel
theorem dL_law_399 : decode cL_law 399 = .ok (.iaload, 1) := by decide +kernel
theorem dL_law_400 : decode cL_law 400 = .ok (.aload_n 0, 1) := by decide +kernel
theorem dL_law_401 : decode cL_law 401 = .ok (.iload_n 3, 1) := by decide +kernel
theorem dL_law_402 : decode cL_law 402 = .ok (.iconst 2, 1) := by decide +kernel
theorem dL_law_403 : decode cL_law 403 = .ok (.iadd, 1) := by decide +kernel
theorem dL_law_404 : decode cL_law 404 = .ok (.iaload, 1) := by decide +kernel
theorem dL_law_405 : decode cL_law 405 = .ok (.invokevirtual 39, 3) := by decide +kernel
theorem dL_law_408 : decode cL_law 408 = .ok (.aload_n 2, 1) := by decide +kernel
theorem dL_law_409 : decode cL_law 409 = .ok (.aload_n 0, 1) := by decide +kernel
theorem dL_law_410 : decode cL_law 410 = .ok (.iload_n 3, 1) := by decide +kernel
theorem dL_law_411 : decode cL_law 411 = .ok (.iconst 1, 1) := by decide +kernel
theorem dL_law_412 : decode cL_law 412 = .ok (.iadd, 1) := by decide +kernel
theorem dL_law_413 : decode cL_law 413 = .ok (.iaload, 1) := by decide +kernel
theorem dL_law_414 : decode cL_law 414 = .ok (.aload_n 0, 1) := by decide +kernel
theorem dL_law_415 : decode cL_law 415 = .ok (.iload_n 3, 1) := by decide +kernel
theorem dL_law_416 : decode cL_law 416 = .ok (.iconst 2, 1) := by decide +kernel
theorem dL_law_417 : decode cL_law 417 = .ok (.iadd, 1) := by decide +kernel
theorem dL_law_418 : decode cL_law 418 = .ok (.iaload, 1) := by decide +kernel
theorem dL_law_419 : decode cL_law 419 = .ok (.invokevirtual 43, 3) := by decide +kernel
theorem dL_law_422 : decode cL_law 422 = .ok (.lcmp, 1) := by decide +kernel
theorem dL_law_423 : decode cL_law 423 = .ok (.ifCond .eq 280, 3) := by decide +kernel
theorem dL_law_426 : decode cL_law 426 = .ok (.iconst 0, 1) := by decide +kernel
theorem dL_law_427 : decode cL_law 427 = .ok (.ireturn, 1) := by decide +kernel
theorem dL_law_428 : decode cL_law 428 = .ok (.aload_n 1, 1) := by decide +kernel
theorem dL_law_429 : decode cL_law 429 = .ok (.aload_n 0, 1) := by decide +kernel
theorem dL_law_430 : decode cL_law 430 = .ok (.iload_n 3, 1) := by decide +kernel
theorem dL_law_431 : decode cL_law 431 = .ok (.iconst 1, 1) := by decide +kernel
theorem dL_law_432 : decode cL_law 432 = .ok (.iadd, 1) := by decide +kernel
theorem dL_law_433 : decode cL_law 433 = .ok (.iaload, 1) := by decide +kernel
theorem dL_law_434 : decode cL_law 434 = .ok (.i2l, 1) := by decide +kernel
theorem dL_law_435 : decode cL_law 435 = .ok (.bipush 32, 2) := by decide +kernel
theorem dL_law_437 : decode cL_law 437 = .ok (.lshl, 1) := by decide +kernel
theorem dL_law_438 : decode cL_law 438 = .ok (.aload_n 0, 1) := by decide +kernel
theorem dL_law_439 : decode cL_law 439 = .ok (.iload_n 3, 1) := by decide +kernel
theorem dL_law_440 : decode cL_law 440 = .ok (.iconst 2, 1) := by decide +kernel
theorem dL_law_441 : decode cL_law 441 = .ok (.iadd, 1) := by decide +kernel
theorem dL_law_442 : decode cL_law 442 = .ok (.iaload, 1) := by decide +kernel
theorem dL_law_443 : decode cL_law 443 = .ok (.i2l, 1) := by decide +kernel
theorem dL_law_444 : decode cL_law 444 = .ok (.ldc2_w 13, 3) := by decide +kernel
theorem dL_law_447 : decode cL_law 447 = .ok (.land, 1) := by decide +kernel
theorem dL_law_448 : decode cL_law 448 = .ok (.lor, 1) := by decide +kernel
theorem dL_law_449 : decode cL_law 449 = .ok (.aload_n 0, 1) := by decide +kernel
theorem dL_law_450 : decode cL_law 450 = .ok (.iload_n 3, 1) := by decide +kernel
theorem dL_law_451 : decode cL_law 451 = .ok (.iconst 3, 1) := by decide +kernel
theorem dL_law_452 : decode cL_law 452 = .ok (.iadd, 1) := by decide +kernel
theorem dL_law_453 : decode cL_law 453 = .ok (.iaload, 1) := by decide +kernel
theorem dL_law_454 : decode cL_law 454 = .ok (.i2l, 1) := by decide +kernel
theorem dL_law_455 : decode cL_law 455 = .ok (.bipush 32, 2) := by decide +kernel
theorem dL_law_457 : decode cL_law 457 = .ok (.lshl, 1) := by decide +kernel
theorem dL_law_458 : decode cL_law 458 = .ok (.aload_n 0, 1) := by decide +kernel
theorem dL_law_459 : decode cL_law 459 = .ok (.iload_n 3, 1) := by decide +kernel
theorem dL_law_460 : decode cL_law 460 = .ok (.iconst 4, 1) := by decide +kernel
theorem dL_law_461 : decode cL_law 461 = .ok (.iadd, 1) := by decide +kernel
theorem dL_law_462 : decode cL_law 462 = .ok (.iaload, 1) := by decide +kernel
theorem dL_law_463 : decode cL_law 463 = .ok (.i2l, 1) := by decide +kernel
theorem dL_law_464 : decode cL_law 464 = .ok (.ldc2_w 13, 3) := by decide +kernel
theorem dL_law_467 : decode cL_law 467 = .ok (.land, 1) := by decide +kernel
theorem dL_law_468 : decode cL_law 468 = .ok (.lor, 1) := by decide +kernel
theorem dL_law_469 : decode cL_law 469 = .ok (.aload_n 0, 1) := by decide +kernel
theorem dL_law_470 : decode cL_law 470 = .ok (.iload_n 3, 1) := by decide +kernel
theorem dL_law_471 : decode cL_law 471 = .ok (.iconst 5, 1) := by decide +kernel
theorem dL_law_472 : decode cL_law 472 = .ok (.iadd, 1) := by decide +kernel
theorem dL_law_473 : decode cL_law 473 = .ok (.iaload, 1) := by decide +kernel
theorem dL_law_474 : decode cL_law 474 = .ok (.invokevirtual 44, 3) := by decide +kernel
theorem dL_law_477 : decode cL_law 477 = .ok (.aload_n 2, 1) := by decide +kernel
theorem dL_law_478 : decode cL_law 478 = .ok (.aload_n 0, 1) := by decide +kernel
theorem dL_law_479 : decode cL_law 479 = .ok (.iload_n 3, 1) := by decide +kernel
theorem dL_law_480 : decode cL_law 480 = .ok (.iconst 1, 1) := by decide +kernel
theorem dL_law_481 : decode cL_law 481 = .ok (.iadd, 1) := by decide +kernel
theorem dL_law_482 : decode cL_law 482 = .ok (.iaload, 1) := by decide +kernel
theorem dL_law_483 : decode cL_law 483 = .ok (.i2l, 1) := by decide +kernel
theorem dL_law_484 : decode cL_law 484 = .ok (.bipush 32, 2) := by decide +kernel
theorem dL_law_486 : decode cL_law 486 = .ok (.lshl, 1) := by decide +kernel
theorem dL_law_487 : decode cL_law 487 = .ok (.aload_n 0, 1) := by decide +kernel
theorem dL_law_488 : decode cL_law 488 = .ok (.iload_n 3, 1) := by decide +kernel
theorem dL_law_489 : decode cL_law 489 = .ok (.iconst 2, 1) := by decide +kernel
theorem dL_law_490 : decode cL_law 490 = .ok (.iadd, 1) := by decide +kernel
theorem dL_law_491 : decode cL_law 491 = .ok (.iaload, 1) := by decide +kernel
theorem dL_law_492 : decode cL_law 492 = .ok (.i2l, 1) := by decide +kernel
theorem dL_law_493 : decode cL_law 493 = .ok (.ldc2_w 13, 3) := by decide +kernel
theorem dL_law_496 : decode cL_law 496 = .ok (.land, 1) := by decide +kernel
theorem dL_law_497 : decode cL_law 497 = .ok (.lor, 1) := by decide +kernel
theorem dL_law_498 : decode cL_law 498 = .ok (.aload_n 0, 1) := by decide +kernel
theorem dL_law_499 : decode cL_law 499 = .ok (.iload_n 3, 1) := by decide +kernel
theorem dL_law_500 : decode cL_law 500 = .ok (.iconst 3, 1) := by decide +kernel
theorem dL_law_501 : decode cL_law 501 = .ok (.iadd, 1) := by decide +kernel
theorem dL_law_502 : decode cL_law 502 = .ok (.iaload, 1) := by decide +kernel
theorem dL_law_503 : decode cL_law 503 = .ok (.i2l, 1) := by decide +kernel
theorem dL_law_504 : decode cL_law 504 = .ok (.bipush 32, 2) := by decide +kernel
theorem dL_law_506 : decode cL_law 506 = .ok (.lshl, 1) := by decide +kernel
theorem dL_law_507 : decode cL_law 507 = .ok (.aload_n 0, 1) := by decide +kernel
theorem dL_law_508 : decode cL_law 508 = .ok (.iload_n 3, 1) := by decide +kernel
theorem dL_law_509 : decode cL_law 509 = .ok (.iconst 4, 1) := by decide +kernel
theorem dL_law_510 : decode cL_law 510 = .ok (.iadd, 1) := by decide +kernel
theorem dL_law_511 : decode cL_law 511 = .ok (.iaload, 1) := by decide +kernel
theorem dL_law_512 : decode cL_law 512 = .ok (.i2l, 1) := by decide +kernel
theorem dL_law_513 : decode cL_law 513 = .ok (.ldc2_w 13, 3) := by decide +kernel
theorem dL_law_516 : decode cL_law 516 = .ok (.land, 1) := by decide +kernel
theorem dL_law_517 : decode cL_law 517 = .ok (.lor, 1) := by decide +kernel
theorem dL_law_518 : decode cL_law 518 = .ok (.aload_n 0, 1) := by decide +kernel
theorem dL_law_519 : decode cL_law 519 = .ok (.iload_n 3, 1) := by decide +kernel
theorem dL_law_520 : decode cL_law 520 = .ok (.iconst 5, 1) := by decide +kernel
theorem dL_law_521 : decode cL_law 521 = .ok (.iadd, 1) := by decide +kernel
theorem dL_law_522 : decode cL_law 522 = .ok (.iaload, 1) := by decide +kernel
theorem dL_law_523 : decode cL_law 523 = .ok (.invokevirtual 48, 3) := by decide +kernel
theorem dL_law_526 : decode cL_law 526 = .ok (.lcmp, 1) := by decide +kernel
theorem dL_law_527 : decode cL_law 527 = .ok (.ifCond .eq 176, 3) := by decide +kernel
theorem dL_law_530 : decode cL_law 530 = .ok (.iconst 0, 1) := by decide +kernel
theorem dL_law_531 : decode cL_law 531 = .ok (.ireturn, 1) := by decide +kernel
theorem dL_law_532 : decode cL_law 532 = .ok (.aload_n 1, 1) := by decide +kernel
theorem dL_law_533 : decode cL_law 533 = .ok (.aload_n 0, 1) := by decide +kernel
theorem dL_law_534 : decode cL_law 534 = .ok (.iload_n 3, 1) := by decide +kernel
theorem dL_law_535 : decode cL_law 535 = .ok (.iconst 1, 1) := by decide +kernel
theorem dL_law_536 : decode cL_law 536 = .ok (.iadd, 1) := by decide +kernel
theorem dL_law_537 : decode cL_law 537 = .ok (.iaload, 1) := by decide +kernel
theorem dL_law_538 : decode cL_law 538 = .ok (.aload_n 0, 1) := by decide +kernel
theorem dL_law_539 : decode cL_law 539 = .ok (.iload_n 3, 1) := by decide +kernel
theorem dL_law_540 : decode cL_law 540 = .ok (.iconst 2, 1) := by decide +kernel
theorem dL_law_541 : decode cL_law 541 = .ok (.iadd, 1) := by decide +kernel
theorem dL_law_542 : decode cL_law 542 = .ok (.iaload, 1) := by decide +kernel
theorem dL_law_543 : decode cL_law 543 = .ok (.invokevirtual 49, 3) := by decide +kernel
theorem dL_law_546 : decode cL_law 546 = .ok (.aload_n 2, 1) := by decide +kernel
theorem dL_law_547 : decode cL_law 547 = .ok (.aload_n 0, 1) := by decide +kernel
theorem dL_law_548 : decode cL_law 548 = .ok (.iload_n 3, 1) := by decide +kernel
theorem dL_law_549 : decode cL_law 549 = .ok (.iconst 1, 1) := by decide +kernel
theorem dL_law_550 : decode cL_law 550 = .ok (.iadd, 1) := by decide +kernel
theorem dL_law_551 : decode cL_law 551 = .ok (.iaload, 1) := by decide +kernel
theorem dL_law_552 : decode cL_law 552 = .ok (.aload_n 0, 1) := by decide +kernel
theorem dL_law_553 : decode cL_law 553 = .ok (.iload_n 3, 1) := by decide +kernel
theorem dL_law_554 : decode cL_law 554 = .ok (.iconst 2, 1) := by decide +kernel
theorem dL_law_555 : decode cL_law 555 = .ok (.iadd, 1) := by decide +kernel
theorem dL_law_556 : decode cL_law 556 = .ok (.iaload, 1) := by decide +kernel
theorem dL_law_557 : decode cL_law 557 = .ok (.invokevirtual 52, 3) := by decide +kernel
theorem dL_law_560 : decode cL_law 560 = .ok (.lcmp, 1) := by decide +kernel
theorem dL_law_561 : decode cL_law 561 = .ok (.ifCond .eq 142, 3) := by decide +kernel
theorem dL_law_564 : decode cL_law 564 = .ok (.iconst 0, 1) := by decide +kernel
theorem dL_law_565 : decode cL_law 565 = .ok (.ireturn, 1) := by decide +kernel
theorem dL_law_566 : decode cL_law 566 = .ok (.aload_n 1, 1) := by decide +kernel
theorem dL_law_567 : decode cL_law 567 = .ok (.aload_n 0, 1) := by decide +kernel
theorem dL_law_568 : decode cL_law 568 = .ok (.iload_n 3, 1) := by decide +kernel
theorem dL_law_569 : decode cL_law 569 = .ok (.iconst 1, 1) := by decide +kernel
theorem dL_law_570 : decode cL_law 570 = .ok (.iadd, 1) := by decide +kernel
theorem dL_law_571 : decode cL_law 571 = .ok (.iaload, 1) := by decide +kernel
theorem dL_law_572 : decode cL_law 572 = .ok (.i2l, 1) := by decide +kernel
theorem dL_law_573 : decode cL_law 573 = .ok (.bipush 32, 2) := by decide +kernel
theorem dL_law_575 : decode cL_law 575 = .ok (.lshl, 1) := by decide +kernel
theorem dL_law_576 : decode cL_law 576 = .ok (.aload_n 0, 1) := by decide +kernel
theorem dL_law_577 : decode cL_law 577 = .ok (.iload_n 3, 1) := by decide +kernel
theorem dL_law_578 : decode cL_law 578 = .ok (.iconst 2, 1) := by decide +kernel
theorem dL_law_579 : decode cL_law 579 = .ok (.iadd, 1) := by decide +kernel
theorem dL_law_580 : decode cL_law 580 = .ok (.iaload, 1) := by decide +kernel
theorem dL_law_581 : decode cL_law 581 = .ok (.i2l, 1) := by decide +kernel
theorem dL_law_582 : decode cL_law 582 = .ok (.ldc2_w 13, 3) := by decide +kernel
theorem dL_law_585 : decode cL_law 585 = .ok (.land, 1) := by decide +kernel
theorem dL_law_586 : decode cL_law 586 = .ok (.lor, 1) := by decide +kernel
theorem dL_law_587 : decode cL_law 587 = .ok (.aload_n 0, 1) := by decide +kernel
theorem dL_law_588 : decode cL_law 588 = .ok (.iload_n 3, 1) := by decide +kernel
theorem dL_law_589 : decode cL_law 589 = .ok (.iconst 3, 1) := by decide +kernel
theorem dL_law_590 : decode cL_law 590 = .ok (.iadd, 1) := by decide +kernel
theorem dL_law_591 : decode cL_law 591 = .ok (.iaload, 1) := by decide +kernel
theorem dL_law_592 : decode cL_law 592 = .ok (.invokevirtual 53, 3) := by decide +kernel
theorem dL_law_595 : decode cL_law 595 = .ok (.aload_n 2, 1) := by decide +kernel
theorem dL_law_596 : decode cL_law 596 = .ok (.aload_n 0, 1) := by decide +kernel
theorem dL_law_597 : decode cL_law 597 = .ok (.iload_n 3, 1) := by decide +kernel
theorem dL_law_598 : decode cL_law 598 = .ok (.iconst 1, 1) := by decide +kernel
theorem dL_law_599 : decode cL_law 599 = .ok (.iadd, 1) := by decide +kernel
theorem dL_law_600 : decode cL_law 600 = .ok (.iaload, 1) := by decide +kernel
theorem dL_law_601 : decode cL_law 601 = .ok (.i2l, 1) := by decide +kernel
theorem dL_law_602 : decode cL_law 602 = .ok (.bipush 32, 2) := by decide +kernel
theorem dL_law_604 : decode cL_law 604 = .ok (.lshl, 1) := by decide +kernel
theorem dL_law_605 : decode cL_law 605 = .ok (.aload_n 0, 1) := by decide +kernel
theorem dL_law_606 : decode cL_law 606 = .ok (.iload_n 3, 1) := by decide +kernel
theorem dL_law_607 : decode cL_law 607 = .ok (.iconst 2, 1) := by decide +kernel
theorem dL_law_608 : decode cL_law 608 = .ok (.iadd, 1) := by decide +kernel
theorem dL_law_609 : decode cL_law 609 = .ok (.iaload, 1) := by decide +kernel
theorem dL_law_610 : decode cL_law 610 = .ok (.i2l, 1) := by decide +kernel
theorem dL_law_611 : decode cL_law 611 = .ok (.ldc2_w 13, 3) := by decide +kernel
theorem dL_law_614 : decode cL_law 614 = .ok (.land, 1) := by decide +kernel
theorem dL_law_615 : decode cL_law 615 = .ok (.lor, 1) := by decide +kernel
theorem dL_law_616 : decode cL_law 616 = .ok (.aload_n 0, 1) := by decide +kernel
theorem dL_law_617 : decode cL_law 617 = .ok (.iload_n 3, 1) := by decide +kernel
theorem dL_law_618 : decode cL_law 618 = .ok (.iconst 3, 1) := by decide +kernel
theorem dL_law_619 : decode cL_law 619 = .ok (.iadd, 1) := by decide +kernel
theorem dL_law_620 : decode cL_law 620 = .ok (.iaload, 1) := by decide +kernel
theorem dL_law_621 : decode cL_law 621 = .ok (.invokevirtual 57, 3) := by decide +kernel
theorem dL_law_624 : decode cL_law 624 = .ok (.lcmp, 1) := by decide +kernel
theorem dL_law_625 : decode cL_law 625 = .ok (.ifCond .eq 78, 3) := by decide +kernel
theorem dL_law_628 : decode cL_law 628 = .ok (.iconst 0, 1) := by decide +kernel
theorem dL_law_629 : decode cL_law 629 = .ok (.ireturn, 1) := by decide +kernel
theorem dL_law_630 : decode cL_law 630 = .ok (.aload_n 1, 1) := by decide +kernel
theorem dL_law_631 : decode cL_law 631 = .ok (.invokevirtual 58, 3) := by decide +kernel
theorem dL_law_634 : decode cL_law 634 = .ok (.aload_n 2, 1) := by decide +kernel
theorem dL_law_635 : decode cL_law 635 = .ok (.invokevirtual 62, 3) := by decide +kernel
theorem dL_law_638 : decode cL_law 638 = .ok (.if_icmp .eq 65, 3) := by decide +kernel
theorem dL_law_641 : decode cL_law 641 = .ok (.iconst 0, 1) := by decide +kernel
theorem dL_law_642 : decode cL_law 642 = .ok (.ireturn, 1) := by decide +kernel
theorem dL_law_643 : decode cL_law 643 = .ok (.aload_n 1, 1) := by decide +kernel
theorem dL_law_644 : decode cL_law 644 = .ok (.invokevirtual 63, 3) := by decide +kernel
theorem dL_law_647 : decode cL_law 647 = .ok (.aload_n 2, 1) := by decide +kernel
theorem dL_law_648 : decode cL_law 648 = .ok (.invokevirtual 67, 3) := by decide +kernel
theorem dL_law_651 : decode cL_law 651 = .ok (.if_icmp .eq 52, 3) := by decide +kernel
theorem dL_law_654 : decode cL_law 654 = .ok (.iconst 0, 1) := by decide +kernel
theorem dL_law_655 : decode cL_law 655 = .ok (.ireturn, 1) := by decide +kernel
theorem dL_law_656 : decode cL_law 656 = .ok (.aload_n 1, 1) := by decide +kernel
theorem dL_law_657 : decode cL_law 657 = .ok (.aload_n 0, 1) := by decide +kernel
theorem dL_law_658 : decode cL_law 658 = .ok (.iload_n 3, 1) := by decide +kernel
theorem dL_law_659 : decode cL_law 659 = .ok (.iconst 1, 1) := by decide +kernel
theorem dL_law_660 : decode cL_law 660 = .ok (.iadd, 1) := by decide +kernel
theorem dL_law_661 : decode cL_law 661 = .ok (.iaload, 1) := by decide +kernel
theorem dL_law_662 : decode cL_law 662 = .ok (.invokevirtual 68, 3) := by decide +kernel
theorem dL_law_665 : decode cL_law 665 = .ok (.aload_n 2, 1) := by decide +kernel
theorem dL_law_666 : decode cL_law 666 = .ok (.aload_n 0, 1) := by decide +kernel
theorem dL_law_667 : decode cL_law 667 = .ok (.iload_n 3, 1) := by decide +kernel
theorem dL_law_668 : decode cL_law 668 = .ok (.iconst 1, 1) := by decide +kernel
theorem dL_law_669 : decode cL_law 669 = .ok (.iadd, 1) := by decide +kernel
theorem dL_law_670 : decode cL_law 670 = .ok (.iaload, 1) := by decide +kernel
theorem dL_law_671 : decode cL_law 671 = .ok (.invokevirtual 72, 3) := by decide +kernel
theorem dL_law_674 : decode cL_law 674 = .ok (.if_icmp .eq 29, 3) := by decide +kernel
theorem dL_law_677 : decode cL_law 677 = .ok (.iconst 0, 1) := by decide +kernel
theorem dL_law_678 : decode cL_law 678 = .ok (.ireturn, 1) := by decide +kernel
theorem dL_law_679 : decode cL_law 679 = .ok (.aload_n 1, 1) := by decide +kernel
theorem dL_law_680 : decode cL_law 680 = .ok (.aload_n 0, 1) := by decide +kernel
theorem dL_law_681 : decode cL_law 681 = .ok (.iload_n 3, 1) := by decide +kernel
theorem dL_law_682 : decode cL_law 682 = .ok (.iconst 1, 1) := by decide +kernel
theorem dL_law_683 : decode cL_law 683 = .ok (.iadd, 1) := by decide +kernel
theorem dL_law_684 : decode cL_law 684 = .ok (.iaload, 1) := by decide +kernel
theorem dL_law_685 : decode cL_law 685 = .ok (.invokevirtual 73, 3) := by decide +kernel
theorem dL_law_688 : decode cL_law 688 = .ok (.aload_n 2, 1) := by decide +kernel
theorem dL_law_689 : decode cL_law 689 = .ok (.aload_n 0, 1) := by decide +kernel
theorem dL_law_690 : decode cL_law 690 = .ok (.iload_n 3, 1) := by decide +kernel
theorem dL_law_691 : decode cL_law 691 = .ok (.iconst 1, 1) := by decide +kernel
theorem dL_law_692 : decode cL_law 692 = .ok (.iadd, 1) := by decide +kernel
theorem dL_law_693 : decode cL_law 693 = .ok (.iaload, 1) := by decide +kernel
theorem dL_law_694 : decode cL_law 694 = .ok (.invokevirtual 76, 3) := by decide +kernel
theorem dL_law_697 : decode cL_law 697 = .ok (.lcmp, 1) := by decide +kernel
theorem dL_law_698 : decode cL_law 698 = .ok (.ifCond .eq 5, 3) := by decide +kernel
theorem dL_law_701 : decode cL_law 701 = .ok (.iconst 0, 1) := by decide +kernel
theorem dL_law_702 : decode cL_law 702 = .ok (.ireturn, 1) := by decide +kernel
theorem dL_law_703 : decode cL_law 703 = .ok (.iinc 3 10, 3) := by decide +kernel
theorem dL_law_706 : decode cL_law 706 = .ok (.goto (-688), 3) := by decide +kernel
theorem dL_law_709 : decode cL_law 709 = .ok (.iconst 1, 1) := by decide +kernel
theorem dL_law_710 : decode cL_law 710 = .ok (.ireturn, 1) := by decide +kernel
abbrev vwCl : List vw_C := [(RX0, TX0, 11), (RX1, TX1, 8)]
end
section
/-! Base rows of mine: shifts by name, read-only contracts (nothing old changes), changing contracts (a world's own cells alone change), and how they are called. -/
def jshl (x : Int64) (y : Int32) : Int64 := x <<< (y.toInt64 &&& 63)
def jushr (x : Int64) (y : Int32) : Int64 := (x.toUInt64 >>> (y.toInt64.toUInt64 &&& Int64.toUInt64 63)).toInt64
def jshr (x : Int64) (y : Int32) : Int64 := x >>> (y.toInt64 &&& 63)
def jiushr (x y : Int32) : Int32 := (x.toUInt32 >>> (y.toUInt32 &&& Int32.toUInt32 31)).toInt32
def roL (sz : Nat) (v : Int64) : Array Value → State → Outcome → State → Prop := va_Ql (fun r (_ : Unit) => r = v) (fun _ _ => True) (fun q : Nat => sz ≤ q)
def roI (sz : Nat) (v : Int32) : Array Value → State → Outcome → State → Prop := va_Qi (fun r (_ : Unit) => r = v) (fun _ _ => True) (fun q : Nat => sz ≤ q)
def muV (D : va_G) (cl : List vw_C) (ws ws' : va_W) (sz : Nat) : Array Value → State → Outcome → State → Prop := va_Qv (fun (_ : Unit) => True) (fun _ t => va_P D cl ws' t.heap) (va_A ws sz)
def muI (D : va_G) (cl : List vw_C) (ws ws' : va_W) (sz : Nat) (v : Int32) : Array Value → State → Outcome → State → Prop := va_Qi (fun r (_ : Unit) => r = v) (fun _ t => va_P D cl ws' t.heap) (va_A ws sz)
def muL (D : va_G) (cl : List vw_C) (ws ws' : va_W) (sz : Nat) (v : Int64) : Array Value → State → Outcome → State → Prop := va_Ql (fun r (_ : Unit) => r = v) (fun _ t => va_P D cl ws' t.heap) (va_A ws sz)
/-- what a read-only method asks of its start; 'ws' may be any world -/
def pRO (D : va_G) (cl : List vw_C) (tys : List (ClassId × FieldType)) (ws : va_W) (sz : Nat) : State → Prop := fun U => U.heap.size = sz ∧ va_P D cl ws U.heap ∧ va_K D cl tys U
def pMU (D : va_G) (cl : List vw_C) (tys : List (ClassId × FieldType)) (ws : va_W) (sz : Nat) : State → Prop := fun U => U.heap.size = sz ∧ va_P D cl ws U.heap ∧ va_K D cl tys U ∧ va_D (fun _ => True) ws
/-- a static method that needs no world -/
def pST (sz : Nat) : State → Prop := fun U => U.heap.size = sz
theorem du_same {A : Nat → Prop} {ws ws' : va_W} (h : va_D A ws) (he : ws'.map Prod.fst = ws.map Prod.fst) : va_D A ws' := by
  have key : ∀ (k : Nat) (q : Nat × va_E), ws'[k]? = some q → ∃ q2, ws[k]? = some q2 ∧ q2.1 = q.1 := by
    intro k q hk
    have h1 : (ws'.map Prod.fst)[k]? = some q.1 := by rw [List.getElem?_map, hk]; rfl
    rw [he, List.getElem?_map] at h1
    cases h2 : ws[k]? with
    | none => rw [h2] at h1; cases h1
    | some q2 => rw [h2] at h1; exact ⟨q2, rfl, Option.some.inj h1⟩
  refine ⟨fun i j p q hi hj hpq => ?_, fun k q hk => ?_⟩
  · obtain ⟨p2, a1, a2⟩ := key i p hi
    obtain ⟨q2, b1, b2⟩ := key j q hj
    exact h.1 i j p2 q2 a1 b1 (by rw [a2, b2, hpq])
  · obtain ⟨q2, b1, b2⟩ := key k q hk
    rw [← b2]; exact h.2 k q2 b1
theorem du_sw (x k : Int32) : x = k ∨ ¬ x = k := Classical.em _
theorem du_ne {x k : Int32} {n : Int} (hk : k.toInt = n) (h : ¬ x = k) : x.toInt ≠ n := fun e => h (Int32.toInt_inj.mp (by rw [hk]; exact e))
section
variable {p : Program} {l : Launch} {e : Env} {R : Room} {s : State} {m : MethodId} {args : Array Value} {below : List Frame} {meth : Method} {c : Code} {H : Heap} {locs : List Loc} {cells slots : Nat} {Q : State → Prop} {pc : Nat} {ls : Array Slot} {rest st0 : List Value} {a : Array Value} {A0 : Nat → Prop} {H0 : Heap} {D : va_G} {cl : List vw_C} {ws ws' wr : va_W} {tys : List (ClassId × FieldType)}
theorem du_rwl {x y : Int64} (h : x = y) (k : W p l e R s m args below meth c H locs cells slots Q (F0 m pc ls (.long y :: rest))) : W p l e R s m args below meth c H locs cells slots Q (F0 m pc ls (.long x :: rest)) := h ▸ k
theorem du_rwi {x y : Int32} (h : x = y) (k : W p l e R s m args below meth c H locs cells slots Q (F0 m pc ls (.int y :: rest))) : W p l e R s m args below meth c H locs cells slots Q (F0 m pc ls (.int x :: rest)) := h ▸ k
theorem ro_l {v : Int64} (hr : va_Run p l e R s m args below meth c H locs cells slots 0 0 (F0 m pc ls st0) rest (roL H.size v a) (fun q : Nat => H.size ≤ q)) (hS : va_S A0 H0 H locs) (hA : ∀ q, H0.size ≤ q → A0 q) (hP : va_P D cl ws H) (kk : ∀ (H1 : Heap) (locs1 : List Loc), va_P D cl ws H1 → va_S A0 H0 H1 locs1 → W p l e R s m args below meth c H1 locs1 cells slots Q (F0 m (pc + 3) ls (.long v :: rest))) : W p l e R s m args below meth c H locs cells slots Q (F0 m pc ls st0) := by
  refine va_calll hr hS (fun q h1 h2 => absurd h2 (Nat.not_le.mpr h1)) (fun q h => hA q (Nat.le_trans hS.1 h)) (fun r u t H1 locs1 ht hvm hw hB hz hk hS1 => ?_)
  subst hw
  exact kk H1 locs1 (hP.kept (fun k q hq => hk q.1 (hP k q hq).lt (Nat.not_le.mpr (hP k q hq).lt))) hS1
theorem ro_i {v : Int32} (hr : va_Run p l e R s m args below meth c H locs cells slots 0 0 (F0 m pc ls st0) rest (roI H.size v a) (fun q : Nat => H.size ≤ q)) (hS : va_S A0 H0 H locs) (hA : ∀ q, H0.size ≤ q → A0 q) (hP : va_P D cl ws H) (kk : ∀ (H1 : Heap) (locs1 : List Loc), va_P D cl ws H1 → va_S A0 H0 H1 locs1 → W p l e R s m args below meth c H1 locs1 cells slots Q (F0 m (pc + 3) ls (.int v :: rest))) : W p l e R s m args below meth c H locs cells slots Q (F0 m pc ls st0) := by
  refine va_calli hr hS (fun q h1 h2 => absurd h2 (Nat.not_le.mpr h1)) (fun q h => hA q (Nat.le_trans hS.1 h)) (fun r u t H1 locs1 ht hvm hw hB hz hk hS1 => ?_)
  subst hw
  exact kk H1 locs1 (hP.kept (fun k q hq => hk q.1 (hP k q hq).lt (Nat.not_le.mpr (hP k q hq).lt))) hS1
/-- what is free for a changing callee is free for its caller -/
theorem mu_free {is : List Nat} (hD : va_D A0 ws) (hS : va_S A0 H0 H locs) (hA : ∀ q, H0.size ≤ q → A0 q) {wc : va_W} (hC : is.map (fun i => ws[i]?) = wc.map some) : ∀ q, va_A wc H.size q → A0 q := va_free hD hS hA is hC
theorem mu_keep (hP : va_P D cl (ws ++ wr) H) (hD : va_D A0 (ws ++ wr)) {H1 : Heap} (hk : ∀ q : Nat, q < H.size → ¬ va_A ws H.size q → H1[q]? = H[q]?) (hP1 : va_P D cl ws' H1) : va_P D cl (ws' ++ wr) H1 := by
  refine hP1.app ?_
  intro k q hq
  have hq2 : (ws ++ wr)[ws.length + k]? = some q := by rw [List.getElem?_append_right (Nat.le_add_right _ _), Nat.add_sub_cancel_left]; exact hq
  have hat := hP _ q hq2
  refine hat.kept (hk q.1 hat.lt ?_)
  rintro (⟨j, e0, hj⟩ | h)
  · have hjl : j < ws.length := (List.getElem?_eq_some_iff.mp hj).1
    have hj2 : (ws ++ wr)[j]? = some (q.1, e0) := by rw [List.getElem?_append_left hjl]; exact hj
    have := hD.1 j (ws.length + k) _ _ hj2 hq2 rfl
    omega
  · exact absurd hat.lt (Nat.not_lt.mpr h)
theorem mu_freeA (hD : va_D A0 (ws ++ wr)) (hS : va_S A0 H0 H locs) (hA : ∀ q, H0.size ≤ q → A0 q) : ∀ q, va_A ws H.size q → A0 q := by
  rintro q (⟨k, e0, hk⟩ | h)
  · have hkl : k < ws.length := (List.getElem?_eq_some_iff.mp hk).1
    exact hD.2 k (q, e0) (by rw [List.getElem?_append_left hkl]; exact hk)
  · exact hA q (Nat.le_trans hS.1 h)
theorem mu_v {mc ms : Nat} (hr : va_Run p l e R s m args below meth c H locs cells slots mc ms (F0 m pc ls st0) rest (muV D cl ws ws' H.size a) (va_A ws H.size)) (hS : va_S A0 H0 H locs) (hA : ∀ q, H0.size ≤ q → A0 q) (hP : va_P D cl (ws ++ wr) H) (hD : va_D A0 (ws ++ wr)) (he : ws'.map Prod.fst = ws.map Prod.fst) (kk : ∀ (H1 : Heap) (locs1 : List Loc), va_P D cl (ws' ++ wr) H1 → va_D A0 (ws' ++ wr) → va_S A0 H0 H1 locs1 → W p l e R s m args below meth c H1 locs1 (cells + mc) (slots + ms) Q (F0 m (pc + 3) ls rest)) : W p l e R s m args below meth c H locs cells slots Q (F0 m pc ls st0) := by
  refine va_callv hr hS (fun q _ h => mu_freeA hD hS hA q h) (mu_freeA hD hS hA) (fun u t H1 locs1 ht hvm hw hB hz hk hS1 => ?_)
  rw [ht] at hB
  exact kk H1 locs1 (mu_keep hP hD hk hB) (du_same hD (by rw [List.map_append, List.map_append, he])) hS1
theorem mu_i {mc ms : Nat} {v : Int32} (hr : va_Run p l e R s m args below meth c H locs cells slots mc ms (F0 m pc ls st0) rest (muI D cl ws ws' H.size v a) (va_A ws H.size)) (hS : va_S A0 H0 H locs) (hA : ∀ q, H0.size ≤ q → A0 q) (hP : va_P D cl (ws ++ wr) H) (hD : va_D A0 (ws ++ wr)) (he : ws'.map Prod.fst = ws.map Prod.fst) (kk : ∀ (H1 : Heap) (locs1 : List Loc), va_P D cl (ws' ++ wr) H1 → va_D A0 (ws' ++ wr) → va_S A0 H0 H1 locs1 → W p l e R s m args below meth c H1 locs1 (cells + mc) (slots + ms) Q (F0 m (pc + 3) ls (.int v :: rest))) : W p l e R s m args below meth c H locs cells slots Q (F0 m pc ls st0) := by
  refine va_calli hr hS (fun q _ h => mu_freeA hD hS hA q h) (mu_freeA hD hS hA) (fun r u t H1 locs1 ht hvm hw hB hz hk hS1 => ?_)
  subst hw
  rw [ht] at hB
  exact kk H1 locs1 (mu_keep hP hD hk hB) (du_same hD (by rw [List.map_append, List.map_append, he])) hS1
theorem mu_l {mc ms : Nat} {v : Int64} (hr : va_Run p l e R s m args below meth c H locs cells slots mc ms (F0 m pc ls st0) rest (muL D cl ws ws' H.size v a) (va_A ws H.size)) (hS : va_S A0 H0 H locs) (hA : ∀ q, H0.size ≤ q → A0 q) (hP : va_P D cl (ws ++ wr) H) (hD : va_D A0 (ws ++ wr)) (he : ws'.map Prod.fst = ws.map Prod.fst) (kk : ∀ (H1 : Heap) (locs1 : List Loc), va_P D cl (ws' ++ wr) H1 → va_D A0 (ws' ++ wr) → va_S A0 H0 H1 locs1 → W p l e R s m args below meth c H1 locs1 (cells + mc) (slots + ms) Q (F0 m (pc + 3) ls (.long v :: rest))) : W p l e R s m args below meth c H locs cells slots Q (F0 m pc ls st0) := by
  refine va_calll hr hS (fun q _ h => mu_freeA hD hS hA q h) (mu_freeA hD hS hA) (fun r u t H1 locs1 ht hvm hw hB hz hk hS1 => ?_)
  subst hw
  rw [ht] at hB
  exact kk H1 locs1 (mu_keep hP hD hk hB) (du_same hD (by rw [List.map_append, List.map_append, he])) hS1
theorem pRO_blind {av : List Value} {sz : Nat} : FrameBlind (va_Pc av (pRO D cl tys ws sz)) := fun a U g mk q => by
  obtain ⟨q0, q1, qP, qK⟩ := q
  exact ⟨q0, q1, qP, va_K.moved (u := U) (U := U.calling g mk a) (Vm.Alike.refl U.vm) qK⟩
theorem pMU_blind {av : List Value} {sz : Nat} : FrameBlind (va_Pc av (pMU D cl tys ws sz)) := fun a U g mk q => by
  obtain ⟨q0, q1, qP, qK, qD⟩ := q
  exact ⟨q0, q1, qP, va_K.moved (u := U) (U := U.calling g mk a) (Vm.Alike.refl U.vm) qK, qD⟩
theorem pST_blind {av : List Value} {sz : Nat} : FrameBlind (va_Pc av (pST sz)) := fun _ _ _ _ q => ⟨q.1, q.2⟩
theorem preV_RO {o ci : Nat} {fs : List Value} {As : List Value} {q : vw_C} (hP : va_P D cl ws H) (hK : va_K D cl tys s) (q0 : Nat) (hc : cl[ci]? = some q) (he : ws[q0]? = some (o, .inr (ci, fs))) : PreV s H q.1 o (va_Pc (.ref o :: As) (pRO D cl tys ws H.size)) As :=
  ⟨pRO_blind, va_recv hK hP hc he, fun U hU hW => ⟨rfl, by rw [hU], by rw [hU]; exact hP, va_K.moved hW.alike hK⟩⟩
theorem preV_MU {o ci : Nat} {fs : List Value} {As : List Value} {q : vw_C} (hP : va_P D cl ws H) (hK : va_K D cl tys s) (hD : va_D A0 ws) (q0 : Nat) (hc : cl[ci]? = some q) (he : ws[q0]? = some (o, .inr (ci, fs))) : PreV s H q.1 o (va_Pc (.ref o :: As) (pMU D cl tys ws H.size)) As :=
  ⟨pMU_blind, va_recv hK hP hc he, fun U hU hW => ⟨rfl, by rw [hU], by rw [hU]; exact hP, va_K.moved hW.alike hK, hD.weaken (fun _ _ _ _ => trivial)⟩⟩
theorem preI_MU {o : Nat} {As : List Value} (hP : va_P D cl ws H) (hK : va_K D cl tys s) (hD : va_D A0 ws) : PreS s H (va_Pc (.ref o :: As) (pMU D cl tys ws H.size)) (.ref o :: As) :=
  ⟨pMU_blind, fun U hU hW => ⟨rfl, by rw [hU], by rw [hU]; exact hP, va_K.moved hW.alike hK, hD.weaken (fun _ _ _ _ => trivial)⟩⟩
theorem preS_ST {As : List Value} : PreS s H (va_Pc As (pST H.size)) As :=
  ⟨pST_blind, fun U hU _ => ⟨rfl, show U.heap.size = H.size by rw [hU]⟩⟩
theorem preS_MU {As : List Value} (hP : va_P D cl ws H) (hK : va_K D cl tys s) (hD : va_D A0 ws) : PreS s H (va_Pc As (pMU D cl tys ws H.size)) As :=
  ⟨pMU_blind, fun U hU hW => ⟨rfl, by rw [hU], by rw [hU]; exact hP, va_K.moved hW.alike hK, hD.weaken (fun _ _ _ _ => trivial)⟩⟩
end
/-! The class's cells: the object, its row, its dividend, its slices. -/
abbrev xt (k1 k2 k3 : ClassId) : List (ClassId × FieldType) := [(k1, .long), (k2, .long), (k3, .long)]
abbrev xw (o a1 a2 a3 : Nat) (k1 k2 k3 : ClassId) (row dv sl : Nat → Int64) (nb wd : Nat) (po tp fi la : Int64) (bi bo : Int32) : va_W :=
  [(o, .inr (0, [.ref a1, .ref a2, .ref a3, .int (nI nb), .int (nI wd), .long po, .long tp, .long fi, .long la, .int bi, .int bo])), (a1, .inl (k1, 625, .inr (.inl row))), (a2, .inl (k2, 626, .inr (.inl dv))), (a3, .inl (k3, 2048, .inr (.inl sl)))]
abbrev jt (k1 : ClassId) : List (ClassId × FieldType) := [(k1, .long)]
abbrev jw (a1 : Nat) (k1 : ClassId) (f : Nat → Int64) : va_W := [(a1, .inl (k1, 625, .inr (.inl f)))]
end
section
/-! What each method of the class answers, in its own words (no meaning yet): a term a method. -/
def mTop (w : Int32) (v : Int64) : Int64 := jshl v (64 - w)
def mFrom (w : Int32) (r : Int64) : Int64 := jushr r (64 - w)
def mLow (w : Int32) (v : Int64) : Int64 := mFrom w (mTop w v)
def mTuN (v : Int64) : Nat → Int64
  | 0 => 0
  | i + 1 => jshl (mTuN v i) 1 ||| (jushr v (nI i) &&& 1)
def mTurned (v : Int64) (b : Int32) : Int64 := mTuN v b.toNatClampNeg
def mCheck (w bo : Int32) (la r : Int64) : Int64 := (if bo = 0 then mFrom w r else mTurned (mFrom w r) w) ^^^ la
def mReg (w bo : Int32) (la c : Int64) : Int64 := mTop w (if bo = 0 then c ^^^ la else mTurned (c ^^^ la) w)
def mBit (tp r : Int64) (b : Int32) : Int64 := if lg_cmp (jushr r 63) b.toInt64 = 0 then jshl r 1 else jshl r 1 ^^^ tp
def mByN (tp r : Int64) (b : Int32) : Nat → Int64
  | 0 => r
  | j + 1 => mBit tp (mByN tp r b j) (jiushr b (7 - nI j) &&& 1)
def mByte (tp r : Int64) (b : Int32) : Int64 := mByN tp r b 8
def mTab (sl : Nat → Int64) (r : Int64) (b : Int32) : Int64 := jshl r 8 ^^^ sl ((jushr r 56).toInt32 ^^^ b).toNatClampNeg
def mWdL (x : Int64) : Nat → Int64
  | 0 => x
  | k + 1 => jushr (mWdL x k) 8
def mWdA (sl : Nat → Int64) (x : Int64) : Nat → Int64
  | 0 => 0
  | k + 1 => mWdA sl x k ^^^ sl (nI k * 256 + (mWdL x k &&& 255).toInt32).toNatClampNeg
def mWord (sl : Nat → Int64) (r x : Int64) : Int64 := mWdA sl (r ^^^ x) 8
def mFl1 (tp : Int64) (sl : Nat → Int64) : Nat → Nat → Int64
  | 0 => sl
  | k + 1 => vp_updL (mFl1 tp sl k) (nI k).toNatClampNeg (mByte tp 0 (nI k))
def mFl2 (tp : Int64) (sl : Nat → Int64) : Nat → Nat → Int64
  | 0 => mFl1 tp sl 256
  | k + 1 => vp_updL (mFl2 tp sl k) (nI (256 + k)).toNatClampNeg (mTab (mFl2 tp sl k) (mFl2 tp sl k (nI (256 + k) - 256).toNatClampNeg) 0)
def mFill (tp : Int64) (sl : Nat → Int64) : Nat → Int64 := mFl2 tp sl 1792
def mPrN (tp a b : Int64) : Nat → Int64
  | 0 => 0
  | i + 1 => if 0 ≤ lg_cmp (jshl a (nI i)) 0 then mBit tp (mPrN tp a b i) 0 else mBit tp (mPrN tp a b i) 0 ^^^ b
def mProd (w : Int32) (tp a b : Int64) : Int64 := mPrN tp a b w.toNatClampNeg
def mPw (w : Int32) (tp : Int64) : Nat → Int64
  | 0 => mBit tp (mTop w 1) 0
  | i + 1 => mProd w tp (mPw w tp i) (mPw w tp i)
def mZaN (w : Int32) (tp r z : Int64) : Nat → Int64
  | 0 => r
  | i + 1 => if lg_cmp (jushr z (nI i) &&& 1) 1 = 0 then mProd w tp (mZaN w tp r z i) (mPw w tp i) else mZaN w tp r z i
def mZeros (w : Int32) (tp r z : Int64) : Int64 := mZaN w tp r z 34
def mIsB (b : Int32) : Int32 := if b < 0 then 0 else if 256 ≤ b then 0 else 1
def mCome (bi b : Int32) : Int64 := if bi = 0 then b.toInt64 else mTurned b.toInt64 8
def mSh (i : Int32) : Int32 := 56 - (i - i / 8 * 8) * 8
def mByA (row : Nat → Int64) (i : Int32) : Int32 := (jushr (row (i / 8).toNatClampNeg) (mSh i)).toInt32 &&& 255
def mBT1 (x : Int64) : Int64 := jshl (x &&& 1085102592571150095) 4 ||| (jushr x 4 &&& 1085102592571150095)
def mBT2 (x : Int64) : Int64 := jshl (x &&& 3689348814741910323) 2 ||| (jushr x 2 &&& 3689348814741910323)
def mBT3 (x : Int64) : Int64 := jshl (x &&& 6148914691236517205) 1 ||| (jushr x 1 &&& 6148914691236517205)
def mBT (x : Int64) : Int64 := mBT3 (mBT2 (mBT1 x))
def mTrN (row : Nat → Int64) : Nat → Nat → Int64
  | 0 => row
  | k + 1 => vp_updL (mTrN row k) (nI k).toNatClampNeg (mBT (mTrN row k (nI k).toNatClampNeg))
def mBbN (row : Nat → Int64) (tp r : Int64) : Nat → Int64
  | 0 => r
  | i + 1 => mByte tp (mBbN row tp r i) (mByA row (nI i))
def mYyN (row sl : Nat → Int64) (r : Int64) (a : Nat) : Nat → Int64
  | 0 => r
  | k + 1 => mTab sl (mYyN row sl r a k) (mByA row (nI (a + k)))
def mYy (row sl : Nat → Int64) (r : Int64) (a b : Nat) : Int64 := mYyN row sl r a (b - a)
def mWwN (row sl : Nat → Int64) (r : Int64) (a : Nat) : Nat → Int64
  | 0 => r
  | k + 1 => mWord sl (mWwN row sl r a k) (row (nI (a + k)).toNatClampNeg)
def mEi (row sl : Nat → Int64) (r : Int64) (a b : Nat) : Int64 := if b / 8 ≤ (a + 7) / 8 then mYy row sl r a b else mYy row sl (mWwN row sl (mYy row sl r a ((a + 7) / 8 * 8)) ((a + 7) / 8) (b / 8 - (a + 7) / 8)) (b / 8 * 8) b
end
section
/-! Small rows: loop ends, places in range. -/
theorem du_ge {i N : Nat} (hN : N < 2 ^ 31) (hi : i ≤ N) (c : nI N ≤ nI i) : i = N :=
  Nat.le_antisymm hi ((nI_leI hN (Nat.lt_of_le_of_lt hi hN)).mp c)
theorem du_lt {i N : Nat} (hN : N < 2 ^ 31) (hi : i ≤ N) (c : ¬ nI N ≤ nI i) : i < N := by
  rcases Nat.lt_or_ge i N with h | h
  · exact h
  · exact absurd (nI_le h (Nat.lt_of_le_of_lt hi hN)) c
theorem du_cl (b : Int32) : b.toNatClampNeg < 2 ^ 31 := by
  have := b.toInt_lt
  have h : b.toNatClampNeg = b.toInt.toNat := rfl
  rw [h]; omega
theorem du_ex {b : Int32} {i : Nat} (hi : i ≤ b.toNatClampNeg) (c : b ≤ nI i) : i = b.toNatClampNeg := by
  have h1 := du_cl b
  have h2 := Int32.le_iff_toInt_le.mp c
  rw [nI_toInt (by omega)] at h2
  have h : b.toNatClampNeg = b.toInt.toNat := rfl
  rw [h] at hi ⊢; omega
theorem du_st {b : Int32} {i : Nat} (hi : i ≤ b.toNatClampNeg) (c : ¬ b ≤ nI i) : i < b.toNatClampNeg := by
  have h1 := du_cl b
  have h : b.toNatClampNeg = b.toInt.toNat := rfl
  have h2 : ¬ b.toInt ≤ (nI i).toInt := fun q => c (Int32.le_iff_toInt_le.mpr q)
  rw [nI_toInt (by omega)] at h2
  rw [h]; omega
theorem du_div {a : Nat} (ha : a < 2 ^ 31) (d : Nat) (h0 : 0 < d) (hd : d < 2 ^ 31) : nI a / nI d = nI (a / d) := pk_div ha h0 hd
theorem du_div8 {a : Nat} (ha : a < 2 ^ 31) : nI a / 8 = nI (a / 8) := pk_div (d := 8) ha (by decide) (by decide)
theorem du_div64 {a : Nat} (ha : a < 2 ^ 31) : nI a / 64 = nI (a / 64) := pk_div (d := 64) ha (by decide) (by decide)
theorem du_rem64 {a : Nat} (ha : a < 2 ^ 31) : nI a - nI a / 64 * 64 = nI (a % 64) := pk_rem (d := 64) ha (by decide) (by decide)
theorem du_rem8 {a : Nat} (ha : a < 2 ^ 31) : nI a - nI a / 8 * 8 = nI (a % 8) := pk_rem (d := 8) ha (by decide) (by decide)
theorem du_7a : ∀ i : Nat, i < 9 → ((7 : Int32) - nI i < 0) → i = 8 := by decide
theorem du_7b : ∀ i : Nat, i < 9 → ¬ ((7 : Int32) - nI i < 0) → i < 8 := by decide
theorem du_7c : ∀ i : Nat, i < 8 → (7 : Int32) - nI i + Int32.ofInt (-1) = 7 - nI (i + 1) := by decide
theorem du_by {i : Nat} (h : i < 5000) : vp_in (nI i / 8) 625 := by
  rw [du_div8 (by omega)]; exact vp_in_nI (by omega) (by omega)
theorem du_a7 (a : Nat) : nI a + 8 - 1 = nI (a + 7) := by
  rw [show (8 : Int32) = nI 8 from rfl, nI_add, show a + 8 = (a + 7) + 1 from rfl, nI_pred]
/-! Java's shifts as BitVec's; places in the table. (bw_c, bw_cu, bw_sm began as rows of kit/laws/BITS.to-paste.) -/
theorem bw_tb (n : Nat) : (lN n).toBitVec = BitVec.ofNat 64 n := rfl
theorem bw_inj {a b : Int64} (h : a.toBitVec = b.toBitVec) : a = b := Int64.toBitVec_inj.mp h
theorem bw_c : ∀ k, k < 64 → ((nI k).toInt64 &&& 63) = lN k := by decide +kernel
theorem bw_cu : ∀ k, k < 64 → ((nI k).toInt64.toUInt64 &&& Int64.toUInt64 63) = UInt64.ofNat k := by decide +kernel
theorem bw_sm : ∀ k, k < 64 → (BitVec.ofNat 64 k).smod 64 = BitVec.ofNat 64 k := by decide +kernel
theorem bv_shl (x : Int64) {k : Nat} (hk : k < 64) : (jshl x (nI k)).toBitVec = x.toBitVec <<< k := by
  unfold jshl
  rw [bw_c k hk, Int64.toBitVec_shiftLeft, bw_tb, bw_sm k hk, BitVec.shiftLeft_eq', BitVec.toNat_ofNat, Nat.mod_eq_of_lt (show k < 2 ^ 64 by omega)]
theorem bv_ushr (x : Int64) {k : Nat} (hk : k < 64) : (jushr x (nI k)).toBitVec = x.toBitVec >>> k := by
  unfold jushr
  rw [bw_cu k hk]
  apply BitVec.eq_of_toNat_eq
  show (x.toUInt64 >>> UInt64.ofNat k).toNat = (x.toBitVec >>> k).toNat
  have h1 : (UInt64.ofNat k).toNat = k := by
    show (BitVec.ofNat 64 k).toNat = k
    rw [BitVec.toNat_ofNat, Nat.mod_eq_of_lt (by omega)]
  rw [UInt64.toNat_shiftRight, h1, Nat.mod_eq_of_lt hk, BitVec.toNat_ushiftRight]
  rfl
theorem bw_xor (a b : Nat) : nI a ^^^ nI b = nI (a ^^^ b) := by
  apply Int32.toBitVec_inj.1
  show BitVec.ofNat 32 a ^^^ BitVec.ofNat 32 b = BitVec.ofNat 32 (a ^^^ b)
  apply BitVec.eq_of_getLsbD_eq
  intro i hi
  simp [hi]
/-- a long that is small, as an int -/
theorem bw_i (x : Int64) {n : Nat} (h : x.toBitVec.toNat = n) : x.toInt32 = nI n := by
  subst h
  apply Int32.toBitVec_inj.1
  show x.toBitVec.signExtend 32 = BitVec.ofNat 32 x.toBitVec.toNat
  apply BitVec.eq_of_toNat_eq
  rw [BitVec.signExtend_eq_setWidth_of_le _ (by decide), BitVec.toNat_setWidth, BitVec.toNat_ofNat]
theorem bw_56 (x : Int64) : ∃ a : Nat, a < 256 ∧ (jushr x 56).toInt32 = nI a ∧ a = x.toBitVec.toNat / 2 ^ 56 := by
  refine ⟨x.toBitVec.toNat / 2 ^ 56, ?_, bw_i _ ?_, rfl⟩
  · have := x.toBitVec.isLt
    omega
  · have h := bv_ushr x (k := 56) (by decide)
    rw [show jushr x 56 = jushr x (nI 56) from rfl, h, BitVec.toNat_ushiftRight, Nat.shiftRight_eq_div_pow]
theorem du_tix (x : Int64) (y : Int32) : vp_in ((jushr x 56).toInt32 ^^^ (y &&& 255)) 2048 := by
  obtain ⟨a, ha, ea, -⟩ := bw_56 x
  obtain ⟨b, hb, eb⟩ := pk_andE y (m := 255) 8 rfl
  rw [ea, eb, bw_xor]
  have := Nat.xor_lt_two_pow (n := 8) (x := a) (y := b) ha hb
  exact vp_in_nI (by omega) (by omega)
theorem du_tix0 (x : Int64) : vp_in ((jushr x 56).toInt32 ^^^ 0) 2048 := du_tix x 0
theorem bw_255 (z : Int64) : (z &&& 255).toInt32 = nI (z.toBitVec.toNat % 256) := by
  apply bw_i
  rw [Int64.toBitVec_and]
  show (z.toBitVec &&& BitVec.ofNat 64 255).toNat = _
  rw [BitVec.toNat_and, BitVec.toNat_ofNat]
  exact Nat.and_two_pow_sub_one_eq_mod _ 8
theorem du_wix {i : Nat} (hi : i < 8) (z : Int64) : vp_in (nI i * 256 + (z &&& 255).toInt32) 2048 := by
  rw [bw_255, show (256 : Int32) = nI 256 from rfl, pk_mul, nI_add]
  have : z.toBitVec.toNat % 256 < 256 := Nat.mod_lt _ (by decide)
  exact vp_in_nI (by omega) (by omega)
/-- no bits are left: nothing more is done -/
theorem du_zst {w : Int32} {tp x z : Int64} {i : Nat} (hlt : i < 34) (hz : jushr z (nI i) = 0) : mZaN w tp x z i = mZeros w tp x z := by
  have hz2 : ∀ j, i ≤ j → j < 34 → jushr z (nI j) = 0 := by
    intro j h1 h2
    apply bw_inj
    rw [bv_ushr z (by omega)]
    have h3 : z.toBitVec >>> i = 0#64 := by rw [← bv_ushr z (by omega), hz]; rfl
    obtain ⟨d, rfl⟩ : ∃ d, j = i + d := ⟨j - i, by omega⟩
    rw [BitVec.shiftRight_add, h3]
    simp
  have step : ∀ d, i + d ≤ 34 → mZaN w tp x z (i + d) = mZaN w tp x z i := by
    intro d
    induction d with
    | zero => intro _; rfl
    | succ d ih =>
      intro h
      show mZaN w tp x z ((i + d) + 1) = _
      rw [mZaN, if_neg, ih (by omega)]
      intro hc
      have h1 := (lg_cmp_eq _ _).mp hc
      rw [hz2 (i + d) (by omega) (by omega)] at h1
      exact absurd h1 (by decide)
  have := step (34 - i) (by omega)
  rw [show i + (34 - i) = 34 by omega] at this
  exact this.symm
end
section
/-! Contracts, laid by wip/whole/gen.py. -/
theorem in_c_atTop : ∀ w ∈ wsX00, w ∈ wsX0_atTop := fun _ h => List.mem_cons_of_mem _ (List.mem_append_right _ h)
set_option maxHeartbeats 4000000 in
set_option maxRecDepth 100000 in
theorem c_atTop {l : Launch} {D : va_G} {o a1 a2 a3 : Nat} {k1 k2 k3 : ClassId} {row : Nat → Int64} {dv : Nat → Int64} {sl : Nat → Int64} {nb : Nat} {wd : Nat} {po : Int64} {tp : Int64} {fi : Int64} {la : Int64} {bi : Int32} {bo : Int32} {sz : Nat} (x : Int64)  : Met l yX0_atTop wsX0_atTop ({ frames := 0, cells := 0, slots := 0, locals := 0 }) (va_Pc [.ref o, .long x] (pRO D vwCl (xt k1 k2 k3) (xw o a1 a2 a3 k1 k2 k3 row dv sl nb wd po tp fi la bi bo) sz)) (roL sz (mTop (nI wd) x)) 0 0 (fun q : Nat => sz ≤ q) := by
  refine Met.ofW (cc := cX0_atTop) (maxL := 3) (ret := (some .long)) (by decide) rfl ?_
  intro p e s m args below meth c s₁ B hml hv
  obtain ⟨rfl, hsz, hP, hK⟩ := hv
  have hsz : s.heap.size = sz := hsz
  have hx := B.exec
  have hb := B.bytes
  have hr := B.returns
  have hts := atoms_spec (ws := wsX0_atTop) B.pre
  have hown : s.vm.findClass RX0 = some m.cls := findClass_of_methodNamed B.named
  have hlocks := B.notSynchronized
  subst hsz
  have hA : ∀ q : Nat, s.heap.size ≤ q → (fun q : Nat => s.heap.size ≤ q) q := fun _ h => h
  have hS : va_S (fun q : Nat => s.heap.size ≤ q) s.heap s.heap [] := va_S.rf
  have hl := lv_entry ([.ref o, .long x]) (n := 3) (Nat.le_of_ble_eq_true rfl)
  rw [lg_entry_eq]
  generalize (lg_sl ([.ref o, .long x]) ++ List.replicate (3 - (lg_sl ([.ref o, .long x])).length) Slot.unset).toArray = ls at hl ⊢
  have hl : lv_has ls 3 [(0, .ref o), (1, .long x)] := hl
  suffices key : ∀ (H : Heap) (locs : List Loc), va_P D vwCl (xw o a1 a2 a3 k1 k2 k3 row dv sl nb wd po tp fi la bi bo) H → va_S (fun q : Nat => s.heap.size ≤ q) s.heap H locs → W p l e (headSpec wsX0_atTop { frames := 0, cells := 0, slots := 0, locals := 0 }).room s m ([.ref o, .long x] : List Value).toArray below meth c H locs 0 0 (MQ below (roL s.heap.size (mTop (nI wd) x)) ([.ref o, .long x] : List Value).toArray s 0 0 (fun q : Nat => s.heap.size ≤ q)) (F0 m 0 ls []) from key s.heap [] hP hS
  intro H locs hP hS
  refine lv_lload_n hx hb dX0_atTop_0 rfl (lv_at hl 1 rfl) ?_
  refine lv_bipush (v := 64) hx hb dX0_atTop_1 (by decide) ?_
  refine lv_aload_n hx hb dX0_atTop_3 rfl (lv_at hl 0 rfl) ?_
  refine va_get (D := D) (ci := 0) (v := .int (nI wd)) (C := RX0) (T := TX0) (N := 11) hx hb hts in_c_atTop hown hK hP 0 rfl rfl 4 (by decide) (hts (.fieldLink RX0 34 "SliceChecks" "width" "I") (by decide +kernel)) (fun _ h9 => h9) rfl dX0_atTop_4 ?_
  refine lv_isub hx hb dX0_atTop_7 ?_
  refine lv_lshl (v := jshl x (64 - (nI wd))) hx hb dX0_atTop_8 rfl ?_
  exact W.lret (v := (jshl x (64 - (nI wd)))) hx hb hr (fun t ht hW => ⟨⟨(jshl x (64 - (nI wd))), (), rfl, rfl, trivial⟩, hS.F ht⟩) hS.2.2 dX0_atTop_9
theorem in_c_fromTop : ∀ w ∈ wsX00, w ∈ wsX0_fromTop := fun _ h => List.mem_cons_of_mem _ (List.mem_append_right _ h)
set_option maxHeartbeats 4000000 in
set_option maxRecDepth 100000 in
theorem c_fromTop {l : Launch} {D : va_G} {o a1 a2 a3 : Nat} {k1 k2 k3 : ClassId} {row : Nat → Int64} {dv : Nat → Int64} {sl : Nat → Int64} {nb : Nat} {wd : Nat} {po : Int64} {tp : Int64} {fi : Int64} {la : Int64} {bi : Int32} {bo : Int32} {sz : Nat} (x : Int64)  : Met l yX0_fromTop wsX0_fromTop ({ frames := 0, cells := 0, slots := 0, locals := 0 }) (va_Pc [.ref o, .long x] (pRO D vwCl (xt k1 k2 k3) (xw o a1 a2 a3 k1 k2 k3 row dv sl nb wd po tp fi la bi bo) sz)) (roL sz (mFrom (nI wd) x)) 0 0 (fun q : Nat => sz ≤ q) := by
  refine Met.ofW (cc := cX0_fromTop) (maxL := 3) (ret := (some .long)) (by decide) rfl ?_
  intro p e s m args below meth c s₁ B hml hv
  obtain ⟨rfl, hsz, hP, hK⟩ := hv
  have hsz : s.heap.size = sz := hsz
  have hx := B.exec
  have hb := B.bytes
  have hr := B.returns
  have hts := atoms_spec (ws := wsX0_fromTop) B.pre
  have hown : s.vm.findClass RX0 = some m.cls := findClass_of_methodNamed B.named
  have hlocks := B.notSynchronized
  subst hsz
  have hA : ∀ q : Nat, s.heap.size ≤ q → (fun q : Nat => s.heap.size ≤ q) q := fun _ h => h
  have hS : va_S (fun q : Nat => s.heap.size ≤ q) s.heap s.heap [] := va_S.rf
  have hl := lv_entry ([.ref o, .long x]) (n := 3) (Nat.le_of_ble_eq_true rfl)
  rw [lg_entry_eq]
  generalize (lg_sl ([.ref o, .long x]) ++ List.replicate (3 - (lg_sl ([.ref o, .long x])).length) Slot.unset).toArray = ls at hl ⊢
  have hl : lv_has ls 3 [(0, .ref o), (1, .long x)] := hl
  suffices key : ∀ (H : Heap) (locs : List Loc), va_P D vwCl (xw o a1 a2 a3 k1 k2 k3 row dv sl nb wd po tp fi la bi bo) H → va_S (fun q : Nat => s.heap.size ≤ q) s.heap H locs → W p l e (headSpec wsX0_fromTop { frames := 0, cells := 0, slots := 0, locals := 0 }).room s m ([.ref o, .long x] : List Value).toArray below meth c H locs 0 0 (MQ below (roL s.heap.size (mFrom (nI wd) x)) ([.ref o, .long x] : List Value).toArray s 0 0 (fun q : Nat => s.heap.size ≤ q)) (F0 m 0 ls []) from key s.heap [] hP hS
  intro H locs hP hS
  refine lv_lload_n hx hb dX0_fromTop_0 rfl (lv_at hl 1 rfl) ?_
  refine lv_bipush (v := 64) hx hb dX0_fromTop_1 (by decide) ?_
  refine lv_aload_n hx hb dX0_fromTop_3 rfl (lv_at hl 0 rfl) ?_
  refine va_get (D := D) (ci := 0) (v := .int (nI wd)) (C := RX0) (T := TX0) (N := 11) hx hb hts in_c_fromTop hown hK hP 0 rfl rfl 4 (by decide) (hts (.fieldLink RX0 34 "SliceChecks" "width" "I") (by decide +kernel)) (fun _ h9 => h9) rfl dX0_fromTop_4 ?_
  refine lv_isub hx hb dX0_fromTop_7 ?_
  refine lv_lushr (v := jushr x (64 - (nI wd))) hx hb dX0_fromTop_8 rfl ?_
  exact W.lret (v := (jushr x (64 - (nI wd)))) hx hb hr (fun t ht hW => ⟨⟨(jushr x (64 - (nI wd))), (), rfl, rfl, trivial⟩, hS.F ht⟩) hS.2.2 dX0_fromTop_9
theorem in_c_lowerBits : ∀ w ∈ wsX00, w ∈ wsX0_lowerBits := fun _ h => List.mem_cons_of_mem _ (List.mem_append_right _ h)
set_option maxHeartbeats 4000000 in
set_option maxRecDepth 100000 in
theorem c_lowerBits {l : Launch} {D : va_G} {o a1 a2 a3 : Nat} {k1 k2 k3 : ClassId} {row : Nat → Int64} {dv : Nat → Int64} {sl : Nat → Int64} {nb : Nat} {wd : Nat} {po : Int64} {tp : Int64} {fi : Int64} {la : Int64} {bi : Int32} {bo : Int32} {sz : Nat} (x : Int64)  : Met l yX0_lowerBits wsX0_lowerBits ({ frames := 1, cells := 0, slots := 0, locals := 22 }) (va_Pc [.ref o, .long x] (pRO D vwCl (xt k1 k2 k3) (xw o a1 a2 a3 k1 k2 k3 row dv sl nb wd po tp fi la bi bo) sz)) (roL sz (mLow (nI wd) x)) 0 0 (fun q : Nat => sz ≤ q) := by
  refine Met.ofW (cc := cX0_lowerBits) (maxL := 3) (ret := (some .long)) (by decide) rfl ?_
  intro p e s m args below meth c s₁ B hml hv
  obtain ⟨rfl, hsz, hP, hK⟩ := hv
  have hsz : s.heap.size = sz := hsz
  have hx := B.exec
  have hb := B.bytes
  have hr := B.returns
  have hts := atoms_spec (ws := wsX0_lowerBits) B.pre
  have hown : s.vm.findClass RX0 = some m.cls := findClass_of_methodNamed B.named
  have hlocks := B.notSynchronized
  subst hsz
  have hA : ∀ q : Nat, s.heap.size ≤ q → (fun q : Nat => s.heap.size ≤ q) q := fun _ h => h
  have hS : va_S (fun q : Nat => s.heap.size ≤ q) s.heap s.heap [] := va_S.rf
  have hl := lv_entry ([.ref o, .long x]) (n := 3) (Nat.le_of_ble_eq_true rfl)
  rw [lg_entry_eq]
  generalize (lg_sl ([.ref o, .long x]) ++ List.replicate (3 - (lg_sl ([.ref o, .long x])).length) Slot.unset).toArray = ls at hl ⊢
  have hl : lv_has ls 3 [(0, .ref o), (1, .long x)] := hl
  suffices key : ∀ (H : Heap) (locs : List Loc), va_P D vwCl (xw o a1 a2 a3 k1 k2 k3 row dv sl nb wd po tp fi la bi bo) H → va_S (fun q : Nat => s.heap.size ≤ q) s.heap H locs → W p l e (headSpec wsX0_lowerBits { frames := 1, cells := 0, slots := 0, locals := 22 }).room s m ([.ref o, .long x] : List Value).toArray below meth c H locs 0 0 (MQ below (roL s.heap.size (mLow (nI wd) x)) ([.ref o, .long x] : List Value).toArray s 0 0 (fun q : Nat => s.heap.size ≤ q)) (F0 m 0 ls []) from key s.heap [] hP hS
  intro H locs hP hS
  refine lv_aload_n hx hb dX0_lowerBits_0 rfl (lv_at hl 0 rfl) ?_
  refine lv_aload_n hx hb dX0_lowerBits_1 rfl (lv_at hl 0 rfl) ?_
  refine lv_lload_n hx hb dX0_lowerBits_2 rfl (lv_at hl 1 rfl) ?_
  refine ro_l (va_runV (As := [.long x]) (rest := [.ref o]) ⟨hx, hb, hml, hown, hts⟩ (c_atTop (sz := H.size) x) (cwV 1 hts gX0_lowerBits_X0_atTop rfl rfl rfl (by decide +kernel) ⟨Nat.le_of_ble_eq_true rfl, Nat.le_of_ble_eq_true rfl⟩) (preV_RO hP hK 0 (ci := 0) rfl rfl) rfl rfl hl.1 rfl (lv_room (Nat.le_of_ble_eq_true rfl)) dX0_lowerBits_3 ⟨Nat.le_of_ble_eq_true rfl, Nat.le_of_ble_eq_true rfl⟩) hS hA hP (fun H locs hP hS => ?_)
  refine ro_l (va_runV (As := [.long (mTop (nI wd) x)]) (rest := []) ⟨hx, hb, hml, hown, hts⟩ (c_fromTop (sz := H.size) (mTop (nI wd) x)) (cwV 1 hts gX0_lowerBits_X0_fromTop rfl rfl rfl (by decide +kernel) ⟨Nat.le_of_ble_eq_true rfl, Nat.le_of_ble_eq_true rfl⟩) (preV_RO hP hK 0 (ci := 0) rfl rfl) rfl rfl hl.1 rfl (lv_room (Nat.le_of_ble_eq_true rfl)) dX0_lowerBits_6 ⟨Nat.le_of_ble_eq_true rfl, Nat.le_of_ble_eq_true rfl⟩) hS hA hP (fun H locs hP hS => ?_)
  exact W.lret (v := (mFrom (nI wd) (mTop (nI wd) x))) hx hb hr (fun t ht hW => ⟨⟨(mFrom (nI wd) (mTop (nI wd) x)), (), rfl, rfl, trivial⟩, hS.F ht⟩) hS.2.2 dX0_lowerBits_9
set_option maxHeartbeats 4000000 in
set_option maxRecDepth 100000 in
theorem c_turned {l : Launch} {sz : Nat} (x : Int64) (b : Int32)  : Met l yX0_turned wsX0_turned ({ frames := 0, cells := 0, slots := 0, locals := 0 }) (va_Pc [.long x, .int b] (pST sz)) (roL sz (mTurned x b)) 0 0 (fun q : Nat => sz ≤ q) := by
  refine Met.ofW (cc := cX0_turned) (maxL := 6) (ret := (some .long)) (by decide) rfl ?_
  intro p e s m args below meth c s₁ B hml hv
  obtain ⟨rfl, hsz⟩ := hv
  have hsz : s.heap.size = sz := hsz
  have hx := B.exec
  have hb := B.bytes
  have hr := B.returns
  have hts := atoms_spec (ws := wsX0_turned) B.pre
  have hown : s.vm.findClass RX0 = some m.cls := findClass_of_methodNamed B.named
  have hlocks := B.notSynchronized
  subst hsz
  have hA : ∀ q : Nat, s.heap.size ≤ q → (fun q : Nat => s.heap.size ≤ q) q := fun _ h => h
  have hS : va_S (fun q : Nat => s.heap.size ≤ q) s.heap s.heap [] := va_S.rf
  have hl := lv_entry ([.long x, .int b]) (n := 6) (Nat.le_of_ble_eq_true rfl)
  rw [lg_entry_eq]
  generalize (lg_sl ([.long x, .int b]) ++ List.replicate (6 - (lg_sl ([.long x, .int b])).length) Slot.unset).toArray = ls at hl ⊢
  have hl : lv_has ls 6 [(0, .long x), (2, .int b)] := hl
  suffices key : ∀ (H : Heap) (locs : List Loc), va_S (fun q : Nat => s.heap.size ≤ q) s.heap H locs → W p l e (headSpec wsX0_turned { frames := 0, cells := 0, slots := 0, locals := 0 }).room s m ([.long x, .int b] : List Value).toArray below meth c H locs 0 0 (MQ below (roL s.heap.size (mTurned x b)) ([.long x, .int b] : List Value).toArray s 0 0 (fun q : Nat => s.heap.size ≤ q)) (F0 m 0 ls []) from key s.heap [] hS
  intro H locs hS
  refine lv_lconst (v := 0) hx hb dX0_turned_0 (by decide) ?_
  refine lv_lstore_n (lv' := [(3, .long 0), (0, .long x), (2, .int b)]) hx hb dX0_turned_1 rfl hl (by decide) rfl (fun ls hl => ?_)
  refine lv_iconst (v := 0) hx hb dX0_turned_2 (by decide) ?_
  refine lv_istore (lv' := [(5, .int 0), (3, .long 0), (0, .long x), (2, .int b)]) hx hb dX0_turned_3 hl (by decide) rfl (fun ls hl => ?_)
  have lp_5 : ∀ (k i : Nat), i ≤ b.toNatClampNeg → b.toNatClampNeg < i + k → ∀ (H : Heap) (locs : List Loc), va_S (fun q : Nat => s.heap.size ≤ q) s.heap H locs → ∀ ls : Array Slot, lv_has ls 6 [(5, .int (nI i)), (3, .long (mTuN x i)), (0, .long x), (2, .int b)] → W p l e (headSpec wsX0_turned { frames := 0, cells := 0, slots := 0, locals := 0 }).room s m ([.long x, .int b] : List Value).toArray below meth c H locs 0 0 (MQ below (roL s.heap.size (mTurned x b)) ([.long x, .int b] : List Value).toArray s 0 0 (fun q : Nat => s.heap.size ≤ q)) (F0 m 5 ls []) := by
    intro k
    induction k with
    | zero =>
      intro i h1 h2
      exact absurd h2 (by omega)
    | succ k ih =>
      intro i hi hk H locs hS ls hl
      refine lv_iload hx hb dX0_turned_5 (lv_at hl 0 rfl) ?_
      refine lv_iload_n hx hb dX0_turned_7 rfl (lv_at hl 3 rfl) ?_
      refine lv_icmp_ge (tgt := 28) hx hb dX0_turned_8 (by decide) (fun c_8 => ?_) (fun c_8 => ?_)
      ·
        have hiN := du_ex hi c_8
        refine lv_lload_n hx hb dX0_turned_28 rfl (lv_at hl 1 rfl) ?_
        exact W.lret (v := (mTuN x i)) hx hb hr (fun t ht hW => ⟨⟨(mTuN x i), (), rfl, by subst hiN; rfl, trivial⟩, hS.F ht⟩) hS.2.2 dX0_turned_29
      ·
        have hlt := du_st hi c_8
        refine lv_lload_n hx hb dX0_turned_11 rfl (lv_at hl 1 rfl) ?_
        refine lv_iconst (v := 1) hx hb dX0_turned_12 (by decide) ?_
        refine lv_lshl (v := jshl (mTuN x i) 1) hx hb dX0_turned_13 rfl ?_
        refine lv_lload_n hx hb dX0_turned_14 rfl (lv_at hl 2 rfl) ?_
        refine lv_iload hx hb dX0_turned_15 (lv_at hl 0 rfl) ?_
        refine lv_lushr (v := jushr x (nI i)) hx hb dX0_turned_17 rfl ?_
        refine lv_lconst (v := 1) hx hb dX0_turned_18 (by decide) ?_
        refine lv_land hx hb dX0_turned_19 ?_
        refine lv_lor hx hb dX0_turned_20 ?_
        refine du_rwl (y := mTuN x (i + 1)) (rfl) ?_
        refine lv_lstore_n (lv' := [(3, .long (mTuN x (i + 1))), (5, .int (nI i)), (0, .long x), (2, .int b)]) hx hb dX0_turned_21 rfl hl (by decide) rfl (fun ls hl => ?_)
        refine lv_iinc (v := nI (i + 1)) (lv' := [(5, .int (nI (i + 1))), (3, .long (mTuN x (i + 1))), (0, .long x), (2, .int b)]) hx hb dX0_turned_22 hl (k := 1) rfl (nI_1 i) (by decide) rfl (fun ls hl => ?_)
        refine lv_goto (tgt := 5) hx hb dX0_turned_25 (by decide) ?_
        exact ih (i + 1) (by omega) (by omega) H locs hS ls (lv_sub hl [0, 1, 2, 3] rfl)
  exact lp_5 (b.toNatClampNeg + 1 - 0) 0 (by omega) (by omega) H locs hS ls (lv_sub hl [0, 1, 2, 3] rfl)
theorem in_c_checkOf : ∀ w ∈ wsX00, w ∈ wsX0_checkOf := fun _ h => List.mem_cons_of_mem _ (List.mem_append_right _ h)
set_option maxHeartbeats 4000000 in
set_option maxRecDepth 100000 in
theorem c_checkOf {l : Launch} {D : va_G} {o a1 a2 a3 : Nat} {k1 k2 k3 : ClassId} {row : Nat → Int64} {dv : Nat → Int64} {sl : Nat → Int64} {nb : Nat} {wd : Nat} {po : Int64} {tp : Int64} {fi : Int64} {la : Int64} {bi : Int32} {bo : Int32} {sz : Nat} (x : Int64)  : Met l yX0_checkOf wsX0_checkOf ({ frames := 1, cells := 0, slots := 0, locals := 25 }) (va_Pc [.ref o, .long x] (pRO D vwCl (xt k1 k2 k3) (xw o a1 a2 a3 k1 k2 k3 row dv sl nb wd po tp fi la bi bo) sz)) (roL sz (mCheck (nI wd) bo la x)) 0 0 (fun q : Nat => sz ≤ q) := by
  refine Met.ofW (cc := cX0_checkOf) (maxL := 5) (ret := (some .long)) (by decide) rfl ?_
  intro p e s m args below meth c s₁ B hml hv
  obtain ⟨rfl, hsz, hP, hK⟩ := hv
  have hsz : s.heap.size = sz := hsz
  have hx := B.exec
  have hb := B.bytes
  have hr := B.returns
  have hts := atoms_spec (ws := wsX0_checkOf) B.pre
  have hown : s.vm.findClass RX0 = some m.cls := findClass_of_methodNamed B.named
  have hlocks := B.notSynchronized
  subst hsz
  have hA : ∀ q : Nat, s.heap.size ≤ q → (fun q : Nat => s.heap.size ≤ q) q := fun _ h => h
  have hS : va_S (fun q : Nat => s.heap.size ≤ q) s.heap s.heap [] := va_S.rf
  have hl := lv_entry ([.ref o, .long x]) (n := 5) (Nat.le_of_ble_eq_true rfl)
  rw [lg_entry_eq]
  generalize (lg_sl ([.ref o, .long x]) ++ List.replicate (5 - (lg_sl ([.ref o, .long x])).length) Slot.unset).toArray = ls at hl ⊢
  have hl : lv_has ls 5 [(0, .ref o), (1, .long x)] := hl
  suffices key : ∀ (H : Heap) (locs : List Loc), va_P D vwCl (xw o a1 a2 a3 k1 k2 k3 row dv sl nb wd po tp fi la bi bo) H → va_S (fun q : Nat => s.heap.size ≤ q) s.heap H locs → W p l e (headSpec wsX0_checkOf { frames := 1, cells := 0, slots := 0, locals := 25 }).room s m ([.ref o, .long x] : List Value).toArray below meth c H locs 0 0 (MQ below (roL s.heap.size (mCheck (nI wd) bo la x)) ([.ref o, .long x] : List Value).toArray s 0 0 (fun q : Nat => s.heap.size ≤ q)) (F0 m 0 ls []) from key s.heap [] hP hS
  intro H locs hP hS
  refine lv_aload_n hx hb dX0_checkOf_0 rfl (lv_at hl 0 rfl) ?_
  refine lv_lload_n hx hb dX0_checkOf_1 rfl (lv_at hl 1 rfl) ?_
  refine ro_l (va_runV (As := [.long x]) (rest := []) ⟨hx, hb, hml, hown, hts⟩ (c_fromTop (sz := H.size) x) (cwV 1 hts gX0_checkOf_X0_fromTop rfl rfl rfl (by decide +kernel) ⟨Nat.le_of_ble_eq_true rfl, Nat.le_of_ble_eq_true rfl⟩) (preV_RO hP hK 0 (ci := 0) rfl rfl) rfl rfl hl.1 rfl (lv_room (Nat.le_of_ble_eq_true rfl)) dX0_checkOf_2 ⟨Nat.le_of_ble_eq_true rfl, Nat.le_of_ble_eq_true rfl⟩) hS hA hP (fun H locs hP hS => ?_)
  refine lv_lstore_n (lv' := [(3, .long (mFrom (nI wd) x)), (0, .ref o), (1, .long x)]) hx hb dX0_checkOf_5 rfl hl (by decide) rfl (fun ls hl => ?_)
  refine lv_aload_n hx hb dX0_checkOf_6 rfl (lv_at hl 1 rfl) ?_
  refine va_get (D := D) (ci := 0) (v := .int bo) (C := RX0) (T := TX0) (N := 11) hx hb hts in_c_checkOf hown hK hP 0 rfl rfl 10 (by decide) (hts (.fieldLink RX0 55 "SliceChecks" "out" "Z") (by decide +kernel)) (fun _ h9 => h9) rfl dX0_checkOf_7 ?_
  refine lv_if_eq (tgt := 24) hx hb dX0_checkOf_10 (by decide) (fun c_10 => ?_) (fun c_10 => ?_)
  ·
    refine lv_lload_n hx hb dX0_checkOf_24 rfl (lv_at hl 0 rfl) ?_
    refine lv_aload_n hx hb dX0_checkOf_25 rfl (lv_at hl 1 rfl) ?_
    refine va_get (D := D) (ci := 0) (v := .long la) (C := RX0) (T := TX0) (N := 11) hx hb hts in_c_checkOf hown hK hP 0 rfl rfl 8 (by decide) (hts (.fieldLink RX0 58 "SliceChecks" "last" "J") (by decide +kernel)) (fun _ h9 => h9) rfl dX0_checkOf_26 ?_
    refine lv_lxor hx hb dX0_checkOf_29 ?_
    exact W.lret (v := ((mFrom (nI wd) x) ^^^ la)) hx hb hr (fun t ht hW => ⟨⟨((mFrom (nI wd) x) ^^^ la), (), rfl, by first | rw [mCheck, if_pos c_10] | rw [mCheck, if_neg c_10], trivial⟩, hS.F ht⟩) hS.2.2 dX0_checkOf_30
  ·
    refine lv_lload_n hx hb dX0_checkOf_13 rfl (lv_at hl 0 rfl) ?_
    refine lv_aload_n hx hb dX0_checkOf_14 rfl (lv_at hl 1 rfl) ?_
    refine va_get (D := D) (ci := 0) (v := .int (nI wd)) (C := RX0) (T := TX0) (N := 11) hx hb hts in_c_checkOf hown hK hP 0 rfl rfl 4 (by decide) (hts (.fieldLink RX0 34 "SliceChecks" "width" "I") (by decide +kernel)) (fun _ h9 => h9) rfl dX0_checkOf_15 ?_
    refine ro_l (va_runS (As := [.long (mFrom (nI wd) x), .int (nI wd)]) (rest := []) ⟨hx, hb, hml, hown, hts⟩ (c_turned (sz := H.size) (mFrom (nI wd) x) (nI wd)) (va_cwS 2 hts gX0_checkOf_X0_turned rfl rfl rfl (by decide +kernel) ⟨Nat.le_of_ble_eq_true rfl, Nat.le_of_ble_eq_true rfl⟩) preS_ST rfl rfl hl.1 rfl (lv_room (Nat.le_of_ble_eq_true rfl)) dX0_checkOf_18 ⟨Nat.le_of_ble_eq_true rfl, Nat.le_of_ble_eq_true rfl⟩) hS hA hP (fun H locs hP hS => ?_)
    refine lv_goto (tgt := 25) hx hb dX0_checkOf_21 (by decide) ?_
    refine lv_aload_n hx hb dX0_checkOf_25 rfl (lv_at hl 1 rfl) ?_
    refine va_get (D := D) (ci := 0) (v := .long la) (C := RX0) (T := TX0) (N := 11) hx hb hts in_c_checkOf hown hK hP 0 rfl rfl 8 (by decide) (hts (.fieldLink RX0 58 "SliceChecks" "last" "J") (by decide +kernel)) (fun _ h9 => h9) rfl dX0_checkOf_26 ?_
    refine lv_lxor hx hb dX0_checkOf_29 ?_
    exact W.lret (v := ((mTurned (mFrom (nI wd) x) (nI wd)) ^^^ la)) hx hb hr (fun t ht hW => ⟨⟨((mTurned (mFrom (nI wd) x) (nI wd)) ^^^ la), (), rfl, by first | rw [mCheck, if_pos c_10] | rw [mCheck, if_neg c_10], trivial⟩, hS.F ht⟩) hS.2.2 dX0_checkOf_30
theorem in_c_registerOf : ∀ w ∈ wsX00, w ∈ wsX0_registerOf := fun _ h => List.mem_cons_of_mem _ (List.mem_append_right _ h)
set_option maxHeartbeats 4000000 in
set_option maxRecDepth 100000 in
theorem c_registerOf {l : Launch} {D : va_G} {o a1 a2 a3 : Nat} {k1 k2 k3 : ClassId} {row : Nat → Int64} {dv : Nat → Int64} {sl : Nat → Int64} {nb : Nat} {wd : Nat} {po : Int64} {tp : Int64} {fi : Int64} {la : Int64} {bi : Int32} {bo : Int32} {sz : Nat} (x : Int64)  : Met l yX0_registerOf wsX0_registerOf ({ frames := 1, cells := 0, slots := 0, locals := 25 }) (va_Pc [.ref o, .long x] (pRO D vwCl (xt k1 k2 k3) (xw o a1 a2 a3 k1 k2 k3 row dv sl nb wd po tp fi la bi bo) sz)) (roL sz (mReg (nI wd) bo la x)) 0 0 (fun q : Nat => sz ≤ q) := by
  refine Met.ofW (cc := cX0_registerOf) (maxL := 5) (ret := (some .long)) (by decide) rfl ?_
  intro p e s m args below meth c s₁ B hml hv
  obtain ⟨rfl, hsz, hP, hK⟩ := hv
  have hsz : s.heap.size = sz := hsz
  have hx := B.exec
  have hb := B.bytes
  have hr := B.returns
  have hts := atoms_spec (ws := wsX0_registerOf) B.pre
  have hown : s.vm.findClass RX0 = some m.cls := findClass_of_methodNamed B.named
  have hlocks := B.notSynchronized
  subst hsz
  have hA : ∀ q : Nat, s.heap.size ≤ q → (fun q : Nat => s.heap.size ≤ q) q := fun _ h => h
  have hS : va_S (fun q : Nat => s.heap.size ≤ q) s.heap s.heap [] := va_S.rf
  have hl := lv_entry ([.ref o, .long x]) (n := 5) (Nat.le_of_ble_eq_true rfl)
  rw [lg_entry_eq]
  generalize (lg_sl ([.ref o, .long x]) ++ List.replicate (5 - (lg_sl ([.ref o, .long x])).length) Slot.unset).toArray = ls at hl ⊢
  have hl : lv_has ls 5 [(0, .ref o), (1, .long x)] := hl
  suffices key : ∀ (H : Heap) (locs : List Loc), va_P D vwCl (xw o a1 a2 a3 k1 k2 k3 row dv sl nb wd po tp fi la bi bo) H → va_S (fun q : Nat => s.heap.size ≤ q) s.heap H locs → W p l e (headSpec wsX0_registerOf { frames := 1, cells := 0, slots := 0, locals := 25 }).room s m ([.ref o, .long x] : List Value).toArray below meth c H locs 0 0 (MQ below (roL s.heap.size (mReg (nI wd) bo la x)) ([.ref o, .long x] : List Value).toArray s 0 0 (fun q : Nat => s.heap.size ≤ q)) (F0 m 0 ls []) from key s.heap [] hP hS
  intro H locs hP hS
  refine lv_lload_n hx hb dX0_registerOf_0 rfl (lv_at hl 1 rfl) ?_
  refine lv_aload_n hx hb dX0_registerOf_1 rfl (lv_at hl 0 rfl) ?_
  refine va_get (D := D) (ci := 0) (v := .long la) (C := RX0) (T := TX0) (N := 11) hx hb hts in_c_registerOf hown hK hP 0 rfl rfl 8 (by decide) (hts (.fieldLink RX0 58 "SliceChecks" "last" "J") (by decide +kernel)) (fun _ h9 => h9) rfl dX0_registerOf_2 ?_
  refine lv_lxor hx hb dX0_registerOf_5 ?_
  refine lv_lstore_n (lv' := [(3, .long (x ^^^ la)), (0, .ref o), (1, .long x)]) hx hb dX0_registerOf_6 rfl hl (by decide) rfl (fun ls hl => ?_)
  refine lv_aload_n hx hb dX0_registerOf_7 rfl (lv_at hl 1 rfl) ?_
  refine lv_aload_n hx hb dX0_registerOf_8 rfl (lv_at hl 1 rfl) ?_
  refine va_get (D := D) (ci := 0) (v := .int bo) (C := RX0) (T := TX0) (N := 11) hx hb hts in_c_registerOf hown hK hP 0 rfl rfl 10 (by decide) (hts (.fieldLink RX0 55 "SliceChecks" "out" "Z") (by decide +kernel)) (fun _ h9 => h9) rfl dX0_registerOf_9 ?_
  refine lv_if_eq (tgt := 26) hx hb dX0_registerOf_12 (by decide) (fun c_12 => ?_) (fun c_12 => ?_)
  ·
    refine lv_lload_n hx hb dX0_registerOf_26 rfl (lv_at hl 0 rfl) ?_
    refine ro_l (va_runV (As := [.long (x ^^^ la)]) (rest := []) ⟨hx, hb, hml, hown, hts⟩ (c_atTop (sz := H.size) (x ^^^ la)) (cwV 1 hts gX0_registerOf_X0_atTop rfl rfl rfl (by decide +kernel) ⟨Nat.le_of_ble_eq_true rfl, Nat.le_of_ble_eq_true rfl⟩) (preV_RO hP hK 0 (ci := 0) rfl rfl) rfl rfl hl.1 rfl (lv_room (Nat.le_of_ble_eq_true rfl)) dX0_registerOf_27 ⟨Nat.le_of_ble_eq_true rfl, Nat.le_of_ble_eq_true rfl⟩) hS hA hP (fun H locs hP hS => ?_)
    exact W.lret (v := (mTop (nI wd) (x ^^^ la))) hx hb hr (fun t ht hW => ⟨⟨(mTop (nI wd) (x ^^^ la)), (), rfl, by first | rw [mReg, if_pos c_12] | rw [mReg, if_neg c_12], trivial⟩, hS.F ht⟩) hS.2.2 dX0_registerOf_30
  ·
    refine lv_lload_n hx hb dX0_registerOf_15 rfl (lv_at hl 0 rfl) ?_
    refine lv_aload_n hx hb dX0_registerOf_16 rfl (lv_at hl 1 rfl) ?_
    refine va_get (D := D) (ci := 0) (v := .int (nI wd)) (C := RX0) (T := TX0) (N := 11) hx hb hts in_c_registerOf hown hK hP 0 rfl rfl 4 (by decide) (hts (.fieldLink RX0 34 "SliceChecks" "width" "I") (by decide +kernel)) (fun _ h9 => h9) rfl dX0_registerOf_17 ?_
    refine ro_l (va_runS (As := [.long (x ^^^ la), .int (nI wd)]) (rest := [.ref o]) ⟨hx, hb, hml, hown, hts⟩ (c_turned (sz := H.size) (x ^^^ la) (nI wd)) (va_cwS 2 hts gX0_registerOf_X0_turned rfl rfl rfl (by decide +kernel) ⟨Nat.le_of_ble_eq_true rfl, Nat.le_of_ble_eq_true rfl⟩) preS_ST rfl rfl hl.1 rfl (lv_room (Nat.le_of_ble_eq_true rfl)) dX0_registerOf_20 ⟨Nat.le_of_ble_eq_true rfl, Nat.le_of_ble_eq_true rfl⟩) hS hA hP (fun H locs hP hS => ?_)
    refine lv_goto (tgt := 27) hx hb dX0_registerOf_23 (by decide) ?_
    refine ro_l (va_runV (As := [.long (mTurned (x ^^^ la) (nI wd))]) (rest := []) ⟨hx, hb, hml, hown, hts⟩ (c_atTop (sz := H.size) (mTurned (x ^^^ la) (nI wd))) (cwV 1 hts gX0_registerOf_X0_atTop rfl rfl rfl (by decide +kernel) ⟨Nat.le_of_ble_eq_true rfl, Nat.le_of_ble_eq_true rfl⟩) (preV_RO hP hK 0 (ci := 0) rfl rfl) rfl rfl hl.1 rfl (lv_room (Nat.le_of_ble_eq_true rfl)) dX0_registerOf_27 ⟨Nat.le_of_ble_eq_true rfl, Nat.le_of_ble_eq_true rfl⟩) hS hA hP (fun H locs hP hS => ?_)
    exact W.lret (v := (mTop (nI wd) (mTurned (x ^^^ la) (nI wd)))) hx hb hr (fun t ht hW => ⟨⟨(mTop (nI wd) (mTurned (x ^^^ la) (nI wd))), (), rfl, by first | rw [mReg, if_pos c_12] | rw [mReg, if_neg c_12], trivial⟩, hS.F ht⟩) hS.2.2 dX0_registerOf_30
theorem in_c_behindBit : ∀ w ∈ wsX00, w ∈ wsX0_behindBit := fun _ h => List.mem_cons_of_mem _ (List.mem_append_right _ h)
set_option maxHeartbeats 4000000 in
set_option maxRecDepth 100000 in
theorem c_behindBit {l : Launch} {D : va_G} {o a1 a2 a3 : Nat} {k1 k2 k3 : ClassId} {row : Nat → Int64} {dv : Nat → Int64} {sl : Nat → Int64} {nb : Nat} {wd : Nat} {po : Int64} {tp : Int64} {fi : Int64} {la : Int64} {bi : Int32} {bo : Int32} {sz : Nat} (x : Int64) (b : Int32)  : Met l yX0_behindBit wsX0_behindBit ({ frames := 0, cells := 0, slots := 0, locals := 0 }) (va_Pc [.ref o, .long x, .int b] (pRO D vwCl (xt k1 k2 k3) (xw o a1 a2 a3 k1 k2 k3 row dv sl nb wd po tp fi la bi bo) sz)) (roL sz (mBit tp x b)) 0 0 (fun q : Nat => sz ≤ q) := by
  refine Met.ofW (cc := cX0_behindBit) (maxL := 6) (ret := (some .long)) (by decide) rfl ?_
  intro p e s m args below meth c s₁ B hml hv
  obtain ⟨rfl, hsz, hP, hK⟩ := hv
  have hsz : s.heap.size = sz := hsz
  have hx := B.exec
  have hb := B.bytes
  have hr := B.returns
  have hts := atoms_spec (ws := wsX0_behindBit) B.pre
  have hown : s.vm.findClass RX0 = some m.cls := findClass_of_methodNamed B.named
  have hlocks := B.notSynchronized
  subst hsz
  have hA : ∀ q : Nat, s.heap.size ≤ q → (fun q : Nat => s.heap.size ≤ q) q := fun _ h => h
  have hS : va_S (fun q : Nat => s.heap.size ≤ q) s.heap s.heap [] := va_S.rf
  have hl := lv_entry ([.ref o, .long x, .int b]) (n := 6) (Nat.le_of_ble_eq_true rfl)
  rw [lg_entry_eq]
  generalize (lg_sl ([.ref o, .long x, .int b]) ++ List.replicate (6 - (lg_sl ([.ref o, .long x, .int b])).length) Slot.unset).toArray = ls at hl ⊢
  have hl : lv_has ls 6 [(0, .ref o), (1, .long x), (3, .int b)] := hl
  suffices key : ∀ (H : Heap) (locs : List Loc), va_P D vwCl (xw o a1 a2 a3 k1 k2 k3 row dv sl nb wd po tp fi la bi bo) H → va_S (fun q : Nat => s.heap.size ≤ q) s.heap H locs → W p l e (headSpec wsX0_behindBit { frames := 0, cells := 0, slots := 0, locals := 0 }).room s m ([.ref o, .long x, .int b] : List Value).toArray below meth c H locs 0 0 (MQ below (roL s.heap.size (mBit tp x b)) ([.ref o, .long x, .int b] : List Value).toArray s 0 0 (fun q : Nat => s.heap.size ≤ q)) (F0 m 0 ls []) from key s.heap [] hP hS
  intro H locs hP hS
  refine lv_lload_n hx hb dX0_behindBit_0 rfl (lv_at hl 1 rfl) ?_
  refine lv_iconst (v := 1) hx hb dX0_behindBit_1 (by decide) ?_
  refine lv_lshl (v := jshl x 1) hx hb dX0_behindBit_2 rfl ?_
  refine lv_lstore (lv' := [(4, .long (jshl x 1)), (0, .ref o), (1, .long x), (3, .int b)]) hx hb dX0_behindBit_3 hl (by decide) rfl (fun ls hl => ?_)
  refine lv_lload_n hx hb dX0_behindBit_5 rfl (lv_at hl 2 rfl) ?_
  refine lv_bipush (v := 63) hx hb dX0_behindBit_6 (by decide) ?_
  refine lv_lushr (v := jushr x 63) hx hb dX0_behindBit_8 rfl ?_
  refine lv_iload_n hx hb dX0_behindBit_9 rfl (lv_at hl 3 rfl) ?_
  refine lv_i2l (v := b.toInt64) hx hb dX0_behindBit_10 rfl ?_
  refine W.lcmp hx hb dX0_behindBit_11 ?_
  refine lv_if_eq (tgt := 25) hx hb dX0_behindBit_12 (by decide) (fun c_12 => ?_) (fun c_12 => ?_)
  ·
    refine lv_lload hx hb dX0_behindBit_25 (lv_at hl 0 rfl) ?_
    exact W.lret (v := (jshl x 1)) hx hb hr (fun t ht hW => ⟨⟨(jshl x 1), (), rfl, by first | rw [mBit, if_pos c_12] | rw [mBit, if_neg c_12], trivial⟩, hS.F ht⟩) hS.2.2 dX0_behindBit_27
  ·
    refine lv_lload hx hb dX0_behindBit_15 (lv_at hl 0 rfl) ?_
    refine lv_aload_n hx hb dX0_behindBit_17 rfl (lv_at hl 1 rfl) ?_
    refine va_get (D := D) (ci := 0) (v := .long tp) (C := RX0) (T := TX0) (N := 11) hx hb hts in_c_behindBit hown hK hP 0 rfl rfl 6 (by decide) (hts (.fieldLink RX0 49 "SliceChecks" "topPolynomial" "J") (by decide +kernel)) (fun _ h9 => h9) rfl dX0_behindBit_18 ?_
    refine lv_lxor hx hb dX0_behindBit_21 ?_
    refine lv_goto (tgt := 27) hx hb dX0_behindBit_22 (by decide) ?_
    exact W.lret (v := ((jshl x 1) ^^^ tp)) hx hb hr (fun t ht hW => ⟨⟨((jshl x 1) ^^^ tp), (), rfl, by first | rw [mBit, if_pos c_12] | rw [mBit, if_neg c_12], trivial⟩, hS.F ht⟩) hS.2.2 dX0_behindBit_27
theorem in_c_behindByte : ∀ w ∈ wsX00, w ∈ wsX0_behindByte := fun _ h => List.mem_cons_of_mem _ (List.mem_append_right _ h)
set_option maxHeartbeats 4000000 in
set_option maxRecDepth 100000 in
theorem c_behindByte {l : Launch} {D : va_G} {o a1 a2 a3 : Nat} {k1 k2 k3 : ClassId} {row : Nat → Int64} {dv : Nat → Int64} {sl : Nat → Int64} {nb : Nat} {wd : Nat} {po : Int64} {tp : Int64} {fi : Int64} {la : Int64} {bi : Int32} {bo : Int32} {sz : Nat} (x : Int64) (b : Int32)  : Met l yX0_behindByte wsX0_behindByte ({ frames := 1, cells := 0, slots := 0, locals := 25 }) (va_Pc [.ref o, .long x, .int b] (pRO D vwCl (xt k1 k2 k3) (xw o a1 a2 a3 k1 k2 k3 row dv sl nb wd po tp fi la bi bo) sz)) (roL sz (mByte tp x b)) 0 0 (fun q : Nat => sz ≤ q) := by
  refine Met.ofW (cc := cX0_behindByte) (maxL := 7) (ret := (some .long)) (by decide) rfl ?_
  intro p e s m args below meth c s₁ B hml hv
  obtain ⟨rfl, hsz, hP, hK⟩ := hv
  have hsz : s.heap.size = sz := hsz
  have hx := B.exec
  have hb := B.bytes
  have hr := B.returns
  have hts := atoms_spec (ws := wsX0_behindByte) B.pre
  have hown : s.vm.findClass RX0 = some m.cls := findClass_of_methodNamed B.named
  have hlocks := B.notSynchronized
  subst hsz
  have hA : ∀ q : Nat, s.heap.size ≤ q → (fun q : Nat => s.heap.size ≤ q) q := fun _ h => h
  have hS : va_S (fun q : Nat => s.heap.size ≤ q) s.heap s.heap [] := va_S.rf
  have hl := lv_entry ([.ref o, .long x, .int b]) (n := 7) (Nat.le_of_ble_eq_true rfl)
  rw [lg_entry_eq]
  generalize (lg_sl ([.ref o, .long x, .int b]) ++ List.replicate (7 - (lg_sl ([.ref o, .long x, .int b])).length) Slot.unset).toArray = ls at hl ⊢
  have hl : lv_has ls 7 [(0, .ref o), (1, .long x), (3, .int b)] := hl
  suffices key : ∀ (H : Heap) (locs : List Loc), va_P D vwCl (xw o a1 a2 a3 k1 k2 k3 row dv sl nb wd po tp fi la bi bo) H → va_S (fun q : Nat => s.heap.size ≤ q) s.heap H locs → W p l e (headSpec wsX0_behindByte { frames := 1, cells := 0, slots := 0, locals := 25 }).room s m ([.ref o, .long x, .int b] : List Value).toArray below meth c H locs 0 0 (MQ below (roL s.heap.size (mByte tp x b)) ([.ref o, .long x, .int b] : List Value).toArray s 0 0 (fun q : Nat => s.heap.size ≤ q)) (F0 m 0 ls []) from key s.heap [] hP hS
  intro H locs hP hS
  refine lv_lload_n hx hb dX0_behindByte_0 rfl (lv_at hl 1 rfl) ?_
  refine lv_lstore (lv' := [(4, .long x), (0, .ref o), (1, .long x), (3, .int b)]) hx hb dX0_behindByte_1 hl (by decide) rfl (fun ls hl => ?_)
  refine lv_bipush (v := 7) hx hb dX0_behindByte_3 (by decide) ?_
  refine lv_istore (lv' := [(6, .int 7), (4, .long x), (0, .ref o), (1, .long x), (3, .int b)]) hx hb dX0_behindByte_5 hl (by decide) rfl (fun ls hl => ?_)
  have lp_7 : ∀ (k i : Nat), i ≤ 8 → 8 < i + k → ∀ (H : Heap) (locs : List Loc), va_P D vwCl (xw o a1 a2 a3 k1 k2 k3 row dv sl nb wd po tp fi la bi bo) H → va_S (fun q : Nat => s.heap.size ≤ q) s.heap H locs → ∀ ls : Array Slot, lv_has ls 7 [(6, .int (7 - nI i)), (4, .long (mByN tp x b i)), (0, .ref o), (1, .long x), (3, .int b)] → W p l e (headSpec wsX0_behindByte { frames := 1, cells := 0, slots := 0, locals := 25 }).room s m ([.ref o, .long x, .int b] : List Value).toArray below meth c H locs 0 0 (MQ below (roL s.heap.size (mByte tp x b)) ([.ref o, .long x, .int b] : List Value).toArray s 0 0 (fun q : Nat => s.heap.size ≤ q)) (F0 m 7 ls []) := by
    intro k
    induction k with
    | zero =>
      intro i h1 h2
      exact absurd h2 (by omega)
    | succ k ih =>
      intro i hi hk H locs hP hS ls hl
      refine lv_iload hx hb dX0_behindByte_7 (lv_at hl 0 rfl) ?_
      refine lv_if_lt (tgt := 32) hx hb dX0_behindByte_9 (by decide) (fun c_9 => ?_) (fun c_9 => ?_)
      ·
        have hiN := du_7a i (by omega) c_9
        refine lv_lload hx hb dX0_behindByte_32 (lv_at hl 1 rfl) ?_
        exact W.lret (v := (mByN tp x b i)) hx hb hr (fun t ht hW => ⟨⟨(mByN tp x b i), (), rfl, by subst hiN; rfl, trivial⟩, hS.F ht⟩) hS.2.2 dX0_behindByte_34
      ·
        have hlt := du_7b i (by omega) c_9
        refine lv_aload_n hx hb dX0_behindByte_12 rfl (lv_at hl 2 rfl) ?_
        refine lv_lload hx hb dX0_behindByte_13 (lv_at hl 1 rfl) ?_
        refine lv_iload_n hx hb dX0_behindByte_15 rfl (lv_at hl 4 rfl) ?_
        refine lv_iload hx hb dX0_behindByte_16 (lv_at hl 0 rfl) ?_
        refine lv_iushr (v := jiushr b (7 - nI i)) hx hb dX0_behindByte_18 rfl ?_
        refine lv_iconst (v := 1) hx hb dX0_behindByte_19 (by decide) ?_
        refine lv_iand hx hb dX0_behindByte_20 ?_
        refine ro_l (va_runV (As := [.long (mByN tp x b i), .int ((jiushr b (7 - nI i)) &&& 1)]) (rest := []) ⟨hx, hb, hml, hown, hts⟩ (c_behindBit (sz := H.size) (mByN tp x b i) ((jiushr b (7 - nI i)) &&& 1)) (cwV 2 hts gX0_behindByte_X0_behindBit rfl rfl rfl (by decide +kernel) ⟨Nat.le_of_ble_eq_true rfl, Nat.le_of_ble_eq_true rfl⟩) (preV_RO hP hK 0 (ci := 0) rfl rfl) rfl rfl hl.1 rfl (lv_room (Nat.le_of_ble_eq_true rfl)) dX0_behindByte_21 ⟨Nat.le_of_ble_eq_true rfl, Nat.le_of_ble_eq_true rfl⟩) hS hA hP (fun H locs hP hS => ?_)
        refine du_rwl (y := mByN tp x b (i + 1)) (rfl) ?_
        refine lv_lstore (lv' := [(4, .long (mByN tp x b (i + 1))), (6, .int (7 - nI i)), (0, .ref o), (1, .long x), (3, .int b)]) hx hb dX0_behindByte_24 hl (by decide) rfl (fun ls hl => ?_)
        refine lv_iinc (v := 7 - nI (i + 1)) (lv' := [(6, .int (7 - nI (i + 1))), (4, .long (mByN tp x b (i + 1))), (0, .ref o), (1, .long x), (3, .int b)]) hx hb dX0_behindByte_26 hl (k := 1) rfl (du_7c i hlt) (by decide) rfl (fun ls hl => ?_)
        refine lv_goto (tgt := 7) hx hb dX0_behindByte_29 (by decide) ?_
        exact ih (i + 1) (by omega) (by omega) H locs (hP) hS ls (lv_sub hl [0, 1, 2, 3, 4] rfl)
  exact lp_7 (8 + 1 - 0) 0 (by omega) (by omega) H locs (hP) hS ls (lv_sub hl [0, 1, 2, 3, 4] rfl)
theorem in_c_behindByteByTable : ∀ w ∈ wsX00, w ∈ wsX0_behindByteByTable := fun _ h => List.mem_cons_of_mem _ (List.mem_append_right _ h)
set_option maxHeartbeats 4000000 in
set_option maxRecDepth 100000 in
theorem c_behindByteByTable {l : Launch} {D : va_G} {o a1 a2 a3 : Nat} {k1 k2 k3 : ClassId} {row : Nat → Int64} {dv : Nat → Int64} {sl : Nat → Int64} {nb : Nat} {wd : Nat} {po : Int64} {tp : Int64} {fi : Int64} {la : Int64} {bi : Int32} {bo : Int32} {sz : Nat} (x : Int64) (b : Int32) (hix : vp_in ((jushr x 56).toInt32 ^^^ b) 2048) : Met l yX0_behindByteByTable wsX0_behindByteByTable ({ frames := 0, cells := 0, slots := 0, locals := 0 }) (va_Pc [.ref o, .long x, .int b] (pRO D vwCl (xt k1 k2 k3) (xw o a1 a2 a3 k1 k2 k3 row dv sl nb wd po tp fi la bi bo) sz)) (roL sz (mTab sl x b)) 0 0 (fun q : Nat => sz ≤ q) := by
  refine Met.ofW (cc := cX0_behindByteByTable) (maxL := 4) (ret := (some .long)) (by decide) rfl ?_
  intro p e s m args below meth c s₁ B hml hv
  obtain ⟨rfl, hsz, hP, hK⟩ := hv
  have hsz : s.heap.size = sz := hsz
  have hx := B.exec
  have hb := B.bytes
  have hr := B.returns
  have hts := atoms_spec (ws := wsX0_behindByteByTable) B.pre
  have hown : s.vm.findClass RX0 = some m.cls := findClass_of_methodNamed B.named
  have hlocks := B.notSynchronized
  subst hsz
  have hA : ∀ q : Nat, s.heap.size ≤ q → (fun q : Nat => s.heap.size ≤ q) q := fun _ h => h
  have hS : va_S (fun q : Nat => s.heap.size ≤ q) s.heap s.heap [] := va_S.rf
  have hl := lv_entry ([.ref o, .long x, .int b]) (n := 4) (Nat.le_of_ble_eq_true rfl)
  rw [lg_entry_eq]
  generalize (lg_sl ([.ref o, .long x, .int b]) ++ List.replicate (4 - (lg_sl ([.ref o, .long x, .int b])).length) Slot.unset).toArray = ls at hl ⊢
  have hl : lv_has ls 4 [(0, .ref o), (1, .long x), (3, .int b)] := hl
  suffices key : ∀ (H : Heap) (locs : List Loc), va_P D vwCl (xw o a1 a2 a3 k1 k2 k3 row dv sl nb wd po tp fi la bi bo) H → va_S (fun q : Nat => s.heap.size ≤ q) s.heap H locs → W p l e (headSpec wsX0_behindByteByTable { frames := 0, cells := 0, slots := 0, locals := 0 }).room s m ([.ref o, .long x, .int b] : List Value).toArray below meth c H locs 0 0 (MQ below (roL s.heap.size (mTab sl x b)) ([.ref o, .long x, .int b] : List Value).toArray s 0 0 (fun q : Nat => s.heap.size ≤ q)) (F0 m 0 ls []) from key s.heap [] hP hS
  intro H locs hP hS
  refine lv_lload_n hx hb dX0_behindByteByTable_0 rfl (lv_at hl 1 rfl) ?_
  refine lv_bipush (v := 8) hx hb dX0_behindByteByTable_1 (by decide) ?_
  refine lv_lshl (v := jshl x 8) hx hb dX0_behindByteByTable_3 rfl ?_
  refine lv_aload_n hx hb dX0_behindByteByTable_4 rfl (lv_at hl 0 rfl) ?_
  refine va_get (D := D) (ci := 0) (v := .ref a3) (C := RX0) (T := TX0) (N := 11) hx hb hts in_c_behindByteByTable hown hK hP 0 rfl rfl 2 (by decide) (hts (.fieldLink RX0 16 "SliceChecks" "slices" "[J") (by decide +kernel)) (fun _ h9 => h9) rfl dX0_behindByteByTable_5 ?_
  refine lv_lload_n hx hb dX0_behindByteByTable_8 rfl (lv_at hl 1 rfl) ?_
  refine lv_bipush (v := 56) hx hb dX0_behindByteByTable_9 (by decide) ?_
  refine lv_lushr (v := jushr x 56) hx hb dX0_behindByteByTable_11 rfl ?_
  refine lv_l2i (v := (jushr x 56).toInt32) hx hb dX0_behindByteByTable_12 rfl ?_
  refine lv_iload_n hx hb dX0_behindByteByTable_13 rfl (lv_at hl 2 rfl) ?_
  refine lv_ixor hx hb dX0_behindByteByTable_14 ?_
  refine va_lald hx hb hK hP 3 2 rfl rfl (i := ((jushr x 56).toInt32) ^^^ b) (hix) dX0_behindByteByTable_15 ?_
  refine lv_lxor hx hb dX0_behindByteByTable_16 ?_
  exact W.lret (v := ((jshl x 8) ^^^ (sl (((jushr x 56).toInt32) ^^^ b).toNatClampNeg))) hx hb hr (fun t ht hW => ⟨⟨((jshl x 8) ^^^ (sl (((jushr x 56).toInt32) ^^^ b).toNatClampNeg)), (), rfl, rfl, trivial⟩, hS.F ht⟩) hS.2.2 dX0_behindByteByTable_17
theorem in_c_behindWordByTables : ∀ w ∈ wsX00, w ∈ wsX0_behindWordByTables := fun _ h => List.mem_cons_of_mem _ (List.mem_append_right _ h)
set_option maxHeartbeats 4000000 in
set_option maxRecDepth 100000 in
theorem c_behindWordByTables {l : Launch} {D : va_G} {o a1 a2 a3 : Nat} {k1 k2 k3 : ClassId} {row : Nat → Int64} {dv : Nat → Int64} {sl : Nat → Int64} {nb : Nat} {wd : Nat} {po : Int64} {tp : Int64} {fi : Int64} {la : Int64} {bi : Int32} {bo : Int32} {sz : Nat} (x : Int64) (y : Int64)  : Met l yX0_behindWordByTables wsX0_behindWordByTables ({ frames := 0, cells := 0, slots := 0, locals := 0 }) (va_Pc [.ref o, .long x, .long y] (pRO D vwCl (xt k1 k2 k3) (xw o a1 a2 a3 k1 k2 k3 row dv sl nb wd po tp fi la bi bo) sz)) (roL sz (mWord sl x y)) 0 0 (fun q : Nat => sz ≤ q) := by
  refine Met.ofW (cc := cX0_behindWordByTables) (maxL := 10) (ret := (some .long)) (by decide) rfl ?_
  intro p e s m args below meth c s₁ B hml hv
  obtain ⟨rfl, hsz, hP, hK⟩ := hv
  have hsz : s.heap.size = sz := hsz
  have hx := B.exec
  have hb := B.bytes
  have hr := B.returns
  have hts := atoms_spec (ws := wsX0_behindWordByTables) B.pre
  have hown : s.vm.findClass RX0 = some m.cls := findClass_of_methodNamed B.named
  have hlocks := B.notSynchronized
  subst hsz
  have hA : ∀ q : Nat, s.heap.size ≤ q → (fun q : Nat => s.heap.size ≤ q) q := fun _ h => h
  have hS : va_S (fun q : Nat => s.heap.size ≤ q) s.heap s.heap [] := va_S.rf
  have hl := lv_entry ([.ref o, .long x, .long y]) (n := 10) (Nat.le_of_ble_eq_true rfl)
  rw [lg_entry_eq]
  generalize (lg_sl ([.ref o, .long x, .long y]) ++ List.replicate (10 - (lg_sl ([.ref o, .long x, .long y])).length) Slot.unset).toArray = ls at hl ⊢
  have hl : lv_has ls 10 [(0, .ref o), (1, .long x), (3, .long y)] := hl
  suffices key : ∀ (H : Heap) (locs : List Loc), va_P D vwCl (xw o a1 a2 a3 k1 k2 k3 row dv sl nb wd po tp fi la bi bo) H → va_S (fun q : Nat => s.heap.size ≤ q) s.heap H locs → W p l e (headSpec wsX0_behindWordByTables { frames := 0, cells := 0, slots := 0, locals := 0 }).room s m ([.ref o, .long x, .long y] : List Value).toArray below meth c H locs 0 0 (MQ below (roL s.heap.size (mWord sl x y)) ([.ref o, .long x, .long y] : List Value).toArray s 0 0 (fun q : Nat => s.heap.size ≤ q)) (F0 m 0 ls []) from key s.heap [] hP hS
  intro H locs hP hS
  refine lv_lload_n hx hb dX0_behindWordByTables_0 rfl (lv_at hl 1 rfl) ?_
  refine lv_lload_n hx hb dX0_behindWordByTables_1 rfl (lv_at hl 2 rfl) ?_
  refine lv_lxor hx hb dX0_behindWordByTables_2 ?_
  refine lv_lstore (lv' := [(5, .long (x ^^^ y)), (0, .ref o), (1, .long x), (3, .long y)]) hx hb dX0_behindWordByTables_3 hl (by decide) rfl (fun ls hl => ?_)
  refine lv_lconst (v := 0) hx hb dX0_behindWordByTables_5 (by decide) ?_
  refine lv_lstore (lv' := [(7, .long 0), (5, .long (x ^^^ y)), (0, .ref o), (1, .long x), (3, .long y)]) hx hb dX0_behindWordByTables_6 hl (by decide) rfl (fun ls hl => ?_)
  refine lv_iconst (v := 0) hx hb dX0_behindWordByTables_8 (by decide) ?_
  refine lv_istore (lv' := [(9, .int 0), (7, .long 0), (5, .long (x ^^^ y)), (0, .ref o), (1, .long x), (3, .long y)]) hx hb dX0_behindWordByTables_9 hl (by decide) rfl (fun ls hl => ?_)
  have lp_11 : ∀ (k i : Nat), i ≤ 8 → 8 < i + k → ∀ (H : Heap) (locs : List Loc), va_P D vwCl (xw o a1 a2 a3 k1 k2 k3 row dv sl nb wd po tp fi la bi bo) H → va_S (fun q : Nat => s.heap.size ≤ q) s.heap H locs → ∀ ls : Array Slot, lv_has ls 10 [(9, .int (nI i)), (7, .long (mWdA sl (x ^^^ y) i)), (5, .long (mWdL (x ^^^ y) i)), (0, .ref o), (1, .long x), (3, .long y)] → W p l e (headSpec wsX0_behindWordByTables { frames := 0, cells := 0, slots := 0, locals := 0 }).room s m ([.ref o, .long x, .long y] : List Value).toArray below meth c H locs 0 0 (MQ below (roL s.heap.size (mWord sl x y)) ([.ref o, .long x, .long y] : List Value).toArray s 0 0 (fun q : Nat => s.heap.size ≤ q)) (F0 m 11 ls []) := by
    intro k
    induction k with
    | zero =>
      intro i h1 h2
      exact absurd h2 (by omega)
    | succ k ih =>
      intro i hi hk H locs hP hS ls hl
      refine lv_iload hx hb dX0_behindWordByTables_11 (lv_at hl 0 rfl) ?_
      refine lv_bipush (v := 8) hx hb dX0_behindWordByTables_13 (by decide) ?_
      refine lv_icmp_ge (tgt := 55) hx hb dX0_behindWordByTables_15 (by decide) (fun c_15 => ?_) (fun c_15 => ?_)
      ·
        have hiN := du_ge (N := 8) (by omega) hi c_15
        refine lv_lload hx hb dX0_behindWordByTables_55 (lv_at hl 1 rfl) ?_
        exact W.lret (v := (mWdA sl (x ^^^ y) i)) hx hb hr (fun t ht hW => ⟨⟨(mWdA sl (x ^^^ y) i), (), rfl, by subst hiN; rfl, trivial⟩, hS.F ht⟩) hS.2.2 dX0_behindWordByTables_57
      ·
        have hlt := du_lt (N := 8) (by omega) hi c_15
        refine lv_lload hx hb dX0_behindWordByTables_18 (lv_at hl 1 rfl) ?_
        refine lv_aload_n hx hb dX0_behindWordByTables_20 rfl (lv_at hl 3 rfl) ?_
        refine va_get (D := D) (ci := 0) (v := .ref a3) (C := RX0) (T := TX0) (N := 11) hx hb hts in_c_behindWordByTables hown hK hP 0 rfl rfl 2 (by decide) (hts (.fieldLink RX0 16 "SliceChecks" "slices" "[J") (by decide +kernel)) (fun _ h9 => h9) rfl dX0_behindWordByTables_21 ?_
        refine lv_iload hx hb dX0_behindWordByTables_24 (lv_at hl 0 rfl) ?_
        refine lv_sipush (v := 256) hx hb dX0_behindWordByTables_26 (by decide) ?_
        refine lv_imul hx hb dX0_behindWordByTables_29 ?_
        refine lv_lload hx hb dX0_behindWordByTables_30 (lv_at hl 2 rfl) ?_
        refine lv_ldc2 hx hb hown (hts (.constantLong RX0 137 255) (by decide +kernel)) dX0_behindWordByTables_32 ?_
        refine lv_land hx hb dX0_behindWordByTables_35 ?_
        refine lv_l2i (v := ((mWdL (x ^^^ y) i) &&& 255).toInt32) hx hb dX0_behindWordByTables_36 rfl ?_
        refine lv_iadd hx hb dX0_behindWordByTables_37 ?_
        refine va_lald hx hb hK hP 3 2 rfl rfl (i := ((nI i) * 256) + (((mWdL (x ^^^ y) i) &&& 255).toInt32)) (du_wix hlt _) dX0_behindWordByTables_38 ?_
        refine lv_lxor hx hb dX0_behindWordByTables_39 ?_
        refine du_rwl (y := mWdA sl (x ^^^ y) (i + 1)) (rfl) ?_
        refine lv_lstore (lv' := [(7, .long (mWdA sl (x ^^^ y) (i + 1))), (9, .int (nI i)), (5, .long (mWdL (x ^^^ y) i)), (0, .ref o), (1, .long x), (3, .long y)]) hx hb dX0_behindWordByTables_40 hl (by decide) rfl (fun ls hl => ?_)
        refine lv_lload hx hb dX0_behindWordByTables_42 (lv_at hl 2 rfl) ?_
        refine lv_bipush (v := 8) hx hb dX0_behindWordByTables_44 (by decide) ?_
        refine lv_lushr (v := jushr (mWdL (x ^^^ y) i) 8) hx hb dX0_behindWordByTables_46 rfl ?_
        refine du_rwl (y := mWdL (x ^^^ y) (i + 1)) (rfl) ?_
        refine lv_lstore (lv' := [(5, .long (mWdL (x ^^^ y) (i + 1))), (7, .long (mWdA sl (x ^^^ y) (i + 1))), (9, .int (nI i)), (0, .ref o), (1, .long x), (3, .long y)]) hx hb dX0_behindWordByTables_47 hl (by decide) rfl (fun ls hl => ?_)
        refine lv_iinc (v := nI (i + 1)) (lv' := [(9, .int (nI (i + 1))), (5, .long (mWdL (x ^^^ y) (i + 1))), (7, .long (mWdA sl (x ^^^ y) (i + 1))), (0, .ref o), (1, .long x), (3, .long y)]) hx hb dX0_behindWordByTables_49 hl (k := 2) rfl (nI_1 i) (by decide) rfl (fun ls hl => ?_)
        refine lv_goto (tgt := 11) hx hb dX0_behindWordByTables_52 (by decide) ?_
        exact ih (i + 1) (by omega) (by omega) H locs (hP) hS ls (lv_sub hl [0, 2, 1, 3, 4, 5] rfl)
  exact lp_11 (8 + 1 - 0) 0 (by omega) (by omega) H locs (hP) hS ls (lv_sub hl [0, 1, 2, 3, 4, 5] rfl)
theorem in_c_product : ∀ w ∈ wsX00, w ∈ wsX0_product := fun _ h => List.mem_cons_of_mem _ (List.mem_append_right _ h)
set_option maxHeartbeats 4000000 in
set_option maxRecDepth 100000 in
theorem c_product {l : Launch} {D : va_G} {o a1 a2 a3 : Nat} {k1 k2 k3 : ClassId} {row : Nat → Int64} {dv : Nat → Int64} {sl : Nat → Int64} {nb : Nat} {wd : Nat} {po : Int64} {tp : Int64} {fi : Int64} {la : Int64} {bi : Int32} {bo : Int32} {sz : Nat} (x : Int64) (y : Int64) (hw : wd ≤ 64) : Met l yX0_product wsX0_product ({ frames := 1, cells := 0, slots := 0, locals := 25 }) (va_Pc [.ref o, .long x, .long y] (pRO D vwCl (xt k1 k2 k3) (xw o a1 a2 a3 k1 k2 k3 row dv sl nb wd po tp fi la bi bo) sz)) (roL sz (mProd (nI wd) tp x y)) 0 0 (fun q : Nat => sz ≤ q) := by
  refine Met.ofW (cc := cX0_product) (maxL := 8) (ret := (some .long)) (by decide) rfl ?_
  intro p e s m args below meth c s₁ B hml hv
  obtain ⟨rfl, hsz, hP, hK⟩ := hv
  have hsz : s.heap.size = sz := hsz
  have hx := B.exec
  have hb := B.bytes
  have hr := B.returns
  have hts := atoms_spec (ws := wsX0_product) B.pre
  have hown : s.vm.findClass RX0 = some m.cls := findClass_of_methodNamed B.named
  have hlocks := B.notSynchronized
  subst hsz
  have hA : ∀ q : Nat, s.heap.size ≤ q → (fun q : Nat => s.heap.size ≤ q) q := fun _ h => h
  have hS : va_S (fun q : Nat => s.heap.size ≤ q) s.heap s.heap [] := va_S.rf
  have hl := lv_entry ([.ref o, .long x, .long y]) (n := 8) (Nat.le_of_ble_eq_true rfl)
  rw [lg_entry_eq]
  generalize (lg_sl ([.ref o, .long x, .long y]) ++ List.replicate (8 - (lg_sl ([.ref o, .long x, .long y])).length) Slot.unset).toArray = ls at hl ⊢
  have hl : lv_has ls 8 [(0, .ref o), (1, .long x), (3, .long y)] := hl
  suffices key : ∀ (H : Heap) (locs : List Loc), va_P D vwCl (xw o a1 a2 a3 k1 k2 k3 row dv sl nb wd po tp fi la bi bo) H → va_S (fun q : Nat => s.heap.size ≤ q) s.heap H locs → W p l e (headSpec wsX0_product { frames := 1, cells := 0, slots := 0, locals := 25 }).room s m ([.ref o, .long x, .long y] : List Value).toArray below meth c H locs 0 0 (MQ below (roL s.heap.size (mProd (nI wd) tp x y)) ([.ref o, .long x, .long y] : List Value).toArray s 0 0 (fun q : Nat => s.heap.size ≤ q)) (F0 m 0 ls []) from key s.heap [] hP hS
  intro H locs hP hS
  refine lv_lconst (v := 0) hx hb dX0_product_0 (by decide) ?_
  refine lv_lstore (lv' := [(5, .long 0), (0, .ref o), (1, .long x), (3, .long y)]) hx hb dX0_product_1 hl (by decide) rfl (fun ls hl => ?_)
  refine lv_iconst (v := 0) hx hb dX0_product_3 (by decide) ?_
  refine lv_istore (lv' := [(7, .int 0), (5, .long 0), (0, .ref o), (1, .long x), (3, .long y)]) hx hb dX0_product_4 hl (by decide) rfl (fun ls hl => ?_)
  have lp_6 : ∀ (k i : Nat), i ≤ wd → wd < i + k → ∀ (H : Heap) (locs : List Loc), va_P D vwCl (xw o a1 a2 a3 k1 k2 k3 row dv sl nb wd po tp fi la bi bo) H → va_S (fun q : Nat => s.heap.size ≤ q) s.heap H locs → ∀ ls : Array Slot, lv_has ls 8 [(7, .int (nI i)), (5, .long (mPrN tp x y i)), (0, .ref o), (1, .long x), (3, .long y)] → W p l e (headSpec wsX0_product { frames := 1, cells := 0, slots := 0, locals := 25 }).room s m ([.ref o, .long x, .long y] : List Value).toArray below meth c H locs 0 0 (MQ below (roL s.heap.size (mProd (nI wd) tp x y)) ([.ref o, .long x, .long y] : List Value).toArray s 0 0 (fun q : Nat => s.heap.size ≤ q)) (F0 m 6 ls []) := by
    intro k
    induction k with
    | zero =>
      intro i h1 h2
      exact absurd h2 (by omega)
    | succ k ih =>
      intro i hi hk H locs hP hS ls hl
      refine lv_iload hx hb dX0_product_6 (lv_at hl 0 rfl) ?_
      refine lv_aload_n hx hb dX0_product_8 rfl (lv_at hl 2 rfl) ?_
      refine va_get (D := D) (ci := 0) (v := .int (nI wd)) (C := RX0) (T := TX0) (N := 11) hx hb hts in_c_product hown hK hP 0 rfl rfl 4 (by decide) (hts (.fieldLink RX0 34 "SliceChecks" "width" "I") (by decide +kernel)) (fun _ h9 => h9) rfl dX0_product_9 ?_
      refine lv_icmp_ge (tgt := 45) hx hb dX0_product_12 (by decide) (fun c_12 => ?_) (fun c_12 => ?_)
      ·
        have hiN := du_ge (by omega) hi c_12
        refine lv_lload hx hb dX0_product_45 (lv_at hl 1 rfl) ?_
        exact W.lret (v := (mPrN tp x y i)) hx hb hr (fun t ht hW => ⟨⟨(mPrN tp x y i), (), rfl, by rw [hiN, mProd, nI_clamp (by omega)], trivial⟩, hS.F ht⟩) hS.2.2 dX0_product_47
      ·
        have hlt := du_lt (by omega) hi c_12
        refine lv_aload_n hx hb dX0_product_15 rfl (lv_at hl 2 rfl) ?_
        refine lv_lload hx hb dX0_product_16 (lv_at hl 1 rfl) ?_
        refine lv_iconst (v := 0) hx hb dX0_product_18 (by decide) ?_
        refine ro_l (va_runV (As := [.long (mPrN tp x y i), .int 0]) (rest := []) ⟨hx, hb, hml, hown, hts⟩ (c_behindBit (sz := H.size) (mPrN tp x y i) 0) (cwV 2 hts gX0_product_X0_behindBit rfl rfl rfl (by decide +kernel) ⟨Nat.le_of_ble_eq_true rfl, Nat.le_of_ble_eq_true rfl⟩) (preV_RO hP hK 0 (ci := 0) rfl rfl) rfl rfl hl.1 rfl (lv_room (Nat.le_of_ble_eq_true rfl)) dX0_product_19 ⟨Nat.le_of_ble_eq_true rfl, Nat.le_of_ble_eq_true rfl⟩) hS hA hP (fun H locs hP hS => ?_)
        refine lv_lstore (lv' := [(5, .long (mBit tp (mPrN tp x y i) 0)), (7, .int (nI i)), (0, .ref o), (1, .long x), (3, .long y)]) hx hb dX0_product_22 hl (by decide) rfl (fun ls hl => ?_)
        refine lv_lload_n hx hb dX0_product_24 rfl (lv_at hl 3 rfl) ?_
        refine lv_iload hx hb dX0_product_25 (lv_at hl 1 rfl) ?_
        refine lv_lshl (v := jshl x (nI i)) hx hb dX0_product_27 rfl ?_
        refine lv_lconst (v := 0) hx hb dX0_product_28 (by decide) ?_
        refine W.lcmp hx hb dX0_product_29 ?_
        refine lv_if_ge (tgt := 39) hx hb dX0_product_30 (by decide) (fun c_30 => ?_) (fun c_30 => ?_)
        ·
          have pr_e : mBit tp (mPrN tp x y i) 0 = mPrN tp x y (i + 1) := by rw [mPrN, if_pos c_30]
          refine lv_iinc (v := nI (i + 1)) (lv' := [(7, .int (nI (i + 1))), (5, .long (mBit tp (mPrN tp x y i) 0)), (0, .ref o), (1, .long x), (3, .long y)]) hx hb dX0_product_39 hl (k := 1) rfl (nI_1 i) (by decide) rfl (fun ls hl => ?_)
          refine lv_goto (tgt := 6) hx hb dX0_product_42 (by decide) ?_
          rw [pr_e] at hl
          exact ih (i + 1) (by omega) (by omega) H locs (hP) hS ls (lv_sub hl [0, 1, 2, 3, 4] rfl)
        ·
          have pr_e : mBit tp (mPrN tp x y i) 0 ^^^ y = mPrN tp x y (i + 1) := by rw [mPrN, if_neg c_30]
          refine lv_lload hx hb dX0_product_33 (lv_at hl 0 rfl) ?_
          refine lv_lload_n hx hb dX0_product_35 rfl (lv_at hl 4 rfl) ?_
          refine lv_lxor hx hb dX0_product_36 ?_
          refine lv_lstore (lv' := [(5, .long ((mBit tp (mPrN tp x y i) 0) ^^^ y)), (7, .int (nI i)), (0, .ref o), (1, .long x), (3, .long y)]) hx hb dX0_product_37 hl (by decide) rfl (fun ls hl => ?_)
          refine lv_iinc (v := nI (i + 1)) (lv' := [(7, .int (nI (i + 1))), (5, .long ((mBit tp (mPrN tp x y i) 0) ^^^ y)), (0, .ref o), (1, .long x), (3, .long y)]) hx hb dX0_product_39 hl (k := 1) rfl (nI_1 i) (by decide) rfl (fun ls hl => ?_)
          refine lv_goto (tgt := 6) hx hb dX0_product_42 (by decide) ?_
          rw [pr_e] at hl
          exact ih (i + 1) (by omega) (by omega) H locs (hP) hS ls (lv_sub hl [0, 1, 2, 3, 4] rfl)
  exact lp_6 (wd + 1 - 0) 0 (by omega) (by omega) H locs (hP) hS ls (lv_sub hl [0, 1, 2, 3, 4] rfl)
theorem in_c_behindZeros : ∀ w ∈ wsX00, w ∈ wsX0_behindZeros := fun _ h => List.mem_cons_of_mem _ (List.mem_append_right _ h)
set_option maxHeartbeats 4000000 in
set_option maxRecDepth 100000 in
theorem c_behindZeros {l : Launch} {D : va_G} {o a1 a2 a3 : Nat} {k1 k2 k3 : ClassId} {row : Nat → Int64} {dv : Nat → Int64} {sl : Nat → Int64} {nb : Nat} {wd : Nat} {po : Int64} {tp : Int64} {fi : Int64} {la : Int64} {bi : Int32} {bo : Int32} {sz : Nat} (x : Int64) (z : Int64) (hw : wd ≤ 64) : Met l yX0_behindZeros wsX0_behindZeros ({ frames := 2, cells := 0, slots := 0, locals := 52 }) (va_Pc [.ref o, .long x, .long z] (pRO D vwCl (xt k1 k2 k3) (xw o a1 a2 a3 k1 k2 k3 row dv sl nb wd po tp fi la bi bo) sz)) (roL sz (mZeros (nI wd) tp x z)) 0 0 (fun q : Nat => sz ≤ q) := by
  refine Met.ofW (cc := cX0_behindZeros) (maxL := 10) (ret := (some .long)) (by decide) rfl ?_
  intro p e s m args below meth c s₁ B hml hv
  obtain ⟨rfl, hsz, hP, hK⟩ := hv
  have hsz : s.heap.size = sz := hsz
  have hx := B.exec
  have hb := B.bytes
  have hr := B.returns
  have hts := atoms_spec (ws := wsX0_behindZeros) B.pre
  have hown : s.vm.findClass RX0 = some m.cls := findClass_of_methodNamed B.named
  have hlocks := B.notSynchronized
  subst hsz
  have hA : ∀ q : Nat, s.heap.size ≤ q → (fun q : Nat => s.heap.size ≤ q) q := fun _ h => h
  have hS : va_S (fun q : Nat => s.heap.size ≤ q) s.heap s.heap [] := va_S.rf
  have hl := lv_entry ([.ref o, .long x, .long z]) (n := 10) (Nat.le_of_ble_eq_true rfl)
  rw [lg_entry_eq]
  generalize (lg_sl ([.ref o, .long x, .long z]) ++ List.replicate (10 - (lg_sl ([.ref o, .long x, .long z])).length) Slot.unset).toArray = ls at hl ⊢
  have hl : lv_has ls 10 [(0, .ref o), (1, .long x), (3, .long z)] := hl
  suffices key : ∀ (H : Heap) (locs : List Loc), va_P D vwCl (xw o a1 a2 a3 k1 k2 k3 row dv sl nb wd po tp fi la bi bo) H → va_S (fun q : Nat => s.heap.size ≤ q) s.heap H locs → W p l e (headSpec wsX0_behindZeros { frames := 2, cells := 0, slots := 0, locals := 52 }).room s m ([.ref o, .long x, .long z] : List Value).toArray below meth c H locs 0 0 (MQ below (roL s.heap.size (mZeros (nI wd) tp x z)) ([.ref o, .long x, .long z] : List Value).toArray s 0 0 (fun q : Nat => s.heap.size ≤ q)) (F0 m 0 ls []) from key s.heap [] hP hS
  intro H locs hP hS
  refine lv_lload_n hx hb dX0_behindZeros_0 rfl (lv_at hl 1 rfl) ?_
  refine lv_lstore (lv' := [(5, .long x), (0, .ref o), (1, .long x), (3, .long z)]) hx hb dX0_behindZeros_1 hl (by decide) rfl (fun ls hl => ?_)
  refine lv_aload_n hx hb dX0_behindZeros_3 rfl (lv_at hl 1 rfl) ?_
  refine lv_aload_n hx hb dX0_behindZeros_4 rfl (lv_at hl 1 rfl) ?_
  refine lv_lconst (v := 1) hx hb dX0_behindZeros_5 (by decide) ?_
  refine ro_l (va_runV (As := [.long 1]) (rest := [.ref o]) ⟨hx, hb, hml, hown, hts⟩ (c_atTop (sz := H.size) 1) (cwV 1 hts gX0_behindZeros_X0_atTop rfl rfl rfl (by decide +kernel) ⟨Nat.le_of_ble_eq_true rfl, Nat.le_of_ble_eq_true rfl⟩) (preV_RO hP hK 0 (ci := 0) rfl rfl) rfl rfl hl.1 rfl (lv_room (Nat.le_of_ble_eq_true rfl)) dX0_behindZeros_6 ⟨Nat.le_of_ble_eq_true rfl, Nat.le_of_ble_eq_true rfl⟩) hS hA hP (fun H locs hP hS => ?_)
  refine lv_iconst (v := 0) hx hb dX0_behindZeros_9 (by decide) ?_
  refine ro_l (va_runV (As := [.long (mTop (nI wd) 1), .int 0]) (rest := []) ⟨hx, hb, hml, hown, hts⟩ (c_behindBit (sz := H.size) (mTop (nI wd) 1) 0) (cwV 2 hts gX0_behindZeros_X0_behindBit rfl rfl rfl (by decide +kernel) ⟨Nat.le_of_ble_eq_true rfl, Nat.le_of_ble_eq_true rfl⟩) (preV_RO hP hK 0 (ci := 0) rfl rfl) rfl rfl hl.1 rfl (lv_room (Nat.le_of_ble_eq_true rfl)) dX0_behindZeros_10 ⟨Nat.le_of_ble_eq_true rfl, Nat.le_of_ble_eq_true rfl⟩) hS hA hP (fun H locs hP hS => ?_)
  refine lv_lstore (lv' := [(7, .long (mBit tp (mTop (nI wd) 1) 0)), (5, .long x), (0, .ref o), (1, .long x), (3, .long z)]) hx hb dX0_behindZeros_13 hl (by decide) rfl (fun ls hl => ?_)
  refine lv_iconst (v := 0) hx hb dX0_behindZeros_15 (by decide) ?_
  refine lv_istore (lv' := [(9, .int 0), (7, .long (mBit tp (mTop (nI wd) 1) 0)), (5, .long x), (0, .ref o), (1, .long x), (3, .long z)]) hx hb dX0_behindZeros_16 hl (by decide) rfl (fun ls hl => ?_)
  have lp_18 : ∀ (k i : Nat), i ≤ 34 → 34 < i + k → ∀ (H : Heap) (locs : List Loc), va_P D vwCl (xw o a1 a2 a3 k1 k2 k3 row dv sl nb wd po tp fi la bi bo) H → va_S (fun q : Nat => s.heap.size ≤ q) s.heap H locs → ∀ ls : Array Slot, lv_has ls 10 [(9, .int (nI i)), (7, .long (mPw (nI wd) tp i)), (5, .long (mZaN (nI wd) tp x z i)), (0, .ref o), (1, .long x), (3, .long z)] → W p l e (headSpec wsX0_behindZeros { frames := 2, cells := 0, slots := 0, locals := 52 }).room s m ([.ref o, .long x, .long z] : List Value).toArray below meth c H locs 0 0 (MQ below (roL s.heap.size (mZeros (nI wd) tp x z)) ([.ref o, .long x, .long z] : List Value).toArray s 0 0 (fun q : Nat => s.heap.size ≤ q)) (F0 m 18 ls []) := by
    intro k
    induction k with
    | zero =>
      intro i h1 h2
      exact absurd h2 (by omega)
    | succ k ih =>
      intro i hi hk H locs hP hS ls hl
      refine lv_iload hx hb dX0_behindZeros_18 (lv_at hl 0 rfl) ?_
      refine lv_bipush (v := 34) hx hb dX0_behindZeros_20 (by decide) ?_
      refine lv_icmp_ge (tgt := 71) hx hb dX0_behindZeros_22 (by decide) (fun c_22 => ?_) (fun c_22 => ?_)
      ·
        have hiN := du_ge (N := 34) (by omega) hi c_22
        have hrz : mZaN (nI wd) tp x z i = mZeros (nI wd) tp x z := by rw [hiN]; rfl
        refine lv_lload hx hb dX0_behindZeros_71 (lv_at hl 2 rfl) ?_
        exact W.lret (v := (mZaN (nI wd) tp x z i)) hx hb hr (fun t ht hW => ⟨⟨(mZaN (nI wd) tp x z i), (), rfl, hrz, trivial⟩, hS.F ht⟩) hS.2.2 dX0_behindZeros_73
      ·
        have hlt := du_lt (N := 34) (by omega) hi c_22
        refine lv_lload_n hx hb dX0_behindZeros_25 rfl (lv_at hl 5 rfl) ?_
        refine lv_iload hx hb dX0_behindZeros_26 (lv_at hl 0 rfl) ?_
        refine lv_lushr (v := jushr z (nI i)) hx hb dX0_behindZeros_28 rfl ?_
        refine lv_lconst (v := 0) hx hb dX0_behindZeros_29 (by decide) ?_
        refine W.lcmp hx hb dX0_behindZeros_30 ?_
        refine lv_if_eq (tgt := 71) hx hb dX0_behindZeros_31 (by decide) (fun c_31 => ?_) (fun c_31 => ?_)
        ·
          have hrz : mZaN (nI wd) tp x z i = mZeros (nI wd) tp x z := du_zst hlt ((lg_cmp_eq _ _).mp c_31)
          refine lv_lload hx hb dX0_behindZeros_71 (lv_at hl 2 rfl) ?_
          exact W.lret (v := (mZaN (nI wd) tp x z i)) hx hb hr (fun t ht hW => ⟨⟨(mZaN (nI wd) tp x z i), (), rfl, hrz, trivial⟩, hS.F ht⟩) hS.2.2 dX0_behindZeros_73
        ·
          refine lv_lload_n hx hb dX0_behindZeros_34 rfl (lv_at hl 5 rfl) ?_
          refine lv_iload hx hb dX0_behindZeros_35 (lv_at hl 0 rfl) ?_
          refine lv_lushr (v := jushr z (nI i)) hx hb dX0_behindZeros_37 rfl ?_
          refine lv_lconst (v := 1) hx hb dX0_behindZeros_38 (by decide) ?_
          refine lv_land hx hb dX0_behindZeros_39 ?_
          refine lv_lconst (v := 1) hx hb dX0_behindZeros_40 (by decide) ?_
          refine W.lcmp hx hb dX0_behindZeros_41 ?_
          refine lv_if_ne (tgt := 55) hx hb dX0_behindZeros_42 (by decide) (fun c_42 => ?_) (fun c_42 => ?_)
          ·
            have za_e : mZaN (nI wd) tp x z i = mZaN (nI wd) tp x z (i + 1) := by rw [mZaN, if_neg c_42]
            refine lv_aload_n hx hb dX0_behindZeros_55 rfl (lv_at hl 3 rfl) ?_
            refine lv_lload hx hb dX0_behindZeros_56 (lv_at hl 1 rfl) ?_
            refine lv_lload hx hb dX0_behindZeros_58 (lv_at hl 1 rfl) ?_
            refine ro_l (va_runV (As := [.long (mPw (nI wd) tp i), .long (mPw (nI wd) tp i)]) (rest := []) ⟨hx, hb, hml, hown, hts⟩ (c_product (sz := H.size) (mPw (nI wd) tp i) (mPw (nI wd) tp i) (hw)) (cwV 2 hts gX0_behindZeros_X0_product rfl rfl rfl (by decide +kernel) ⟨Nat.le_of_ble_eq_true rfl, Nat.le_of_ble_eq_true rfl⟩) (preV_RO hP hK 0 (ci := 0) rfl rfl) rfl rfl hl.1 rfl (lv_room (Nat.le_of_ble_eq_true rfl)) dX0_behindZeros_60 ⟨Nat.le_of_ble_eq_true rfl, Nat.le_of_ble_eq_true rfl⟩) hS hA hP (fun H locs hP hS => ?_)
            refine du_rwl (y := mPw (nI wd) tp (i + 1)) (rfl) ?_
            refine lv_lstore (lv' := [(7, .long (mPw (nI wd) tp (i + 1))), (9, .int (nI i)), (5, .long (mZaN (nI wd) tp x z i)), (0, .ref o), (1, .long x), (3, .long z)]) hx hb dX0_behindZeros_63 hl (by decide) rfl (fun ls hl => ?_)
            refine lv_iinc (v := nI (i + 1)) (lv' := [(9, .int (nI (i + 1))), (7, .long (mPw (nI wd) tp (i + 1))), (5, .long (mZaN (nI wd) tp x z i)), (0, .ref o), (1, .long x), (3, .long z)]) hx hb dX0_behindZeros_65 hl (k := 1) rfl (nI_1 i) (by decide) rfl (fun ls hl => ?_)
            refine lv_goto (tgt := 18) hx hb dX0_behindZeros_68 (by decide) ?_
            rw [za_e] at hl
            exact ih (i + 1) (by omega) (by omega) H locs (hP) hS ls (lv_sub hl [0, 1, 2, 3, 4, 5] rfl)
          ·
            have za_e : mProd (nI wd) tp (mZaN (nI wd) tp x z i) (mPw (nI wd) tp i) = mZaN (nI wd) tp x z (i + 1) := by rw [mZaN, if_pos c_42]
            refine lv_aload_n hx hb dX0_behindZeros_45 rfl (lv_at hl 3 rfl) ?_
            refine lv_lload hx hb dX0_behindZeros_46 (lv_at hl 2 rfl) ?_
            refine lv_lload hx hb dX0_behindZeros_48 (lv_at hl 1 rfl) ?_
            refine ro_l (va_runV (As := [.long (mZaN (nI wd) tp x z i), .long (mPw (nI wd) tp i)]) (rest := []) ⟨hx, hb, hml, hown, hts⟩ (c_product (sz := H.size) (mZaN (nI wd) tp x z i) (mPw (nI wd) tp i) (hw)) (cwV 2 hts gX0_behindZeros_X0_product rfl rfl rfl (by decide +kernel) ⟨Nat.le_of_ble_eq_true rfl, Nat.le_of_ble_eq_true rfl⟩) (preV_RO hP hK 0 (ci := 0) rfl rfl) rfl rfl hl.1 rfl (lv_room (Nat.le_of_ble_eq_true rfl)) dX0_behindZeros_50 ⟨Nat.le_of_ble_eq_true rfl, Nat.le_of_ble_eq_true rfl⟩) hS hA hP (fun H locs hP hS => ?_)
            refine lv_lstore (lv' := [(5, .long (mProd (nI wd) tp (mZaN (nI wd) tp x z i) (mPw (nI wd) tp i))), (9, .int (nI i)), (7, .long (mPw (nI wd) tp i)), (0, .ref o), (1, .long x), (3, .long z)]) hx hb dX0_behindZeros_53 hl (by decide) rfl (fun ls hl => ?_)
            refine lv_aload_n hx hb dX0_behindZeros_55 rfl (lv_at hl 3 rfl) ?_
            refine lv_lload hx hb dX0_behindZeros_56 (lv_at hl 2 rfl) ?_
            refine lv_lload hx hb dX0_behindZeros_58 (lv_at hl 2 rfl) ?_
            refine ro_l (va_runV (As := [.long (mPw (nI wd) tp i), .long (mPw (nI wd) tp i)]) (rest := []) ⟨hx, hb, hml, hown, hts⟩ (c_product (sz := H.size) (mPw (nI wd) tp i) (mPw (nI wd) tp i) (hw)) (cwV 2 hts gX0_behindZeros_X0_product rfl rfl rfl (by decide +kernel) ⟨Nat.le_of_ble_eq_true rfl, Nat.le_of_ble_eq_true rfl⟩) (preV_RO hP hK 0 (ci := 0) rfl rfl) rfl rfl hl.1 rfl (lv_room (Nat.le_of_ble_eq_true rfl)) dX0_behindZeros_60 ⟨Nat.le_of_ble_eq_true rfl, Nat.le_of_ble_eq_true rfl⟩) hS hA hP (fun H locs hP hS => ?_)
            refine du_rwl (y := mPw (nI wd) tp (i + 1)) (rfl) ?_
            refine lv_lstore (lv' := [(7, .long (mPw (nI wd) tp (i + 1))), (5, .long (mProd (nI wd) tp (mZaN (nI wd) tp x z i) (mPw (nI wd) tp i))), (9, .int (nI i)), (0, .ref o), (1, .long x), (3, .long z)]) hx hb dX0_behindZeros_63 hl (by decide) rfl (fun ls hl => ?_)
            refine lv_iinc (v := nI (i + 1)) (lv' := [(9, .int (nI (i + 1))), (7, .long (mPw (nI wd) tp (i + 1))), (5, .long (mProd (nI wd) tp (mZaN (nI wd) tp x z i) (mPw (nI wd) tp i))), (0, .ref o), (1, .long x), (3, .long z)]) hx hb dX0_behindZeros_65 hl (k := 2) rfl (nI_1 i) (by decide) rfl (fun ls hl => ?_)
            refine lv_goto (tgt := 18) hx hb dX0_behindZeros_68 (by decide) ?_
            rw [za_e] at hl
            exact ih (i + 1) (by omega) (by omega) H locs (hP) hS ls (lv_sub hl [0, 1, 2, 3, 4, 5] rfl)
  exact lp_18 (34 + 1 - 0) 0 (by omega) (by omega) H locs (hP) hS ls (lv_sub hl [0, 1, 2, 3, 4, 5] rfl)
set_option maxHeartbeats 4000000 in
set_option maxRecDepth 100000 in
theorem c_isByte {l : Launch} {sz : Nat} (b : Int32)  : Met l yX0_isByte wsX0_isByte ({ frames := 0, cells := 0, slots := 0, locals := 0 }) (va_Pc [.int b] (pST sz)) (roI sz (mIsB b)) 0 0 (fun q : Nat => sz ≤ q) := by
  refine Met.ofW (cc := cX0_isByte) (maxL := 1) (ret := (some .boolean)) (by decide) rfl ?_
  intro p e s m args below meth c s₁ B hml hv
  obtain ⟨rfl, hsz⟩ := hv
  have hsz : s.heap.size = sz := hsz
  have hx := B.exec
  have hb := B.bytes
  have hr := B.returns
  have hts := atoms_spec (ws := wsX0_isByte) B.pre
  have hown : s.vm.findClass RX0 = some m.cls := findClass_of_methodNamed B.named
  have hlocks := B.notSynchronized
  subst hsz
  have hA : ∀ q : Nat, s.heap.size ≤ q → (fun q : Nat => s.heap.size ≤ q) q := fun _ h => h
  have hS : va_S (fun q : Nat => s.heap.size ≤ q) s.heap s.heap [] := va_S.rf
  have hl := lv_entry ([.int b]) (n := 1) (Nat.le_of_ble_eq_true rfl)
  rw [lg_entry_eq]
  generalize (lg_sl ([.int b]) ++ List.replicate (1 - (lg_sl ([.int b])).length) Slot.unset).toArray = ls at hl ⊢
  have hl : lv_has ls 1 [(0, .int b)] := hl
  suffices key : ∀ (H : Heap) (locs : List Loc), va_S (fun q : Nat => s.heap.size ≤ q) s.heap H locs → W p l e (headSpec wsX0_isByte { frames := 0, cells := 0, slots := 0, locals := 0 }).room s m ([.int b] : List Value).toArray below meth c H locs 0 0 (MQ below (roI s.heap.size (mIsB b)) ([.int b] : List Value).toArray s 0 0 (fun q : Nat => s.heap.size ≤ q)) (F0 m 0 ls []) from key s.heap [] hS
  intro H locs hS
  refine lv_iload_n hx hb dX0_isByte_0 rfl (lv_at hl 0 rfl) ?_
  refine lv_if_lt (tgt := 15) hx hb dX0_isByte_1 (by decide) (fun c_1 => ?_) (fun c_1 => ?_)
  ·
    refine lv_iconst (v := 0) hx hb dX0_isByte_15 (by decide) ?_
    exact W.zret (v := 0) hx hb hr (by decide) (fun t ht hW => ⟨⟨0, (), rfl, by first | rw [mIsB, if_pos c_1] | rw [mIsB, if_neg c_1, if_pos c_8] | rw [mIsB, if_neg c_1, if_neg c_8], trivial⟩, hS.F ht⟩) hS.2.2 dX0_isByte_16
  ·
    refine lv_iload_n hx hb dX0_isByte_4 rfl (lv_at hl 0 rfl) ?_
    refine lv_sipush (v := 256) hx hb dX0_isByte_5 (by decide) ?_
    refine lv_icmp_ge (tgt := 15) hx hb dX0_isByte_8 (by decide) (fun c_8 => ?_) (fun c_8 => ?_)
    ·
      refine lv_iconst (v := 0) hx hb dX0_isByte_15 (by decide) ?_
      exact W.zret (v := 0) hx hb hr (by decide) (fun t ht hW => ⟨⟨0, (), rfl, by first | rw [mIsB, if_pos c_1] | rw [mIsB, if_neg c_1, if_pos c_8] | rw [mIsB, if_neg c_1, if_neg c_8], trivial⟩, hS.F ht⟩) hS.2.2 dX0_isByte_16
    ·
      refine lv_iconst (v := 1) hx hb dX0_isByte_11 (by decide) ?_
      refine lv_goto (tgt := 16) hx hb dX0_isByte_12 (by decide) ?_
      exact W.zret (v := 1) hx hb hr (by decide) (fun t ht hW => ⟨⟨1, (), rfl, by first | rw [mIsB, if_pos c_1] | rw [mIsB, if_neg c_1, if_pos c_8] | rw [mIsB, if_neg c_1, if_neg c_8], trivial⟩, hS.F ht⟩) hS.2.2 dX0_isByte_16
theorem in_c_asItComes : ∀ w ∈ wsX00, w ∈ wsX0_asItComes := fun _ h => List.mem_cons_of_mem _ (List.mem_append_right _ h)
set_option maxHeartbeats 4000000 in
set_option maxRecDepth 100000 in
theorem c_asItComes {l : Launch} {D : va_G} {o a1 a2 a3 : Nat} {k1 k2 k3 : ClassId} {row : Nat → Int64} {dv : Nat → Int64} {sl : Nat → Int64} {nb : Nat} {wd : Nat} {po : Int64} {tp : Int64} {fi : Int64} {la : Int64} {bi : Int32} {bo : Int32} {sz : Nat} (b : Int32)  : Met l yX0_asItComes wsX0_asItComes ({ frames := 1, cells := 0, slots := 0, locals := 25 }) (va_Pc [.ref o, .int b] (pRO D vwCl (xt k1 k2 k3) (xw o a1 a2 a3 k1 k2 k3 row dv sl nb wd po tp fi la bi bo) sz)) (roL sz (mCome bi b)) 0 0 (fun q : Nat => sz ≤ q) := by
  refine Met.ofW (cc := cX0_asItComes) (maxL := 2) (ret := (some .long)) (by decide) rfl ?_
  intro p e s m args below meth c s₁ B hml hv
  obtain ⟨rfl, hsz, hP, hK⟩ := hv
  have hsz : s.heap.size = sz := hsz
  have hx := B.exec
  have hb := B.bytes
  have hr := B.returns
  have hts := atoms_spec (ws := wsX0_asItComes) B.pre
  have hown : s.vm.findClass RX0 = some m.cls := findClass_of_methodNamed B.named
  have hlocks := B.notSynchronized
  subst hsz
  have hA : ∀ q : Nat, s.heap.size ≤ q → (fun q : Nat => s.heap.size ≤ q) q := fun _ h => h
  have hS : va_S (fun q : Nat => s.heap.size ≤ q) s.heap s.heap [] := va_S.rf
  have hl := lv_entry ([.ref o, .int b]) (n := 2) (Nat.le_of_ble_eq_true rfl)
  rw [lg_entry_eq]
  generalize (lg_sl ([.ref o, .int b]) ++ List.replicate (2 - (lg_sl ([.ref o, .int b])).length) Slot.unset).toArray = ls at hl ⊢
  have hl : lv_has ls 2 [(0, .ref o), (1, .int b)] := hl
  suffices key : ∀ (H : Heap) (locs : List Loc), va_P D vwCl (xw o a1 a2 a3 k1 k2 k3 row dv sl nb wd po tp fi la bi bo) H → va_S (fun q : Nat => s.heap.size ≤ q) s.heap H locs → W p l e (headSpec wsX0_asItComes { frames := 1, cells := 0, slots := 0, locals := 25 }).room s m ([.ref o, .int b] : List Value).toArray below meth c H locs 0 0 (MQ below (roL s.heap.size (mCome bi b)) ([.ref o, .int b] : List Value).toArray s 0 0 (fun q : Nat => s.heap.size ≤ q)) (F0 m 0 ls []) from key s.heap [] hP hS
  intro H locs hP hS
  refine lv_aload_n hx hb dX0_asItComes_0 rfl (lv_at hl 0 rfl) ?_
  refine va_get (D := D) (ci := 0) (v := .int bi) (C := RX0) (T := TX0) (N := 11) hx hb hts in_c_asItComes hown hK hP 0 rfl rfl 9 (by decide) (hts (.fieldLink RX0 27 "SliceChecks" "in" "Z") (by decide +kernel)) (fun _ h9 => h9) rfl dX0_asItComes_1 ?_
  refine lv_if_eq (tgt := 17) hx hb dX0_asItComes_4 (by decide) (fun c_4 => ?_) (fun c_4 => ?_)
  ·
    refine lv_iload_n hx hb dX0_asItComes_17 rfl (lv_at hl 1 rfl) ?_
    refine lv_i2l (v := b.toInt64) hx hb dX0_asItComes_18 rfl ?_
    exact W.lret (v := b.toInt64) hx hb hr (fun t ht hW => ⟨⟨b.toInt64, (), rfl, by first | rw [mCome, if_pos c_4] | rw [mCome, if_neg c_4], trivial⟩, hS.F ht⟩) hS.2.2 dX0_asItComes_19
  ·
    refine lv_iload_n hx hb dX0_asItComes_7 rfl (lv_at hl 1 rfl) ?_
    refine lv_i2l (v := b.toInt64) hx hb dX0_asItComes_8 rfl ?_
    refine lv_bipush (v := 8) hx hb dX0_asItComes_9 (by decide) ?_
    refine ro_l (va_runS (As := [.long b.toInt64, .int 8]) (rest := []) ⟨hx, hb, hml, hown, hts⟩ (c_turned (sz := H.size) b.toInt64 8) (va_cwS 2 hts gX0_asItComes_X0_turned rfl rfl rfl (by decide +kernel) ⟨Nat.le_of_ble_eq_true rfl, Nat.le_of_ble_eq_true rfl⟩) preS_ST rfl rfl hl.1 rfl (lv_room (Nat.le_of_ble_eq_true rfl)) dX0_asItComes_11 ⟨Nat.le_of_ble_eq_true rfl, Nat.le_of_ble_eq_true rfl⟩) hS hA hP (fun H locs hP hS => ?_)
    refine lv_goto (tgt := 19) hx hb dX0_asItComes_14 (by decide) ?_
    exact W.lret (v := (mTurned b.toInt64 8)) hx hb hr (fun t ht hW => ⟨⟨(mTurned b.toInt64 8), (), rfl, by first | rw [mCome, if_pos c_4] | rw [mCome, if_neg c_4], trivial⟩, hS.F ht⟩) hS.2.2 dX0_asItComes_19
theorem in_c_bitsOfRow : ∀ w ∈ wsX00, w ∈ wsX0_bitsOfRow := fun _ h => List.mem_cons_of_mem _ (List.mem_append_right _ h)
set_option maxHeartbeats 4000000 in
set_option maxRecDepth 100000 in
theorem c_bitsOfRow {l : Launch} {D : va_G} {o a1 a2 a3 : Nat} {k1 k2 k3 : ClassId} {row : Nat → Int64} {dv : Nat → Int64} {sl : Nat → Int64} {nb : Nat} {wd : Nat} {po : Int64} {tp : Int64} {fi : Int64} {la : Int64} {bi : Int32} {bo : Int32} {sz : Nat}   : Met l yX0_bitsOfRow wsX0_bitsOfRow ({ frames := 0, cells := 0, slots := 0, locals := 0 }) (va_Pc [.ref o] (pRO D vwCl (xt k1 k2 k3) (xw o a1 a2 a3 k1 k2 k3 row dv sl nb wd po tp fi la bi bo) sz)) (roI sz (nI (nb * 8))) 0 0 (fun q : Nat => sz ≤ q) := by
  refine Met.ofW (cc := cX0_bitsOfRow) (maxL := 1) (ret := (some .int)) (by decide) rfl ?_
  intro p e s m args below meth c s₁ B hml hv
  obtain ⟨rfl, hsz, hP, hK⟩ := hv
  have hsz : s.heap.size = sz := hsz
  have hx := B.exec
  have hb := B.bytes
  have hr := B.returns
  have hts := atoms_spec (ws := wsX0_bitsOfRow) B.pre
  have hown : s.vm.findClass RX0 = some m.cls := findClass_of_methodNamed B.named
  have hlocks := B.notSynchronized
  subst hsz
  have hA : ∀ q : Nat, s.heap.size ≤ q → (fun q : Nat => s.heap.size ≤ q) q := fun _ h => h
  have hS : va_S (fun q : Nat => s.heap.size ≤ q) s.heap s.heap [] := va_S.rf
  have hl := lv_entry ([.ref o]) (n := 1) (Nat.le_of_ble_eq_true rfl)
  rw [lg_entry_eq]
  generalize (lg_sl ([.ref o]) ++ List.replicate (1 - (lg_sl ([.ref o])).length) Slot.unset).toArray = ls at hl ⊢
  have hl : lv_has ls 1 [(0, .ref o)] := hl
  suffices key : ∀ (H : Heap) (locs : List Loc), va_P D vwCl (xw o a1 a2 a3 k1 k2 k3 row dv sl nb wd po tp fi la bi bo) H → va_S (fun q : Nat => s.heap.size ≤ q) s.heap H locs → W p l e (headSpec wsX0_bitsOfRow { frames := 0, cells := 0, slots := 0, locals := 0 }).room s m ([.ref o] : List Value).toArray below meth c H locs 0 0 (MQ below (roI s.heap.size (nI (nb * 8))) ([.ref o] : List Value).toArray s 0 0 (fun q : Nat => s.heap.size ≤ q)) (F0 m 0 ls []) from key s.heap [] hP hS
  intro H locs hP hS
  refine lv_aload_n hx hb dX0_bitsOfRow_0 rfl (lv_at hl 0 rfl) ?_
  refine va_get (D := D) (ci := 0) (v := .int (nI nb)) (C := RX0) (T := TX0) (N := 11) hx hb hts in_c_bitsOfRow hown hK hP 0 rfl rfl 3 (by decide) (hts (.fieldLink RX0 68 "SliceChecks" "bytes" "I") (by decide +kernel)) (fun _ h9 => h9) rfl dX0_bitsOfRow_1 ?_
  refine lv_bipush (v := 8) hx hb dX0_bitsOfRow_4 (by decide) ?_
  refine lv_imul hx hb dX0_bitsOfRow_6 ?_
  exact W.iret (v := ((nI nb) * 8)) hx hb hr (fun t ht hW => ⟨⟨((nI nb) * 8), (), rfl, pk_mul nb 8, trivial⟩, hS.F ht⟩) hS.2.2 dX0_bitsOfRow_7
set_option maxHeartbeats 4000000 in
set_option maxRecDepth 100000 in
theorem c_shiftOfByte {l : Launch} {sz : Nat} (b : Int32)  : Met l yX0_shiftOfByte wsX0_shiftOfByte ({ frames := 0, cells := 0, slots := 0, locals := 0 }) (va_Pc [.int b] (pST sz)) (roI sz (mSh b)) 0 0 (fun q : Nat => sz ≤ q) := by
  refine Met.ofW (cc := cX0_shiftOfByte) (maxL := 1) (ret := (some .int)) (by decide) rfl ?_
  intro p e s m args below meth c s₁ B hml hv
  obtain ⟨rfl, hsz⟩ := hv
  have hsz : s.heap.size = sz := hsz
  have hx := B.exec
  have hb := B.bytes
  have hr := B.returns
  have hts := atoms_spec (ws := wsX0_shiftOfByte) B.pre
  have hown : s.vm.findClass RX0 = some m.cls := findClass_of_methodNamed B.named
  have hlocks := B.notSynchronized
  subst hsz
  have hA : ∀ q : Nat, s.heap.size ≤ q → (fun q : Nat => s.heap.size ≤ q) q := fun _ h => h
  have hS : va_S (fun q : Nat => s.heap.size ≤ q) s.heap s.heap [] := va_S.rf
  have hl := lv_entry ([.int b]) (n := 1) (Nat.le_of_ble_eq_true rfl)
  rw [lg_entry_eq]
  generalize (lg_sl ([.int b]) ++ List.replicate (1 - (lg_sl ([.int b])).length) Slot.unset).toArray = ls at hl ⊢
  have hl : lv_has ls 1 [(0, .int b)] := hl
  suffices key : ∀ (H : Heap) (locs : List Loc), va_S (fun q : Nat => s.heap.size ≤ q) s.heap H locs → W p l e (headSpec wsX0_shiftOfByte { frames := 0, cells := 0, slots := 0, locals := 0 }).room s m ([.int b] : List Value).toArray below meth c H locs 0 0 (MQ below (roI s.heap.size (mSh b)) ([.int b] : List Value).toArray s 0 0 (fun q : Nat => s.heap.size ≤ q)) (F0 m 0 ls []) from key s.heap [] hS
  intro H locs hS
  refine lv_bipush (v := 56) hx hb dX0_shiftOfByte_0 (by decide) ?_
  refine lv_iload_n hx hb dX0_shiftOfByte_2 rfl (lv_at hl 0 rfl) ?_
  refine lv_bipush (v := 8) hx hb dX0_shiftOfByte_3 (by decide) ?_
  refine lv_irem hx hb dX0_shiftOfByte_5 (by decide) ?_
  refine lv_bipush (v := 8) hx hb dX0_shiftOfByte_6 (by decide) ?_
  refine lv_imul hx hb dX0_shiftOfByte_8 ?_
  refine lv_isub hx hb dX0_shiftOfByte_9 ?_
  exact W.iret (v := (56 - ((b - b / 8 * 8) * 8))) hx hb hr (fun t ht hW => ⟨⟨(56 - ((b - b / 8 * 8) * 8)), (), rfl, rfl, trivial⟩, hS.F ht⟩) hS.2.2 dX0_shiftOfByte_10
theorem in_c_byteAt : ∀ w ∈ wsX00, w ∈ wsX0_byteAt := fun _ h => List.mem_cons_of_mem _ (List.mem_append_right _ h)
set_option maxHeartbeats 4000000 in
set_option maxRecDepth 100000 in
theorem c_byteAt {l : Launch} {D : va_G} {o a1 a2 a3 : Nat} {k1 k2 k3 : ClassId} {row : Nat → Int64} {dv : Nat → Int64} {sl : Nat → Int64} {nb : Nat} {wd : Nat} {po : Int64} {tp : Int64} {fi : Int64} {la : Int64} {bi : Int32} {bo : Int32} {sz : Nat} (j : Int32) (hj : vp_in (j / 8) 625) : Met l yX0_byteAt wsX0_byteAt ({ frames := 1, cells := 0, slots := 0, locals := 20 }) (va_Pc [.ref o, .int j] (pRO D vwCl (xt k1 k2 k3) (xw o a1 a2 a3 k1 k2 k3 row dv sl nb wd po tp fi la bi bo) sz)) (roI sz (mByA row j)) 0 0 (fun q : Nat => sz ≤ q) := by
  refine Met.ofW (cc := cX0_byteAt) (maxL := 2) (ret := (some .int)) (by decide) rfl ?_
  intro p e s m args below meth c s₁ B hml hv
  obtain ⟨rfl, hsz, hP, hK⟩ := hv
  have hsz : s.heap.size = sz := hsz
  have hx := B.exec
  have hb := B.bytes
  have hr := B.returns
  have hts := atoms_spec (ws := wsX0_byteAt) B.pre
  have hown : s.vm.findClass RX0 = some m.cls := findClass_of_methodNamed B.named
  have hlocks := B.notSynchronized
  subst hsz
  have hA : ∀ q : Nat, s.heap.size ≤ q → (fun q : Nat => s.heap.size ≤ q) q := fun _ h => h
  have hS : va_S (fun q : Nat => s.heap.size ≤ q) s.heap s.heap [] := va_S.rf
  have hl := lv_entry ([.ref o, .int j]) (n := 2) (Nat.le_of_ble_eq_true rfl)
  rw [lg_entry_eq]
  generalize (lg_sl ([.ref o, .int j]) ++ List.replicate (2 - (lg_sl ([.ref o, .int j])).length) Slot.unset).toArray = ls at hl ⊢
  have hl : lv_has ls 2 [(0, .ref o), (1, .int j)] := hl
  suffices key : ∀ (H : Heap) (locs : List Loc), va_P D vwCl (xw o a1 a2 a3 k1 k2 k3 row dv sl nb wd po tp fi la bi bo) H → va_S (fun q : Nat => s.heap.size ≤ q) s.heap H locs → W p l e (headSpec wsX0_byteAt { frames := 1, cells := 0, slots := 0, locals := 20 }).room s m ([.ref o, .int j] : List Value).toArray below meth c H locs 0 0 (MQ below (roI s.heap.size (mByA row j)) ([.ref o, .int j] : List Value).toArray s 0 0 (fun q : Nat => s.heap.size ≤ q)) (F0 m 0 ls []) from key s.heap [] hP hS
  intro H locs hP hS
  refine lv_aload_n hx hb dX0_byteAt_0 rfl (lv_at hl 0 rfl) ?_
  refine va_get (D := D) (ci := 0) (v := .ref a1) (C := RX0) (T := TX0) (N := 11) hx hb hts in_c_byteAt hown hK hP 0 rfl rfl 0 (by decide) (hts (.fieldLink RX0 9 "SliceChecks" "row" "[J") (by decide +kernel)) (fun _ h9 => h9) rfl dX0_byteAt_1 ?_
  refine lv_iload_n hx hb dX0_byteAt_4 rfl (lv_at hl 1 rfl) ?_
  refine lv_bipush (v := 8) hx hb dX0_byteAt_5 (by decide) ?_
  refine lv_idiv hx hb dX0_byteAt_7 (by decide) ?_
  refine va_lald hx hb hK hP 1 0 rfl rfl (i := j / 8) (hj) dX0_byteAt_8 ?_
  refine lv_iload_n hx hb dX0_byteAt_9 rfl (lv_at hl 1 rfl) ?_
  refine ro_i (va_runS (As := [.int j]) (rest := [.long (row (j / 8).toNatClampNeg)]) ⟨hx, hb, hml, hown, hts⟩ (c_shiftOfByte (sz := H.size) j) (va_cwS 1 hts gX0_byteAt_X0_shiftOfByte rfl rfl rfl (by decide +kernel) ⟨Nat.le_of_ble_eq_true rfl, Nat.le_of_ble_eq_true rfl⟩) preS_ST rfl rfl hl.1 rfl (lv_room (Nat.le_of_ble_eq_true rfl)) dX0_byteAt_10 ⟨Nat.le_of_ble_eq_true rfl, Nat.le_of_ble_eq_true rfl⟩) hS hA hP (fun H locs hP hS => ?_)
  refine lv_lushr (v := jushr (row (j / 8).toNatClampNeg) (mSh j)) hx hb dX0_byteAt_13 rfl ?_
  refine lv_l2i (v := (jushr (row (j / 8).toNatClampNeg) (mSh j)).toInt32) hx hb dX0_byteAt_14 rfl ?_
  refine lv_sipush (v := 255) hx hb dX0_byteAt_15 (by decide) ?_
  refine lv_iand hx hb dX0_byteAt_18 ?_
  exact W.iret (v := (((jushr (row (j / 8).toNatClampNeg) (mSh j)).toInt32) &&& 255)) hx hb hr (fun t ht hW => ⟨⟨(((jushr (row (j / 8).toNatClampNeg) (mSh j)).toInt32) &&& 255), (), rfl, rfl, trivial⟩, hS.F ht⟩) hS.2.2 dX0_byteAt_19
set_option maxHeartbeats 4000000 in
set_option maxRecDepth 100000 in
theorem c_bytesTurned {l : Launch} {sz : Nat} (x : Int64)  : Met l yX0_bytesTurned wsX0_bytesTurned ({ frames := 0, cells := 0, slots := 0, locals := 0 }) (va_Pc [.long x] (pST sz)) (roL sz (mBT x)) 0 0 (fun q : Nat => sz ≤ q) := by
  refine Met.ofW (cc := cX0_bytesTurned) (maxL := 6) (ret := (some .long)) (by decide) rfl ?_
  intro p e s m args below meth c s₁ B hml hv
  obtain ⟨rfl, hsz⟩ := hv
  have hsz : s.heap.size = sz := hsz
  have hx := B.exec
  have hb := B.bytes
  have hr := B.returns
  have hts := atoms_spec (ws := wsX0_bytesTurned) B.pre
  have hown : s.vm.findClass RX0 = some m.cls := findClass_of_methodNamed B.named
  have hlocks := B.notSynchronized
  subst hsz
  have hA : ∀ q : Nat, s.heap.size ≤ q → (fun q : Nat => s.heap.size ≤ q) q := fun _ h => h
  have hS : va_S (fun q : Nat => s.heap.size ≤ q) s.heap s.heap [] := va_S.rf
  have hl := lv_entry ([.long x]) (n := 6) (Nat.le_of_ble_eq_true rfl)
  rw [lg_entry_eq]
  generalize (lg_sl ([.long x]) ++ List.replicate (6 - (lg_sl ([.long x])).length) Slot.unset).toArray = ls at hl ⊢
  have hl : lv_has ls 6 [(0, .long x)] := hl
  suffices key : ∀ (H : Heap) (locs : List Loc), va_S (fun q : Nat => s.heap.size ≤ q) s.heap H locs → W p l e (headSpec wsX0_bytesTurned { frames := 0, cells := 0, slots := 0, locals := 0 }).room s m ([.long x] : List Value).toArray below meth c H locs 0 0 (MQ below (roL s.heap.size (mBT x)) ([.long x] : List Value).toArray s 0 0 (fun q : Nat => s.heap.size ≤ q)) (F0 m 0 ls []) from key s.heap [] hS
  intro H locs hS
  refine lv_lload_n hx hb dX0_bytesTurned_0 rfl (lv_at hl 0 rfl) ?_
  refine lv_ldc2 hx hb hown (hts (.constantLong RX0 151 1085102592571150095) (by decide +kernel)) dX0_bytesTurned_1 ?_
  refine lv_land hx hb dX0_bytesTurned_4 ?_
  refine lv_iconst (v := 4) hx hb dX0_bytesTurned_5 (by decide) ?_
  refine lv_lshl (v := jshl (x &&& 1085102592571150095) 4) hx hb dX0_bytesTurned_6 rfl ?_
  refine lv_lload_n hx hb dX0_bytesTurned_7 rfl (lv_at hl 0 rfl) ?_
  refine lv_iconst (v := 4) hx hb dX0_bytesTurned_8 (by decide) ?_
  refine lv_lushr (v := jushr x 4) hx hb dX0_bytesTurned_9 rfl ?_
  refine lv_ldc2 hx hb hown (hts (.constantLong RX0 151 1085102592571150095) (by decide +kernel)) dX0_bytesTurned_10 ?_
  refine lv_land hx hb dX0_bytesTurned_13 ?_
  refine lv_lor hx hb dX0_bytesTurned_14 ?_
  refine du_rwl (y := mBT1 x) (rfl) ?_
  refine lv_lstore_n (lv' := [(2, .long (mBT1 x)), (0, .long x)]) hx hb dX0_bytesTurned_15 rfl hl (by decide) rfl (fun ls hl => ?_)
  refine lv_lload_n hx hb dX0_bytesTurned_16 rfl (lv_at hl 0 rfl) ?_
  refine lv_ldc2 hx hb hown (hts (.constantLong RX0 153 3689348814741910323) (by decide +kernel)) dX0_bytesTurned_17 ?_
  refine lv_land hx hb dX0_bytesTurned_20 ?_
  refine lv_iconst (v := 2) hx hb dX0_bytesTurned_21 (by decide) ?_
  refine lv_lshl (v := jshl ((mBT1 x) &&& 3689348814741910323) 2) hx hb dX0_bytesTurned_22 rfl ?_
  refine lv_lload_n hx hb dX0_bytesTurned_23 rfl (lv_at hl 0 rfl) ?_
  refine lv_iconst (v := 2) hx hb dX0_bytesTurned_24 (by decide) ?_
  refine lv_lushr (v := jushr (mBT1 x) 2) hx hb dX0_bytesTurned_25 rfl ?_
  refine lv_ldc2 hx hb hown (hts (.constantLong RX0 153 3689348814741910323) (by decide +kernel)) dX0_bytesTurned_26 ?_
  refine lv_land hx hb dX0_bytesTurned_29 ?_
  refine lv_lor hx hb dX0_bytesTurned_30 ?_
  refine du_rwl (y := mBT2 (mBT1 x)) (rfl) ?_
  refine lv_lstore (lv' := [(4, .long (mBT2 (mBT1 x))), (2, .long (mBT1 x)), (0, .long x)]) hx hb dX0_bytesTurned_31 hl (by decide) rfl (fun ls hl => ?_)
  refine lv_lload hx hb dX0_bytesTurned_33 (lv_at hl 0 rfl) ?_
  refine lv_ldc2 hx hb hown (hts (.constantLong RX0 155 6148914691236517205) (by decide +kernel)) dX0_bytesTurned_35 ?_
  refine lv_land hx hb dX0_bytesTurned_38 ?_
  refine lv_iconst (v := 1) hx hb dX0_bytesTurned_39 (by decide) ?_
  refine lv_lshl (v := jshl ((mBT2 (mBT1 x)) &&& 6148914691236517205) 1) hx hb dX0_bytesTurned_40 rfl ?_
  refine lv_lload hx hb dX0_bytesTurned_41 (lv_at hl 0 rfl) ?_
  refine lv_iconst (v := 1) hx hb dX0_bytesTurned_43 (by decide) ?_
  refine lv_lushr (v := jushr (mBT2 (mBT1 x)) 1) hx hb dX0_bytesTurned_44 rfl ?_
  refine lv_ldc2 hx hb hown (hts (.constantLong RX0 155 6148914691236517205) (by decide +kernel)) dX0_bytesTurned_45 ?_
  refine lv_land hx hb dX0_bytesTurned_48 ?_
  refine lv_lor hx hb dX0_bytesTurned_49 ?_
  exact W.lret (v := ((jshl ((mBT2 (mBT1 x)) &&& 6148914691236517205) 1) ||| ((jushr (mBT2 (mBT1 x)) 1) &&& 6148914691236517205))) hx hb hr (fun t ht hW => ⟨⟨((jshl ((mBT2 (mBT1 x)) &&& 6148914691236517205) 1) ||| ((jushr (mBT2 (mBT1 x)) 1) &&& 6148914691236517205)), (), rfl, rfl, trivial⟩, hS.F ht⟩) hS.2.2 dX0_bytesTurned_50
theorem in_c_bitByBit : ∀ w ∈ wsX00, w ∈ wsX0_bitByBit := fun _ h => List.mem_cons_of_mem _ (List.mem_append_right _ h)
set_option maxHeartbeats 4000000 in
set_option maxRecDepth 100000 in
theorem c_bitByBit {l : Launch} {D : va_G} {o a1 a2 a3 : Nat} {k1 k2 k3 : ClassId} {row : Nat → Int64} {dv : Nat → Int64} {sl : Nat → Int64} {nb : Nat} {wd : Nat} {po : Int64} {tp : Int64} {fi : Int64} {la : Int64} {bi : Int32} {bo : Int32} {sz : Nat}  (hn : nb ≤ 5000) : Met l yX0_bitByBit wsX0_bitByBit ({ frames := 2, cells := 0, slots := 0, locals := 51 }) (va_Pc [.ref o] (pRO D vwCl (xt k1 k2 k3) (xw o a1 a2 a3 k1 k2 k3 row dv sl nb wd po tp fi la bi bo) sz)) (roL sz (mBbN row tp (mTop (nI wd) fi) nb)) 0 0 (fun q : Nat => sz ≤ q) := by
  refine Met.ofW (cc := cX0_bitByBit) (maxL := 4) (ret := (some .long)) (by decide) rfl ?_
  intro p e s m args below meth c s₁ B hml hv
  obtain ⟨rfl, hsz, hP, hK⟩ := hv
  have hsz : s.heap.size = sz := hsz
  have hx := B.exec
  have hb := B.bytes
  have hr := B.returns
  have hts := atoms_spec (ws := wsX0_bitByBit) B.pre
  have hown : s.vm.findClass RX0 = some m.cls := findClass_of_methodNamed B.named
  have hlocks := B.notSynchronized
  subst hsz
  have hA : ∀ q : Nat, s.heap.size ≤ q → (fun q : Nat => s.heap.size ≤ q) q := fun _ h => h
  have hS : va_S (fun q : Nat => s.heap.size ≤ q) s.heap s.heap [] := va_S.rf
  have hl := lv_entry ([.ref o]) (n := 4) (Nat.le_of_ble_eq_true rfl)
  rw [lg_entry_eq]
  generalize (lg_sl ([.ref o]) ++ List.replicate (4 - (lg_sl ([.ref o])).length) Slot.unset).toArray = ls at hl ⊢
  have hl : lv_has ls 4 [(0, .ref o)] := hl
  suffices key : ∀ (H : Heap) (locs : List Loc), va_P D vwCl (xw o a1 a2 a3 k1 k2 k3 row dv sl nb wd po tp fi la bi bo) H → va_S (fun q : Nat => s.heap.size ≤ q) s.heap H locs → W p l e (headSpec wsX0_bitByBit { frames := 2, cells := 0, slots := 0, locals := 51 }).room s m ([.ref o] : List Value).toArray below meth c H locs 0 0 (MQ below (roL s.heap.size (mBbN row tp (mTop (nI wd) fi) nb)) ([.ref o] : List Value).toArray s 0 0 (fun q : Nat => s.heap.size ≤ q)) (F0 m 0 ls []) from key s.heap [] hP hS
  intro H locs hP hS
  refine lv_aload_n hx hb dX0_bitByBit_0 rfl (lv_at hl 0 rfl) ?_
  refine lv_aload_n hx hb dX0_bitByBit_1 rfl (lv_at hl 0 rfl) ?_
  refine va_get (D := D) (ci := 0) (v := .long fi) (C := RX0) (T := TX0) (N := 11) hx hb hts in_c_bitByBit hown hK hP 0 rfl rfl 7 (by decide) (hts (.fieldLink RX0 52 "SliceChecks" "first" "J") (by decide +kernel)) (fun _ h9 => h9) rfl dX0_bitByBit_2 ?_
  refine ro_l (va_runV (As := [.long fi]) (rest := []) ⟨hx, hb, hml, hown, hts⟩ (c_atTop (sz := H.size) fi) (cwV 1 hts gX0_bitByBit_X0_atTop rfl rfl rfl (by decide +kernel) ⟨Nat.le_of_ble_eq_true rfl, Nat.le_of_ble_eq_true rfl⟩) (preV_RO hP hK 0 (ci := 0) rfl rfl) rfl rfl hl.1 rfl (lv_room (Nat.le_of_ble_eq_true rfl)) dX0_bitByBit_5 ⟨Nat.le_of_ble_eq_true rfl, Nat.le_of_ble_eq_true rfl⟩) hS hA hP (fun H locs hP hS => ?_)
  refine lv_lstore_n (lv' := [(1, .long (mTop (nI wd) fi)), (0, .ref o)]) hx hb dX0_bitByBit_8 rfl hl (by decide) rfl (fun ls hl => ?_)
  refine lv_iconst (v := 0) hx hb dX0_bitByBit_9 (by decide) ?_
  refine lv_istore_n (lv' := [(3, .int 0), (1, .long (mTop (nI wd) fi)), (0, .ref o)]) hx hb dX0_bitByBit_10 rfl hl (by decide) rfl (fun ls hl => ?_)
  have lp_11 : ∀ (k i : Nat), i ≤ nb → nb < i + k → ∀ (H : Heap) (locs : List Loc), va_P D vwCl (xw o a1 a2 a3 k1 k2 k3 row dv sl nb wd po tp fi la bi bo) H → va_S (fun q : Nat => s.heap.size ≤ q) s.heap H locs → ∀ ls : Array Slot, lv_has ls 4 [(3, .int (nI i)), (1, .long (mBbN row tp (mTop (nI wd) fi) i)), (0, .ref o)] → W p l e (headSpec wsX0_bitByBit { frames := 2, cells := 0, slots := 0, locals := 51 }).room s m ([.ref o] : List Value).toArray below meth c H locs 0 0 (MQ below (roL s.heap.size (mBbN row tp (mTop (nI wd) fi) nb)) ([.ref o] : List Value).toArray s 0 0 (fun q : Nat => s.heap.size ≤ q)) (F0 m 11 ls []) := by
    intro k
    induction k with
    | zero =>
      intro i h1 h2
      exact absurd h2 (by omega)
    | succ k ih =>
      intro i hi hk H locs hP hS ls hl
      refine lv_iload_n hx hb dX0_bitByBit_11 rfl (lv_at hl 0 rfl) ?_
      refine lv_aload_n hx hb dX0_bitByBit_12 rfl (lv_at hl 2 rfl) ?_
      refine va_get (D := D) (ci := 0) (v := .int (nI nb)) (C := RX0) (T := TX0) (N := 11) hx hb hts in_c_bitByBit hown hK hP 0 rfl rfl 3 (by decide) (hts (.fieldLink RX0 68 "SliceChecks" "bytes" "I") (by decide +kernel)) (fun _ h9 => h9) rfl dX0_bitByBit_13 ?_
      refine lv_icmp_ge (tgt := 36) hx hb dX0_bitByBit_16 (by decide) (fun c_16 => ?_) (fun c_16 => ?_)
      ·
        have hiN := du_ge (by omega) hi c_16
        refine lv_lload_n hx hb dX0_bitByBit_36 rfl (lv_at hl 1 rfl) ?_
        exact W.lret (v := (mBbN row tp (mTop (nI wd) fi) i)) hx hb hr (fun t ht hW => ⟨⟨(mBbN row tp (mTop (nI wd) fi) i), (), rfl, by subst hiN; rfl, trivial⟩, hS.F ht⟩) hS.2.2 dX0_bitByBit_37
      ·
        have hlt := du_lt (by omega) hi c_16
        refine lv_aload_n hx hb dX0_bitByBit_19 rfl (lv_at hl 2 rfl) ?_
        refine lv_lload_n hx hb dX0_bitByBit_20 rfl (lv_at hl 1 rfl) ?_
        refine lv_aload_n hx hb dX0_bitByBit_21 rfl (lv_at hl 2 rfl) ?_
        refine lv_iload_n hx hb dX0_bitByBit_22 rfl (lv_at hl 0 rfl) ?_
        refine ro_i (va_runV (As := [.int (nI i)]) (rest := [.long (mBbN row tp (mTop (nI wd) fi) i), .ref o]) ⟨hx, hb, hml, hown, hts⟩ (c_byteAt (sz := H.size) (nI i) (du_by (by omega))) (cwV 1 hts gX0_bitByBit_X0_byteAt rfl rfl rfl (by decide +kernel) ⟨Nat.le_of_ble_eq_true rfl, Nat.le_of_ble_eq_true rfl⟩) (preV_RO hP hK 0 (ci := 0) rfl rfl) rfl rfl hl.1 rfl (lv_room (Nat.le_of_ble_eq_true rfl)) dX0_bitByBit_23 ⟨Nat.le_of_ble_eq_true rfl, Nat.le_of_ble_eq_true rfl⟩) hS hA hP (fun H locs hP hS => ?_)
        refine ro_l (va_runV (As := [.long (mBbN row tp (mTop (nI wd) fi) i), .int (mByA row (nI i))]) (rest := []) ⟨hx, hb, hml, hown, hts⟩ (c_behindByte (sz := H.size) (mBbN row tp (mTop (nI wd) fi) i) (mByA row (nI i))) (cwV 2 hts gX0_bitByBit_X0_behindByte rfl rfl rfl (by decide +kernel) ⟨Nat.le_of_ble_eq_true rfl, Nat.le_of_ble_eq_true rfl⟩) (preV_RO hP hK 0 (ci := 0) rfl rfl) rfl rfl hl.1 rfl (lv_room (Nat.le_of_ble_eq_true rfl)) dX0_bitByBit_26 ⟨Nat.le_of_ble_eq_true rfl, Nat.le_of_ble_eq_true rfl⟩) hS hA hP (fun H locs hP hS => ?_)
        refine du_rwl (y := mBbN row tp (mTop (nI wd) fi) (i + 1)) (rfl) ?_
        refine lv_lstore_n (lv' := [(1, .long (mBbN row tp (mTop (nI wd) fi) (i + 1))), (3, .int (nI i)), (0, .ref o)]) hx hb dX0_bitByBit_29 rfl hl (by decide) rfl (fun ls hl => ?_)
        refine lv_iinc (v := nI (i + 1)) (lv' := [(3, .int (nI (i + 1))), (1, .long (mBbN row tp (mTop (nI wd) fi) (i + 1))), (0, .ref o)]) hx hb dX0_bitByBit_30 hl (k := 1) rfl (nI_1 i) (by decide) rfl (fun ls hl => ?_)
        refine lv_goto (tgt := 11) hx hb dX0_bitByBit_33 (by decide) ?_
        exact ih (i + 1) (by omega) (by omega) H locs (hP) hS ls (lv_sub hl [0, 1, 2] rfl)
  exact lp_11 (nb + 1 - 0) 0 (by omega) (by omega) H locs (hP) hS ls (lv_sub hl [0, 1, 2] rfl)
theorem in_c_byteByByte : ∀ w ∈ wsX00, w ∈ wsX0_byteByByte := fun _ h => List.mem_cons_of_mem _ (List.mem_append_right _ h)
set_option maxHeartbeats 4000000 in
set_option maxRecDepth 100000 in
theorem c_byteByByte {l : Launch} {D : va_G} {o a1 a2 a3 : Nat} {k1 k2 k3 : ClassId} {row : Nat → Int64} {dv : Nat → Int64} {sl : Nat → Int64} {nb : Nat} {wd : Nat} {po : Int64} {tp : Int64} {fi : Int64} {la : Int64} {bi : Int32} {bo : Int32} {sz : Nat} (x : Int64) (a : Nat) (b : Nat) (ha : a ≤ 5000) (hb5 : b ≤ 5000) : Met l yX0_byteByByte wsX0_byteByByte ({ frames := 2, cells := 0, slots := 0, locals := 41 }) (va_Pc [.ref o, .long x, .int (nI a), .int (nI b)] (pRO D vwCl (xt k1 k2 k3) (xw o a1 a2 a3 k1 k2 k3 row dv sl nb wd po tp fi la bi bo) sz)) (roL sz (mYy row sl x a b)) 0 0 (fun q : Nat => sz ≤ q) := by
  refine Met.ofW (cc := cX0_byteByByte) (maxL := 8) (ret := (some .long)) (by decide) rfl ?_
  intro p e s m args below meth c s₁ B hml hv
  obtain ⟨rfl, hsz, hP, hK⟩ := hv
  have hsz : s.heap.size = sz := hsz
  have hx := B.exec
  have hb := B.bytes
  have hr := B.returns
  have hts := atoms_spec (ws := wsX0_byteByByte) B.pre
  have hown : s.vm.findClass RX0 = some m.cls := findClass_of_methodNamed B.named
  have hlocks := B.notSynchronized
  subst hsz
  have hA : ∀ q : Nat, s.heap.size ≤ q → (fun q : Nat => s.heap.size ≤ q) q := fun _ h => h
  have hS : va_S (fun q : Nat => s.heap.size ≤ q) s.heap s.heap [] := va_S.rf
  have hl := lv_entry ([.ref o, .long x, .int (nI a), .int (nI b)]) (n := 8) (Nat.le_of_ble_eq_true rfl)
  rw [lg_entry_eq]
  generalize (lg_sl ([.ref o, .long x, .int (nI a), .int (nI b)]) ++ List.replicate (8 - (lg_sl ([.ref o, .long x, .int (nI a), .int (nI b)])).length) Slot.unset).toArray = ls at hl ⊢
  have hl : lv_has ls 8 [(0, .ref o), (1, .long x), (3, .int (nI a)), (4, .int (nI b))] := hl
  suffices key : ∀ (H : Heap) (locs : List Loc), va_P D vwCl (xw o a1 a2 a3 k1 k2 k3 row dv sl nb wd po tp fi la bi bo) H → va_S (fun q : Nat => s.heap.size ≤ q) s.heap H locs → W p l e (headSpec wsX0_byteByByte { frames := 2, cells := 0, slots := 0, locals := 41 }).room s m ([.ref o, .long x, .int (nI a), .int (nI b)] : List Value).toArray below meth c H locs 0 0 (MQ below (roL s.heap.size (mYy row sl x a b)) ([.ref o, .long x, .int (nI a), .int (nI b)] : List Value).toArray s 0 0 (fun q : Nat => s.heap.size ≤ q)) (F0 m 0 ls []) from key s.heap [] hP hS
  intro H locs hP hS
  refine lv_lload_n hx hb dX0_byteByByte_0 rfl (lv_at hl 1 rfl) ?_
  refine lv_lstore (lv' := [(5, .long x), (0, .ref o), (1, .long x), (3, .int (nI a)), (4, .int (nI b))]) hx hb dX0_byteByByte_1 hl (by decide) rfl (fun ls hl => ?_)
  refine lv_iload_n hx hb dX0_byteByByte_3 rfl (lv_at hl 3 rfl) ?_
  refine lv_istore (lv' := [(7, .int (nI a)), (5, .long x), (0, .ref o), (1, .long x), (3, .int (nI a)), (4, .int (nI b))]) hx hb dX0_byteByByte_4 hl (by decide) rfl (fun ls hl => ?_)
  have lp_6 : ∀ (k i : Nat), i ≤ b - a → b - a < i + k → ∀ (H : Heap) (locs : List Loc), va_P D vwCl (xw o a1 a2 a3 k1 k2 k3 row dv sl nb wd po tp fi la bi bo) H → va_S (fun q : Nat => s.heap.size ≤ q) s.heap H locs → ∀ ls : Array Slot, lv_has ls 8 [(7, .int (nI (a + i))), (5, .long (mYyN row sl x a i)), (0, .ref o), (1, .long x), (3, .int (nI a)), (4, .int (nI b))] → W p l e (headSpec wsX0_byteByByte { frames := 2, cells := 0, slots := 0, locals := 41 }).room s m ([.ref o, .long x, .int (nI a), .int (nI b)] : List Value).toArray below meth c H locs 0 0 (MQ below (roL s.heap.size (mYy row sl x a b)) ([.ref o, .long x, .int (nI a), .int (nI b)] : List Value).toArray s 0 0 (fun q : Nat => s.heap.size ≤ q)) (F0 m 6 ls []) := by
    intro k
    induction k with
    | zero =>
      intro i h1 h2
      exact absurd h2 (by omega)
    | succ k ih =>
      intro i hi hk H locs hP hS ls hl
      refine lv_iload hx hb dX0_byteByByte_6 (lv_at hl 0 rfl) ?_
      refine lv_iload hx hb dX0_byteByByte_8 (lv_at hl 5 rfl) ?_
      refine lv_icmp_ge (tgt := 33) hx hb dX0_byteByByte_10 (by decide) (fun c_10 => ?_) (fun c_10 => ?_)
      ·
        have hiN : i = b - a := by have := (nI_leI (by omega) (by omega)).mp c_10; omega
        refine lv_lload hx hb dX0_byteByByte_33 (lv_at hl 1 rfl) ?_
        exact W.lret (v := (mYyN row sl x a i)) hx hb hr (fun t ht hW => ⟨⟨(mYyN row sl x a i), (), rfl, by subst hiN; rfl, trivial⟩, hS.F ht⟩) hS.2.2 dX0_byteByByte_35
      ·
        have hlt : i < b - a := by rcases Nat.lt_or_ge i (b - a) with h | h; exact h; exact absurd (nI_le (by omega) (by omega)) c_10
        refine lv_aload_n hx hb dX0_byteByByte_13 rfl (lv_at hl 2 rfl) ?_
        refine lv_lload hx hb dX0_byteByByte_14 (lv_at hl 1 rfl) ?_
        refine lv_aload_n hx hb dX0_byteByByte_16 rfl (lv_at hl 2 rfl) ?_
        refine lv_iload hx hb dX0_byteByByte_17 (lv_at hl 0 rfl) ?_
        refine ro_i (va_runV (As := [.int (nI (a + i))]) (rest := [.long (mYyN row sl x a i), .ref o]) ⟨hx, hb, hml, hown, hts⟩ (c_byteAt (sz := H.size) (nI (a + i)) (du_by (by omega))) (cwV 1 hts gX0_byteByByte_X0_byteAt rfl rfl rfl (by decide +kernel) ⟨Nat.le_of_ble_eq_true rfl, Nat.le_of_ble_eq_true rfl⟩) (preV_RO hP hK 0 (ci := 0) rfl rfl) rfl rfl hl.1 rfl (lv_room (Nat.le_of_ble_eq_true rfl)) dX0_byteByByte_19 ⟨Nat.le_of_ble_eq_true rfl, Nat.le_of_ble_eq_true rfl⟩) hS hA hP (fun H locs hP hS => ?_)
        refine ro_l (va_runV (As := [.long (mYyN row sl x a i), .int (mByA row (nI (a + i)))]) (rest := []) ⟨hx, hb, hml, hown, hts⟩ (c_behindByteByTable (sz := H.size) (mYyN row sl x a i) (mByA row (nI (a + i))) (du_tix _ _)) (cwV 2 hts gX0_byteByByte_X0_behindByteByTable rfl rfl rfl (by decide +kernel) ⟨Nat.le_of_ble_eq_true rfl, Nat.le_of_ble_eq_true rfl⟩) (preV_RO hP hK 0 (ci := 0) rfl rfl) rfl rfl hl.1 rfl (lv_room (Nat.le_of_ble_eq_true rfl)) dX0_byteByByte_22 ⟨Nat.le_of_ble_eq_true rfl, Nat.le_of_ble_eq_true rfl⟩) hS hA hP (fun H locs hP hS => ?_)
        refine du_rwl (y := mYyN row sl x a (i + 1)) (rfl) ?_
        refine lv_lstore (lv' := [(5, .long (mYyN row sl x a (i + 1))), (7, .int (nI (a + i))), (0, .ref o), (1, .long x), (3, .int (nI a)), (4, .int (nI b))]) hx hb dX0_byteByByte_25 hl (by decide) rfl (fun ls hl => ?_)
        refine lv_iinc (v := nI (a + (i + 1))) (lv' := [(7, .int (nI (a + (i + 1)))), (5, .long (mYyN row sl x a (i + 1))), (0, .ref o), (1, .long x), (3, .int (nI a)), (4, .int (nI b))]) hx hb dX0_byteByByte_27 hl (k := 1) rfl (nI_1 (a + i)) (by decide) rfl (fun ls hl => ?_)
        refine lv_goto (tgt := 6) hx hb dX0_byteByByte_30 (by decide) ?_
        exact ih (i + 1) (by omega) (by omega) H locs (hP) hS ls (lv_sub hl [0, 1, 2, 3, 4, 5] rfl)
  exact lp_6 ((b - a) + 1 - 0) 0 (by omega) (by omega) H locs (hP) hS ls (lv_sub hl [0, 1, 2, 3, 4, 5] rfl)
theorem in_c_eightAtOnce : ∀ w ∈ wsX00, w ∈ wsX0_eightAtOnce := fun _ h => List.mem_cons_of_mem _ (List.mem_append_right _ h)
set_option maxHeartbeats 4000000 in
set_option maxRecDepth 100000 in
theorem c_eightAtOnce {l : Launch} {D : va_G} {o a1 a2 a3 : Nat} {k1 k2 k3 : ClassId} {row : Nat → Int64} {dv : Nat → Int64} {sl : Nat → Int64} {nb : Nat} {wd : Nat} {po : Int64} {tp : Int64} {fi : Int64} {la : Int64} {bi : Int32} {bo : Int32} {sz : Nat} (a : Nat) (b : Nat) (ha : a ≤ 5000) (hb5 : b ≤ 5000) : Met l yX0_eightAtOnce wsX0_eightAtOnce ({ frames := 3, cells := 0, slots := 0, locals := 68 }) (va_Pc [.ref o, .int (nI a), .int (nI b)] (pRO D vwCl (xt k1 k2 k3) (xw o a1 a2 a3 k1 k2 k3 row dv sl nb wd po tp fi la bi bo) sz)) (roL sz (mEi row sl (mTop (nI wd) fi) a b)) 0 0 (fun q : Nat => sz ≤ q) := by
  refine Met.ofW (cc := cX0_eightAtOnce) (maxL := 8) (ret := (some .long)) (by decide) rfl ?_
  intro p e s m args below meth c s₁ B hml hv
  obtain ⟨rfl, hsz, hP, hK⟩ := hv
  have hsz : s.heap.size = sz := hsz
  have hx := B.exec
  have hb := B.bytes
  have hr := B.returns
  have hts := atoms_spec (ws := wsX0_eightAtOnce) B.pre
  have hown : s.vm.findClass RX0 = some m.cls := findClass_of_methodNamed B.named
  have hlocks := B.notSynchronized
  subst hsz
  have hA : ∀ q : Nat, s.heap.size ≤ q → (fun q : Nat => s.heap.size ≤ q) q := fun _ h => h
  have hS : va_S (fun q : Nat => s.heap.size ≤ q) s.heap s.heap [] := va_S.rf
  have hl := lv_entry ([.ref o, .int (nI a), .int (nI b)]) (n := 8) (Nat.le_of_ble_eq_true rfl)
  rw [lg_entry_eq]
  generalize (lg_sl ([.ref o, .int (nI a), .int (nI b)]) ++ List.replicate (8 - (lg_sl ([.ref o, .int (nI a), .int (nI b)])).length) Slot.unset).toArray = ls at hl ⊢
  have hl : lv_has ls 8 [(0, .ref o), (1, .int (nI a)), (2, .int (nI b))] := hl
  suffices key : ∀ (H : Heap) (locs : List Loc), va_P D vwCl (xw o a1 a2 a3 k1 k2 k3 row dv sl nb wd po tp fi la bi bo) H → va_S (fun q : Nat => s.heap.size ≤ q) s.heap H locs → W p l e (headSpec wsX0_eightAtOnce { frames := 3, cells := 0, slots := 0, locals := 68 }).room s m ([.ref o, .int (nI a), .int (nI b)] : List Value).toArray below meth c H locs 0 0 (MQ below (roL s.heap.size (mEi row sl (mTop (nI wd) fi) a b)) ([.ref o, .int (nI a), .int (nI b)] : List Value).toArray s 0 0 (fun q : Nat => s.heap.size ≤ q)) (F0 m 0 ls []) from key s.heap [] hP hS
  intro H locs hP hS
  refine lv_iload_n hx hb dX0_eightAtOnce_0 rfl (lv_at hl 1 rfl) ?_
  refine lv_bipush (v := 8) hx hb dX0_eightAtOnce_1 (by decide) ?_
  refine lv_iadd hx hb dX0_eightAtOnce_3 ?_
  refine lv_iconst (v := 1) hx hb dX0_eightAtOnce_4 (by decide) ?_
  refine lv_isub hx hb dX0_eightAtOnce_5 ?_
  refine lv_bipush (v := 8) hx hb dX0_eightAtOnce_6 (by decide) ?_
  refine lv_idiv hx hb dX0_eightAtOnce_8 (by decide) ?_
  refine du_rwi (y := nI ((a + 7) / 8)) (by rw [show nI a + 8 - 1 = nI (a + 7) from du_a7 a]; exact du_div8 (by omega)) ?_
  refine lv_istore_n (lv' := [(3, .int (nI ((a + 7) / 8))), (0, .ref o), (1, .int (nI a)), (2, .int (nI b))]) hx hb dX0_eightAtOnce_9 rfl hl (by decide) rfl (fun ls hl => ?_)
  refine lv_iload_n hx hb dX0_eightAtOnce_10 rfl (lv_at hl 3 rfl) ?_
  refine lv_bipush (v := 8) hx hb dX0_eightAtOnce_11 (by decide) ?_
  refine lv_idiv hx hb dX0_eightAtOnce_13 (by decide) ?_
  refine du_rwi (y := nI (b / 8)) (du_div8 (by omega)) ?_
  refine lv_istore (lv' := [(4, .int (nI (b / 8))), (3, .int (nI ((a + 7) / 8))), (0, .ref o), (1, .int (nI a)), (2, .int (nI b))]) hx hb dX0_eightAtOnce_14 hl (by decide) rfl (fun ls hl => ?_)
  refine lv_iload_n hx hb dX0_eightAtOnce_16 rfl (lv_at hl 1 rfl) ?_
  refine lv_iload hx hb dX0_eightAtOnce_17 (lv_at hl 0 rfl) ?_
  refine lv_icmp_lt (tgt := 37) hx hb dX0_eightAtOnce_19 (by decide) (fun c_19 => ?_) (fun c_19 => ?_)
  ·
    have h19 : (a + 7) / 8 < b / 8 := (nI_ltI (by omega) (by omega)).mp c_19
    refine lv_aload_n hx hb dX0_eightAtOnce_37 rfl (lv_at hl 2 rfl) ?_
    refine lv_aload_n hx hb dX0_eightAtOnce_38 rfl (lv_at hl 2 rfl) ?_
    refine lv_aload_n hx hb dX0_eightAtOnce_39 rfl (lv_at hl 2 rfl) ?_
    refine va_get (D := D) (ci := 0) (v := .long fi) (C := RX0) (T := TX0) (N := 11) hx hb hts in_c_eightAtOnce hown hK hP 0 rfl rfl 7 (by decide) (hts (.fieldLink RX0 52 "SliceChecks" "first" "J") (by decide +kernel)) (fun _ h9 => h9) rfl dX0_eightAtOnce_40 ?_
    refine ro_l (va_runV (As := [.long fi]) (rest := [.ref o]) ⟨hx, hb, hml, hown, hts⟩ (c_atTop (sz := H.size) fi) (cwV 1 hts gX0_eightAtOnce_X0_atTop rfl rfl rfl (by decide +kernel) ⟨Nat.le_of_ble_eq_true rfl, Nat.le_of_ble_eq_true rfl⟩) (preV_RO hP hK 0 (ci := 0) rfl rfl) rfl rfl hl.1 rfl (lv_room (Nat.le_of_ble_eq_true rfl)) dX0_eightAtOnce_43 ⟨Nat.le_of_ble_eq_true rfl, Nat.le_of_ble_eq_true rfl⟩) hS hA hP (fun H locs hP hS => ?_)
    refine lv_iload_n hx hb dX0_eightAtOnce_46 rfl (lv_at hl 3 rfl) ?_
    refine lv_iload_n hx hb dX0_eightAtOnce_47 rfl (lv_at hl 1 rfl) ?_
    refine lv_bipush (v := 8) hx hb dX0_eightAtOnce_48 (by decide) ?_
    refine lv_imul hx hb dX0_eightAtOnce_50 ?_
    refine du_rwi (y := nI ((a + 7) / 8 * 8)) (pk_mul _ 8) ?_
    refine ro_l (va_runV (As := [.long (mTop (nI wd) fi), .int (nI a), .int (nI ((a + 7) / 8 * 8))]) (rest := []) ⟨hx, hb, hml, hown, hts⟩ (c_byteByByte (sz := H.size) (mTop (nI wd) fi) a ((a + 7) / 8 * 8) (ha) (by omega)) (cwV 3 hts gX0_eightAtOnce_X0_byteByByte rfl rfl rfl (by decide +kernel) ⟨Nat.le_of_ble_eq_true rfl, Nat.le_of_ble_eq_true rfl⟩) (preV_RO hP hK 0 (ci := 0) rfl rfl) rfl rfl hl.1 rfl (lv_room (Nat.le_of_ble_eq_true rfl)) dX0_eightAtOnce_51 ⟨Nat.le_of_ble_eq_true rfl, Nat.le_of_ble_eq_true rfl⟩) hS hA hP (fun H locs hP hS => ?_)
    refine lv_lstore (lv' := [(5, .long (mYy row sl (mTop (nI wd) fi) a ((a + 7) / 8 * 8))), (4, .int (nI (b / 8))), (3, .int (nI ((a + 7) / 8))), (0, .ref o), (1, .int (nI a)), (2, .int (nI b))]) hx hb dX0_eightAtOnce_54 hl (by decide) rfl (fun ls hl => ?_)
    refine lv_iload_n hx hb dX0_eightAtOnce_56 rfl (lv_at hl 2 rfl) ?_
    refine lv_istore (lv' := [(7, .int (nI ((a + 7) / 8))), (5, .long (mYy row sl (mTop (nI wd) fi) a ((a + 7) / 8 * 8))), (4, .int (nI (b / 8))), (3, .int (nI ((a + 7) / 8))), (0, .ref o), (1, .int (nI a)), (2, .int (nI b))]) hx hb dX0_eightAtOnce_57 hl (by decide) rfl (fun ls hl => ?_)
    have lp_59 : ∀ (k i : Nat), i ≤ b / 8 - (a + 7) / 8 → b / 8 - (a + 7) / 8 < i + k → ∀ (H : Heap) (locs : List Loc), va_P D vwCl (xw o a1 a2 a3 k1 k2 k3 row dv sl nb wd po tp fi la bi bo) H → va_S (fun q : Nat => s.heap.size ≤ q) s.heap H locs → ∀ ls : Array Slot, lv_has ls 8 [(7, .int (nI ((a + 7) / 8 + i))), (5, .long (mWwN row sl (mYy row sl (mTop (nI wd) fi) a ((a + 7) / 8 * 8)) ((a + 7) / 8) i)), (4, .int (nI (b / 8))), (3, .int (nI ((a + 7) / 8))), (0, .ref o), (1, .int (nI a)), (2, .int (nI b))] → W p l e (headSpec wsX0_eightAtOnce { frames := 3, cells := 0, slots := 0, locals := 68 }).room s m ([.ref o, .int (nI a), .int (nI b)] : List Value).toArray below meth c H locs 0 0 (MQ below (roL s.heap.size (mEi row sl (mTop (nI wd) fi) a b)) ([.ref o, .int (nI a), .int (nI b)] : List Value).toArray s 0 0 (fun q : Nat => s.heap.size ≤ q)) (F0 m 59 ls []) := by
      intro k
      induction k with
      | zero =>
        intro i h1 h2
        exact absurd h2 (by omega)
      | succ k ih =>
        intro i hi hk H locs hP hS ls hl
        refine lv_iload hx hb dX0_eightAtOnce_59 (lv_at hl 0 rfl) ?_
        refine lv_iload hx hb dX0_eightAtOnce_61 (lv_at hl 2 rfl) ?_
        refine lv_icmp_ge (tgt := 87) hx hb dX0_eightAtOnce_63 (by decide) (fun c_63 => ?_) (fun c_63 => ?_)
        ·
          have hiN : i = b / 8 - (a + 7) / 8 := by have := (nI_leI (by omega) (by omega)).mp c_63; omega
          refine lv_aload_n hx hb dX0_eightAtOnce_87 rfl (lv_at hl 4 rfl) ?_
          refine lv_lload hx hb dX0_eightAtOnce_88 (lv_at hl 1 rfl) ?_
          refine lv_iload hx hb dX0_eightAtOnce_90 (lv_at hl 2 rfl) ?_
          refine lv_bipush (v := 8) hx hb dX0_eightAtOnce_92 (by decide) ?_
          refine lv_imul hx hb dX0_eightAtOnce_94 ?_
          refine du_rwi (y := nI (b / 8 * 8)) (pk_mul _ 8) ?_
          refine lv_iload_n hx hb dX0_eightAtOnce_95 rfl (lv_at hl 6 rfl) ?_
          refine ro_l (va_runV (As := [.long (mWwN row sl (mYy row sl (mTop (nI wd) fi) a ((a + 7) / 8 * 8)) ((a + 7) / 8) i), .int (nI (b / 8 * 8)), .int (nI b)]) (rest := []) ⟨hx, hb, hml, hown, hts⟩ (c_byteByByte (sz := H.size) (mWwN row sl (mYy row sl (mTop (nI wd) fi) a ((a + 7) / 8 * 8)) ((a + 7) / 8) i) (b / 8 * 8) b (by omega) (hb5)) (cwV 3 hts gX0_eightAtOnce_X0_byteByByte rfl rfl rfl (by decide +kernel) ⟨Nat.le_of_ble_eq_true rfl, Nat.le_of_ble_eq_true rfl⟩) (preV_RO hP hK 0 (ci := 0) rfl rfl) rfl rfl hl.1 rfl (lv_room (Nat.le_of_ble_eq_true rfl)) dX0_eightAtOnce_96 ⟨Nat.le_of_ble_eq_true rfl, Nat.le_of_ble_eq_true rfl⟩) hS hA hP (fun H locs hP hS => ?_)
          exact W.lret (v := (mYy row sl (mWwN row sl (mYy row sl (mTop (nI wd) fi) a ((a + 7) / 8 * 8)) ((a + 7) / 8) i) (b / 8 * 8) b)) hx hb hr (fun t ht hW => ⟨⟨(mYy row sl (mWwN row sl (mYy row sl (mTop (nI wd) fi) a ((a + 7) / 8 * 8)) ((a + 7) / 8) i) (b / 8 * 8) b), (), rfl, by subst hiN; rw [mEi, if_neg (by omega)], trivial⟩, hS.F ht⟩) hS.2.2 dX0_eightAtOnce_99
        ·
          have hlt : i < b / 8 - (a + 7) / 8 := by rcases Nat.lt_or_ge i (b / 8 - (a + 7) / 8) with h | h; exact h; exact absurd (nI_le (by omega) (by omega)) c_63
          refine lv_aload_n hx hb dX0_eightAtOnce_66 rfl (lv_at hl 4 rfl) ?_
          refine lv_lload hx hb dX0_eightAtOnce_67 (lv_at hl 1 rfl) ?_
          refine lv_aload_n hx hb dX0_eightAtOnce_69 rfl (lv_at hl 4 rfl) ?_
          refine va_get (D := D) (ci := 0) (v := .ref a1) (C := RX0) (T := TX0) (N := 11) hx hb hts in_c_eightAtOnce hown hK hP 0 rfl rfl 0 (by decide) (hts (.fieldLink RX0 9 "SliceChecks" "row" "[J") (by decide +kernel)) (fun _ h9 => h9) rfl dX0_eightAtOnce_70 ?_
          refine lv_iload hx hb dX0_eightAtOnce_73 (lv_at hl 0 rfl) ?_
          refine va_lald hx hb hK hP 1 0 rfl rfl (i := nI ((a + 7) / 8 + i)) (vp_in_nI (by omega) (by omega)) dX0_eightAtOnce_75 ?_
          refine ro_l (va_runV (As := [.long (mWwN row sl (mYy row sl (mTop (nI wd) fi) a ((a + 7) / 8 * 8)) ((a + 7) / 8) i), .long (row (nI ((a + 7) / 8 + i)).toNatClampNeg)]) (rest := []) ⟨hx, hb, hml, hown, hts⟩ (c_behindWordByTables (sz := H.size) (mWwN row sl (mYy row sl (mTop (nI wd) fi) a ((a + 7) / 8 * 8)) ((a + 7) / 8) i) (row (nI ((a + 7) / 8 + i)).toNatClampNeg)) (cwV 2 hts gX0_eightAtOnce_X0_behindWordByTables rfl rfl rfl (by decide +kernel) ⟨Nat.le_of_ble_eq_true rfl, Nat.le_of_ble_eq_true rfl⟩) (preV_RO hP hK 0 (ci := 0) rfl rfl) rfl rfl hl.1 rfl (lv_room (Nat.le_of_ble_eq_true rfl)) dX0_eightAtOnce_76 ⟨Nat.le_of_ble_eq_true rfl, Nat.le_of_ble_eq_true rfl⟩) hS hA hP (fun H locs hP hS => ?_)
          refine du_rwl (y := mWwN row sl (mYy row sl (mTop (nI wd) fi) a ((a + 7) / 8 * 8)) ((a + 7) / 8) (i + 1)) (rfl) ?_
          refine lv_lstore (lv' := [(5, .long (mWwN row sl (mYy row sl (mTop (nI wd) fi) a ((a + 7) / 8 * 8)) ((a + 7) / 8) (i + 1))), (7, .int (nI ((a + 7) / 8 + i))), (4, .int (nI (b / 8))), (3, .int (nI ((a + 7) / 8))), (0, .ref o), (1, .int (nI a)), (2, .int (nI b))]) hx hb dX0_eightAtOnce_79 hl (by decide) rfl (fun ls hl => ?_)
          refine lv_iinc (v := nI ((a + 7) / 8 + (i + 1))) (lv' := [(7, .int (nI ((a + 7) / 8 + (i + 1)))), (5, .long (mWwN row sl (mYy row sl (mTop (nI wd) fi) a ((a + 7) / 8 * 8)) ((a + 7) / 8) (i + 1))), (4, .int (nI (b / 8))), (3, .int (nI ((a + 7) / 8))), (0, .ref o), (1, .int (nI a)), (2, .int (nI b))]) hx hb dX0_eightAtOnce_81 hl (k := 1) rfl (nI_1 _) (by decide) rfl (fun ls hl => ?_)
          refine lv_goto (tgt := 59) hx hb dX0_eightAtOnce_84 (by decide) ?_
          exact ih (i + 1) (by omega) (by omega) H locs (hP) hS ls (lv_sub hl [0, 1, 2, 3, 4, 5, 6] rfl)
    exact lp_59 ((b / 8 - (a + 7) / 8) + 1 - 0) 0 (by omega) (by omega) H locs (hP) hS ls (lv_sub hl [0, 1, 2, 3, 4, 5, 6] rfl)
  ·
    have h19 : b / 8 ≤ (a + 7) / 8 := by rcases Nat.lt_or_ge ((a + 7) / 8) (b / 8) with h | h; exact absurd (nI_lt h (by omega)) c_19; exact h
    refine lv_aload_n hx hb dX0_eightAtOnce_22 rfl (lv_at hl 2 rfl) ?_
    refine lv_aload_n hx hb dX0_eightAtOnce_23 rfl (lv_at hl 2 rfl) ?_
    refine lv_aload_n hx hb dX0_eightAtOnce_24 rfl (lv_at hl 2 rfl) ?_
    refine va_get (D := D) (ci := 0) (v := .long fi) (C := RX0) (T := TX0) (N := 11) hx hb hts in_c_eightAtOnce hown hK hP 0 rfl rfl 7 (by decide) (hts (.fieldLink RX0 52 "SliceChecks" "first" "J") (by decide +kernel)) (fun _ h9 => h9) rfl dX0_eightAtOnce_25 ?_
    refine ro_l (va_runV (As := [.long fi]) (rest := [.ref o]) ⟨hx, hb, hml, hown, hts⟩ (c_atTop (sz := H.size) fi) (cwV 1 hts gX0_eightAtOnce_X0_atTop rfl rfl rfl (by decide +kernel) ⟨Nat.le_of_ble_eq_true rfl, Nat.le_of_ble_eq_true rfl⟩) (preV_RO hP hK 0 (ci := 0) rfl rfl) rfl rfl hl.1 rfl (lv_room (Nat.le_of_ble_eq_true rfl)) dX0_eightAtOnce_28 ⟨Nat.le_of_ble_eq_true rfl, Nat.le_of_ble_eq_true rfl⟩) hS hA hP (fun H locs hP hS => ?_)
    refine lv_iload_n hx hb dX0_eightAtOnce_31 rfl (lv_at hl 3 rfl) ?_
    refine lv_iload_n hx hb dX0_eightAtOnce_32 rfl (lv_at hl 4 rfl) ?_
    refine ro_l (va_runV (As := [.long (mTop (nI wd) fi), .int (nI a), .int (nI b)]) (rest := []) ⟨hx, hb, hml, hown, hts⟩ (c_byteByByte (sz := H.size) (mTop (nI wd) fi) a b (ha) (hb5)) (cwV 3 hts gX0_eightAtOnce_X0_byteByByte rfl rfl rfl (by decide +kernel) ⟨Nat.le_of_ble_eq_true rfl, Nat.le_of_ble_eq_true rfl⟩) (preV_RO hP hK 0 (ci := 0) rfl rfl) rfl rfl hl.1 rfl (lv_room (Nat.le_of_ble_eq_true rfl)) dX0_eightAtOnce_33 ⟨Nat.le_of_ble_eq_true rfl, Nat.le_of_ble_eq_true rfl⟩) hS hA hP (fun H locs hP hS => ?_)
    exact W.lret (v := (mYy row sl (mTop (nI wd) fi) a b)) hx hb hr (fun t ht hW => ⟨⟨(mYy row sl (mTop (nI wd) fi) a b), (), rfl, by rw [mEi, if_pos h19], trivial⟩, hS.F ht⟩) hS.2.2 dX0_eightAtOnce_36
end
section
/-! The reference's cells, and what each of its methods answers, in its own words. -/
abbrev mt (k4 : ClassId) : List (ClassId × FieldType) := [(k4, .int)]
abbrev mw (q b1 : Nat) (k4 : ClassId) (by8 : Nat → Int32) (wd : Nat) (po fi la : Int64) (bi bo : Int32) (nb : Nat) : va_W :=
  [(q, .inr (1, [.int (nI wd), .long po, .long fi, .long la, .int bi, .int bo, .ref b1, .int (nI nb)])), (b1, .inl (k4, 5000, .inl by8))]
def rLow (v : Int64) (w : Int32) : Int64 := if w = 64 then v else v &&& (jshl 1 w - 1)
def rBit (w : Int32) (po r : Int64) (b : Int32) : Int64 := if (if lg_cmp (jushr r (w - 1) &&& 1) 1 = 0 then (1 : Int32) else 0) = (if b = 1 then (1 : Int32) else 0) then rLow (jshl r 1) w else rLow (jshl r 1) w ^^^ po
def rByN (w : Int32) (po : Int64) (bi b : Int32) (r : Int64) : Nat → Int64
  | 0 => r
  | k + 1 => rBit w po (rByN w po bi b r k) (if bi = 0 then (b >>> ((7 - nI k) &&& 31)) &&& 1 else (b >>> (nI k &&& 31)) &&& 1)
def rTold (bo : Int32) (la : Int64) (wd : Nat) (x : Int64) : Int64 := (if bo = 0 then x else mTuN x wd) ^^^ la
def rReg (bo : Int32) (la : Int64) (wd : Nat) (x : Int64) : Int64 := if bo = 0 then rLow x (nI wd) ^^^ la else mTuN (rLow x (nI wd) ^^^ la) wd
def rOvN (w : Int32) (po : Int64) (bi : Int32) (f : Nat → Int32) (r : Int64) (a : Nat) : Nat → Int64
  | 0 => r
  | k + 1 => rByN w po bi (f (nI (a + k)).toNatClampNeg) (rOvN w po bi f r a k) 8
def rOver (wd : Nat) (po fi la : Int64) (bi bo : Int32) (f : Nat → Int32) (a b : Nat) : Int64 := rTold bo la wd (rOvN (nI wd) po bi f fi a (b - a))
def rChk (y : Int32) (v : Int64) : Int64 := if y < 0 then 0 else if y ≤ 3 then v else 0
def rPart (nb wd : Nat) (po fi la : Int64) (bi bo : Int32) (f : Nat → Int32) (x y : Int32) : Int64 := if x < 0 then 0 else if y < x then 0 else if y ≤ nI nb then rOver wd po fi la bi bo f x.toNatClampNeg y.toNatClampNeg else 0
def rTmN (wd : Nat) (po x y : Int64) : Nat → Int64
  | 0 => 0
  | i + 1 => rBit (nI wd) po (rTmN wd po x y i) 0 ^^^ (if lg_cmp (jushr y (nI wd - 1 - nI i) &&& 1) 1 = 0 then x else 0)
def rPw (wd : Nat) (po : Int64) : Nat → Int64
  | 0 => rBit (nI wd) po 1 0
  | i + 1 => rTmN wd po (rPw wd po i) (rPw wd po i) wd
def rBhN (wd : Nat) (po r : Int64) (Z : Nat) : Nat → Int64
  | 0 => r
  | i + 1 => if Z / 2 ^ i % 2 = 1 then rTmN wd po (rBhN wd po r Z i) (rPw wd po i) wd else rBhN wd po r Z i
def rBh (wd : Nat) (po r : Int64) (Z : Nat) : Int64 := rBhN wd po r Z 35
def rJoin (wd : Nat) (po fi la : Int64) (bo : Int32) (x y : Int64) (n : Int32) : Int64 := if 0 ≤ n then rTold bo la wd (rBh wd po (rReg bo la wd x ^^^ fi) (8 * n.toNatClampNeg) ^^^ rReg bo la wd y) else 0
def rEntry (wd : Nat) (po : Int64) (bi k b : Int32) : Int64 := if k < 0 then 0 else if 7 < k then 0 else if b < 0 then 0 else if b ≤ 255 then rBh wd po (rByN (nI wd) po bi b 0 8) (8 * k.toNatClampNeg) else 0
def rZeros (wd : Nat) (po x : Int64) (n : Int32) : Int64 := if n < 0 then 0 else if n ≤ 1000000 then rBh wd po (rLow x (nI wd)) n.toNatClampNeg else 0
def rRdN (wd : Nat) (po : Int64) : Nat → Int64
  | 0 => 1
  | i + 1 => rBit (nI wd) po (rRdN wd po i) 0
/-- the least of 1 .. N at which f is true, from i on; -1 where none is -/
def firstAt (f : Nat → Bool) (i : Nat) : Nat → Int32
  | 0 => -1
  | n + 1 => if f (i + 1) then nI (i + 1) else firstAt f (i + 1) n
def rRound (wd : Nat) (po : Int64) : Int32 := firstAt (fun i => decide (rRdN wd po i = 1)) 0 4096
def cCount (nb wd : Nat) (bi bo x : Int32) : Int32 := if x = 0 then nI nb else if x = 1 then nI wd else if x = 2 then (if bi = 0 then 0 else 1) else if x = 3 then (if bo = 0 then 0 else 1) else -1
def cTold (po fi la : Int64) (x : Int32) : Int64 := if x = 0 then po else if x = 1 then fi else if x = 2 then la else 0
def rFeN (f : Nat → Int32) (b : Int32) (nb : Nat) : Nat → Nat → Int32
  | 0 => f
  | i + 1 => upd (rFeN f b nb i) (nI (nb + i)).toNatClampNeg b
def rFlip (f : Nat → Int32) (bi : Int32) (j : Nat) : Nat → Int32 := if bi = 0 then upd f (nI (j / 8)).toNatClampNeg (f (nI (j / 8)).toNatClampNeg ^^^ (128 >>> (nI (j % 8) &&& 31))) else upd f (nI (j / 8)).toNatClampNeg (f (nI (j / 8)).toNatClampNeg ^^^ (1 <<< (nI (j % 8) &&& 31)))
/-! The class's models, on: the dividend, the public methods. -/
def mDvF (dv : Nat → Int64) (j : Nat) : Int64 := if nI (j % 64) = 0 then dv (nI (j / 64)).toNatClampNeg else jshl (dv (nI (j / 64)).toNatClampNeg) (nI (j % 64)) ||| jushr (dv (nI (j / 64) + 1).toNatClampNeg) (64 - nI (j % 64))
def mAd1 (dv : Nat → Int64) (j : Nat) : Nat → Int64 := vp_updL dv (nI (j / 64)).toNatClampNeg (dv (nI (j / 64)).toNatClampNeg ^^^ jshl 1 (63 - nI (j % 64)))
def mAd2 (dv : Nat → Int64) (tp : Int64) (j : Nat) : Nat → Int64 := vp_updL (mAd1 dv j) (nI ((j + 1) / 64)).toNatClampNeg (mAd1 dv j (nI ((j + 1) / 64)).toNatClampNeg ^^^ jushr tp (nI ((j + 1) % 64)))
def mAdd (dv : Nat → Int64) (tp : Int64) (j : Nat) : Nat → Int64 := if nI ((j + 1) % 64) = 0 then mAd2 dv tp j else vp_updL (mAd2 dv tp j) (nI ((j + 1) / 64) + 1).toNatClampNeg (mAd2 dv tp j (nI ((j + 1) / 64) + 1).toNatClampNeg ^^^ jshl tp (64 - nI ((j + 1) % 64)))
def mDvA (row dv : Nat → Int64) : Nat → Int64 := va_cpy row dv (0 : Int32).toNatClampNeg (0 : Int32).toNatClampNeg (625 : Int32).toNatClampNeg
def mDvB (row dv : Nat → Int64) : Nat → Int64 := vp_updL (mDvA row dv) (625 : Int32).toNatClampNeg 0
def mDv0 (row dv : Nat → Int64) (x : Int64) : Nat → Int64 := vp_updL (mDvB row dv) (0 : Int32).toNatClampNeg (mDvB row dv (0 : Int32).toNatClampNeg ^^^ x)
def mDvN (row dv : Nat → Int64) (x tp : Int64) : Nat → Nat → Int64
  | 0 => mDv0 row dv x
  | i + 1 => if 0 ≤ lg_cmp (jshl (mDvN row dv x tp i (nI (i / 64)).toNatClampNeg) (nI (i % 64))) 0 then mDvN row dv x tp i else mAdd (mDvN row dv x tp i) tp i
def mChk (row sl : Nat → Int64) (nb : Nat) (w bo : Int32) (tp fi la : Int64) (y : Int32) : Int64 := if y = 0 then mCheck w bo la (mBbN row tp (mTop w fi) nb) else if y = 1 then mCheck w bo la (mYy row sl (mTop w fi) 0 nb) else if y = 2 then mCheck w bo la (mEi row sl (mTop w fi) 0 nb) else 0
def mChk3 (row dv : Nat → Int64) (nb : Nat) (w bo : Int32) (tp fi la : Int64) : Int64 := mCheck w bo la (mDvF (mDvN row dv (mTop w fi) tp (nb * 8)) (nb * 8))
def mPart (row sl : Nat → Int64) (nb : Nat) (w bo : Int32) (fi la : Int64) (x y : Int32) : Int64 := if x < 0 then 0 else if y < x then 0 else if y ≤ nI nb then mCheck w bo la (mEi row sl (mTop w fi) x.toNatClampNeg y.toNatClampNeg) else 0
def mJoin (w bo : Int32) (tp fi la x y : Int64) (n : Int32) : Int64 := if 0 ≤ n then mCheck w bo la (mReg w bo la y ^^^ mZeros w tp (mReg w bo la x ^^^ mTop w fi) (n.toInt64 * 8)) else 0
def mEntry (sl : Nat → Int64) (w bi k b : Int32) : Int64 := if k < 0 then 0 else if 8 ≤ k then 0 else if mIsB b = 0 then 0 else mFrom w (sl (k * 256 + (mCome bi b).toInt32).toNatClampNeg)
def mZer (w : Int32) (tp x : Int64) (n : Int32) : Int64 := if n < 0 then 0 else if n ≤ 1000000 then mFrom w (mZeros w tp (mTop w x) n.toInt64) else 0
def mRdN (w : Int32) (tp : Int64) : Nat → Int64
  | 0 => mTop w 1
  | i + 1 => mBit tp (mRdN w tp i) 0
def mRound (w : Int32) (tp : Int64) : Int32 := firstAt (fun i => decide (mRdN w tp i = mTop w 1)) 0 4096
def mFeN (row : Nat → Int64) (x : Int64) (nb : Nat) : Nat → Nat → Int64
  | 0 => row
  | i + 1 => vp_updL (mFeN row x nb i) (nI ((nb + i) / 8)).toNatClampNeg (mFeN row x nb i (nI ((nb + i) / 8)).toNatClampNeg ||| jshl x (mSh (nI (nb + i))))
def mFlip (row : Nat → Int64) (i : Nat) : Nat → Int64 := vp_updL row (nI (i / 64)).toNatClampNeg (row (nI (i / 64)).toNatClampNeg ^^^ jshl 1 (63 - nI (i % 64)))
def mAFN (f : Nat → Int64) (x : Int64) : Nat → Nat → Int64
  | 0 => f
  | i + 1 => vp_updL (mAFN f x i) (nI i).toNatClampNeg x
/-! Small rows for the reference's walks. -/
theorem du_nn {x : Int32} (h : ¬ x < 0) : x = nI x.toNatClampNeg := by
  obtain ⟨j, hj, e⟩ := nI_of h
  rw [e, nI_clamp hj]
theorem du_pos {x : Int32} (h : ¬ x < 0) : 0 ≤ x := Int32.not_lt.mp h
theorem du_ti (x : Int32) : x.toNatClampNeg = x.toInt.toNat := rfl
theorem du_nn2 {x y : Int32} (h : ¬ x < 0) (h2 : ¬ y < x) : ¬ y < 0 := by
  rw [Int32.lt_iff_toInt_lt] at *
  have : (0 : Int32).toInt = 0 := by decide
  omega
theorem du_cle {y : Int32} {n : Nat} (_h : ¬ y < 0) (c : y ≤ nI n) (hn : n < 2 ^ 31) : y.toNatClampNeg ≤ n := by
  rw [Int32.le_iff_toInt_le, nI_toInt hn] at c
  rw [du_ti]; omega
theorem du_cl2 {x y : Int32} (h : ¬ y < x) : x.toNatClampNeg ≤ y.toNatClampNeg := by
  rw [Int32.lt_iff_toInt_lt] at h
  rw [du_ti, du_ti]; omega
theorem du_ln {n : Int32} (h : ¬ n < 0) : n.toInt64 = lN n.toNatClampNeg := by
  have e := du_nn h
  have := nI_l (du_cl n)
  rw [← this, ← e]
theorem du_ll (n : Int32) : n.toNatClampNeg < 2 ^ 35 := by have := du_cl n; omega
theorem du_8n {n : Int32} (h : 0 ≤ n) : 8 * n.toInt64 = lN (8 * n.toNatClampNeg) := by
  rw [du_ln (Int32.not_lt.mpr h), show (8 : Int64) = lN 8 from rfl, lN_mul]
theorem du_8l (n : Int32) : 8 * n.toNatClampNeg < 2 ^ 35 := by have := du_cl n; omega
theorem du_s0 (x : Int32) : x - 1 - nI 0 = x - 1 := by
  show x - 1 - 0 = x - 1
  exact Int32.sub_zero _
theorem du_wp {wd i : Nat} (hw1 : 1 ≤ wd) (hi : i < wd) : nI wd - 1 - nI i = nI (wd - 1 - i) := by
  obtain ⟨v, rfl⟩ : ∃ v, wd = v + 1 := ⟨wd - 1, by omega⟩
  rw [nI_pred, pk_sub (by omega)]
  rfl
theorem du_wa {wd i : Nat} (hw1 : 1 ≤ wd) (hw : wd ≤ 64) (hi : i ≤ wd) (c : nI wd - 1 - nI i < 0) : i = wd := by
  rcases Nat.lt_or_ge i wd with h | h
  · rw [du_wp hw1 h] at c
    exact absurd c (nI_pos (by omega))
  · omega
theorem du_wb {wd i : Nat} (hw1 : 1 ≤ wd) (hw : wd ≤ 64) (hi : i ≤ wd) (c : ¬ nI wd - 1 - nI i < 0) : i < wd := by
  rcases Nat.lt_or_ge i wd with h | h
  · exact h
  · exfalso
    have e : i = wd := by omega
    subst e
    obtain ⟨v, rfl⟩ : ∃ v, i = v + 1 := ⟨i - 1, by omega⟩
    rw [nI_pred] at c
    exact c (pk_sneg (by omega) (by omega))
theorem du_wc (wd i : Nat) : nI wd - 1 - nI i + Int32.ofInt (-1) = nI wd - 1 - nI (i + 1) := by
  rw [nI_succ, show Int32.ofInt (-1) = -1 from rfl]
  generalize nI wd - 1 = x
  generalize nI i = y
  grind
theorem du_l0 {z : Nat} (hz : z < 2 ^ 35) (c : lN z ≤ 0) : z = 0 := by
  have := (pk_lLE (a := z) (b := 0) (by omega) (by omega)).mp c
  omega
theorem du_l1 {z : Nat} (c : ¬ lN z ≤ 0) : z ≠ 0 := by
  intro h
  subst h
  exact c (by decide)
theorem du_l2 {Z i : Nat} (hZ : Z < 2 ^ 35) (hi : i ≤ 35) (h : Z / 2 ^ i ≠ 0) : i < 35 := by
  rcases Nat.lt_or_ge i 35 with q | q
  · exact q
  · have e : i = 35 := by omega
    subst e
    exact absurd (Nat.div_eq_of_lt hZ) h
theorem du_lr {z : Nat} (hz : z < 2 ^ 35) : lN z - lN z / 2 * 2 = lN (z % 2) := pk_lRem (a := z) (b := 2) (by omega) (by decide) (by decide)
theorem du_m1 {z : Nat} (hz : z < 2 ^ 35) (c : lg_cmp (lN z - lN z / 2 * 2) 1 = 0) : z % 2 = 1 := by
  have h := (lg_cmp_eq _ _).mp c
  rw [du_lr hz] at h
  exact (pk_lEQ (a := z % 2) (b := 1) (by omega) (by decide)).mp h
theorem du_m0 {z : Nat} (hz : z < 2 ^ 35) (c : ¬ lg_cmp (lN z - lN z / 2 * 2) 1 = 0) : ¬ z % 2 = 1 := by
  intro h
  apply c
  rw [lg_cmp_eq, du_lr hz, h]
  rfl
theorem du_half {Z i : Nat} (hz : Z / 2 ^ i < 2 ^ 35) : lN (Z / 2 ^ i) / 2 = lN (Z / 2 ^ (i + 1)) := by
  have h := pk_lDiv (a := Z / 2 ^ i) (b := 2) (by omega) (by decide) (by decide)
  rw [Nat.div_div_eq_div_mul, ← Nat.pow_succ] at h
  exact h
theorem du_bst {wd : Nat} {po x : Int64} {Z i : Nat} (hi : i ≤ 35) (hz : Z / 2 ^ i = 0) : rBhN wd po x Z i = rBh wd po x Z := by
  have step : ∀ d, i + d ≤ 35 → rBhN wd po x Z (i + d) = rBhN wd po x Z i := by
    intro d
    induction d with
    | zero => intro _; rfl
    | succ d ih =>
      intro h
      show rBhN wd po x Z ((i + d) + 1) = _
      have h0 : Z / 2 ^ (i + d) = 0 := by rw [Nat.pow_add, ← Nat.div_div_eq_div_mul, hz, Nat.zero_div]
      rw [rBhN, if_neg (by rw [h0]; decide), ih (by omega)]
  have := step (35 - i) (by omega)
  rw [show i + (35 - i) = 35 by omega] at this
  exact this.symm
theorem du_rd1 {i : Nat} (hi : i ≤ 4096) (c : 4096 < nI (i + 1)) : i = 4096 := by
  have := (nI_ltI (a := 4096) (b := i + 1) (by omega) (by omega)).mp c
  omega
theorem du_rd2 {i : Nat} (hi : i ≤ 4096) (c : ¬ 4096 < nI (i + 1)) : i < 4096 := by
  rcases Nat.lt_or_ge i 4096 with h | h
  · exact h
  · exact absurd (nI_lt (a := 4096) (b := i + 1) (by omega) (by omega)) c
theorem du_fn {f : Nat → Bool} {i : Nat} (h : i < 4096) : firstAt f i (4096 - i) = if f (i + 1) then nI (i + 1) else firstAt f (i + 1) (4096 - (i + 1)) := by
  rw [show 4096 - i = (4096 - (i + 1)) + 1 by omega]
  rfl
theorem bv_or (x y : Int64) : (x ||| y).toBitVec = x.toBitVec ||| y.toBitVec := Int64.toBitVec_or x y
theorem bv_and (x y : Int64) : (x &&& y).toBitVec = x.toBitVec &&& y.toBitVec := Int64.toBitVec_and x y
theorem bv_xor (x y : Int64) : (x ^^^ y).toBitVec = x.toBitVec ^^^ y.toBitVec := Int64.toBitVec_xor x y
theorem bv_1 : (1 : Int64).toBitVec = 1#64 := rfl
theorem bv_0 : (0 : Int64).toBitVec = 0#64 := rfl
theorem bv_shl1 (x : Int64) : (jshl x 1).toBitVec = x.toBitVec <<< 1 := bv_shl x (k := 1) (by decide)
/-- turned round: bit j is bit n - 1 - j -/
theorem tu_bit (v : Int64) : ∀ n, n ≤ 64 → ∀ j, (mTuN v n).toBitVec.getLsbD j = (decide (j < n) && v.toBitVec.getLsbD (n - 1 - j)) := by
  intro n
  induction n with
  | zero => intro _ j; show (0#64).getLsbD j = _; simp
  | succ n ih =>
    intro hn j
    rw [mTuN, bv_or, bv_shl1, bv_and, bv_ushr v (show n < 64 by omega), bv_1]
    rw [BitVec.getLsbD_or, BitVec.getLsbD_shiftLeft, BitVec.getLsbD_and, BitVec.getLsbD_ushiftRight, BitVec.getLsbD_one, ih (by omega)]
    rcases Nat.eq_zero_or_pos j with h | h
    · subst h
      simp
    · have h1 : decide (j < 1) = false := by simp; omega
      have h2 : decide (j = 0) = false := by simp; omega
      rw [h1, h2]
      rcases Nat.lt_or_ge j (n + 1) with q | q
      · have e1 : decide (j < 64) = true := by simp; omega
        have e2 : decide (j - 1 < n) = true := by simp; omega
        have e3 : decide (j < n + 1) = true := by simp; omega
        rw [e1, e2, e3, show n + 1 - 1 - j = n - 1 - (j - 1) by omega]
        simp
      · have e2 : decide (j - 1 < n) = false := by simp; omega
        have e3 : decide (j < n + 1) = false := by simp; omega
        rw [e2, e3]
        simp
theorem tu_lt (v : Int64) {n : Nat} (hn : n ≤ 64) : (mTuN v n).toBitVec.toNat < 2 ^ n := by
  apply Nat.lt_pow_two_of_testBit
  intro i hi
  show (mTuN v n).toBitVec.getLsbD i = false
  rw [tu_bit v n hn i]
  have : decide (i < n) = false := by simp; omega
  rw [this]; rfl
theorem isB_of {b : Int32} (h : ¬ mIsB b = 0) : ∃ j : Nat, j < 256 ∧ b = nI j := by
  unfold mIsB at h
  by_cases h1 : b < 0
  · rw [if_pos h1] at h; exact absurd rfl h
  · rw [if_neg h1] at h
    by_cases h2 : 256 ≤ b
    · rw [if_pos h2] at h; exact absurd rfl h
    · obtain ⟨j, hj, e⟩ := nI_of h1
      refine ⟨j, ?_, e⟩
      rw [e] at h2
      rcases Nat.lt_or_ge j 256 with q | q
      · exact q
      · exact absurd (nI_le (a := 256) q hj) h2
theorem come_of (bi : Int32) {j : Nat} (hj : j < 256) : ∃ z : Nat, z < 256 ∧ (mCome bi (nI j)).toBitVec.toNat = z := by
  refine ⟨_, ?_, rfl⟩
  unfold mCome
  split
  · rw [nI_l (by omega)]
    show (BitVec.ofNat 64 j).toNat < 256
    rw [BitVec.toNat_ofNat]; omega
  · exact tu_lt _ (n := 8) (by decide)
theorem du_eix {bi k b : Int32} (c1 : ¬ k < 0) (c7 : ¬ 8 ≤ k) (c14 : ¬ mIsB b = 0) : vp_in (k * 256 + (mCome bi b).toInt32) 2048 := by
  obtain ⟨j, hj, rfl⟩ := isB_of c14
  obtain ⟨i, hi, rfl⟩ := nI_of c1
  obtain ⟨z, hz, ez⟩ := come_of bi hj
  have h8 : i < 8 := by
    rcases Nat.lt_or_ge i 8 with q | q
    · exact q
    · exact absurd (nI_le (a := 8) q hi) c7
  rw [bw_i _ ez, show (256 : Int32) = nI 256 from rfl, pk_mul, nI_add]
  exact vp_in_nI (by omega) (by omega)
theorem du_fs1 {i : Nat} (hi : i ≤ 1792) (c : 2048 ≤ nI (256 + i)) : i = 1792 := by
  have := (nI_leI (a := 2048) (b := 256 + i) (by omega) (by omega)).mp c
  omega
theorem du_fs2 {i : Nat} (hi : i ≤ 1792) (c : ¬ 2048 ≤ nI (256 + i)) : i < 1792 := by
  rcases Nat.lt_or_ge i 1792 with h | h
  · exact h
  · exact absurd (nI_le (a := 2048) (b := 256 + i) (by omega) (by omega)) c
theorem du_fs3 (i : Nat) : nI (256 + i) - 256 = nI i := by
  have := pk_sub (a := 256 + i) (b := 256) (by omega)
  rw [show 256 + i - 256 = i by omega] at this
  exact this
theorem du_n1 {v : Nat} (h : 1 ≤ v) (hv : v < 2 ^ 31) : ¬ nI v < 1 := nI_nlt (a := v) (b := 1) h hv
theorem du_isb {b : Nat} (h : b < 256) : ¬ mIsB (nI b) = 0 := by
  unfold mIsB
  rw [if_neg (nI_pos (by omega)), if_neg (show ¬ (256 : Int32) ≤ nI b from nI_ge (a := b) (b := 256) h (by decide))]
  decide
theorem du_isb2 {b : Int32} (c1 : ¬ b < 0) (c8 : ¬ 255 < b) : ¬ mIsB b = 0 := by
  obtain ⟨j, hj, rfl⟩ := nI_of c1
  apply du_isb
  rcases Nat.lt_or_ge j 256 with h | h
  · exact h
  · exact absurd (nI_lt (a := 255) (b := j) (by omega) hj) c8
theorem du_nz {x : Int32} (h : x = 0 ∨ x = 1) : narrow .boolean (.int x) = .int x := by rcases h with h | h <;> subst h <;> decide
theorem du_fz {x : Int32} (h : x = 0 ∨ x = 1) : fits .boolean (.int x) = true := by rcases h with h | h <;> subst h <;> decide
theorem du_nlt {a b : Nat} (ha : a < 2 ^ 31) (hb : b < 2 ^ 31) (c : ¬ nI b < nI a) : a ≤ b := by
  rcases Nat.lt_or_ge b a with h | h
  · exact absurd (nI_lt h ha) c
  · exact h
theorem du_le7 {i : Nat} (hi : i ≤ 11) (c : ¬ 70 < nI (7 * i)) : 7 * i ≤ 70 := du_nlt (a := 7 * i) (b := 70) (by omega) (by decide) c
end
section
set_option maxHeartbeats 4000000 in
set_option maxRecDepth 100000 in
theorem c_fill {l : Launch} {D : va_G} {a1 : Nat} {k1 : ClassId} {f : Nat → Int64} {sz : Nat} (x : Int64)  : Met l yJ7_fill_d0a16 wsJ7_fill_d0a16 ({ frames := 0, cells := 0, slots := 0, locals := 0 }) (va_Pc [.ref a1, .long x] (pMU D vwCl (jt k1) (jw a1 k1 f) sz)) (muV D vwCl (jw a1 k1 f) (jw a1 k1 (mAFN f x 625)) sz) 0 0 (va_A (jw a1 k1 f) sz) := by
  refine Met.ofW (cc := cJ7_fill_d0a16) (maxL := 5) (ret := none) (by decide) rfl ?_
  intro p e s m args below meth c s₁ B hml hv
  obtain ⟨rfl, hsz, hP, hK, hD0⟩ := hv
  have hsz : s.heap.size = sz := hsz
  have hx := B.exec
  have hb := B.bytes
  have hr := B.returns
  have hts := atoms_spec (ws := wsJ7_fill_d0a16) B.pre
  have hown : s.vm.findClass RJ7 = some m.cls := findClass_of_methodNamed B.named
  have hlocks := B.notSynchronized
  subst hsz
  have hD0 := hD0.self (sz := s.heap.size)
  have hA : ∀ q : Nat, s.heap.size ≤ q → va_A (jw a1 k1 f) s.heap.size q := fun q h => Or.inr h
  unfold muV
  generalize va_A (jw a1 k1 f) s.heap.size = A at hD0 hA ⊢
  have hD := hD0
  have hS : va_S A s.heap s.heap [] := va_S.rf
  have hl := lv_entry ([.ref a1, .long x]) (n := 5) (Nat.le_of_ble_eq_true rfl)
  rw [lg_entry_eq]
  generalize (lg_sl ([.ref a1, .long x]) ++ List.replicate (5 - (lg_sl ([.ref a1, .long x])).length) Slot.unset).toArray = ls at hl ⊢
  have hl : lv_has ls 5 [(0, .ref a1), (1, .long x)] := hl
  suffices key : ∀ (H : Heap) (locs : List Loc), va_P D vwCl (jw a1 k1 f) H → va_S A s.heap H locs → W p l e (headSpec wsJ7_fill_d0a16 { frames := 0, cells := 0, slots := 0, locals := 0 }).room s m ([.ref a1, .long x] : List Value).toArray below meth c H locs 0 0 (MQ below (va_Qv (fun (_ : Unit) => True) (fun _ t9 => va_P D vwCl (jw a1 k1 (mAFN f x 625)) t9.heap) A) ([.ref a1, .long x] : List Value).toArray s 0 0 A) (F0 m 0 ls []) from key s.heap [] hP hS
  intro H locs hP hS
  refine lv_iconst (v := 0) hx hb dJ7_fill_d0a16_0 (by decide) ?_
  refine lv_istore_n (lv' := [(3, .int 0), (0, .ref a1), (1, .long x)]) hx hb dJ7_fill_d0a16_1 rfl hl (by decide) rfl (fun ls hl => ?_)
  refine lv_aload_n hx hb dJ7_fill_d0a16_2 rfl (lv_at hl 1 rfl) ?_
  refine va_alen hx hb hK hP 0 0 rfl rfl (v := 625) rfl dJ7_fill_d0a16_3 ?_
  refine lv_istore (lv' := [(4, .int 625), (3, .int 0), (0, .ref a1), (1, .long x)]) hx hb dJ7_fill_d0a16_4 hl (by decide) rfl (fun ls hl => ?_)
  have lp_6 : ∀ (k i : Nat), i ≤ 625 → 625 < i + k → ∀ (H : Heap) (locs : List Loc), va_P D vwCl (jw a1 k1 (mAFN f x i)) H → va_S A s.heap H locs → ∀ ls : Array Slot, lv_has ls 5 [(4, .int 625), (3, .int (nI i)), (0, .ref a1), (1, .long x)] → W p l e (headSpec wsJ7_fill_d0a16 { frames := 0, cells := 0, slots := 0, locals := 0 }).room s m ([.ref a1, .long x] : List Value).toArray below meth c H locs 0 0 (MQ below (va_Qv (fun (_ : Unit) => True) (fun _ t9 => va_P D vwCl (jw a1 k1 (mAFN f x 625)) t9.heap) A) ([.ref a1, .long x] : List Value).toArray s 0 0 A) (F0 m 6 ls []) := by
    intro k
    induction k with
    | zero =>
      intro i h1 h2
      exact absurd h2 (by omega)
    | succ k ih =>
      intro i hi hk H locs hP hS ls hl
      have hD : va_D A (jw a1 k1 (mAFN f x i)) := du_same hD0 rfl
      refine lv_iload_n hx hb dJ7_fill_d0a16_6 rfl (lv_at hl 1 rfl) ?_
      refine lv_iload hx hb dJ7_fill_d0a16_7 (lv_at hl 0 rfl) ?_
      refine lv_icmp_ge (tgt := 22) hx hb dJ7_fill_d0a16_9 (by decide) (fun c_9 => ?_) (fun c_9 => ?_)
      ·
        have hiN := du_ge (N := 625) (by omega) hi c_9
        have hPf : va_P D vwCl (jw a1 k1 (mAFN f x 625)) H := by subst hiN; exact hP
        exact W.vret hx hb hr (fun t ht hW => ⟨⟨(), rfl, trivial, by show va_P _ _ _ t.heap; rw [ht]; exact hPf⟩, hS.F ht⟩) hS.2.2 dJ7_fill_d0a16_22
      ·
        have hlt := du_lt (N := 625) (by omega) hi c_9
        refine lv_aload_n hx hb dJ7_fill_d0a16_12 rfl (lv_at hl 2 rfl) ?_
        refine lv_iload_n hx hb dJ7_fill_d0a16_13 rfl (lv_at hl 1 rfl) ?_
        refine lv_lload_n hx hb dJ7_fill_d0a16_14 rfl (lv_at hl 3 rfl) ?_
        refine va_last hx hb hK hP hD hS 0 0 rfl rfl (i := nI i) (x := x) (vp_in_nI (by omega) (by omega)) dJ7_fill_d0a16_15 (fun H locs hP hD hS => ?_)
        have hP : va_P D vwCl (jw a1 k1 (mAFN f x (i + 1))) H := hP
        have hD : va_D A (jw a1 k1 (mAFN f x (i + 1))) := hD
        refine lv_iinc (v := nI (i + 1)) (lv' := [(3, .int (nI (i + 1))), (4, .int 625), (0, .ref a1), (1, .long x)]) hx hb dJ7_fill_d0a16_16 hl (k := 1) rfl (nI_1 i) (by decide) rfl (fun ls hl => ?_)
        refine lv_goto (tgt := 6) hx hb dJ7_fill_d0a16_19 (by decide) ?_
        exact ih (i + 1) (by omega) (by omega) H locs (hP) hS ls (lv_sub hl [1, 0, 2, 3] rfl)
  exact lp_6 (625 + 1 - 0) 0 (by omega) (by omega) H locs (hP) hS ls (lv_sub hl [0, 1, 2, 3] rfl)
end
section
/-! Contracts, laid by wip/whole/gen.py. -/
theorem in_c_dividendFrom : ∀ w ∈ wsX00, w ∈ wsX0_dividendFrom := fun _ h => List.mem_cons_of_mem _ (List.mem_append_right _ h)
set_option maxHeartbeats 4000000 in
set_option maxRecDepth 100000 in
theorem c_dividendFrom {l : Launch} {D : va_G} {o a1 a2 a3 : Nat} {k1 k2 k3 : ClassId} {row : Nat → Int64} {dv : Nat → Int64} {sl : Nat → Int64} {nb : Nat} {wd : Nat} {po : Int64} {tp : Int64} {fi : Int64} {la : Int64} {bi : Int32} {bo : Int32} {sz : Nat} (j : Nat) (hj : j ≤ 40000) : Met l yX0_dividendFrom wsX0_dividendFrom ({ frames := 0, cells := 0, slots := 0, locals := 0 }) (va_Pc [.ref o, .int (nI j)] (pRO D vwCl (xt k1 k2 k3) (xw o a1 a2 a3 k1 k2 k3 row dv sl nb wd po tp fi la bi bo) sz)) (roL sz (mDvF dv j)) 0 0 (fun q : Nat => sz ≤ q) := by
  refine Met.ofW (cc := cX0_dividendFrom) (maxL := 4) (ret := (some .long)) (by decide) rfl ?_
  intro p e s m args below meth c s₁ B hml hv
  obtain ⟨rfl, hsz, hP, hK⟩ := hv
  have hsz : s.heap.size = sz := hsz
  have hx := B.exec
  have hb := B.bytes
  have hr := B.returns
  have hts := atoms_spec (ws := wsX0_dividendFrom) B.pre
  have hown : s.vm.findClass RX0 = some m.cls := findClass_of_methodNamed B.named
  have hlocks := B.notSynchronized
  subst hsz
  have hA : ∀ q : Nat, s.heap.size ≤ q → (fun q : Nat => s.heap.size ≤ q) q := fun _ h => h
  have hS : va_S (fun q : Nat => s.heap.size ≤ q) s.heap s.heap [] := va_S.rf
  have hl := lv_entry ([.ref o, .int (nI j)]) (n := 4) (Nat.le_of_ble_eq_true rfl)
  rw [lg_entry_eq]
  generalize (lg_sl ([.ref o, .int (nI j)]) ++ List.replicate (4 - (lg_sl ([.ref o, .int (nI j)])).length) Slot.unset).toArray = ls at hl ⊢
  have hl : lv_has ls 4 [(0, .ref o), (1, .int (nI j))] := hl
  suffices key : ∀ (H : Heap) (locs : List Loc), va_P D vwCl (xw o a1 a2 a3 k1 k2 k3 row dv sl nb wd po tp fi la bi bo) H → va_S (fun q : Nat => s.heap.size ≤ q) s.heap H locs → W p l e (headSpec wsX0_dividendFrom { frames := 0, cells := 0, slots := 0, locals := 0 }).room s m ([.ref o, .int (nI j)] : List Value).toArray below meth c H locs 0 0 (MQ below (roL s.heap.size (mDvF dv j)) ([.ref o, .int (nI j)] : List Value).toArray s 0 0 (fun q : Nat => s.heap.size ≤ q)) (F0 m 0 ls []) from key s.heap [] hP hS
  intro H locs hP hS
  refine lv_iload_n hx hb dX0_dividendFrom_0 rfl (lv_at hl 1 rfl) ?_
  refine lv_bipush (v := 64) hx hb dX0_dividendFrom_1 (by decide) ?_
  refine lv_idiv hx hb dX0_dividendFrom_3 (by decide) ?_
  refine du_rwi (y := nI (j / 64)) (du_div64 (by omega)) ?_
  refine lv_istore_n (lv' := [(2, .int (nI (j / 64))), (0, .ref o), (1, .int (nI j))]) hx hb dX0_dividendFrom_4 rfl hl (by decide) rfl (fun ls hl => ?_)
  refine lv_iload_n hx hb dX0_dividendFrom_5 rfl (lv_at hl 2 rfl) ?_
  refine lv_bipush (v := 64) hx hb dX0_dividendFrom_6 (by decide) ?_
  refine lv_irem hx hb dX0_dividendFrom_8 (by decide) ?_
  refine du_rwi (y := nI (j % 64)) (du_rem64 (by omega)) ?_
  refine lv_istore_n (lv' := [(3, .int (nI (j % 64))), (2, .int (nI (j / 64))), (0, .ref o), (1, .int (nI j))]) hx hb dX0_dividendFrom_9 rfl hl (by decide) rfl (fun ls hl => ?_)
  refine lv_iload_n hx hb dX0_dividendFrom_10 rfl (lv_at hl 0 rfl) ?_
  refine lv_if_ne (tgt := 23) hx hb dX0_dividendFrom_11 (by decide) (fun c_11 => ?_) (fun c_11 => ?_)
  ·
    have hj64 : j % 64 ≠ 0 := fun h => c_11 (by rw [h]; rfl)
    refine lv_aload_n hx hb dX0_dividendFrom_23 rfl (lv_at hl 2 rfl) ?_
    refine va_get (D := D) (ci := 0) (v := .ref a2) (C := RX0) (T := TX0) (N := 11) hx hb hts in_c_dividendFrom hown hK hP 0 rfl rfl 1 (by decide) (hts (.fieldLink RX0 13 "SliceChecks" "dividend" "[J") (by decide +kernel)) (fun _ h9 => h9) rfl dX0_dividendFrom_24 ?_
    refine lv_iload_n hx hb dX0_dividendFrom_27 rfl (lv_at hl 1 rfl) ?_
    refine va_lald hx hb hK hP 2 1 rfl rfl (i := nI (j / 64)) (vp_in_nI (by omega) (by omega)) dX0_dividendFrom_28 ?_
    refine lv_iload_n hx hb dX0_dividendFrom_29 rfl (lv_at hl 0 rfl) ?_
    refine lv_lshl (v := jshl (dv (nI (j / 64)).toNatClampNeg) (nI (j % 64))) hx hb dX0_dividendFrom_30 rfl ?_
    refine lv_aload_n hx hb dX0_dividendFrom_31 rfl (lv_at hl 2 rfl) ?_
    refine va_get (D := D) (ci := 0) (v := .ref a2) (C := RX0) (T := TX0) (N := 11) hx hb hts in_c_dividendFrom hown hK hP 0 rfl rfl 1 (by decide) (hts (.fieldLink RX0 13 "SliceChecks" "dividend" "[J") (by decide +kernel)) (fun _ h9 => h9) rfl dX0_dividendFrom_32 ?_
    refine lv_iload_n hx hb dX0_dividendFrom_35 rfl (lv_at hl 1 rfl) ?_
    refine lv_iconst (v := 1) hx hb dX0_dividendFrom_36 (by decide) ?_
    refine lv_iadd hx hb dX0_dividendFrom_37 ?_
    refine va_lald hx hb hK hP 2 1 rfl rfl (i := (nI (j / 64)) + 1) (by rw [nI_1]; exact vp_in_nI (by omega) (by omega)) dX0_dividendFrom_38 ?_
    refine lv_bipush (v := 64) hx hb dX0_dividendFrom_39 (by decide) ?_
    refine lv_iload_n hx hb dX0_dividendFrom_41 rfl (lv_at hl 0 rfl) ?_
    refine lv_isub hx hb dX0_dividendFrom_42 ?_
    refine lv_lushr (v := jushr (dv ((nI (j / 64)) + 1).toNatClampNeg) (64 - (nI (j % 64)))) hx hb dX0_dividendFrom_43 rfl ?_
    refine lv_lor hx hb dX0_dividendFrom_44 ?_
    exact W.lret (v := ((jshl (dv (nI (j / 64)).toNatClampNeg) (nI (j % 64))) ||| (jushr (dv ((nI (j / 64)) + 1).toNatClampNeg) (64 - (nI (j % 64)))))) hx hb hr (fun t ht hW => ⟨⟨((jshl (dv (nI (j / 64)).toNatClampNeg) (nI (j % 64))) ||| (jushr (dv ((nI (j / 64)) + 1).toNatClampNeg) (64 - (nI (j % 64))))), (), rfl, by first | rw [mDvF, if_pos c_11] | rw [mDvF, if_neg c_11], trivial⟩, hS.F ht⟩) hS.2.2 dX0_dividendFrom_45
  ·
    refine lv_aload_n hx hb dX0_dividendFrom_14 rfl (lv_at hl 2 rfl) ?_
    refine va_get (D := D) (ci := 0) (v := .ref a2) (C := RX0) (T := TX0) (N := 11) hx hb hts in_c_dividendFrom hown hK hP 0 rfl rfl 1 (by decide) (hts (.fieldLink RX0 13 "SliceChecks" "dividend" "[J") (by decide +kernel)) (fun _ h9 => h9) rfl dX0_dividendFrom_15 ?_
    refine lv_iload_n hx hb dX0_dividendFrom_18 rfl (lv_at hl 1 rfl) ?_
    refine va_lald hx hb hK hP 2 1 rfl rfl (i := nI (j / 64)) (vp_in_nI (by omega) (by omega)) dX0_dividendFrom_19 ?_
    refine lv_goto (tgt := 45) hx hb dX0_dividendFrom_20 (by decide) ?_
    exact W.lret (v := (dv (nI (j / 64)).toNatClampNeg)) hx hb hr (fun t ht hW => ⟨⟨(dv (nI (j / 64)).toNatClampNeg), (), rfl, by first | rw [mDvF, if_pos c_11] | rw [mDvF, if_neg c_11], trivial⟩, hS.F ht⟩) hS.2.2 dX0_dividendFrom_45
theorem in_c_addPolynomialAt : ∀ w ∈ wsX00, w ∈ wsX0_addPolynomialAt := fun _ h => List.mem_cons_of_mem _ (List.mem_append_right _ h)
set_option maxHeartbeats 4000000 in
set_option maxRecDepth 100000 in
theorem c_addPolynomialAt {l : Launch} {D : va_G} {o a1 a2 a3 : Nat} {k1 k2 k3 : ClassId} {row : Nat → Int64} {dv : Nat → Int64} {sl : Nat → Int64} {nb : Nat} {wd : Nat} {po : Int64} {tp : Int64} {fi : Int64} {la : Int64} {bi : Int32} {bo : Int32} {sz : Nat} (j : Nat) (hj : j < 40000) : Met l yX0_addPolynomialAt wsX0_addPolynomialAt ({ frames := 0, cells := 0, slots := 0, locals := 0 }) (va_Pc [.ref o, .int (nI j)] (pMU D vwCl (xt k1 k2 k3) (xw o a1 a2 a3 k1 k2 k3 row dv sl nb wd po tp fi la bi bo) sz)) (muV D vwCl (xw o a1 a2 a3 k1 k2 k3 row dv sl nb wd po tp fi la bi bo) (xw o a1 a2 a3 k1 k2 k3 row (mAdd dv tp j) sl nb wd po tp fi la bi bo) sz) 0 0 (va_A (xw o a1 a2 a3 k1 k2 k3 row dv sl nb wd po tp fi la bi bo) sz) := by
  refine Met.ofW (cc := cX0_addPolynomialAt) (maxL := 4) (ret := none) (by decide) rfl ?_
  intro p e s m args below meth c s₁ B hml hv
  obtain ⟨rfl, hsz, hP, hK, hD0⟩ := hv
  have hsz : s.heap.size = sz := hsz
  have hx := B.exec
  have hb := B.bytes
  have hr := B.returns
  have hts := atoms_spec (ws := wsX0_addPolynomialAt) B.pre
  have hown : s.vm.findClass RX0 = some m.cls := findClass_of_methodNamed B.named
  have hlocks := B.notSynchronized
  subst hsz
  have hD0 := hD0.self (sz := s.heap.size)
  have hA : ∀ q : Nat, s.heap.size ≤ q → va_A (xw o a1 a2 a3 k1 k2 k3 row dv sl nb wd po tp fi la bi bo) s.heap.size q := fun q h => Or.inr h
  unfold muV
  generalize va_A (xw o a1 a2 a3 k1 k2 k3 row dv sl nb wd po tp fi la bi bo) s.heap.size = A at hD0 hA ⊢
  have hD := hD0
  have hS : va_S A s.heap s.heap [] := va_S.rf
  have hl := lv_entry ([.ref o, .int (nI j)]) (n := 4) (Nat.le_of_ble_eq_true rfl)
  rw [lg_entry_eq]
  generalize (lg_sl ([.ref o, .int (nI j)]) ++ List.replicate (4 - (lg_sl ([.ref o, .int (nI j)])).length) Slot.unset).toArray = ls at hl ⊢
  have hl : lv_has ls 4 [(0, .ref o), (1, .int (nI j))] := hl
  suffices key : ∀ (H : Heap) (locs : List Loc), va_P D vwCl (xw o a1 a2 a3 k1 k2 k3 row dv sl nb wd po tp fi la bi bo) H → va_S A s.heap H locs → W p l e (headSpec wsX0_addPolynomialAt { frames := 0, cells := 0, slots := 0, locals := 0 }).room s m ([.ref o, .int (nI j)] : List Value).toArray below meth c H locs 0 0 (MQ below (va_Qv (fun (_ : Unit) => True) (fun _ t9 => va_P D vwCl (xw o a1 a2 a3 k1 k2 k3 row (mAdd dv tp j) sl nb wd po tp fi la bi bo) t9.heap) A) ([.ref o, .int (nI j)] : List Value).toArray s 0 0 A) (F0 m 0 ls []) from key s.heap [] hP hS
  intro H locs hP hS
  refine lv_aload_n hx hb dX0_addPolynomialAt_0 rfl (lv_at hl 0 rfl) ?_
  refine va_get (D := D) (ci := 0) (v := .ref a2) (C := RX0) (T := TX0) (N := 11) hx hb hts in_c_addPolynomialAt hown hK hP 0 rfl rfl 1 (by decide) (hts (.fieldLink RX0 13 "SliceChecks" "dividend" "[J") (by decide +kernel)) (fun _ h9 => h9) rfl dX0_addPolynomialAt_1 ?_
  refine lv_iload_n hx hb dX0_addPolynomialAt_4 rfl (lv_at hl 1 rfl) ?_
  refine lv_bipush (v := 64) hx hb dX0_addPolynomialAt_5 (by decide) ?_
  refine lv_idiv hx hb dX0_addPolynomialAt_7 (by decide) ?_
  refine du_rwi (y := nI (j / 64)) (du_div64 (by omega)) ?_
  refine lv_dup2_11 hx hb dX0_addPolynomialAt_8 rfl rfl ?_
  refine va_lald hx hb hK hP 2 1 rfl rfl (i := nI (j / 64)) (vp_in_nI (by omega) (by omega)) dX0_addPolynomialAt_9 ?_
  refine lv_lconst (v := 1) hx hb dX0_addPolynomialAt_10 (by decide) ?_
  refine lv_bipush (v := 63) hx hb dX0_addPolynomialAt_11 (by decide) ?_
  refine lv_iload_n hx hb dX0_addPolynomialAt_13 rfl (lv_at hl 1 rfl) ?_
  refine lv_bipush (v := 64) hx hb dX0_addPolynomialAt_14 (by decide) ?_
  refine lv_irem hx hb dX0_addPolynomialAt_16 (by decide) ?_
  refine du_rwi (y := nI (j % 64)) (du_rem64 (by omega)) ?_
  refine lv_isub hx hb dX0_addPolynomialAt_17 ?_
  refine lv_lshl (v := jshl 1 (63 - (nI (j % 64)))) hx hb dX0_addPolynomialAt_18 rfl ?_
  refine lv_lxor hx hb dX0_addPolynomialAt_19 ?_
  refine va_last hx hb hK hP hD hS 2 1 rfl rfl (i := nI (j / 64)) (x := (dv (nI (j / 64)).toNatClampNeg) ^^^ (jshl 1 (63 - (nI (j % 64))))) (vp_in_nI (by omega) (by omega)) dX0_addPolynomialAt_20 (fun H locs hP hD hS => ?_)
  have hP : va_P D vwCl (xw o a1 a2 a3 k1 k2 k3 row (mAd1 dv j) sl nb wd po tp fi la bi bo) H := hP
  have hD : va_D A (xw o a1 a2 a3 k1 k2 k3 row (mAd1 dv j) sl nb wd po tp fi la bi bo) := hD
  refine lv_iload_n hx hb dX0_addPolynomialAt_21 rfl (lv_at hl 1 rfl) ?_
  refine lv_iconst (v := 1) hx hb dX0_addPolynomialAt_22 (by decide) ?_
  refine lv_iadd hx hb dX0_addPolynomialAt_23 ?_
  refine du_rwi (y := nI (j + 1)) (nI_1 j) ?_
  refine lv_bipush (v := 64) hx hb dX0_addPolynomialAt_24 (by decide) ?_
  refine lv_idiv hx hb dX0_addPolynomialAt_26 (by decide) ?_
  refine du_rwi (y := nI ((j + 1) / 64)) (du_div64 (by omega)) ?_
  refine lv_istore_n (lv' := [(2, .int (nI ((j + 1) / 64))), (0, .ref o), (1, .int (nI j))]) hx hb dX0_addPolynomialAt_27 rfl hl (by decide) rfl (fun ls hl => ?_)
  refine lv_iload_n hx hb dX0_addPolynomialAt_28 rfl (lv_at hl 2 rfl) ?_
  refine lv_iconst (v := 1) hx hb dX0_addPolynomialAt_29 (by decide) ?_
  refine lv_iadd hx hb dX0_addPolynomialAt_30 ?_
  refine du_rwi (y := nI (j + 1)) (nI_1 j) ?_
  refine lv_bipush (v := 64) hx hb dX0_addPolynomialAt_31 (by decide) ?_
  refine lv_irem hx hb dX0_addPolynomialAt_33 (by decide) ?_
  refine du_rwi (y := nI ((j + 1) % 64)) (du_rem64 (by omega)) ?_
  refine lv_istore_n (lv' := [(3, .int (nI ((j + 1) % 64))), (2, .int (nI ((j + 1) / 64))), (0, .ref o), (1, .int (nI j))]) hx hb dX0_addPolynomialAt_34 rfl hl (by decide) rfl (fun ls hl => ?_)
  refine lv_aload_n hx hb dX0_addPolynomialAt_35 rfl (lv_at hl 2 rfl) ?_
  refine va_get (D := D) (ci := 0) (v := .ref a2) (C := RX0) (T := TX0) (N := 11) hx hb hts in_c_addPolynomialAt hown hK hP 0 rfl rfl 1 (by decide) (hts (.fieldLink RX0 13 "SliceChecks" "dividend" "[J") (by decide +kernel)) (fun _ h9 => h9) rfl dX0_addPolynomialAt_36 ?_
  refine lv_iload_n hx hb dX0_addPolynomialAt_39 rfl (lv_at hl 1 rfl) ?_
  refine lv_dup2_11 hx hb dX0_addPolynomialAt_40 rfl rfl ?_
  refine va_lald hx hb hK hP 2 1 rfl rfl (i := nI ((j + 1) / 64)) (vp_in_nI (by omega) (by omega)) dX0_addPolynomialAt_41 ?_
  refine lv_aload_n hx hb dX0_addPolynomialAt_42 rfl (lv_at hl 2 rfl) ?_
  refine va_get (D := D) (ci := 0) (v := .long tp) (C := RX0) (T := TX0) (N := 11) hx hb hts in_c_addPolynomialAt hown hK hP 0 rfl rfl 6 (by decide) (hts (.fieldLink RX0 49 "SliceChecks" "topPolynomial" "J") (by decide +kernel)) (fun _ h9 => h9) rfl dX0_addPolynomialAt_43 ?_
  refine lv_iload_n hx hb dX0_addPolynomialAt_46 rfl (lv_at hl 0 rfl) ?_
  refine lv_lushr (v := jushr tp (nI ((j + 1) % 64))) hx hb dX0_addPolynomialAt_47 rfl ?_
  refine lv_lxor hx hb dX0_addPolynomialAt_48 ?_
  refine va_last hx hb hK hP hD hS 2 1 rfl rfl (i := nI ((j + 1) / 64)) (x := ((mAd1 dv j) (nI ((j + 1) / 64)).toNatClampNeg) ^^^ (jushr tp (nI ((j + 1) % 64)))) (vp_in_nI (by omega) (by omega)) dX0_addPolynomialAt_49 (fun H locs hP hD hS => ?_)
  have hP : va_P D vwCl (xw o a1 a2 a3 k1 k2 k3 row (mAd2 dv tp j) sl nb wd po tp fi la bi bo) H := hP
  have hD : va_D A (xw o a1 a2 a3 k1 k2 k3 row (mAd2 dv tp j) sl nb wd po tp fi la bi bo) := hD
  refine lv_iload_n hx hb dX0_addPolynomialAt_50 rfl (lv_at hl 0 rfl) ?_
  refine lv_if_eq (tgt := 74) hx hb dX0_addPolynomialAt_51 (by decide) (fun c_51 => ?_) (fun c_51 => ?_)
  ·
    have hPf : va_P D vwCl (xw o a1 a2 a3 k1 k2 k3 row (mAdd dv tp j) sl nb wd po tp fi la bi bo) H := by first | (rw [mAdd, if_pos c_51]; exact hP) | (rw [mAdd, if_neg c_51]; exact hP)
    exact W.vret hx hb hr (fun t ht hW => ⟨⟨(), rfl, trivial, by show va_P _ _ _ t.heap; rw [ht]; exact hPf⟩, hS.F ht⟩) hS.2.2 dX0_addPolynomialAt_74
  ·
    have hj64 : (j + 1) % 64 ≠ 0 := fun h => c_51 (by rw [h]; rfl)
    refine lv_aload_n hx hb dX0_addPolynomialAt_54 rfl (lv_at hl 2 rfl) ?_
    refine va_get (D := D) (ci := 0) (v := .ref a2) (C := RX0) (T := TX0) (N := 11) hx hb hts in_c_addPolynomialAt hown hK hP 0 rfl rfl 1 (by decide) (hts (.fieldLink RX0 13 "SliceChecks" "dividend" "[J") (by decide +kernel)) (fun _ h9 => h9) rfl dX0_addPolynomialAt_55 ?_
    refine lv_iload_n hx hb dX0_addPolynomialAt_58 rfl (lv_at hl 1 rfl) ?_
    refine lv_iconst (v := 1) hx hb dX0_addPolynomialAt_59 (by decide) ?_
    refine lv_iadd hx hb dX0_addPolynomialAt_60 ?_
    refine lv_dup2_11 hx hb dX0_addPolynomialAt_61 rfl rfl ?_
    refine va_lald hx hb hK hP 2 1 rfl rfl (i := (nI ((j + 1) / 64)) + 1) (by rw [nI_1]; exact vp_in_nI (by omega) (by omega)) dX0_addPolynomialAt_62 ?_
    refine lv_aload_n hx hb dX0_addPolynomialAt_63 rfl (lv_at hl 2 rfl) ?_
    refine va_get (D := D) (ci := 0) (v := .long tp) (C := RX0) (T := TX0) (N := 11) hx hb hts in_c_addPolynomialAt hown hK hP 0 rfl rfl 6 (by decide) (hts (.fieldLink RX0 49 "SliceChecks" "topPolynomial" "J") (by decide +kernel)) (fun _ h9 => h9) rfl dX0_addPolynomialAt_64 ?_
    refine lv_bipush (v := 64) hx hb dX0_addPolynomialAt_67 (by decide) ?_
    refine lv_iload_n hx hb dX0_addPolynomialAt_69 rfl (lv_at hl 0 rfl) ?_
    refine lv_isub hx hb dX0_addPolynomialAt_70 ?_
    refine lv_lshl (v := jshl tp (64 - (nI ((j + 1) % 64)))) hx hb dX0_addPolynomialAt_71 rfl ?_
    refine lv_lxor hx hb dX0_addPolynomialAt_72 ?_
    refine va_last hx hb hK hP hD hS 2 1 rfl rfl (i := (nI ((j + 1) / 64)) + 1) (x := ((mAd2 dv tp j) ((nI ((j + 1) / 64)) + 1).toNatClampNeg) ^^^ (jshl tp (64 - (nI ((j + 1) % 64))))) (by rw [nI_1]; exact vp_in_nI (by omega) (by omega)) dX0_addPolynomialAt_73 (fun H locs hP hD hS => ?_)
    have hP : va_P D vwCl (xw o a1 a2 a3 k1 k2 k3 row (vp_updL (mAd2 dv tp j) ((nI ((j + 1) / 64)) + 1).toNatClampNeg (((mAd2 dv tp j) ((nI ((j + 1) / 64)) + 1).toNatClampNeg) ^^^ (jshl tp (64 - (nI ((j + 1) % 64)))))) sl nb wd po tp fi la bi bo) H := hP
    have hD : va_D A (xw o a1 a2 a3 k1 k2 k3 row (vp_updL (mAd2 dv tp j) ((nI ((j + 1) / 64)) + 1).toNatClampNeg (((mAd2 dv tp j) ((nI ((j + 1) / 64)) + 1).toNatClampNeg) ^^^ (jshl tp (64 - (nI ((j + 1) % 64)))))) sl nb wd po tp fi la bi bo) := hD
    have hPf : va_P D vwCl (xw o a1 a2 a3 k1 k2 k3 row (mAdd dv tp j) sl nb wd po tp fi la bi bo) H := by first | (rw [mAdd, if_pos c_51]; exact hP) | (rw [mAdd, if_neg c_51]; exact hP)
    exact W.vret hx hb hr (fun t ht hW => ⟨⟨(), rfl, trivial, by show va_P _ _ _ t.heap; rw [ht]; exact hPf⟩, hS.F ht⟩) hS.2.2 dX0_addPolynomialAt_74
theorem in_c_byDividing : ∀ w ∈ wsX00, w ∈ wsX0_byDividing := fun _ h => List.mem_cons_of_mem _ (List.mem_append_right _ h)
set_option maxHeartbeats 4000000 in
set_option maxRecDepth 100000 in
theorem c_byDividing {l : Launch} {D : va_G} {o a1 a2 a3 : Nat} {k1 k2 k3 : ClassId} {row : Nat → Int64} {dv : Nat → Int64} {sl : Nat → Int64} {nb : Nat} {wd : Nat} {po : Int64} {tp : Int64} {fi : Int64} {la : Int64} {bi : Int32} {bo : Int32} {sz : Nat}  (hn : nb ≤ 5000) : Met l yX0_byDividing wsX0_byDividing ({ frames := 1, cells := 0, slots := 0, locals := 23 }) (va_Pc [.ref o] (pMU D vwCl (xt k1 k2 k3) (xw o a1 a2 a3 k1 k2 k3 row dv sl nb wd po tp fi la bi bo) sz)) (muL D vwCl (xw o a1 a2 a3 k1 k2 k3 row dv sl nb wd po tp fi la bi bo) (xw o a1 a2 a3 k1 k2 k3 row (mDvN row dv (mTop (nI wd) fi) tp (nb * 8)) sl nb wd po tp fi la bi bo) sz (mDvF (mDvN row dv (mTop (nI wd) fi) tp (nb * 8)) (nb * 8))) 0 0 (va_A (xw o a1 a2 a3 k1 k2 k3 row dv sl nb wd po tp fi la bi bo) sz) := by
  refine Met.ofW (cc := cX0_byDividing) (maxL := 3) (ret := (some .long)) (by decide) rfl ?_
  intro p e s m args below meth c s₁ B hml hv
  obtain ⟨rfl, hsz, hP, hK, hD0⟩ := hv
  have hsz : s.heap.size = sz := hsz
  have hx := B.exec
  have hb := B.bytes
  have hr := B.returns
  have hts := atoms_spec (ws := wsX0_byDividing) B.pre
  have hown : s.vm.findClass RX0 = some m.cls := findClass_of_methodNamed B.named
  have hlocks := B.notSynchronized
  subst hsz
  have hD0 := hD0.self (sz := s.heap.size)
  have hA : ∀ q : Nat, s.heap.size ≤ q → va_A (xw o a1 a2 a3 k1 k2 k3 row dv sl nb wd po tp fi la bi bo) s.heap.size q := fun q h => Or.inr h
  unfold muL
  generalize va_A (xw o a1 a2 a3 k1 k2 k3 row dv sl nb wd po tp fi la bi bo) s.heap.size = A at hD0 hA ⊢
  have hD := hD0
  have hS : va_S A s.heap s.heap [] := va_S.rf
  have hl := lv_entry ([.ref o]) (n := 3) (Nat.le_of_ble_eq_true rfl)
  rw [lg_entry_eq]
  generalize (lg_sl ([.ref o]) ++ List.replicate (3 - (lg_sl ([.ref o])).length) Slot.unset).toArray = ls at hl ⊢
  have hl : lv_has ls 3 [(0, .ref o)] := hl
  suffices key : ∀ (H : Heap) (locs : List Loc), va_P D vwCl (xw o a1 a2 a3 k1 k2 k3 row dv sl nb wd po tp fi la bi bo) H → va_S A s.heap H locs → W p l e (headSpec wsX0_byDividing { frames := 1, cells := 0, slots := 0, locals := 23 }).room s m ([.ref o] : List Value).toArray below meth c H locs 0 0 (MQ below (va_Ql (fun r (_ : Unit) => r = mDvF (mDvN row dv (mTop (nI wd) fi) tp (nb * 8)) (nb * 8)) (fun _ t9 => va_P D vwCl (xw o a1 a2 a3 k1 k2 k3 row (mDvN row dv (mTop (nI wd) fi) tp (nb * 8)) sl nb wd po tp fi la bi bo) t9.heap) A) ([.ref o] : List Value).toArray s 0 0 A) (F0 m 0 ls []) from key s.heap [] hP hS
  intro H locs hP hS
  refine lv_aload_n hx hb dX0_byDividing_0 rfl (lv_at hl 0 rfl) ?_
  refine va_get (D := D) (ci := 0) (v := .ref a1) (C := RX0) (T := TX0) (N := 11) hx hb hts in_c_byDividing hown hK hP 0 rfl rfl 0 (by decide) (hts (.fieldLink RX0 9 "SliceChecks" "row" "[J") (by decide +kernel)) (fun _ h9 => h9) rfl dX0_byDividing_1 ?_
  refine lv_iconst (v := 0) hx hb dX0_byDividing_4 (by decide) ?_
  refine lv_aload_n hx hb dX0_byDividing_5 rfl (lv_at hl 0 rfl) ?_
  refine va_get (D := D) (ci := 0) (v := .ref a2) (C := RX0) (T := TX0) (N := 11) hx hb hts in_c_byDividing hown hK hP 0 rfl rfl 1 (by decide) (hts (.fieldLink RX0 13 "SliceChecks" "dividend" "[J") (by decide +kernel)) (fun _ h9 => h9) rfl dX0_byDividing_6 ?_
  refine lv_iconst (v := 0) hx hb dX0_byDividing_9 (by decide) ?_
  refine lv_sipush (v := 625) hx hb dX0_byDividing_10 (by decide) ?_
  refine va_copyl hx hb (by rw [hml, hl.1]) hown (hts (.methodLink RX0 163 arraycopyName) (by decide +kernel)) (hts (.native arraycopyName) (by decide +kernel)) (hts (.static arraycopyName) (by decide +kernel)) (hts (.initialized "java/lang/System") (by decide +kernel)) hK hP hD hS 1 2 0 1 (ty := .long) rfl rfl rfl rfl rfl (sp := 0) (dp := 0) (n := 625) (by decide) (by decide) (by decide) (by decide) (by decide) (fun _ _ => rfl) (Nat.le_of_ble_eq_true rfl) (Nat.le_of_ble_eq_true rfl) dX0_byDividing_13 (fun H locs hP hD hS => ?_)
  have hP : va_P D vwCl (xw o a1 a2 a3 k1 k2 k3 row (mDvA row dv) sl nb wd po tp fi la bi bo) H := hP
  have hD : va_D A (xw o a1 a2 a3 k1 k2 k3 row (mDvA row dv) sl nb wd po tp fi la bi bo) := hD
  refine lv_aload_n hx hb dX0_byDividing_16 rfl (lv_at hl 0 rfl) ?_
  refine va_get (D := D) (ci := 0) (v := .ref a2) (C := RX0) (T := TX0) (N := 11) hx hb hts in_c_byDividing hown hK hP 0 rfl rfl 1 (by decide) (hts (.fieldLink RX0 13 "SliceChecks" "dividend" "[J") (by decide +kernel)) (fun _ h9 => h9) rfl dX0_byDividing_17 ?_
  refine lv_sipush (v := 625) hx hb dX0_byDividing_20 (by decide) ?_
  refine lv_lconst (v := 0) hx hb dX0_byDividing_23 (by decide) ?_
  refine va_last hx hb hK hP hD hS 2 1 rfl rfl (i := 625) (x := 0) (vp_in_nI (n := 625) (by decide) (by decide)) dX0_byDividing_24 (fun H locs hP hD hS => ?_)
  have hP : va_P D vwCl (xw o a1 a2 a3 k1 k2 k3 row (mDvB row dv) sl nb wd po tp fi la bi bo) H := hP
  have hD : va_D A (xw o a1 a2 a3 k1 k2 k3 row (mDvB row dv) sl nb wd po tp fi la bi bo) := hD
  refine lv_aload_n hx hb dX0_byDividing_25 rfl (lv_at hl 0 rfl) ?_
  refine va_get (D := D) (ci := 0) (v := .ref a2) (C := RX0) (T := TX0) (N := 11) hx hb hts in_c_byDividing hown hK hP 0 rfl rfl 1 (by decide) (hts (.fieldLink RX0 13 "SliceChecks" "dividend" "[J") (by decide +kernel)) (fun _ h9 => h9) rfl dX0_byDividing_26 ?_
  refine lv_iconst (v := 0) hx hb dX0_byDividing_29 (by decide) ?_
  refine lv_dup2_11 hx hb dX0_byDividing_30 rfl rfl ?_
  refine va_lald hx hb hK hP 2 1 rfl rfl (i := 0) (vp_in_nI (n := 0) (by decide) (by decide)) dX0_byDividing_31 ?_
  refine lv_aload_n hx hb dX0_byDividing_32 rfl (lv_at hl 0 rfl) ?_
  refine lv_aload_n hx hb dX0_byDividing_33 rfl (lv_at hl 0 rfl) ?_
  refine va_get (D := D) (ci := 0) (v := .long fi) (C := RX0) (T := TX0) (N := 11) hx hb hts in_c_byDividing hown hK hP 0 rfl rfl 7 (by decide) (hts (.fieldLink RX0 52 "SliceChecks" "first" "J") (by decide +kernel)) (fun _ h9 => h9) rfl dX0_byDividing_34 ?_
  refine ro_l (va_runV (As := [.long fi]) (rest := [.long ((mDvB row dv) (0 : Int32).toNatClampNeg), .int 0, .ref a2]) ⟨hx, hb, hml, hown, hts⟩ (c_atTop (sz := H.size) fi) (cwV 1 hts gX0_byDividing_X0_atTop rfl rfl rfl (by decide +kernel) ⟨Nat.le_of_ble_eq_true rfl, Nat.le_of_ble_eq_true rfl⟩) (preV_RO hP hK 0 (ci := 0) rfl rfl) rfl rfl hl.1 rfl (lv_room (Nat.le_of_ble_eq_true rfl)) dX0_byDividing_37 ⟨Nat.le_of_ble_eq_true rfl, Nat.le_of_ble_eq_true rfl⟩) hS hA hP (fun H locs hP hS => ?_)
  refine lv_lxor hx hb dX0_byDividing_40 ?_
  refine va_last hx hb hK hP hD hS 2 1 rfl rfl (i := 0) (x := ((mDvB row dv) (0 : Int32).toNatClampNeg) ^^^ (mTop (nI wd) fi)) (vp_in_nI (n := 0) (by decide) (by decide)) dX0_byDividing_41 (fun H locs hP hD hS => ?_)
  have hP : va_P D vwCl (xw o a1 a2 a3 k1 k2 k3 row (mDv0 row dv (mTop (nI wd) fi)) sl nb wd po tp fi la bi bo) H := hP
  have hD : va_D A (xw o a1 a2 a3 k1 k2 k3 row (mDv0 row dv (mTop (nI wd) fi)) sl nb wd po tp fi la bi bo) := hD
  refine lv_aload_n hx hb dX0_byDividing_42 rfl (lv_at hl 0 rfl) ?_
  refine ro_i (va_runV (As := []) (rest := []) ⟨hx, hb, hml, hown, hts⟩ (c_bitsOfRow (sz := H.size) ) (cwV 0 hts gX0_byDividing_X0_bitsOfRow rfl rfl rfl (by decide +kernel) ⟨Nat.le_of_ble_eq_true rfl, Nat.le_of_ble_eq_true rfl⟩) (preV_RO hP hK 0 (ci := 0) rfl rfl) rfl rfl hl.1 rfl (lv_room (Nat.le_of_ble_eq_true rfl)) dX0_byDividing_43 ⟨Nat.le_of_ble_eq_true rfl, Nat.le_of_ble_eq_true rfl⟩) hS hA hP (fun H locs hP hS => ?_)
  refine lv_istore_n (lv' := [(1, .int (nI (nb * 8))), (0, .ref o)]) hx hb dX0_byDividing_46 rfl hl (by decide) rfl (fun ls hl => ?_)
  refine lv_iconst (v := 0) hx hb dX0_byDividing_47 (by decide) ?_
  refine lv_istore_n (lv' := [(2, .int 0), (1, .int (nI (nb * 8))), (0, .ref o)]) hx hb dX0_byDividing_48 rfl hl (by decide) rfl (fun ls hl => ?_)
  have lp_49 : ∀ (k i : Nat), i ≤ nb * 8 → nb * 8 < i + k → ∀ (H : Heap) (locs : List Loc), va_P D vwCl (xw o a1 a2 a3 k1 k2 k3 row (mDvN row dv (mTop (nI wd) fi) tp i) sl nb wd po tp fi la bi bo) H → va_S A s.heap H locs → ∀ ls : Array Slot, lv_has ls 3 [(2, .int (nI i)), (1, .int (nI (nb * 8))), (0, .ref o)] → W p l e (headSpec wsX0_byDividing { frames := 1, cells := 0, slots := 0, locals := 23 }).room s m ([.ref o] : List Value).toArray below meth c H locs 0 0 (MQ below (va_Ql (fun r (_ : Unit) => r = mDvF (mDvN row dv (mTop (nI wd) fi) tp (nb * 8)) (nb * 8)) (fun _ t9 => va_P D vwCl (xw o a1 a2 a3 k1 k2 k3 row (mDvN row dv (mTop (nI wd) fi) tp (nb * 8)) sl nb wd po tp fi la bi bo) t9.heap) A) ([.ref o] : List Value).toArray s 0 0 A) (F0 m 49 ls []) := by
    intro k
    induction k with
    | zero =>
      intro i h1 h2
      exact absurd h2 (by omega)
    | succ k ih =>
      intro i hi hk H locs hP hS ls hl
      have hD : va_D A (xw o a1 a2 a3 k1 k2 k3 row (mDvN row dv (mTop (nI wd) fi) tp i) sl nb wd po tp fi la bi bo) := du_same hD0 rfl
      refine lv_iload_n hx hb dX0_byDividing_49 rfl (lv_at hl 0 rfl) ?_
      refine lv_iload_n hx hb dX0_byDividing_50 rfl (lv_at hl 1 rfl) ?_
      refine lv_icmp_ge (tgt := 84) hx hb dX0_byDividing_51 (by decide) (fun c_51 => ?_) (fun c_51 => ?_)
      ·
        have hiN := du_ge (by omega) hi c_51
        refine lv_aload_n hx hb dX0_byDividing_84 rfl (lv_at hl 2 rfl) ?_
        refine lv_iload_n hx hb dX0_byDividing_85 rfl (lv_at hl 1 rfl) ?_
        refine ro_l (va_runV (As := [.int (nI (nb * 8))]) (rest := []) ⟨hx, hb, hml, hown, hts⟩ (c_dividendFrom (sz := H.size) (nb * 8) (by omega)) (cwV 1 hts gX0_byDividing_X0_dividendFrom rfl rfl rfl (by decide +kernel) ⟨Nat.le_of_ble_eq_true rfl, Nat.le_of_ble_eq_true rfl⟩) (preV_RO hP hK 0 (ci := 0) rfl rfl) rfl rfl hl.1 rfl (lv_room (Nat.le_of_ble_eq_true rfl)) dX0_byDividing_86 ⟨Nat.le_of_ble_eq_true rfl, Nat.le_of_ble_eq_true rfl⟩) hS hA hP (fun H locs hP hS => ?_)
        have hPf : va_P D vwCl (xw o a1 a2 a3 k1 k2 k3 row (mDvN row dv (mTop (nI wd) fi) tp (nb * 8)) sl nb wd po tp fi la bi bo) H := by subst hiN; exact hP
        exact W.lret (v := (mDvF (mDvN row dv (mTop (nI wd) fi) tp i) (nb * 8))) hx hb hr (fun t ht hW => ⟨⟨(mDvF (mDvN row dv (mTop (nI wd) fi) tp i) (nb * 8)), (), rfl, by subst hiN; rfl, by show va_P _ _ _ t.heap; rw [ht]; exact hPf⟩, hS.F ht⟩) hS.2.2 dX0_byDividing_89
      ·
        have hlt := du_lt (by omega) hi c_51
        refine lv_aload_n hx hb dX0_byDividing_54 rfl (lv_at hl 2 rfl) ?_
        refine va_get (D := D) (ci := 0) (v := .ref a2) (C := RX0) (T := TX0) (N := 11) hx hb hts in_c_byDividing hown hK hP 0 rfl rfl 1 (by decide) (hts (.fieldLink RX0 13 "SliceChecks" "dividend" "[J") (by decide +kernel)) (fun _ h9 => h9) rfl dX0_byDividing_55 ?_
        refine lv_iload_n hx hb dX0_byDividing_58 rfl (lv_at hl 0 rfl) ?_
        refine lv_bipush (v := 64) hx hb dX0_byDividing_59 (by decide) ?_
        refine lv_idiv hx hb dX0_byDividing_61 (by decide) ?_
        refine du_rwi (y := nI (i / 64)) (du_div64 (by omega)) ?_
        refine va_lald hx hb hK hP 2 1 rfl rfl (i := nI (i / 64)) (vp_in_nI (by omega) (by omega)) dX0_byDividing_62 ?_
        refine lv_iload_n hx hb dX0_byDividing_63 rfl (lv_at hl 0 rfl) ?_
        refine lv_bipush (v := 64) hx hb dX0_byDividing_64 (by decide) ?_
        refine lv_irem hx hb dX0_byDividing_66 (by decide) ?_
        refine du_rwi (y := nI (i % 64)) (du_rem64 (by omega)) ?_
        refine lv_lshl (v := jshl ((mDvN row dv (mTop (nI wd) fi) tp i) (nI (i / 64)).toNatClampNeg) (nI (i % 64))) hx hb dX0_byDividing_67 rfl ?_
        refine lv_lconst (v := 0) hx hb dX0_byDividing_68 (by decide) ?_
        refine W.lcmp hx hb dX0_byDividing_69 ?_
        refine lv_if_ge (tgt := 78) hx hb dX0_byDividing_70 (by decide) (fun c_70 => ?_) (fun c_70 => ?_)
        ·
          have dv_e : mDvN row dv (mTop (nI wd) fi) tp i = mDvN row dv (mTop (nI wd) fi) tp (i + 1) := by rw [mDvN, if_pos c_70]
          refine lv_iinc (v := nI (i + 1)) (lv' := [(2, .int (nI (i + 1))), (1, .int (nI (nb * 8))), (0, .ref o)]) hx hb dX0_byDividing_78 hl (k := 0) rfl (nI_1 i) (by decide) rfl (fun ls hl => ?_)
          refine lv_goto (tgt := 49) hx hb dX0_byDividing_81 (by decide) ?_
          exact ih (i + 1) (by omega) (by omega) H locs (by rw [dv_e] at hP; exact hP) hS ls (lv_sub hl [0, 1, 2] rfl)
        ·
          have dv_e : mAdd (mDvN row dv (mTop (nI wd) fi) tp i) tp i = mDvN row dv (mTop (nI wd) fi) tp (i + 1) := by rw [mDvN, if_neg c_70]
          refine lv_aload_n hx hb dX0_byDividing_73 rfl (lv_at hl 2 rfl) ?_
          refine lv_iload_n hx hb dX0_byDividing_74 rfl (lv_at hl 0 rfl) ?_
          refine mu_v (wr := []) (ws := (xw o a1 a2 a3 k1 k2 k3 row (mDvN row dv (mTop (nI wd) fi) tp i) sl nb wd po tp fi la bi bo)) (ws' := (xw o a1 a2 a3 k1 k2 k3 row (mAdd (mDvN row dv (mTop (nI wd) fi) tp i) tp i) sl nb wd po tp fi la bi bo)) (va_runV (As := [.int (nI i)]) (rest := []) ⟨hx, hb, hml, hown, hts⟩ (c_addPolynomialAt (sz := H.size) i (by omega)) (cwV 1 hts gX0_byDividing_X0_addPolynomialAt rfl rfl rfl (by decide +kernel) ⟨Nat.le_of_ble_eq_true rfl, Nat.le_of_ble_eq_true rfl⟩) (preV_MU hP hK hD 0 (ci := 0) rfl rfl) rfl rfl hl.1 rfl (lv_room (Nat.le_of_ble_eq_true rfl)) dX0_byDividing_75 ⟨Nat.le_of_ble_eq_true rfl, Nat.le_of_ble_eq_true rfl⟩) hS hA (by rw [List.append_nil]; exact hP) (by rw [List.append_nil]; exact hD) rfl (fun H locs hP hD hS => ?_)
          rw [List.append_nil] at hP hD
          refine lv_iinc (v := nI (i + 1)) (lv' := [(2, .int (nI (i + 1))), (1, .int (nI (nb * 8))), (0, .ref o)]) hx hb dX0_byDividing_78 hl (k := 0) rfl (nI_1 i) (by decide) rfl (fun ls hl => ?_)
          refine lv_goto (tgt := 49) hx hb dX0_byDividing_81 (by decide) ?_
          exact ih (i + 1) (by omega) (by omega) H locs (by rw [dv_e] at hP; exact hP) hS ls (lv_sub hl [0, 1, 2] rfl)
  exact lp_49 ((nb * 8) + 1 - 0) 0 (by omega) (by omega) H locs (hP) hS ls (lv_sub hl [0, 1, 2] rfl)
theorem in_c_check : ∀ w ∈ wsX00, w ∈ wsX0_check := fun _ h => List.mem_cons_of_mem _ (List.mem_append_right _ h)
set_option maxHeartbeats 4000000 in
set_option maxRecDepth 100000 in
theorem c_check {l : Launch} {D : va_G} {o a1 a2 a3 : Nat} {k1 k2 k3 : ClassId} {row : Nat → Int64} {dv : Nat → Int64} {sl : Nat → Int64} {nb : Nat} {wd : Nat} {po : Int64} {tp : Int64} {fi : Int64} {la : Int64} {bi : Int32} {bo : Int32} {sz : Nat} (y : Int32) (hn : nb ≤ 5000) (hy : ¬ y = 3) : Met l yX0_check wsX0_check ({ frames := 4, cells := 0, slots := 0, locals := 95 }) (va_Pc [.ref o, .int y] (pRO D vwCl (xt k1 k2 k3) (xw o a1 a2 a3 k1 k2 k3 row dv sl nb wd po tp fi la bi bo) sz)) (roL sz (mChk row sl nb (nI wd) bo tp fi la y)) 0 0 (fun q : Nat => sz ≤ q) := by
  refine Met.ofW (cc := cX0_check) (maxL := 2) (ret := (some .long)) (by decide) rfl ?_
  intro p e s m args below meth c s₁ B hml hv
  obtain ⟨rfl, hsz, hP, hK⟩ := hv
  have hsz : s.heap.size = sz := hsz
  have hx := B.exec
  have hb := B.bytes
  have hr := B.returns
  have hts := atoms_spec (ws := wsX0_check) B.pre
  have hown : s.vm.findClass RX0 = some m.cls := findClass_of_methodNamed B.named
  have hlocks := B.notSynchronized
  subst hsz
  have hA : ∀ q : Nat, s.heap.size ≤ q → (fun q : Nat => s.heap.size ≤ q) q := fun _ h => h
  have hS : va_S (fun q : Nat => s.heap.size ≤ q) s.heap s.heap [] := va_S.rf
  have hl := lv_entry ([.ref o, .int y]) (n := 2) (Nat.le_of_ble_eq_true rfl)
  rw [lg_entry_eq]
  generalize (lg_sl ([.ref o, .int y]) ++ List.replicate (2 - (lg_sl ([.ref o, .int y])).length) Slot.unset).toArray = ls at hl ⊢
  have hl : lv_has ls 2 [(0, .ref o), (1, .int y)] := hl
  suffices key : ∀ (H : Heap) (locs : List Loc), va_P D vwCl (xw o a1 a2 a3 k1 k2 k3 row dv sl nb wd po tp fi la bi bo) H → va_S (fun q : Nat => s.heap.size ≤ q) s.heap H locs → W p l e (headSpec wsX0_check { frames := 4, cells := 0, slots := 0, locals := 95 }).room s m ([.ref o, .int y] : List Value).toArray below meth c H locs 0 0 (MQ below (roL s.heap.size (mChk row sl nb (nI wd) bo tp fi la y)) ([.ref o, .int y] : List Value).toArray s 0 0 (fun q : Nat => s.heap.size ≤ q)) (F0 m 0 ls []) from key s.heap [] hP hS
  intro H locs hP hS
  refine lv_iload_n hx hb dX0_check_0 rfl (lv_at hl 1 rfl) ?_
  rcases du_sw y (0) with s_0 | s_0
  ·
    refine lv_tableIn (tgt := 32) hx hb dX0_check_1 (by rw [s_0]; decide) (by rw [s_0]; decide) (by rw [s_0]; rfl) (by decide) ?_
    refine lv_aload_n hx hb dX0_check_32 rfl (lv_at hl 0 rfl) ?_
    refine lv_aload_n hx hb dX0_check_33 rfl (lv_at hl 0 rfl) ?_
    refine ro_l (va_runV (As := []) (rest := [.ref o]) ⟨hx, hb, hml, hown, hts⟩ (c_bitByBit (sz := H.size) (hn)) (cwV 0 hts gX0_check_X0_bitByBit rfl rfl rfl (by decide +kernel) ⟨Nat.le_of_ble_eq_true rfl, Nat.le_of_ble_eq_true rfl⟩) (preV_RO hP hK 0 (ci := 0) rfl rfl) rfl rfl hl.1 rfl (lv_room (Nat.le_of_ble_eq_true rfl)) dX0_check_34 ⟨Nat.le_of_ble_eq_true rfl, Nat.le_of_ble_eq_true rfl⟩) hS hA hP (fun H locs hP hS => ?_)
    refine ro_l (va_runV (As := [.long (mBbN row tp (mTop (nI wd) fi) nb)]) (rest := []) ⟨hx, hb, hml, hown, hts⟩ (c_checkOf (sz := H.size) (mBbN row tp (mTop (nI wd) fi) nb)) (cwV 1 hts gX0_check_X0_checkOf rfl rfl rfl (by decide +kernel) ⟨Nat.le_of_ble_eq_true rfl, Nat.le_of_ble_eq_true rfl⟩) (preV_RO hP hK 0 (ci := 0) rfl rfl) rfl rfl hl.1 rfl (lv_room (Nat.le_of_ble_eq_true rfl)) dX0_check_37 ⟨Nat.le_of_ble_eq_true rfl, Nat.le_of_ble_eq_true rfl⟩) hS hA hP (fun H locs hP hS => ?_)
    exact W.lret (v := (mCheck (nI wd) bo la (mBbN row tp (mTop (nI wd) fi) nb))) hx hb hr (fun t ht hW => ⟨⟨(mCheck (nI wd) bo la (mBbN row tp (mTop (nI wd) fi) nb)), (), rfl, by first | rw [mChk, if_pos s_0] | rw [mChk, if_neg s_0, if_pos s_1] | rw [mChk, if_neg s_0, if_neg s_1, if_pos s_2] | rw [mChk, if_neg s_0, if_neg s_1, if_neg s_2], trivial⟩, hS.F ht⟩) hS.2.2 dX0_check_40
  rcases du_sw y (1) with s_1 | s_1
  ·
    refine lv_tableIn (tgt := 41) hx hb dX0_check_1 (by rw [s_1]; decide) (by rw [s_1]; decide) (by rw [s_1]; rfl) (by decide) ?_
    refine lv_aload_n hx hb dX0_check_41 rfl (lv_at hl 0 rfl) ?_
    refine lv_aload_n hx hb dX0_check_42 rfl (lv_at hl 0 rfl) ?_
    refine lv_aload_n hx hb dX0_check_43 rfl (lv_at hl 0 rfl) ?_
    refine lv_aload_n hx hb dX0_check_44 rfl (lv_at hl 0 rfl) ?_
    refine va_get (D := D) (ci := 0) (v := .long fi) (C := RX0) (T := TX0) (N := 11) hx hb hts in_c_check hown hK hP 0 rfl rfl 7 (by decide) (hts (.fieldLink RX0 52 "SliceChecks" "first" "J") (by decide +kernel)) (fun _ h9 => h9) rfl dX0_check_45 ?_
    refine ro_l (va_runV (As := [.long fi]) (rest := [.ref o, .ref o]) ⟨hx, hb, hml, hown, hts⟩ (c_atTop (sz := H.size) fi) (cwV 1 hts gX0_check_X0_atTop rfl rfl rfl (by decide +kernel) ⟨Nat.le_of_ble_eq_true rfl, Nat.le_of_ble_eq_true rfl⟩) (preV_RO hP hK 0 (ci := 0) rfl rfl) rfl rfl hl.1 rfl (lv_room (Nat.le_of_ble_eq_true rfl)) dX0_check_48 ⟨Nat.le_of_ble_eq_true rfl, Nat.le_of_ble_eq_true rfl⟩) hS hA hP (fun H locs hP hS => ?_)
    refine lv_iconst (v := 0) hx hb dX0_check_51 (by decide) ?_
    refine du_rwi (y := nI 0) (rfl) ?_
    refine lv_aload_n hx hb dX0_check_52 rfl (lv_at hl 0 rfl) ?_
    refine va_get (D := D) (ci := 0) (v := .int (nI nb)) (C := RX0) (T := TX0) (N := 11) hx hb hts in_c_check hown hK hP 0 rfl rfl 3 (by decide) (hts (.fieldLink RX0 68 "SliceChecks" "bytes" "I") (by decide +kernel)) (fun _ h9 => h9) rfl dX0_check_53 ?_
    refine ro_l (va_runV (As := [.long (mTop (nI wd) fi), .int (nI 0), .int (nI nb)]) (rest := [.ref o]) ⟨hx, hb, hml, hown, hts⟩ (c_byteByByte (sz := H.size) (mTop (nI wd) fi) 0 nb (by omega) (hn)) (cwV 3 hts gX0_check_X0_byteByByte rfl rfl rfl (by decide +kernel) ⟨Nat.le_of_ble_eq_true rfl, Nat.le_of_ble_eq_true rfl⟩) (preV_RO hP hK 0 (ci := 0) rfl rfl) rfl rfl hl.1 rfl (lv_room (Nat.le_of_ble_eq_true rfl)) dX0_check_56 ⟨Nat.le_of_ble_eq_true rfl, Nat.le_of_ble_eq_true rfl⟩) hS hA hP (fun H locs hP hS => ?_)
    refine ro_l (va_runV (As := [.long (mYy row sl (mTop (nI wd) fi) 0 nb)]) (rest := []) ⟨hx, hb, hml, hown, hts⟩ (c_checkOf (sz := H.size) (mYy row sl (mTop (nI wd) fi) 0 nb)) (cwV 1 hts gX0_check_X0_checkOf rfl rfl rfl (by decide +kernel) ⟨Nat.le_of_ble_eq_true rfl, Nat.le_of_ble_eq_true rfl⟩) (preV_RO hP hK 0 (ci := 0) rfl rfl) rfl rfl hl.1 rfl (lv_room (Nat.le_of_ble_eq_true rfl)) dX0_check_59 ⟨Nat.le_of_ble_eq_true rfl, Nat.le_of_ble_eq_true rfl⟩) hS hA hP (fun H locs hP hS => ?_)
    exact W.lret (v := (mCheck (nI wd) bo la (mYy row sl (mTop (nI wd) fi) 0 nb))) hx hb hr (fun t ht hW => ⟨⟨(mCheck (nI wd) bo la (mYy row sl (mTop (nI wd) fi) 0 nb)), (), rfl, by first | rw [mChk, if_pos s_0] | rw [mChk, if_neg s_0, if_pos s_1] | rw [mChk, if_neg s_0, if_neg s_1, if_pos s_2] | rw [mChk, if_neg s_0, if_neg s_1, if_neg s_2], trivial⟩, hS.F ht⟩) hS.2.2 dX0_check_62
  rcases du_sw y (2) with s_2 | s_2
  ·
    refine lv_tableIn (tgt := 63) hx hb dX0_check_1 (by rw [s_2]; decide) (by rw [s_2]; decide) (by rw [s_2]; rfl) (by decide) ?_
    refine lv_aload_n hx hb dX0_check_63 rfl (lv_at hl 0 rfl) ?_
    refine lv_aload_n hx hb dX0_check_64 rfl (lv_at hl 0 rfl) ?_
    refine lv_iconst (v := 0) hx hb dX0_check_65 (by decide) ?_
    refine du_rwi (y := nI 0) (rfl) ?_
    refine lv_aload_n hx hb dX0_check_66 rfl (lv_at hl 0 rfl) ?_
    refine va_get (D := D) (ci := 0) (v := .int (nI nb)) (C := RX0) (T := TX0) (N := 11) hx hb hts in_c_check hown hK hP 0 rfl rfl 3 (by decide) (hts (.fieldLink RX0 68 "SliceChecks" "bytes" "I") (by decide +kernel)) (fun _ h9 => h9) rfl dX0_check_67 ?_
    refine ro_l (va_runV (As := [.int (nI 0), .int (nI nb)]) (rest := [.ref o]) ⟨hx, hb, hml, hown, hts⟩ (c_eightAtOnce (sz := H.size) 0 nb (by omega) (hn)) (cwV 2 hts gX0_check_X0_eightAtOnce rfl rfl rfl (by decide +kernel) ⟨Nat.le_of_ble_eq_true rfl, Nat.le_of_ble_eq_true rfl⟩) (preV_RO hP hK 0 (ci := 0) rfl rfl) rfl rfl hl.1 rfl (lv_room (Nat.le_of_ble_eq_true rfl)) dX0_check_70 ⟨Nat.le_of_ble_eq_true rfl, Nat.le_of_ble_eq_true rfl⟩) hS hA hP (fun H locs hP hS => ?_)
    refine ro_l (va_runV (As := [.long (mEi row sl (mTop (nI wd) fi) 0 nb)]) (rest := []) ⟨hx, hb, hml, hown, hts⟩ (c_checkOf (sz := H.size) (mEi row sl (mTop (nI wd) fi) 0 nb)) (cwV 1 hts gX0_check_X0_checkOf rfl rfl rfl (by decide +kernel) ⟨Nat.le_of_ble_eq_true rfl, Nat.le_of_ble_eq_true rfl⟩) (preV_RO hP hK 0 (ci := 0) rfl rfl) rfl rfl hl.1 rfl (lv_room (Nat.le_of_ble_eq_true rfl)) dX0_check_73 ⟨Nat.le_of_ble_eq_true rfl, Nat.le_of_ble_eq_true rfl⟩) hS hA hP (fun H locs hP hS => ?_)
    exact W.lret (v := (mCheck (nI wd) bo la (mEi row sl (mTop (nI wd) fi) 0 nb))) hx hb hr (fun t ht hW => ⟨⟨(mCheck (nI wd) bo la (mEi row sl (mTop (nI wd) fi) 0 nb)), (), rfl, by first | rw [mChk, if_pos s_0] | rw [mChk, if_neg s_0, if_pos s_1] | rw [mChk, if_neg s_0, if_neg s_1, if_pos s_2] | rw [mChk, if_neg s_0, if_neg s_1, if_neg s_2], trivial⟩, hS.F ht⟩) hS.2.2 dX0_check_76
  rcases du_sw y (3) with s_3 | s_3
  ·
    exact absurd s_3 hy
  refine lv_tableOut (tgt := 86) hx hb dX0_check_1 (by have n_0 := du_ne (n := 0) (by decide) s_0; have n_1 := du_ne (n := 1) (by decide) s_1; have n_2 := du_ne (n := 2) (by decide) s_2; have n_3 := du_ne (n := 3) (by decide) s_3; omega) (by decide) ?_
  refine lv_lconst (v := 0) hx hb dX0_check_86 (by decide) ?_
  exact W.lret (v := 0) hx hb hr (fun t ht hW => ⟨⟨0, (), rfl, by first | rw [mChk, if_pos s_0] | rw [mChk, if_neg s_0, if_pos s_1] | rw [mChk, if_neg s_0, if_neg s_1, if_pos s_2] | rw [mChk, if_neg s_0, if_neg s_1, if_neg s_2], trivial⟩, hS.F ht⟩) hS.2.2 dX0_check_87
theorem in_c_check3 : ∀ w ∈ wsX00, w ∈ wsX0_check := fun _ h => List.mem_cons_of_mem _ (List.mem_append_right _ h)
set_option maxHeartbeats 4000000 in
set_option maxRecDepth 100000 in
theorem c_check3 {l : Launch} {D : va_G} {o a1 a2 a3 : Nat} {k1 k2 k3 : ClassId} {row : Nat → Int64} {dv : Nat → Int64} {sl : Nat → Int64} {nb : Nat} {wd : Nat} {po : Int64} {tp : Int64} {fi : Int64} {la : Int64} {bi : Int32} {bo : Int32} {sz : Nat} (y : Int32) (hn : nb ≤ 5000) (hy : y = 3) : Met l yX0_check wsX0_check ({ frames := 2, cells := 0, slots := 0, locals := 49 }) (va_Pc [.ref o, .int y] (pMU D vwCl (xt k1 k2 k3) (xw o a1 a2 a3 k1 k2 k3 row dv sl nb wd po tp fi la bi bo) sz)) (muL D vwCl (xw o a1 a2 a3 k1 k2 k3 row dv sl nb wd po tp fi la bi bo) (xw o a1 a2 a3 k1 k2 k3 row (mDvN row dv (mTop (nI wd) fi) tp (nb * 8)) sl nb wd po tp fi la bi bo) sz (mChk3 row dv nb (nI wd) bo tp fi la)) 0 0 (va_A (xw o a1 a2 a3 k1 k2 k3 row dv sl nb wd po tp fi la bi bo) sz) := by
  refine Met.ofW (cc := cX0_check) (maxL := 2) (ret := (some .long)) (by decide) rfl ?_
  intro p e s m args below meth c s₁ B hml hv
  obtain ⟨rfl, hsz, hP, hK, hD0⟩ := hv
  have hsz : s.heap.size = sz := hsz
  have hx := B.exec
  have hb := B.bytes
  have hr := B.returns
  have hts := atoms_spec (ws := wsX0_check) B.pre
  have hown : s.vm.findClass RX0 = some m.cls := findClass_of_methodNamed B.named
  have hlocks := B.notSynchronized
  subst hsz
  have hD0 := hD0.self (sz := s.heap.size)
  have hA : ∀ q : Nat, s.heap.size ≤ q → va_A (xw o a1 a2 a3 k1 k2 k3 row dv sl nb wd po tp fi la bi bo) s.heap.size q := fun q h => Or.inr h
  unfold muL
  generalize va_A (xw o a1 a2 a3 k1 k2 k3 row dv sl nb wd po tp fi la bi bo) s.heap.size = A at hD0 hA ⊢
  have hD := hD0
  have hS : va_S A s.heap s.heap [] := va_S.rf
  have hl := lv_entry ([.ref o, .int y]) (n := 2) (Nat.le_of_ble_eq_true rfl)
  rw [lg_entry_eq]
  generalize (lg_sl ([.ref o, .int y]) ++ List.replicate (2 - (lg_sl ([.ref o, .int y])).length) Slot.unset).toArray = ls at hl ⊢
  have hl : lv_has ls 2 [(0, .ref o), (1, .int y)] := hl
  suffices key : ∀ (H : Heap) (locs : List Loc), va_P D vwCl (xw o a1 a2 a3 k1 k2 k3 row dv sl nb wd po tp fi la bi bo) H → va_S A s.heap H locs → W p l e (headSpec wsX0_check { frames := 2, cells := 0, slots := 0, locals := 49 }).room s m ([.ref o, .int y] : List Value).toArray below meth c H locs 0 0 (MQ below (va_Ql (fun r (_ : Unit) => r = mChk3 row dv nb (nI wd) bo tp fi la) (fun _ t9 => va_P D vwCl (xw o a1 a2 a3 k1 k2 k3 row (mDvN row dv (mTop (nI wd) fi) tp (nb * 8)) sl nb wd po tp fi la bi bo) t9.heap) A) ([.ref o, .int y] : List Value).toArray s 0 0 A) (F0 m 0 ls []) from key s.heap [] hP hS
  intro H locs hP hS
  refine lv_iload_n hx hb dX0_check_0 rfl (lv_at hl 1 rfl) ?_
  rcases du_sw y (0) with s_0 | s_0
  ·
    exact absurd (s_0.symm.trans hy) (by decide)
  rcases du_sw y (1) with s_1 | s_1
  ·
    exact absurd (s_1.symm.trans hy) (by decide)
  rcases du_sw y (2) with s_2 | s_2
  ·
    exact absurd (s_2.symm.trans hy) (by decide)
  rcases du_sw y (3) with s_3 | s_3
  ·
    refine lv_tableIn (tgt := 77) hx hb dX0_check_1 (by rw [s_3]; decide) (by rw [s_3]; decide) (by rw [s_3]; rfl) (by decide) ?_
    refine lv_aload_n hx hb dX0_check_77 rfl (lv_at hl 0 rfl) ?_
    refine lv_aload_n hx hb dX0_check_78 rfl (lv_at hl 0 rfl) ?_
    refine mu_l (wr := []) (ws := (xw o a1 a2 a3 k1 k2 k3 row dv sl nb wd po tp fi la bi bo)) (ws' := (xw o a1 a2 a3 k1 k2 k3 row (mDvN row dv (mTop (nI wd) fi) tp (nb * 8)) sl nb wd po tp fi la bi bo)) (va_runV (As := []) (rest := [.ref o]) ⟨hx, hb, hml, hown, hts⟩ (c_byDividing (sz := H.size) (hn)) (cwV 0 hts gX0_check_X0_byDividing rfl rfl rfl (by decide +kernel) ⟨Nat.le_of_ble_eq_true rfl, Nat.le_of_ble_eq_true rfl⟩) (preV_MU hP hK hD 0 (ci := 0) rfl rfl) rfl rfl hl.1 rfl (lv_room (Nat.le_of_ble_eq_true rfl)) dX0_check_79 ⟨Nat.le_of_ble_eq_true rfl, Nat.le_of_ble_eq_true rfl⟩) hS hA (by rw [List.append_nil]; exact hP) (by rw [List.append_nil]; exact hD) rfl (fun H locs hP hD hS => ?_)
    rw [List.append_nil] at hP hD
    refine ro_l (va_runV (As := [.long (mDvF (mDvN row dv (mTop (nI wd) fi) tp (nb * 8)) (nb * 8))]) (rest := []) ⟨hx, hb, hml, hown, hts⟩ (c_checkOf (sz := H.size) (mDvF (mDvN row dv (mTop (nI wd) fi) tp (nb * 8)) (nb * 8))) (cwV 1 hts gX0_check_X0_checkOf rfl rfl rfl (by decide +kernel) ⟨Nat.le_of_ble_eq_true rfl, Nat.le_of_ble_eq_true rfl⟩) (preV_RO hP hK 0 (ci := 0) rfl rfl) rfl rfl hl.1 rfl (lv_room (Nat.le_of_ble_eq_true rfl)) dX0_check_82 ⟨Nat.le_of_ble_eq_true rfl, Nat.le_of_ble_eq_true rfl⟩) hS hA hP (fun H locs hP hS => ?_)
    have hPf : va_P D vwCl (xw o a1 a2 a3 k1 k2 k3 row (mDvN row dv (mTop (nI wd) fi) tp (nb * 8)) sl nb wd po tp fi la bi bo) H := by exact hP
    exact W.lret (v := (mCheck (nI wd) bo la (mDvF (mDvN row dv (mTop (nI wd) fi) tp (nb * 8)) (nb * 8)))) hx hb hr (fun t ht hW => ⟨⟨(mCheck (nI wd) bo la (mDvF (mDvN row dv (mTop (nI wd) fi) tp (nb * 8)) (nb * 8))), (), rfl, rfl, by show va_P _ _ _ t.heap; rw [ht]; exact hPf⟩, hS.F ht⟩) hS.2.2 dX0_check_85
  exact absurd hy s_3
theorem in_c_part : ∀ w ∈ wsX00, w ∈ wsX0_part := fun _ h => List.mem_cons_of_mem _ (List.mem_append_right _ h)
set_option maxHeartbeats 4000000 in
set_option maxRecDepth 100000 in
theorem c_part {l : Launch} {D : va_G} {o a1 a2 a3 : Nat} {k1 k2 k3 : ClassId} {row : Nat → Int64} {dv : Nat → Int64} {sl : Nat → Int64} {nb : Nat} {wd : Nat} {po : Int64} {tp : Int64} {fi : Int64} {la : Int64} {bi : Int32} {bo : Int32} {sz : Nat} (x : Int32) (y : Int32) (hn : nb ≤ 5000) : Met l yX0_part wsX0_part ({ frames := 4, cells := 0, slots := 0, locals := 95 }) (va_Pc [.ref o, .int x, .int y] (pRO D vwCl (xt k1 k2 k3) (xw o a1 a2 a3 k1 k2 k3 row dv sl nb wd po tp fi la bi bo) sz)) (roL sz (mPart row sl nb (nI wd) bo fi la x y)) 0 0 (fun q : Nat => sz ≤ q) := by
  refine Met.ofW (cc := cX0_part) (maxL := 3) (ret := (some .long)) (by decide) rfl ?_
  intro p e s m args below meth c s₁ B hml hv
  obtain ⟨rfl, hsz, hP, hK⟩ := hv
  have hsz : s.heap.size = sz := hsz
  have hx := B.exec
  have hb := B.bytes
  have hr := B.returns
  have hts := atoms_spec (ws := wsX0_part) B.pre
  have hown : s.vm.findClass RX0 = some m.cls := findClass_of_methodNamed B.named
  have hlocks := B.notSynchronized
  subst hsz
  have hA : ∀ q : Nat, s.heap.size ≤ q → (fun q : Nat => s.heap.size ≤ q) q := fun _ h => h
  have hS : va_S (fun q : Nat => s.heap.size ≤ q) s.heap s.heap [] := va_S.rf
  have hl := lv_entry ([.ref o, .int x, .int y]) (n := 3) (Nat.le_of_ble_eq_true rfl)
  rw [lg_entry_eq]
  generalize (lg_sl ([.ref o, .int x, .int y]) ++ List.replicate (3 - (lg_sl ([.ref o, .int x, .int y])).length) Slot.unset).toArray = ls at hl ⊢
  have hl : lv_has ls 3 [(0, .ref o), (1, .int x), (2, .int y)] := hl
  suffices key : ∀ (H : Heap) (locs : List Loc), va_P D vwCl (xw o a1 a2 a3 k1 k2 k3 row dv sl nb wd po tp fi la bi bo) H → va_S (fun q : Nat => s.heap.size ≤ q) s.heap H locs → W p l e (headSpec wsX0_part { frames := 4, cells := 0, slots := 0, locals := 95 }).room s m ([.ref o, .int x, .int y] : List Value).toArray below meth c H locs 0 0 (MQ below (roL s.heap.size (mPart row sl nb (nI wd) bo fi la x y)) ([.ref o, .int x, .int y] : List Value).toArray s 0 0 (fun q : Nat => s.heap.size ≤ q)) (F0 m 0 ls []) from key s.heap [] hP hS
  intro H locs hP hS
  refine lv_iload_n hx hb dX0_part_0 rfl (lv_at hl 1 rfl) ?_
  refine lv_if_lt (tgt := 17) hx hb dX0_part_1 (by decide) (fun c_1 => ?_) (fun c_1 => ?_)
  ·
    refine lv_lconst (v := 0) hx hb dX0_part_17 (by decide) ?_
    exact W.lret (v := 0) hx hb hr (fun t ht hW => ⟨⟨0, (), rfl, by first | rw [mPart, if_pos c_1] | rw [mPart, if_neg c_1, if_pos c_6] | rw [mPart, if_neg c_1, if_neg c_6, if_pos c_14] | rw [mPart, if_neg c_1, if_neg c_6, if_neg c_14], trivial⟩, hS.F ht⟩) hS.2.2 dX0_part_18
  ·
    refine lv_iload_n hx hb dX0_part_4 rfl (lv_at hl 1 rfl) ?_
    refine lv_iload_n hx hb dX0_part_5 rfl (lv_at hl 2 rfl) ?_
    refine lv_icmp_gt (tgt := 17) hx hb dX0_part_6 (by decide) (fun c_6 => ?_) (fun c_6 => ?_)
    ·
      refine lv_lconst (v := 0) hx hb dX0_part_17 (by decide) ?_
      exact W.lret (v := 0) hx hb hr (fun t ht hW => ⟨⟨0, (), rfl, by first | rw [mPart, if_pos c_1] | rw [mPart, if_neg c_1, if_pos c_6] | rw [mPart, if_neg c_1, if_neg c_6, if_pos c_14] | rw [mPart, if_neg c_1, if_neg c_6, if_neg c_14], trivial⟩, hS.F ht⟩) hS.2.2 dX0_part_18
    ·
      refine lv_iload_n hx hb dX0_part_9 rfl (lv_at hl 2 rfl) ?_
      refine lv_aload_n hx hb dX0_part_10 rfl (lv_at hl 0 rfl) ?_
      refine va_get (D := D) (ci := 0) (v := .int (nI nb)) (C := RX0) (T := TX0) (N := 11) hx hb hts in_c_part hown hK hP 0 rfl rfl 3 (by decide) (hts (.fieldLink RX0 68 "SliceChecks" "bytes" "I") (by decide +kernel)) (fun _ h9 => h9) rfl dX0_part_11 ?_
      refine lv_icmp_le (tgt := 19) hx hb dX0_part_14 (by decide) (fun c_14 => ?_) (fun c_14 => ?_)
      ·
        have hx1 := du_nn c_1
        have hy1 : ¬ y < 0 := du_nn2 c_1 c_6
        have hy2 := du_nn hy1
        have hy3 : y.toNatClampNeg ≤ nb := du_cle hy1 c_14 (by omega)
        have hx3 : x.toNatClampNeg ≤ y.toNatClampNeg := du_cl2 c_6
        refine lv_aload_n hx hb dX0_part_19 rfl (lv_at hl 0 rfl) ?_
        refine lv_aload_n hx hb dX0_part_20 rfl (lv_at hl 0 rfl) ?_
        refine lv_iload_n hx hb dX0_part_21 rfl (lv_at hl 1 rfl) ?_
        refine du_rwi (y := nI x.toNatClampNeg) (hx1) ?_
        refine lv_iload_n hx hb dX0_part_22 rfl (lv_at hl 2 rfl) ?_
        refine du_rwi (y := nI y.toNatClampNeg) (hy2) ?_
        refine ro_l (va_runV (As := [.int (nI x.toNatClampNeg), .int (nI y.toNatClampNeg)]) (rest := [.ref o]) ⟨hx, hb, hml, hown, hts⟩ (c_eightAtOnce (sz := H.size) x.toNatClampNeg y.toNatClampNeg (by omega) (by omega)) (cwV 2 hts gX0_part_X0_eightAtOnce rfl rfl rfl (by decide +kernel) ⟨Nat.le_of_ble_eq_true rfl, Nat.le_of_ble_eq_true rfl⟩) (preV_RO hP hK 0 (ci := 0) rfl rfl) rfl rfl hl.1 rfl (lv_room (Nat.le_of_ble_eq_true rfl)) dX0_part_23 ⟨Nat.le_of_ble_eq_true rfl, Nat.le_of_ble_eq_true rfl⟩) hS hA hP (fun H locs hP hS => ?_)
        refine ro_l (va_runV (As := [.long (mEi row sl (mTop (nI wd) fi) x.toNatClampNeg y.toNatClampNeg)]) (rest := []) ⟨hx, hb, hml, hown, hts⟩ (c_checkOf (sz := H.size) (mEi row sl (mTop (nI wd) fi) x.toNatClampNeg y.toNatClampNeg)) (cwV 1 hts gX0_part_X0_checkOf rfl rfl rfl (by decide +kernel) ⟨Nat.le_of_ble_eq_true rfl, Nat.le_of_ble_eq_true rfl⟩) (preV_RO hP hK 0 (ci := 0) rfl rfl) rfl rfl hl.1 rfl (lv_room (Nat.le_of_ble_eq_true rfl)) dX0_part_26 ⟨Nat.le_of_ble_eq_true rfl, Nat.le_of_ble_eq_true rfl⟩) hS hA hP (fun H locs hP hS => ?_)
        exact W.lret (v := (mCheck (nI wd) bo la (mEi row sl (mTop (nI wd) fi) x.toNatClampNeg y.toNatClampNeg))) hx hb hr (fun t ht hW => ⟨⟨(mCheck (nI wd) bo la (mEi row sl (mTop (nI wd) fi) x.toNatClampNeg y.toNatClampNeg)), (), rfl, by first | rw [mPart, if_pos c_1] | rw [mPart, if_neg c_1, if_pos c_6] | rw [mPart, if_neg c_1, if_neg c_6, if_pos c_14] | rw [mPart, if_neg c_1, if_neg c_6, if_neg c_14], trivial⟩, hS.F ht⟩) hS.2.2 dX0_part_29
      ·
        refine lv_lconst (v := 0) hx hb dX0_part_17 (by decide) ?_
        exact W.lret (v := 0) hx hb hr (fun t ht hW => ⟨⟨0, (), rfl, by first | rw [mPart, if_pos c_1] | rw [mPart, if_neg c_1, if_pos c_6] | rw [mPart, if_neg c_1, if_neg c_6, if_pos c_14] | rw [mPart, if_neg c_1, if_neg c_6, if_neg c_14], trivial⟩, hS.F ht⟩) hS.2.2 dX0_part_18
theorem in_c_joined : ∀ w ∈ wsX00, w ∈ wsX0_joined := fun _ h => List.mem_cons_of_mem _ (List.mem_append_right _ h)
set_option maxHeartbeats 4000000 in
set_option maxRecDepth 100000 in
theorem c_joined {l : Launch} {D : va_G} {o a1 a2 a3 : Nat} {k1 k2 k3 : ClassId} {row : Nat → Int64} {dv : Nat → Int64} {sl : Nat → Int64} {nb : Nat} {wd : Nat} {po : Int64} {tp : Int64} {fi : Int64} {la : Int64} {bi : Int32} {bo : Int32} {sz : Nat} (x : Int64) (y : Int64) (n : Int32) (hw : wd ≤ 64) : Met l yX0_joined wsX0_joined ({ frames := 3, cells := 0, slots := 0, locals := 81 }) (va_Pc [.ref o, .long x, .long y, .int n] (pRO D vwCl (xt k1 k2 k3) (xw o a1 a2 a3 k1 k2 k3 row dv sl nb wd po tp fi la bi bo) sz)) (roL sz (mJoin (nI wd) bo tp fi la x y n)) 0 0 (fun q : Nat => sz ≤ q) := by
  refine Met.ofW (cc := cX0_joined) (maxL := 8) (ret := (some .long)) (by decide) rfl ?_
  intro p e s m args below meth c s₁ B hml hv
  obtain ⟨rfl, hsz, hP, hK⟩ := hv
  have hsz : s.heap.size = sz := hsz
  have hx := B.exec
  have hb := B.bytes
  have hr := B.returns
  have hts := atoms_spec (ws := wsX0_joined) B.pre
  have hown : s.vm.findClass RX0 = some m.cls := findClass_of_methodNamed B.named
  have hlocks := B.notSynchronized
  subst hsz
  have hA : ∀ q : Nat, s.heap.size ≤ q → (fun q : Nat => s.heap.size ≤ q) q := fun _ h => h
  have hS : va_S (fun q : Nat => s.heap.size ≤ q) s.heap s.heap [] := va_S.rf
  have hl := lv_entry ([.ref o, .long x, .long y, .int n]) (n := 8) (Nat.le_of_ble_eq_true rfl)
  rw [lg_entry_eq]
  generalize (lg_sl ([.ref o, .long x, .long y, .int n]) ++ List.replicate (8 - (lg_sl ([.ref o, .long x, .long y, .int n])).length) Slot.unset).toArray = ls at hl ⊢
  have hl : lv_has ls 8 [(0, .ref o), (1, .long x), (3, .long y), (5, .int n)] := hl
  suffices key : ∀ (H : Heap) (locs : List Loc), va_P D vwCl (xw o a1 a2 a3 k1 k2 k3 row dv sl nb wd po tp fi la bi bo) H → va_S (fun q : Nat => s.heap.size ≤ q) s.heap H locs → W p l e (headSpec wsX0_joined { frames := 3, cells := 0, slots := 0, locals := 81 }).room s m ([.ref o, .long x, .long y, .int n] : List Value).toArray below meth c H locs 0 0 (MQ below (roL s.heap.size (mJoin (nI wd) bo tp fi la x y n)) ([.ref o, .long x, .long y, .int n] : List Value).toArray s 0 0 (fun q : Nat => s.heap.size ≤ q)) (F0 m 0 ls []) from key s.heap [] hP hS
  intro H locs hP hS
  refine lv_iload hx hb dX0_joined_0 (lv_at hl 3 rfl) ?_
  refine lv_if_ge (tgt := 7) hx hb dX0_joined_2 (by decide) (fun c_2 => ?_) (fun c_2 => ?_)
  ·
    refine lv_aload_n hx hb dX0_joined_7 rfl (lv_at hl 0 rfl) ?_
    refine lv_lload_n hx hb dX0_joined_8 rfl (lv_at hl 1 rfl) ?_
    refine ro_l (va_runV (As := [.long x]) (rest := []) ⟨hx, hb, hml, hown, hts⟩ (c_registerOf (sz := H.size) x) (cwV 1 hts gX0_joined_X0_registerOf rfl rfl rfl (by decide +kernel) ⟨Nat.le_of_ble_eq_true rfl, Nat.le_of_ble_eq_true rfl⟩) (preV_RO hP hK 0 (ci := 0) rfl rfl) rfl rfl hl.1 rfl (lv_room (Nat.le_of_ble_eq_true rfl)) dX0_joined_9 ⟨Nat.le_of_ble_eq_true rfl, Nat.le_of_ble_eq_true rfl⟩) hS hA hP (fun H locs hP hS => ?_)
    refine lv_aload_n hx hb dX0_joined_12 rfl (lv_at hl 0 rfl) ?_
    refine lv_aload_n hx hb dX0_joined_13 rfl (lv_at hl 0 rfl) ?_
    refine va_get (D := D) (ci := 0) (v := .long fi) (C := RX0) (T := TX0) (N := 11) hx hb hts in_c_joined hown hK hP 0 rfl rfl 7 (by decide) (hts (.fieldLink RX0 52 "SliceChecks" "first" "J") (by decide +kernel)) (fun _ h9 => h9) rfl dX0_joined_14 ?_
    refine ro_l (va_runV (As := [.long fi]) (rest := [.long (mReg (nI wd) bo la x)]) ⟨hx, hb, hml, hown, hts⟩ (c_atTop (sz := H.size) fi) (cwV 1 hts gX0_joined_X0_atTop rfl rfl rfl (by decide +kernel) ⟨Nat.le_of_ble_eq_true rfl, Nat.le_of_ble_eq_true rfl⟩) (preV_RO hP hK 0 (ci := 0) rfl rfl) rfl rfl hl.1 rfl (lv_room (Nat.le_of_ble_eq_true rfl)) dX0_joined_17 ⟨Nat.le_of_ble_eq_true rfl, Nat.le_of_ble_eq_true rfl⟩) hS hA hP (fun H locs hP hS => ?_)
    refine lv_lxor hx hb dX0_joined_20 ?_
    refine lv_lstore (lv' := [(6, .long ((mReg (nI wd) bo la x) ^^^ (mTop (nI wd) fi))), (0, .ref o), (1, .long x), (3, .long y), (5, .int n)]) hx hb dX0_joined_21 hl (by decide) rfl (fun ls hl => ?_)
    refine lv_aload_n hx hb dX0_joined_23 rfl (lv_at hl 1 rfl) ?_
    refine lv_aload_n hx hb dX0_joined_24 rfl (lv_at hl 1 rfl) ?_
    refine lv_lload_n hx hb dX0_joined_25 rfl (lv_at hl 3 rfl) ?_
    refine ro_l (va_runV (As := [.long y]) (rest := [.ref o]) ⟨hx, hb, hml, hown, hts⟩ (c_registerOf (sz := H.size) y) (cwV 1 hts gX0_joined_X0_registerOf rfl rfl rfl (by decide +kernel) ⟨Nat.le_of_ble_eq_true rfl, Nat.le_of_ble_eq_true rfl⟩) (preV_RO hP hK 0 (ci := 0) rfl rfl) rfl rfl hl.1 rfl (lv_room (Nat.le_of_ble_eq_true rfl)) dX0_joined_26 ⟨Nat.le_of_ble_eq_true rfl, Nat.le_of_ble_eq_true rfl⟩) hS hA hP (fun H locs hP hS => ?_)
    refine lv_aload_n hx hb dX0_joined_29 rfl (lv_at hl 1 rfl) ?_
    refine lv_lload hx hb dX0_joined_30 (lv_at hl 0 rfl) ?_
    refine lv_iload hx hb dX0_joined_32 (lv_at hl 4 rfl) ?_
    refine lv_i2l (v := n.toInt64) hx hb dX0_joined_34 rfl ?_
    refine lv_ldc2 hx hb hown (hts (.constantLong RX0 110 8) (by decide +kernel)) dX0_joined_35 ?_
    refine lv_lmul hx hb dX0_joined_38 ?_
    refine ro_l (va_runV (As := [.long ((mReg (nI wd) bo la x) ^^^ (mTop (nI wd) fi)), .long (n.toInt64 * 8)]) (rest := [.long (mReg (nI wd) bo la y), .ref o]) ⟨hx, hb, hml, hown, hts⟩ (c_behindZeros (sz := H.size) ((mReg (nI wd) bo la x) ^^^ (mTop (nI wd) fi)) (n.toInt64 * 8) (hw)) (cwV 2 hts gX0_joined_X0_behindZeros rfl rfl rfl (by decide +kernel) ⟨Nat.le_of_ble_eq_true rfl, Nat.le_of_ble_eq_true rfl⟩) (preV_RO hP hK 0 (ci := 0) rfl rfl) rfl rfl hl.1 rfl (lv_room (Nat.le_of_ble_eq_true rfl)) dX0_joined_39 ⟨Nat.le_of_ble_eq_true rfl, Nat.le_of_ble_eq_true rfl⟩) hS hA hP (fun H locs hP hS => ?_)
    refine lv_lxor hx hb dX0_joined_42 ?_
    refine ro_l (va_runV (As := [.long ((mReg (nI wd) bo la y) ^^^ (mZeros (nI wd) tp ((mReg (nI wd) bo la x) ^^^ (mTop (nI wd) fi)) (n.toInt64 * 8)))]) (rest := []) ⟨hx, hb, hml, hown, hts⟩ (c_checkOf (sz := H.size) ((mReg (nI wd) bo la y) ^^^ (mZeros (nI wd) tp ((mReg (nI wd) bo la x) ^^^ (mTop (nI wd) fi)) (n.toInt64 * 8)))) (cwV 1 hts gX0_joined_X0_checkOf rfl rfl rfl (by decide +kernel) ⟨Nat.le_of_ble_eq_true rfl, Nat.le_of_ble_eq_true rfl⟩) (preV_RO hP hK 0 (ci := 0) rfl rfl) rfl rfl hl.1 rfl (lv_room (Nat.le_of_ble_eq_true rfl)) dX0_joined_43 ⟨Nat.le_of_ble_eq_true rfl, Nat.le_of_ble_eq_true rfl⟩) hS hA hP (fun H locs hP hS => ?_)
    exact W.lret (v := (mCheck (nI wd) bo la ((mReg (nI wd) bo la y) ^^^ (mZeros (nI wd) tp ((mReg (nI wd) bo la x) ^^^ (mTop (nI wd) fi)) (n.toInt64 * 8))))) hx hb hr (fun t ht hW => ⟨⟨(mCheck (nI wd) bo la ((mReg (nI wd) bo la y) ^^^ (mZeros (nI wd) tp ((mReg (nI wd) bo la x) ^^^ (mTop (nI wd) fi)) (n.toInt64 * 8)))), (), rfl, by first | rw [mJoin, if_pos c_2] | rw [mJoin, if_neg c_2], trivial⟩, hS.F ht⟩) hS.2.2 dX0_joined_46
  ·
    refine lv_lconst (v := 0) hx hb dX0_joined_5 (by decide) ?_
    exact W.lret (v := 0) hx hb hr (fun t ht hW => ⟨⟨0, (), rfl, by first | rw [mJoin, if_pos c_2] | rw [mJoin, if_neg c_2], trivial⟩, hS.F ht⟩) hS.2.2 dX0_joined_6
theorem in_c_entry : ∀ w ∈ wsX00, w ∈ wsX0_entry := fun _ h => List.mem_cons_of_mem _ (List.mem_append_right _ h)
set_option maxHeartbeats 4000000 in
set_option maxRecDepth 100000 in
theorem c_entry {l : Launch} {D : va_G} {o a1 a2 a3 : Nat} {k1 k2 k3 : ClassId} {row : Nat → Int64} {dv : Nat → Int64} {sl : Nat → Int64} {nb : Nat} {wd : Nat} {po : Int64} {tp : Int64} {fi : Int64} {la : Int64} {bi : Int32} {bo : Int32} {sz : Nat} (k : Int32) (b : Int32)  : Met l yX0_entry wsX0_entry ({ frames := 2, cells := 0, slots := 0, locals := 46 }) (va_Pc [.ref o, .int k, .int b] (pRO D vwCl (xt k1 k2 k3) (xw o a1 a2 a3 k1 k2 k3 row dv sl nb wd po tp fi la bi bo) sz)) (roL sz (mEntry sl (nI wd) bi k b)) 0 0 (fun q : Nat => sz ≤ q) := by
  refine Met.ofW (cc := cX0_entry) (maxL := 3) (ret := (some .long)) (by decide) rfl ?_
  intro p e s m args below meth c s₁ B hml hv
  obtain ⟨rfl, hsz, hP, hK⟩ := hv
  have hsz : s.heap.size = sz := hsz
  have hx := B.exec
  have hb := B.bytes
  have hr := B.returns
  have hts := atoms_spec (ws := wsX0_entry) B.pre
  have hown : s.vm.findClass RX0 = some m.cls := findClass_of_methodNamed B.named
  have hlocks := B.notSynchronized
  subst hsz
  have hA : ∀ q : Nat, s.heap.size ≤ q → (fun q : Nat => s.heap.size ≤ q) q := fun _ h => h
  have hS : va_S (fun q : Nat => s.heap.size ≤ q) s.heap s.heap [] := va_S.rf
  have hl := lv_entry ([.ref o, .int k, .int b]) (n := 3) (Nat.le_of_ble_eq_true rfl)
  rw [lg_entry_eq]
  generalize (lg_sl ([.ref o, .int k, .int b]) ++ List.replicate (3 - (lg_sl ([.ref o, .int k, .int b])).length) Slot.unset).toArray = ls at hl ⊢
  have hl : lv_has ls 3 [(0, .ref o), (1, .int k), (2, .int b)] := hl
  suffices key : ∀ (H : Heap) (locs : List Loc), va_P D vwCl (xw o a1 a2 a3 k1 k2 k3 row dv sl nb wd po tp fi la bi bo) H → va_S (fun q : Nat => s.heap.size ≤ q) s.heap H locs → W p l e (headSpec wsX0_entry { frames := 2, cells := 0, slots := 0, locals := 46 }).room s m ([.ref o, .int k, .int b] : List Value).toArray below meth c H locs 0 0 (MQ below (roL s.heap.size (mEntry sl (nI wd) bi k b)) ([.ref o, .int k, .int b] : List Value).toArray s 0 0 (fun q : Nat => s.heap.size ≤ q)) (F0 m 0 ls []) from key s.heap [] hP hS
  intro H locs hP hS
  refine lv_iload_n hx hb dX0_entry_0 rfl (lv_at hl 1 rfl) ?_
  refine lv_if_lt (tgt := 17) hx hb dX0_entry_1 (by decide) (fun c_1 => ?_) (fun c_1 => ?_)
  ·
    refine lv_lconst (v := 0) hx hb dX0_entry_17 (by decide) ?_
    exact W.lret (v := 0) hx hb hr (fun t ht hW => ⟨⟨0, (), rfl, by first | rw [mEntry, if_pos c_1] | rw [mEntry, if_neg c_1, if_pos c_7] | rw [mEntry, if_neg c_1, if_neg c_7, if_neg c_14] | rw [mEntry, if_neg c_1, if_neg c_7, if_pos c_14], trivial⟩, hS.F ht⟩) hS.2.2 dX0_entry_18
  ·
    refine lv_iload_n hx hb dX0_entry_4 rfl (lv_at hl 1 rfl) ?_
    refine lv_bipush (v := 8) hx hb dX0_entry_5 (by decide) ?_
    refine lv_icmp_ge (tgt := 17) hx hb dX0_entry_7 (by decide) (fun c_7 => ?_) (fun c_7 => ?_)
    ·
      refine lv_lconst (v := 0) hx hb dX0_entry_17 (by decide) ?_
      exact W.lret (v := 0) hx hb hr (fun t ht hW => ⟨⟨0, (), rfl, by first | rw [mEntry, if_pos c_1] | rw [mEntry, if_neg c_1, if_pos c_7] | rw [mEntry, if_neg c_1, if_neg c_7, if_neg c_14] | rw [mEntry, if_neg c_1, if_neg c_7, if_pos c_14], trivial⟩, hS.F ht⟩) hS.2.2 dX0_entry_18
    ·
      refine lv_iload_n hx hb dX0_entry_10 rfl (lv_at hl 2 rfl) ?_
      refine ro_i (va_runS (As := [.int b]) (rest := []) ⟨hx, hb, hml, hown, hts⟩ (c_isByte (sz := H.size) b) (va_cwS 1 hts gX0_entry_X0_isByte rfl rfl rfl (by decide +kernel) ⟨Nat.le_of_ble_eq_true rfl, Nat.le_of_ble_eq_true rfl⟩) preS_ST rfl rfl hl.1 rfl (lv_room (Nat.le_of_ble_eq_true rfl)) dX0_entry_11 ⟨Nat.le_of_ble_eq_true rfl, Nat.le_of_ble_eq_true rfl⟩) hS hA hP (fun H locs hP hS => ?_)
      refine lv_if_ne (tgt := 19) hx hb dX0_entry_14 (by decide) (fun c_14 => ?_) (fun c_14 => ?_)
      ·
        refine lv_aload_n hx hb dX0_entry_19 rfl (lv_at hl 0 rfl) ?_
        refine lv_aload_n hx hb dX0_entry_20 rfl (lv_at hl 0 rfl) ?_
        refine va_get (D := D) (ci := 0) (v := .ref a3) (C := RX0) (T := TX0) (N := 11) hx hb hts in_c_entry hown hK hP 0 rfl rfl 2 (by decide) (hts (.fieldLink RX0 16 "SliceChecks" "slices" "[J") (by decide +kernel)) (fun _ h9 => h9) rfl dX0_entry_21 ?_
        refine lv_iload_n hx hb dX0_entry_24 rfl (lv_at hl 1 rfl) ?_
        refine lv_sipush (v := 256) hx hb dX0_entry_25 (by decide) ?_
        refine lv_imul hx hb dX0_entry_28 ?_
        refine lv_aload_n hx hb dX0_entry_29 rfl (lv_at hl 0 rfl) ?_
        refine lv_iload_n hx hb dX0_entry_30 rfl (lv_at hl 2 rfl) ?_
        refine ro_l (va_runV (As := [.int b]) (rest := [.int (k * 256), .ref a3, .ref o]) ⟨hx, hb, hml, hown, hts⟩ (c_asItComes (sz := H.size) b) (cwV 1 hts gX0_entry_X0_asItComes rfl rfl rfl (by decide +kernel) ⟨Nat.le_of_ble_eq_true rfl, Nat.le_of_ble_eq_true rfl⟩) (preV_RO hP hK 0 (ci := 0) rfl rfl) rfl rfl hl.1 rfl (lv_room (Nat.le_of_ble_eq_true rfl)) dX0_entry_31 ⟨Nat.le_of_ble_eq_true rfl, Nat.le_of_ble_eq_true rfl⟩) hS hA hP (fun H locs hP hS => ?_)
        refine lv_l2i (v := (mCome bi b).toInt32) hx hb dX0_entry_34 rfl ?_
        refine lv_iadd hx hb dX0_entry_35 ?_
        refine va_lald hx hb hK hP 3 2 rfl rfl (i := (k * 256) + ((mCome bi b).toInt32)) (du_eix c_1 c_7 c_14) dX0_entry_36 ?_
        refine ro_l (va_runV (As := [.long (sl ((k * 256) + ((mCome bi b).toInt32)).toNatClampNeg)]) (rest := []) ⟨hx, hb, hml, hown, hts⟩ (c_fromTop (sz := H.size) (sl ((k * 256) + ((mCome bi b).toInt32)).toNatClampNeg)) (cwV 1 hts gX0_entry_X0_fromTop rfl rfl rfl (by decide +kernel) ⟨Nat.le_of_ble_eq_true rfl, Nat.le_of_ble_eq_true rfl⟩) (preV_RO hP hK 0 (ci := 0) rfl rfl) rfl rfl hl.1 rfl (lv_room (Nat.le_of_ble_eq_true rfl)) dX0_entry_37 ⟨Nat.le_of_ble_eq_true rfl, Nat.le_of_ble_eq_true rfl⟩) hS hA hP (fun H locs hP hS => ?_)
        exact W.lret (v := (mFrom (nI wd) (sl ((k * 256) + ((mCome bi b).toInt32)).toNatClampNeg))) hx hb hr (fun t ht hW => ⟨⟨(mFrom (nI wd) (sl ((k * 256) + ((mCome bi b).toInt32)).toNatClampNeg)), (), rfl, by first | rw [mEntry, if_pos c_1] | rw [mEntry, if_neg c_1, if_pos c_7] | rw [mEntry, if_neg c_1, if_neg c_7, if_neg c_14] | rw [mEntry, if_neg c_1, if_neg c_7, if_pos c_14], trivial⟩, hS.F ht⟩) hS.2.2 dX0_entry_40
      ·
        refine lv_lconst (v := 0) hx hb dX0_entry_17 (by decide) ?_
        exact W.lret (v := 0) hx hb hr (fun t ht hW => ⟨⟨0, (), rfl, by first | rw [mEntry, if_pos c_1] | rw [mEntry, if_neg c_1, if_pos c_7] | rw [mEntry, if_neg c_1, if_neg c_7, if_neg c_14] | rw [mEntry, if_neg c_1, if_neg c_7, if_pos c_14], trivial⟩, hS.F ht⟩) hS.2.2 dX0_entry_18
theorem in_c_zeros : ∀ w ∈ wsX00, w ∈ wsX0_zeros := fun _ h => List.mem_cons_of_mem _ (List.mem_append_right _ h)
set_option maxHeartbeats 4000000 in
set_option maxRecDepth 100000 in
theorem c_zeros {l : Launch} {D : va_G} {o a1 a2 a3 : Nat} {k1 k2 k3 : ClassId} {row : Nat → Int64} {dv : Nat → Int64} {sl : Nat → Int64} {nb : Nat} {wd : Nat} {po : Int64} {tp : Int64} {fi : Int64} {la : Int64} {bi : Int32} {bo : Int32} {sz : Nat} (x : Int64) (n : Int32) (hw : wd ≤ 64) : Met l yX0_zeros wsX0_zeros ({ frames := 3, cells := 0, slots := 0, locals := 81 }) (va_Pc [.ref o, .long x, .int n] (pRO D vwCl (xt k1 k2 k3) (xw o a1 a2 a3 k1 k2 k3 row dv sl nb wd po tp fi la bi bo) sz)) (roL sz (mZer (nI wd) tp x n)) 0 0 (fun q : Nat => sz ≤ q) := by
  refine Met.ofW (cc := cX0_zeros) (maxL := 4) (ret := (some .long)) (by decide) rfl ?_
  intro p e s m args below meth c s₁ B hml hv
  obtain ⟨rfl, hsz, hP, hK⟩ := hv
  have hsz : s.heap.size = sz := hsz
  have hx := B.exec
  have hb := B.bytes
  have hr := B.returns
  have hts := atoms_spec (ws := wsX0_zeros) B.pre
  have hown : s.vm.findClass RX0 = some m.cls := findClass_of_methodNamed B.named
  have hlocks := B.notSynchronized
  subst hsz
  have hA : ∀ q : Nat, s.heap.size ≤ q → (fun q : Nat => s.heap.size ≤ q) q := fun _ h => h
  have hS : va_S (fun q : Nat => s.heap.size ≤ q) s.heap s.heap [] := va_S.rf
  have hl := lv_entry ([.ref o, .long x, .int n]) (n := 4) (Nat.le_of_ble_eq_true rfl)
  rw [lg_entry_eq]
  generalize (lg_sl ([.ref o, .long x, .int n]) ++ List.replicate (4 - (lg_sl ([.ref o, .long x, .int n])).length) Slot.unset).toArray = ls at hl ⊢
  have hl : lv_has ls 4 [(0, .ref o), (1, .long x), (3, .int n)] := hl
  suffices key : ∀ (H : Heap) (locs : List Loc), va_P D vwCl (xw o a1 a2 a3 k1 k2 k3 row dv sl nb wd po tp fi la bi bo) H → va_S (fun q : Nat => s.heap.size ≤ q) s.heap H locs → W p l e (headSpec wsX0_zeros { frames := 3, cells := 0, slots := 0, locals := 81 }).room s m ([.ref o, .long x, .int n] : List Value).toArray below meth c H locs 0 0 (MQ below (roL s.heap.size (mZer (nI wd) tp x n)) ([.ref o, .long x, .int n] : List Value).toArray s 0 0 (fun q : Nat => s.heap.size ≤ q)) (F0 m 0 ls []) from key s.heap [] hP hS
  intro H locs hP hS
  refine lv_iload_n hx hb dX0_zeros_0 rfl (lv_at hl 2 rfl) ?_
  refine lv_if_lt (tgt := 10) hx hb dX0_zeros_1 (by decide) (fun c_1 => ?_) (fun c_1 => ?_)
  ·
    refine lv_lconst (v := 0) hx hb dX0_zeros_10 (by decide) ?_
    exact W.lret (v := 0) hx hb hr (fun t ht hW => ⟨⟨0, (), rfl, by first | rw [mZer, if_pos c_1] | rw [mZer, if_neg c_1, if_pos c_7] | rw [mZer, if_neg c_1, if_neg c_7], trivial⟩, hS.F ht⟩) hS.2.2 dX0_zeros_11
  ·
    refine lv_iload_n hx hb dX0_zeros_4 rfl (lv_at hl 2 rfl) ?_
    refine lv_ldc hx hb hown (hts (.constant RX0 119 1000000) (by decide +kernel)) dX0_zeros_5 ?_
    refine lv_icmp_le (tgt := 12) hx hb dX0_zeros_7 (by decide) (fun c_7 => ?_) (fun c_7 => ?_)
    ·
      refine lv_aload_n hx hb dX0_zeros_12 rfl (lv_at hl 0 rfl) ?_
      refine lv_aload_n hx hb dX0_zeros_13 rfl (lv_at hl 0 rfl) ?_
      refine lv_aload_n hx hb dX0_zeros_14 rfl (lv_at hl 0 rfl) ?_
      refine lv_lload_n hx hb dX0_zeros_15 rfl (lv_at hl 1 rfl) ?_
      refine ro_l (va_runV (As := [.long x]) (rest := [.ref o, .ref o]) ⟨hx, hb, hml, hown, hts⟩ (c_atTop (sz := H.size) x) (cwV 1 hts gX0_zeros_X0_atTop rfl rfl rfl (by decide +kernel) ⟨Nat.le_of_ble_eq_true rfl, Nat.le_of_ble_eq_true rfl⟩) (preV_RO hP hK 0 (ci := 0) rfl rfl) rfl rfl hl.1 rfl (lv_room (Nat.le_of_ble_eq_true rfl)) dX0_zeros_16 ⟨Nat.le_of_ble_eq_true rfl, Nat.le_of_ble_eq_true rfl⟩) hS hA hP (fun H locs hP hS => ?_)
      refine lv_iload_n hx hb dX0_zeros_19 rfl (lv_at hl 2 rfl) ?_
      refine lv_i2l (v := n.toInt64) hx hb dX0_zeros_20 rfl ?_
      refine ro_l (va_runV (As := [.long (mTop (nI wd) x), .long n.toInt64]) (rest := [.ref o]) ⟨hx, hb, hml, hown, hts⟩ (c_behindZeros (sz := H.size) (mTop (nI wd) x) n.toInt64 (hw)) (cwV 2 hts gX0_zeros_X0_behindZeros rfl rfl rfl (by decide +kernel) ⟨Nat.le_of_ble_eq_true rfl, Nat.le_of_ble_eq_true rfl⟩) (preV_RO hP hK 0 (ci := 0) rfl rfl) rfl rfl hl.1 rfl (lv_room (Nat.le_of_ble_eq_true rfl)) dX0_zeros_21 ⟨Nat.le_of_ble_eq_true rfl, Nat.le_of_ble_eq_true rfl⟩) hS hA hP (fun H locs hP hS => ?_)
      refine ro_l (va_runV (As := [.long (mZeros (nI wd) tp (mTop (nI wd) x) n.toInt64)]) (rest := []) ⟨hx, hb, hml, hown, hts⟩ (c_fromTop (sz := H.size) (mZeros (nI wd) tp (mTop (nI wd) x) n.toInt64)) (cwV 1 hts gX0_zeros_X0_fromTop rfl rfl rfl (by decide +kernel) ⟨Nat.le_of_ble_eq_true rfl, Nat.le_of_ble_eq_true rfl⟩) (preV_RO hP hK 0 (ci := 0) rfl rfl) rfl rfl hl.1 rfl (lv_room (Nat.le_of_ble_eq_true rfl)) dX0_zeros_24 ⟨Nat.le_of_ble_eq_true rfl, Nat.le_of_ble_eq_true rfl⟩) hS hA hP (fun H locs hP hS => ?_)
      exact W.lret (v := (mFrom (nI wd) (mZeros (nI wd) tp (mTop (nI wd) x) n.toInt64))) hx hb hr (fun t ht hW => ⟨⟨(mFrom (nI wd) (mZeros (nI wd) tp (mTop (nI wd) x) n.toInt64)), (), rfl, by first | rw [mZer, if_pos c_1] | rw [mZer, if_neg c_1, if_pos c_7] | rw [mZer, if_neg c_1, if_neg c_7], trivial⟩, hS.F ht⟩) hS.2.2 dX0_zeros_27
    ·
      refine lv_lconst (v := 0) hx hb dX0_zeros_10 (by decide) ?_
      exact W.lret (v := 0) hx hb hr (fun t ht hW => ⟨⟨0, (), rfl, by first | rw [mZer, if_pos c_1] | rw [mZer, if_neg c_1, if_pos c_7] | rw [mZer, if_neg c_1, if_neg c_7], trivial⟩, hS.F ht⟩) hS.2.2 dX0_zeros_11
theorem in_c_round : ∀ w ∈ wsX00, w ∈ wsX0_round := fun _ h => List.mem_cons_of_mem _ (List.mem_append_right _ h)
set_option maxHeartbeats 4000000 in
set_option maxRecDepth 100000 in
theorem c_round {l : Launch} {D : va_G} {o a1 a2 a3 : Nat} {k1 k2 k3 : ClassId} {row : Nat → Int64} {dv : Nat → Int64} {sl : Nat → Int64} {nb : Nat} {wd : Nat} {po : Int64} {tp : Int64} {fi : Int64} {la : Int64} {bi : Int32} {bo : Int32} {sz : Nat}   : Met l yX0_round wsX0_round ({ frames := 1, cells := 0, slots := 0, locals := 25 }) (va_Pc [.ref o] (pRO D vwCl (xt k1 k2 k3) (xw o a1 a2 a3 k1 k2 k3 row dv sl nb wd po tp fi la bi bo) sz)) (roI sz (mRound (nI wd) tp)) 0 0 (fun q : Nat => sz ≤ q) := by
  refine Met.ofW (cc := cX0_round) (maxL := 6) (ret := (some .int)) (by decide) rfl ?_
  intro p e s m args below meth c s₁ B hml hv
  obtain ⟨rfl, hsz, hP, hK⟩ := hv
  have hsz : s.heap.size = sz := hsz
  have hx := B.exec
  have hb := B.bytes
  have hr := B.returns
  have hts := atoms_spec (ws := wsX0_round) B.pre
  have hown : s.vm.findClass RX0 = some m.cls := findClass_of_methodNamed B.named
  have hlocks := B.notSynchronized
  subst hsz
  have hA : ∀ q : Nat, s.heap.size ≤ q → (fun q : Nat => s.heap.size ≤ q) q := fun _ h => h
  have hS : va_S (fun q : Nat => s.heap.size ≤ q) s.heap s.heap [] := va_S.rf
  have hl := lv_entry ([.ref o]) (n := 6) (Nat.le_of_ble_eq_true rfl)
  rw [lg_entry_eq]
  generalize (lg_sl ([.ref o]) ++ List.replicate (6 - (lg_sl ([.ref o])).length) Slot.unset).toArray = ls at hl ⊢
  have hl : lv_has ls 6 [(0, .ref o)] := hl
  suffices key : ∀ (H : Heap) (locs : List Loc), va_P D vwCl (xw o a1 a2 a3 k1 k2 k3 row dv sl nb wd po tp fi la bi bo) H → va_S (fun q : Nat => s.heap.size ≤ q) s.heap H locs → W p l e (headSpec wsX0_round { frames := 1, cells := 0, slots := 0, locals := 25 }).room s m ([.ref o] : List Value).toArray below meth c H locs 0 0 (MQ below (roI s.heap.size (mRound (nI wd) tp)) ([.ref o] : List Value).toArray s 0 0 (fun q : Nat => s.heap.size ≤ q)) (F0 m 0 ls []) from key s.heap [] hP hS
  intro H locs hP hS
  refine lv_aload_n hx hb dX0_round_0 rfl (lv_at hl 0 rfl) ?_
  refine lv_lconst (v := 1) hx hb dX0_round_1 (by decide) ?_
  refine ro_l (va_runV (As := [.long 1]) (rest := []) ⟨hx, hb, hml, hown, hts⟩ (c_atTop (sz := H.size) 1) (cwV 1 hts gX0_round_X0_atTop rfl rfl rfl (by decide +kernel) ⟨Nat.le_of_ble_eq_true rfl, Nat.le_of_ble_eq_true rfl⟩) (preV_RO hP hK 0 (ci := 0) rfl rfl) rfl rfl hl.1 rfl (lv_room (Nat.le_of_ble_eq_true rfl)) dX0_round_2 ⟨Nat.le_of_ble_eq_true rfl, Nat.le_of_ble_eq_true rfl⟩) hS hA hP (fun H locs hP hS => ?_)
  refine lv_lstore_n (lv' := [(1, .long (mTop (nI wd) 1)), (0, .ref o)]) hx hb dX0_round_5 rfl hl (by decide) rfl (fun ls hl => ?_)
  refine lv_lload_n hx hb dX0_round_6 rfl (lv_at hl 0 rfl) ?_
  refine lv_lstore_n (lv' := [(3, .long (mTop (nI wd) 1)), (1, .long (mTop (nI wd) 1)), (0, .ref o)]) hx hb dX0_round_7 rfl hl (by decide) rfl (fun ls hl => ?_)
  refine lv_iconst (v := 1) hx hb dX0_round_8 (by decide) ?_
  refine lv_istore (lv' := [(5, .int 1), (3, .long (mTop (nI wd) 1)), (1, .long (mTop (nI wd) 1)), (0, .ref o)]) hx hb dX0_round_9 hl (by decide) rfl (fun ls hl => ?_)
  have lp_11 : ∀ (k i : Nat), i ≤ 4096 → 4096 < i + k → firstAt (fun i => decide (mRdN (nI wd) tp i = mTop (nI wd) 1)) i (4096 - i) = mRound (nI wd) tp → ∀ (H : Heap) (locs : List Loc), va_P D vwCl (xw o a1 a2 a3 k1 k2 k3 row dv sl nb wd po tp fi la bi bo) H → va_S (fun q : Nat => s.heap.size ≤ q) s.heap H locs → ∀ ls : Array Slot, lv_has ls 6 [(5, .int (nI (i + 1))), (3, .long (mRdN (nI wd) tp i)), (1, .long (mTop (nI wd) 1)), (0, .ref o)] → W p l e (headSpec wsX0_round { frames := 1, cells := 0, slots := 0, locals := 25 }).room s m ([.ref o] : List Value).toArray below meth c H locs 0 0 (MQ below (roI s.heap.size (mRound (nI wd) tp)) ([.ref o] : List Value).toArray s 0 0 (fun q : Nat => s.heap.size ≤ q)) (F0 m 11 ls []) := by
    intro k
    induction k with
    | zero =>
      intro i h1 h2
      exact absurd h2 (by omega)
    | succ k ih =>
      intro i hi hk hfr H locs hP hS ls hl
      refine lv_iload hx hb dX0_round_11 (lv_at hl 0 rfl) ?_
      refine lv_sipush (v := 4096) hx hb dX0_round_13 (by decide) ?_
      refine lv_icmp_gt (tgt := 41) hx hb dX0_round_16 (by decide) (fun c_16 => ?_) (fun c_16 => ?_)
      ·
        have hiN : i = 4096 := du_rd1 hi c_16
        refine lv_iconst (v := (-1)) hx hb dX0_round_41 (by decide) ?_
        exact W.iret (v := (-1)) hx hb hr (fun t ht hW => ⟨⟨(-1), (), rfl, by rw [← hfr, hiN]; rfl, trivial⟩, hS.F ht⟩) hS.2.2 dX0_round_42
      ·
        have hlt : i < 4096 := du_rd2 hi c_16
        refine lv_aload_n hx hb dX0_round_19 rfl (lv_at hl 3 rfl) ?_
        refine lv_lload_n hx hb dX0_round_20 rfl (lv_at hl 1 rfl) ?_
        refine lv_iconst (v := 0) hx hb dX0_round_21 (by decide) ?_
        refine ro_l (va_runV (As := [.long (mRdN (nI wd) tp i), .int 0]) (rest := []) ⟨hx, hb, hml, hown, hts⟩ (c_behindBit (sz := H.size) (mRdN (nI wd) tp i) 0) (cwV 2 hts gX0_round_X0_behindBit rfl rfl rfl (by decide +kernel) ⟨Nat.le_of_ble_eq_true rfl, Nat.le_of_ble_eq_true rfl⟩) (preV_RO hP hK 0 (ci := 0) rfl rfl) rfl rfl hl.1 rfl (lv_room (Nat.le_of_ble_eq_true rfl)) dX0_round_22 ⟨Nat.le_of_ble_eq_true rfl, Nat.le_of_ble_eq_true rfl⟩) hS hA hP (fun H locs hP hS => ?_)
        refine du_rwl (y := mRdN (nI wd) tp (i + 1)) (rfl) ?_
        refine lv_lstore_n (lv' := [(3, .long (mRdN (nI wd) tp (i + 1))), (5, .int (nI (i + 1))), (1, .long (mTop (nI wd) 1)), (0, .ref o)]) hx hb dX0_round_25 rfl hl (by decide) rfl (fun ls hl => ?_)
        refine lv_lload_n hx hb dX0_round_26 rfl (lv_at hl 0 rfl) ?_
        refine lv_lload_n hx hb dX0_round_27 rfl (lv_at hl 2 rfl) ?_
        refine W.lcmp hx hb dX0_round_28 ?_
        refine lv_if_ne (tgt := 35) hx hb dX0_round_29 (by decide) (fun c_29 => ?_) (fun c_29 => ?_)
        ·
          have hfr2 : firstAt (fun i => decide (mRdN (nI wd) tp i = mTop (nI wd) 1)) (i + 1) (4096 - (i + 1)) = mRound (nI wd) tp := by rw [← hfr, du_fn hlt]; exact (if_neg (by simpa using fun h => c_29 ((lg_cmp_eq _ _).mpr h))).symm
          refine lv_iinc (v := nI (i + 1 + 1)) (lv' := [(5, .int (nI (i + 1 + 1))), (3, .long (mRdN (nI wd) tp (i + 1))), (1, .long (mTop (nI wd) 1)), (0, .ref o)]) hx hb dX0_round_35 hl (k := 1) rfl (nI_1 _) (by decide) rfl (fun ls hl => ?_)
          refine lv_goto (tgt := 11) hx hb dX0_round_38 (by decide) ?_
          exact ih (i + 1) (by omega) (by omega) (hfr2) H locs (hP) hS ls (lv_sub hl [0, 1, 2, 3] rfl)
        ·
          have hfr2 : nI (i + 1) = mRound (nI wd) tp := by rw [← hfr, du_fn hlt]; exact (if_pos (by simpa using (lg_cmp_eq _ _).mp c_29)).symm
          refine lv_iload hx hb dX0_round_32 (lv_at hl 1 rfl) ?_
          exact W.iret (v := (nI (i + 1))) hx hb hr (fun t ht hW => ⟨⟨(nI (i + 1)), (), rfl, hfr2, trivial⟩, hS.F ht⟩) hS.2.2 dX0_round_34
  exact lp_11 (4096 + 1 - 0) 0 (by omega) (by omega) (rfl) H locs (hP) hS ls (lv_sub hl [0, 1, 2, 3] rfl)
theorem in_c_count : ∀ w ∈ wsX00, w ∈ wsX0_count := fun _ h => List.mem_cons_of_mem _ (List.mem_append_right _ h)
set_option maxHeartbeats 4000000 in
set_option maxRecDepth 100000 in
theorem c_count {l : Launch} {D : va_G} {o a1 a2 a3 : Nat} {k1 k2 k3 : ClassId} {row : Nat → Int64} {dv : Nat → Int64} {sl : Nat → Int64} {nb : Nat} {wd : Nat} {po : Int64} {tp : Int64} {fi : Int64} {la : Int64} {bi : Int32} {bo : Int32} {sz : Nat} (x : Int32)  : Met l yX0_count wsX0_count ({ frames := 0, cells := 0, slots := 0, locals := 0 }) (va_Pc [.ref o, .int x] (pRO D vwCl (xt k1 k2 k3) (xw o a1 a2 a3 k1 k2 k3 row dv sl nb wd po tp fi la bi bo) sz)) (roI sz (cCount nb wd bi bo x)) 0 0 (fun q : Nat => sz ≤ q) := by
  refine Met.ofW (cc := cX0_count) (maxL := 2) (ret := (some .int)) (by decide) rfl ?_
  intro p e s m args below meth c s₁ B hml hv
  obtain ⟨rfl, hsz, hP, hK⟩ := hv
  have hsz : s.heap.size = sz := hsz
  have hx := B.exec
  have hb := B.bytes
  have hr := B.returns
  have hts := atoms_spec (ws := wsX0_count) B.pre
  have hown : s.vm.findClass RX0 = some m.cls := findClass_of_methodNamed B.named
  have hlocks := B.notSynchronized
  subst hsz
  have hA : ∀ q : Nat, s.heap.size ≤ q → (fun q : Nat => s.heap.size ≤ q) q := fun _ h => h
  have hS : va_S (fun q : Nat => s.heap.size ≤ q) s.heap s.heap [] := va_S.rf
  have hl := lv_entry ([.ref o, .int x]) (n := 2) (Nat.le_of_ble_eq_true rfl)
  rw [lg_entry_eq]
  generalize (lg_sl ([.ref o, .int x]) ++ List.replicate (2 - (lg_sl ([.ref o, .int x])).length) Slot.unset).toArray = ls at hl ⊢
  have hl : lv_has ls 2 [(0, .ref o), (1, .int x)] := hl
  suffices key : ∀ (H : Heap) (locs : List Loc), va_P D vwCl (xw o a1 a2 a3 k1 k2 k3 row dv sl nb wd po tp fi la bi bo) H → va_S (fun q : Nat => s.heap.size ≤ q) s.heap H locs → W p l e (headSpec wsX0_count { frames := 0, cells := 0, slots := 0, locals := 0 }).room s m ([.ref o, .int x] : List Value).toArray below meth c H locs 0 0 (MQ below (roI s.heap.size (cCount nb wd bi bo x)) ([.ref o, .int x] : List Value).toArray s 0 0 (fun q : Nat => s.heap.size ≤ q)) (F0 m 0 ls []) from key s.heap [] hP hS
  intro H locs hP hS
  refine lv_iload_n hx hb dX0_count_0 rfl (lv_at hl 1 rfl) ?_
  rcases du_sw x (0) with s_0 | s_0
  ·
    refine lv_tableIn (tgt := 32) hx hb dX0_count_1 (by rw [s_0]; decide) (by rw [s_0]; decide) (by rw [s_0]; rfl) (by decide) ?_
    refine lv_aload_n hx hb dX0_count_32 rfl (lv_at hl 0 rfl) ?_
    refine va_get (D := D) (ci := 0) (v := .int (nI nb)) (C := RX0) (T := TX0) (N := 11) hx hb hts in_c_count hown hK hP 0 rfl rfl 3 (by decide) (hts (.fieldLink RX0 68 "SliceChecks" "bytes" "I") (by decide +kernel)) (fun _ h9 => h9) rfl dX0_count_33 ?_
    exact W.iret (v := (nI nb)) hx hb hr (fun t ht hW => ⟨⟨(nI nb), (), rfl, by first | rw [cCount, if_pos s_0] | rw [cCount, if_neg s_0, if_pos s_1] | rw [cCount, if_neg s_0, if_neg s_1, if_pos s_2, if_pos c_46] | rw [cCount, if_neg s_0, if_neg s_1, if_pos s_2, if_neg c_46] | rw [cCount, if_neg s_0, if_neg s_1, if_neg s_2, if_pos s_3, if_pos c_59] | rw [cCount, if_neg s_0, if_neg s_1, if_neg s_2, if_pos s_3, if_neg c_59] | rw [cCount, if_neg s_0, if_neg s_1, if_neg s_2, if_neg s_3], trivial⟩, hS.F ht⟩) hS.2.2 dX0_count_36
  rcases du_sw x (1) with s_1 | s_1
  ·
    refine lv_tableIn (tgt := 37) hx hb dX0_count_1 (by rw [s_1]; decide) (by rw [s_1]; decide) (by rw [s_1]; rfl) (by decide) ?_
    refine lv_aload_n hx hb dX0_count_37 rfl (lv_at hl 0 rfl) ?_
    refine va_get (D := D) (ci := 0) (v := .int (nI wd)) (C := RX0) (T := TX0) (N := 11) hx hb hts in_c_count hown hK hP 0 rfl rfl 4 (by decide) (hts (.fieldLink RX0 34 "SliceChecks" "width" "I") (by decide +kernel)) (fun _ h9 => h9) rfl dX0_count_38 ?_
    exact W.iret (v := (nI wd)) hx hb hr (fun t ht hW => ⟨⟨(nI wd), (), rfl, by first | rw [cCount, if_pos s_0] | rw [cCount, if_neg s_0, if_pos s_1] | rw [cCount, if_neg s_0, if_neg s_1, if_pos s_2, if_pos c_46] | rw [cCount, if_neg s_0, if_neg s_1, if_pos s_2, if_neg c_46] | rw [cCount, if_neg s_0, if_neg s_1, if_neg s_2, if_pos s_3, if_pos c_59] | rw [cCount, if_neg s_0, if_neg s_1, if_neg s_2, if_pos s_3, if_neg c_59] | rw [cCount, if_neg s_0, if_neg s_1, if_neg s_2, if_neg s_3], trivial⟩, hS.F ht⟩) hS.2.2 dX0_count_41
  rcases du_sw x (2) with s_2 | s_2
  ·
    refine lv_tableIn (tgt := 42) hx hb dX0_count_1 (by rw [s_2]; decide) (by rw [s_2]; decide) (by rw [s_2]; rfl) (by decide) ?_
    refine lv_aload_n hx hb dX0_count_42 rfl (lv_at hl 0 rfl) ?_
    refine va_get (D := D) (ci := 0) (v := .int bi) (C := RX0) (T := TX0) (N := 11) hx hb hts in_c_count hown hK hP 0 rfl rfl 9 (by decide) (hts (.fieldLink RX0 27 "SliceChecks" "in" "Z") (by decide +kernel)) (fun _ h9 => h9) rfl dX0_count_43 ?_
    refine lv_if_eq (tgt := 53) hx hb dX0_count_46 (by decide) (fun c_46 => ?_) (fun c_46 => ?_)
    ·
      refine lv_iconst (v := 0) hx hb dX0_count_53 (by decide) ?_
      exact W.iret (v := 0) hx hb hr (fun t ht hW => ⟨⟨0, (), rfl, by first | rw [cCount, if_pos s_0] | rw [cCount, if_neg s_0, if_pos s_1] | rw [cCount, if_neg s_0, if_neg s_1, if_pos s_2, if_pos c_46] | rw [cCount, if_neg s_0, if_neg s_1, if_pos s_2, if_neg c_46] | rw [cCount, if_neg s_0, if_neg s_1, if_neg s_2, if_pos s_3, if_pos c_59] | rw [cCount, if_neg s_0, if_neg s_1, if_neg s_2, if_pos s_3, if_neg c_59] | rw [cCount, if_neg s_0, if_neg s_1, if_neg s_2, if_neg s_3], trivial⟩, hS.F ht⟩) hS.2.2 dX0_count_54
    ·
      refine lv_iconst (v := 1) hx hb dX0_count_49 (by decide) ?_
      refine lv_goto (tgt := 54) hx hb dX0_count_50 (by decide) ?_
      exact W.iret (v := 1) hx hb hr (fun t ht hW => ⟨⟨1, (), rfl, by first | rw [cCount, if_pos s_0] | rw [cCount, if_neg s_0, if_pos s_1] | rw [cCount, if_neg s_0, if_neg s_1, if_pos s_2, if_pos c_46] | rw [cCount, if_neg s_0, if_neg s_1, if_pos s_2, if_neg c_46] | rw [cCount, if_neg s_0, if_neg s_1, if_neg s_2, if_pos s_3, if_pos c_59] | rw [cCount, if_neg s_0, if_neg s_1, if_neg s_2, if_pos s_3, if_neg c_59] | rw [cCount, if_neg s_0, if_neg s_1, if_neg s_2, if_neg s_3], trivial⟩, hS.F ht⟩) hS.2.2 dX0_count_54
  rcases du_sw x (3) with s_3 | s_3
  ·
    refine lv_tableIn (tgt := 55) hx hb dX0_count_1 (by rw [s_3]; decide) (by rw [s_3]; decide) (by rw [s_3]; rfl) (by decide) ?_
    refine lv_aload_n hx hb dX0_count_55 rfl (lv_at hl 0 rfl) ?_
    refine va_get (D := D) (ci := 0) (v := .int bo) (C := RX0) (T := TX0) (N := 11) hx hb hts in_c_count hown hK hP 0 rfl rfl 10 (by decide) (hts (.fieldLink RX0 55 "SliceChecks" "out" "Z") (by decide +kernel)) (fun _ h9 => h9) rfl dX0_count_56 ?_
    refine lv_if_eq (tgt := 66) hx hb dX0_count_59 (by decide) (fun c_59 => ?_) (fun c_59 => ?_)
    ·
      refine lv_iconst (v := 0) hx hb dX0_count_66 (by decide) ?_
      exact W.iret (v := 0) hx hb hr (fun t ht hW => ⟨⟨0, (), rfl, by first | rw [cCount, if_pos s_0] | rw [cCount, if_neg s_0, if_pos s_1] | rw [cCount, if_neg s_0, if_neg s_1, if_pos s_2, if_pos c_46] | rw [cCount, if_neg s_0, if_neg s_1, if_pos s_2, if_neg c_46] | rw [cCount, if_neg s_0, if_neg s_1, if_neg s_2, if_pos s_3, if_pos c_59] | rw [cCount, if_neg s_0, if_neg s_1, if_neg s_2, if_pos s_3, if_neg c_59] | rw [cCount, if_neg s_0, if_neg s_1, if_neg s_2, if_neg s_3], trivial⟩, hS.F ht⟩) hS.2.2 dX0_count_67
    ·
      refine lv_iconst (v := 1) hx hb dX0_count_62 (by decide) ?_
      refine lv_goto (tgt := 67) hx hb dX0_count_63 (by decide) ?_
      exact W.iret (v := 1) hx hb hr (fun t ht hW => ⟨⟨1, (), rfl, by first | rw [cCount, if_pos s_0] | rw [cCount, if_neg s_0, if_pos s_1] | rw [cCount, if_neg s_0, if_neg s_1, if_pos s_2, if_pos c_46] | rw [cCount, if_neg s_0, if_neg s_1, if_pos s_2, if_neg c_46] | rw [cCount, if_neg s_0, if_neg s_1, if_neg s_2, if_pos s_3, if_pos c_59] | rw [cCount, if_neg s_0, if_neg s_1, if_neg s_2, if_pos s_3, if_neg c_59] | rw [cCount, if_neg s_0, if_neg s_1, if_neg s_2, if_neg s_3], trivial⟩, hS.F ht⟩) hS.2.2 dX0_count_67
  refine lv_tableOut (tgt := 68) hx hb dX0_count_1 (by have n_0 := du_ne (n := 0) (by decide) s_0; have n_1 := du_ne (n := 1) (by decide) s_1; have n_2 := du_ne (n := 2) (by decide) s_2; have n_3 := du_ne (n := 3) (by decide) s_3; omega) (by decide) ?_
  refine lv_iconst (v := (-1)) hx hb dX0_count_68 (by decide) ?_
  exact W.iret (v := (-1)) hx hb hr (fun t ht hW => ⟨⟨(-1), (), rfl, by first | rw [cCount, if_pos s_0] | rw [cCount, if_neg s_0, if_pos s_1] | rw [cCount, if_neg s_0, if_neg s_1, if_pos s_2, if_pos c_46] | rw [cCount, if_neg s_0, if_neg s_1, if_pos s_2, if_neg c_46] | rw [cCount, if_neg s_0, if_neg s_1, if_neg s_2, if_pos s_3, if_pos c_59] | rw [cCount, if_neg s_0, if_neg s_1, if_neg s_2, if_pos s_3, if_neg c_59] | rw [cCount, if_neg s_0, if_neg s_1, if_neg s_2, if_neg s_3], trivial⟩, hS.F ht⟩) hS.2.2 dX0_count_69
theorem in_c_told : ∀ w ∈ wsX00, w ∈ wsX0_told := fun _ h => List.mem_cons_of_mem _ (List.mem_append_right _ h)
set_option maxHeartbeats 4000000 in
set_option maxRecDepth 100000 in
theorem c_told {l : Launch} {D : va_G} {o a1 a2 a3 : Nat} {k1 k2 k3 : ClassId} {row : Nat → Int64} {dv : Nat → Int64} {sl : Nat → Int64} {nb : Nat} {wd : Nat} {po : Int64} {tp : Int64} {fi : Int64} {la : Int64} {bi : Int32} {bo : Int32} {sz : Nat} (x : Int32)  : Met l yX0_told wsX0_told ({ frames := 0, cells := 0, slots := 0, locals := 0 }) (va_Pc [.ref o, .int x] (pRO D vwCl (xt k1 k2 k3) (xw o a1 a2 a3 k1 k2 k3 row dv sl nb wd po tp fi la bi bo) sz)) (roL sz (cTold po fi la x)) 0 0 (fun q : Nat => sz ≤ q) := by
  refine Met.ofW (cc := cX0_told) (maxL := 2) (ret := (some .long)) (by decide) rfl ?_
  intro p e s m args below meth c s₁ B hml hv
  obtain ⟨rfl, hsz, hP, hK⟩ := hv
  have hsz : s.heap.size = sz := hsz
  have hx := B.exec
  have hb := B.bytes
  have hr := B.returns
  have hts := atoms_spec (ws := wsX0_told) B.pre
  have hown : s.vm.findClass RX0 = some m.cls := findClass_of_methodNamed B.named
  have hlocks := B.notSynchronized
  subst hsz
  have hA : ∀ q : Nat, s.heap.size ≤ q → (fun q : Nat => s.heap.size ≤ q) q := fun _ h => h
  have hS : va_S (fun q : Nat => s.heap.size ≤ q) s.heap s.heap [] := va_S.rf
  have hl := lv_entry ([.ref o, .int x]) (n := 2) (Nat.le_of_ble_eq_true rfl)
  rw [lg_entry_eq]
  generalize (lg_sl ([.ref o, .int x]) ++ List.replicate (2 - (lg_sl ([.ref o, .int x])).length) Slot.unset).toArray = ls at hl ⊢
  have hl : lv_has ls 2 [(0, .ref o), (1, .int x)] := hl
  suffices key : ∀ (H : Heap) (locs : List Loc), va_P D vwCl (xw o a1 a2 a3 k1 k2 k3 row dv sl nb wd po tp fi la bi bo) H → va_S (fun q : Nat => s.heap.size ≤ q) s.heap H locs → W p l e (headSpec wsX0_told { frames := 0, cells := 0, slots := 0, locals := 0 }).room s m ([.ref o, .int x] : List Value).toArray below meth c H locs 0 0 (MQ below (roL s.heap.size (cTold po fi la x)) ([.ref o, .int x] : List Value).toArray s 0 0 (fun q : Nat => s.heap.size ≤ q)) (F0 m 0 ls []) from key s.heap [] hP hS
  intro H locs hP hS
  refine lv_iload_n hx hb dX0_told_0 rfl (lv_at hl 1 rfl) ?_
  rcases du_sw x (0) with s_0 | s_0
  ·
    refine lv_tableIn (tgt := 28) hx hb dX0_told_1 (by rw [s_0]; decide) (by rw [s_0]; decide) (by rw [s_0]; rfl) (by decide) ?_
    refine lv_aload_n hx hb dX0_told_28 rfl (lv_at hl 0 rfl) ?_
    refine va_get (D := D) (ci := 0) (v := .long po) (C := RX0) (T := TX0) (N := 11) hx hb hts in_c_told hown hK hP 0 rfl rfl 5 (by decide) (hts (.fieldLink RX0 42 "SliceChecks" "polynomial" "J") (by decide +kernel)) (fun _ h9 => h9) rfl dX0_told_29 ?_
    exact W.lret (v := po) hx hb hr (fun t ht hW => ⟨⟨po, (), rfl, by first | rw [cTold, if_pos s_0] | rw [cTold, if_neg s_0, if_pos s_1] | rw [cTold, if_neg s_0, if_neg s_1, if_pos s_2] | rw [cTold, if_neg s_0, if_neg s_1, if_neg s_2], trivial⟩, hS.F ht⟩) hS.2.2 dX0_told_32
  rcases du_sw x (1) with s_1 | s_1
  ·
    refine lv_tableIn (tgt := 33) hx hb dX0_told_1 (by rw [s_1]; decide) (by rw [s_1]; decide) (by rw [s_1]; rfl) (by decide) ?_
    refine lv_aload_n hx hb dX0_told_33 rfl (lv_at hl 0 rfl) ?_
    refine va_get (D := D) (ci := 0) (v := .long fi) (C := RX0) (T := TX0) (N := 11) hx hb hts in_c_told hown hK hP 0 rfl rfl 7 (by decide) (hts (.fieldLink RX0 52 "SliceChecks" "first" "J") (by decide +kernel)) (fun _ h9 => h9) rfl dX0_told_34 ?_
    exact W.lret (v := fi) hx hb hr (fun t ht hW => ⟨⟨fi, (), rfl, by first | rw [cTold, if_pos s_0] | rw [cTold, if_neg s_0, if_pos s_1] | rw [cTold, if_neg s_0, if_neg s_1, if_pos s_2] | rw [cTold, if_neg s_0, if_neg s_1, if_neg s_2], trivial⟩, hS.F ht⟩) hS.2.2 dX0_told_37
  rcases du_sw x (2) with s_2 | s_2
  ·
    refine lv_tableIn (tgt := 38) hx hb dX0_told_1 (by rw [s_2]; decide) (by rw [s_2]; decide) (by rw [s_2]; rfl) (by decide) ?_
    refine lv_aload_n hx hb dX0_told_38 rfl (lv_at hl 0 rfl) ?_
    refine va_get (D := D) (ci := 0) (v := .long la) (C := RX0) (T := TX0) (N := 11) hx hb hts in_c_told hown hK hP 0 rfl rfl 8 (by decide) (hts (.fieldLink RX0 58 "SliceChecks" "last" "J") (by decide +kernel)) (fun _ h9 => h9) rfl dX0_told_39 ?_
    exact W.lret (v := la) hx hb hr (fun t ht hW => ⟨⟨la, (), rfl, by first | rw [cTold, if_pos s_0] | rw [cTold, if_neg s_0, if_pos s_1] | rw [cTold, if_neg s_0, if_neg s_1, if_pos s_2] | rw [cTold, if_neg s_0, if_neg s_1, if_neg s_2], trivial⟩, hS.F ht⟩) hS.2.2 dX0_told_42
  refine lv_tableOut (tgt := 43) hx hb dX0_told_1 (by have n_0 := du_ne (n := 0) (by decide) s_0; have n_1 := du_ne (n := 1) (by decide) s_1; have n_2 := du_ne (n := 2) (by decide) s_2; omega) (by decide) ?_
  refine lv_lconst (v := 0) hx hb dX0_told_43 (by decide) ?_
  exact W.lret (v := 0) hx hb hr (fun t ht hW => ⟨⟨0, (), rfl, by first | rw [cTold, if_pos s_0] | rw [cTold, if_neg s_0, if_pos s_1] | rw [cTold, if_neg s_0, if_neg s_1, if_pos s_2] | rw [cTold, if_neg s_0, if_neg s_1, if_neg s_2], trivial⟩, hS.F ht⟩) hS.2.2 dX0_told_44
theorem in_c_fillSlices : ∀ w ∈ wsX00, w ∈ wsX0_fillSlices := fun _ h => List.mem_cons_of_mem _ (List.mem_append_right _ h)
set_option maxHeartbeats 4000000 in
set_option maxRecDepth 100000 in
theorem c_fillSlices {l : Launch} {D : va_G} {o a1 a2 a3 : Nat} {k1 k2 k3 : ClassId} {row : Nat → Int64} {dv : Nat → Int64} {sl : Nat → Int64} {nb : Nat} {wd : Nat} {po : Int64} {tp : Int64} {fi : Int64} {la : Int64} {bi : Int32} {bo : Int32} {sz : Nat}   : Met l yX0_fillSlices wsX0_fillSlices ({ frames := 2, cells := 0, slots := 0, locals := 51 }) (va_Pc [.ref o] (pMU D vwCl (xt k1 k2 k3) (xw o a1 a2 a3 k1 k2 k3 row dv sl nb wd po tp fi la bi bo) sz)) (muV D vwCl (xw o a1 a2 a3 k1 k2 k3 row dv sl nb wd po tp fi la bi bo) (xw o a1 a2 a3 k1 k2 k3 row dv (mFill tp sl) nb wd po tp fi la bi bo) sz) 0 0 (va_A (xw o a1 a2 a3 k1 k2 k3 row dv sl nb wd po tp fi la bi bo) sz) := by
  refine Met.ofW (cc := cX0_fillSlices) (maxL := 2) (ret := none) (by decide) rfl ?_
  intro p e s m args below meth c s₁ B hml hv
  obtain ⟨rfl, hsz, hP, hK, hD0⟩ := hv
  have hsz : s.heap.size = sz := hsz
  have hx := B.exec
  have hb := B.bytes
  have hr := B.returns
  have hts := atoms_spec (ws := wsX0_fillSlices) B.pre
  have hown : s.vm.findClass RX0 = some m.cls := findClass_of_methodNamed B.named
  have hlocks := B.notSynchronized
  subst hsz
  have hD0 := hD0.self (sz := s.heap.size)
  have hA : ∀ q : Nat, s.heap.size ≤ q → va_A (xw o a1 a2 a3 k1 k2 k3 row dv sl nb wd po tp fi la bi bo) s.heap.size q := fun q h => Or.inr h
  unfold muV
  generalize va_A (xw o a1 a2 a3 k1 k2 k3 row dv sl nb wd po tp fi la bi bo) s.heap.size = A at hD0 hA ⊢
  have hD := hD0
  have hS : va_S A s.heap s.heap [] := va_S.rf
  have hl := lv_entry ([.ref o]) (n := 2) (Nat.le_of_ble_eq_true rfl)
  rw [lg_entry_eq]
  generalize (lg_sl ([.ref o]) ++ List.replicate (2 - (lg_sl ([.ref o])).length) Slot.unset).toArray = ls at hl ⊢
  have hl : lv_has ls 2 [(0, .ref o)] := hl
  suffices key : ∀ (H : Heap) (locs : List Loc), va_P D vwCl (xw o a1 a2 a3 k1 k2 k3 row dv sl nb wd po tp fi la bi bo) H → va_S A s.heap H locs → W p l e (headSpec wsX0_fillSlices { frames := 2, cells := 0, slots := 0, locals := 51 }).room s m ([.ref o] : List Value).toArray below meth c H locs 0 0 (MQ below (va_Qv (fun (_ : Unit) => True) (fun _ t9 => va_P D vwCl (xw o a1 a2 a3 k1 k2 k3 row dv (mFill tp sl) nb wd po tp fi la bi bo) t9.heap) A) ([.ref o] : List Value).toArray s 0 0 A) (F0 m 0 ls []) from key s.heap [] hP hS
  intro H locs hP hS
  refine lv_iconst (v := 0) hx hb dX0_fillSlices_0 (by decide) ?_
  refine lv_istore_n (lv' := [(1, .int 0), (0, .ref o)]) hx hb dX0_fillSlices_1 rfl hl (by decide) rfl (fun ls hl => ?_)
  have lp_2 : ∀ (k i : Nat), i ≤ 256 → 256 < i + k → ∀ (H : Heap) (locs : List Loc), va_P D vwCl (xw o a1 a2 a3 k1 k2 k3 row dv (mFl1 tp sl i) nb wd po tp fi la bi bo) H → va_S A s.heap H locs → ∀ ls : Array Slot, lv_has ls 2 [(1, .int (nI i)), (0, .ref o)] → W p l e (headSpec wsX0_fillSlices { frames := 2, cells := 0, slots := 0, locals := 51 }).room s m ([.ref o] : List Value).toArray below meth c H locs 0 0 (MQ below (va_Qv (fun (_ : Unit) => True) (fun _ t9 => va_P D vwCl (xw o a1 a2 a3 k1 k2 k3 row dv (mFill tp sl) nb wd po tp fi la bi bo) t9.heap) A) ([.ref o] : List Value).toArray s 0 0 A) (F0 m 2 ls []) := by
    intro k
    induction k with
    | zero =>
      intro i h1 h2
      exact absurd h2 (by omega)
    | succ k ih =>
      intro i hi hk H locs hP hS ls hl
      have hD : va_D A (xw o a1 a2 a3 k1 k2 k3 row dv (mFl1 tp sl i) nb wd po tp fi la bi bo) := du_same hD0 rfl
      refine lv_iload_n hx hb dX0_fillSlices_2 rfl (lv_at hl 0 rfl) ?_
      refine lv_sipush (v := 256) hx hb dX0_fillSlices_3 (by decide) ?_
      refine lv_icmp_ge (tgt := 27) hx hb dX0_fillSlices_6 (by decide) (fun c_6 => ?_) (fun c_6 => ?_)
      ·
        have hiN := du_ge (N := 256) (by omega) hi c_6
        refine lv_sipush (v := 256) hx hb dX0_fillSlices_27 (by decide) ?_
        refine lv_istore_n (lv' := [(1, .int 256), (0, .ref o)]) hx hb dX0_fillSlices_30 rfl hl (by decide) rfl (fun ls hl => ?_)
        have lp_31 : ∀ (k i : Nat), i ≤ 1792 → 1792 < i + k → ∀ (H : Heap) (locs : List Loc), va_P D vwCl (xw o a1 a2 a3 k1 k2 k3 row dv (mFl2 tp sl i) nb wd po tp fi la bi bo) H → va_S A s.heap H locs → ∀ ls : Array Slot, lv_has ls 2 [(1, .int (nI (256 + i))), (0, .ref o)] → W p l e (headSpec wsX0_fillSlices { frames := 2, cells := 0, slots := 0, locals := 51 }).room s m ([.ref o] : List Value).toArray below meth c H locs 0 0 (MQ below (va_Qv (fun (_ : Unit) => True) (fun _ t9 => va_P D vwCl (xw o a1 a2 a3 k1 k2 k3 row dv (mFill tp sl) nb wd po tp fi la bi bo) t9.heap) A) ([.ref o] : List Value).toArray s 0 0 A) (F0 m 31 ls []) := by
          intro k
          induction k with
          | zero =>
            intro i h1 h2
            exact absurd h2 (by omega)
          | succ k ih =>
            intro i hi hk H locs hP hS ls hl
            have hD : va_D A (xw o a1 a2 a3 k1 k2 k3 row dv (mFl2 tp sl i) nb wd po tp fi la bi bo) := du_same hD0 rfl
            refine lv_iload_n hx hb dX0_fillSlices_31 rfl (lv_at hl 0 rfl) ?_
            refine lv_aload_n hx hb dX0_fillSlices_32 rfl (lv_at hl 1 rfl) ?_
            refine va_get (D := D) (ci := 0) (v := .ref a3) (C := RX0) (T := TX0) (N := 11) hx hb hts in_c_fillSlices hown hK hP 0 rfl rfl 2 (by decide) (hts (.fieldLink RX0 16 "SliceChecks" "slices" "[J") (by decide +kernel)) (fun _ h9 => h9) rfl dX0_fillSlices_33 ?_
            refine va_alen hx hb hK hP 3 2 rfl rfl (v := 2048) rfl dX0_fillSlices_36 ?_
            refine lv_icmp_ge (tgt := 67) hx hb dX0_fillSlices_37 (by decide) (fun c_37 => ?_) (fun c_37 => ?_)
            ·
              have hiN : i = 1792 := du_fs1 hi c_37
              have hPf : va_P D vwCl (xw o a1 a2 a3 k1 k2 k3 row dv (mFill tp sl) nb wd po tp fi la bi bo) H := by subst hiN; exact hP
              exact W.vret hx hb hr (fun t ht hW => ⟨⟨(), rfl, trivial, by show va_P _ _ _ t.heap; rw [ht]; exact hPf⟩, hS.F ht⟩) hS.2.2 dX0_fillSlices_67
            ·
              have hlt : i < 1792 := du_fs2 hi c_37
              refine lv_aload_n hx hb dX0_fillSlices_40 rfl (lv_at hl 1 rfl) ?_
              refine va_get (D := D) (ci := 0) (v := .ref a3) (C := RX0) (T := TX0) (N := 11) hx hb hts in_c_fillSlices hown hK hP 0 rfl rfl 2 (by decide) (hts (.fieldLink RX0 16 "SliceChecks" "slices" "[J") (by decide +kernel)) (fun _ h9 => h9) rfl dX0_fillSlices_41 ?_
              refine lv_iload_n hx hb dX0_fillSlices_44 rfl (lv_at hl 0 rfl) ?_
              refine lv_aload_n hx hb dX0_fillSlices_45 rfl (lv_at hl 1 rfl) ?_
              refine lv_aload_n hx hb dX0_fillSlices_46 rfl (lv_at hl 1 rfl) ?_
              refine va_get (D := D) (ci := 0) (v := .ref a3) (C := RX0) (T := TX0) (N := 11) hx hb hts in_c_fillSlices hown hK hP 0 rfl rfl 2 (by decide) (hts (.fieldLink RX0 16 "SliceChecks" "slices" "[J") (by decide +kernel)) (fun _ h9 => h9) rfl dX0_fillSlices_47 ?_
              refine lv_iload_n hx hb dX0_fillSlices_50 rfl (lv_at hl 0 rfl) ?_
              refine lv_sipush (v := 256) hx hb dX0_fillSlices_51 (by decide) ?_
              refine lv_isub hx hb dX0_fillSlices_54 ?_
              refine va_lald hx hb hK hP 3 2 rfl rfl (i := (nI (256 + i)) - 256) (by rw [du_fs3]; exact vp_in_nI (by omega) (by omega)) dX0_fillSlices_55 ?_
              refine lv_iconst (v := 0) hx hb dX0_fillSlices_56 (by decide) ?_
              refine ro_l (va_runV (As := [.long ((mFl2 tp sl i) ((nI (256 + i)) - 256).toNatClampNeg), .int 0]) (rest := [.int (nI (256 + i)), .ref a3]) ⟨hx, hb, hml, hown, hts⟩ (c_behindByteByTable (sz := H.size) ((mFl2 tp sl i) ((nI (256 + i)) - 256).toNatClampNeg) 0 (du_tix0 _)) (cwV 2 hts gX0_fillSlices_X0_behindByteByTable rfl rfl rfl (by decide +kernel) ⟨Nat.le_of_ble_eq_true rfl, Nat.le_of_ble_eq_true rfl⟩) (preV_RO hP hK 0 (ci := 0) rfl rfl) rfl rfl hl.1 rfl (lv_room (Nat.le_of_ble_eq_true rfl)) dX0_fillSlices_57 ⟨Nat.le_of_ble_eq_true rfl, Nat.le_of_ble_eq_true rfl⟩) hS hA hP (fun H locs hP hS => ?_)
              refine va_last hx hb hK hP hD hS 3 2 rfl rfl (i := nI (256 + i)) (x := mTab (mFl2 tp sl i) ((mFl2 tp sl i) ((nI (256 + i)) - 256).toNatClampNeg) 0) (vp_in_nI (by omega) (by omega)) dX0_fillSlices_60 (fun H locs hP hD hS => ?_)
              have hP : va_P D vwCl (xw o a1 a2 a3 k1 k2 k3 row dv (mFl2 tp sl (i + 1)) nb wd po tp fi la bi bo) H := hP
              have hD : va_D A (xw o a1 a2 a3 k1 k2 k3 row dv (mFl2 tp sl (i + 1)) nb wd po tp fi la bi bo) := hD
              refine lv_iinc (v := nI (256 + (i + 1))) (lv' := [(1, .int (nI (256 + (i + 1)))), (0, .ref o)]) hx hb dX0_fillSlices_61 hl (k := 0) rfl (nI_1 _) (by decide) rfl (fun ls hl => ?_)
              refine lv_goto (tgt := 31) hx hb dX0_fillSlices_64 (by decide) ?_
              exact ih (i + 1) (by omega) (by omega) H locs (hP) hS ls (lv_sub hl [0, 1] rfl)
        exact lp_31 (1792 + 1 - 0) 0 (by omega) (by omega) H locs (by subst hiN; exact hP) hS ls (lv_sub hl [0, 1] rfl)
      ·
        have hlt := du_lt (N := 256) (by omega) hi c_6
        refine lv_aload_n hx hb dX0_fillSlices_9 rfl (lv_at hl 1 rfl) ?_
        refine va_get (D := D) (ci := 0) (v := .ref a3) (C := RX0) (T := TX0) (N := 11) hx hb hts in_c_fillSlices hown hK hP 0 rfl rfl 2 (by decide) (hts (.fieldLink RX0 16 "SliceChecks" "slices" "[J") (by decide +kernel)) (fun _ h9 => h9) rfl dX0_fillSlices_10 ?_
        refine lv_iload_n hx hb dX0_fillSlices_13 rfl (lv_at hl 0 rfl) ?_
        refine lv_aload_n hx hb dX0_fillSlices_14 rfl (lv_at hl 1 rfl) ?_
        refine lv_lconst (v := 0) hx hb dX0_fillSlices_15 (by decide) ?_
        refine lv_iload_n hx hb dX0_fillSlices_16 rfl (lv_at hl 0 rfl) ?_
        refine ro_l (va_runV (As := [.long 0, .int (nI i)]) (rest := [.int (nI i), .ref a3]) ⟨hx, hb, hml, hown, hts⟩ (c_behindByte (sz := H.size) 0 (nI i)) (cwV 2 hts gX0_fillSlices_X0_behindByte rfl rfl rfl (by decide +kernel) ⟨Nat.le_of_ble_eq_true rfl, Nat.le_of_ble_eq_true rfl⟩) (preV_RO hP hK 0 (ci := 0) rfl rfl) rfl rfl hl.1 rfl (lv_room (Nat.le_of_ble_eq_true rfl)) dX0_fillSlices_17 ⟨Nat.le_of_ble_eq_true rfl, Nat.le_of_ble_eq_true rfl⟩) hS hA hP (fun H locs hP hS => ?_)
        refine va_last hx hb hK hP hD hS 3 2 rfl rfl (i := nI i) (x := mByte tp 0 (nI i)) (vp_in_nI (by omega) (by omega)) dX0_fillSlices_20 (fun H locs hP hD hS => ?_)
        have hP : va_P D vwCl (xw o a1 a2 a3 k1 k2 k3 row dv (mFl1 tp sl (i + 1)) nb wd po tp fi la bi bo) H := hP
        have hD : va_D A (xw o a1 a2 a3 k1 k2 k3 row dv (mFl1 tp sl (i + 1)) nb wd po tp fi la bi bo) := hD
        refine lv_iinc (v := nI (i + 1)) (lv' := [(1, .int (nI (i + 1))), (0, .ref o)]) hx hb dX0_fillSlices_21 hl (k := 0) rfl (nI_1 i) (by decide) rfl (fun ls hl => ?_)
        refine lv_goto (tgt := 2) hx hb dX0_fillSlices_24 (by decide) ?_
        exact ih (i + 1) (by omega) (by omega) H locs (hP) hS ls (lv_sub hl [0, 1] rfl)
  exact lp_2 (256 + 1 - 0) 0 (by omega) (by omega) H locs (hP) hS ls (lv_sub hl [0, 1] rfl)
theorem in_c_turnBytesOfRow : ∀ w ∈ wsX00, w ∈ wsX0_turnBytesOfRow := fun _ h => List.mem_cons_of_mem _ (List.mem_append_right _ h)
set_option maxHeartbeats 4000000 in
set_option maxRecDepth 100000 in
theorem c_turnBytesOfRow {l : Launch} {D : va_G} {o a1 a2 a3 : Nat} {k1 k2 k3 : ClassId} {row : Nat → Int64} {dv : Nat → Int64} {sl : Nat → Int64} {nb : Nat} {wd : Nat} {po : Int64} {tp : Int64} {fi : Int64} {la : Int64} {bi : Int32} {bo : Int32} {sz : Nat}  (hn : nb ≤ 5000) : Met l yX0_turnBytesOfRow wsX0_turnBytesOfRow ({ frames := 1, cells := 0, slots := 0, locals := 25 }) (va_Pc [.ref o] (pMU D vwCl (xt k1 k2 k3) (xw o a1 a2 a3 k1 k2 k3 row dv sl nb wd po tp fi la bi bo) sz)) (muV D vwCl (xw o a1 a2 a3 k1 k2 k3 row dv sl nb wd po tp fi la bi bo) (xw o a1 a2 a3 k1 k2 k3 (mTrN row ((nb + 7) / 8)) dv sl nb wd po tp fi la bi bo) sz) 0 0 (va_A (xw o a1 a2 a3 k1 k2 k3 row dv sl nb wd po tp fi la bi bo) sz) := by
  refine Met.ofW (cc := cX0_turnBytesOfRow) (maxL := 3) (ret := none) (by decide) rfl ?_
  intro p e s m args below meth c s₁ B hml hv
  obtain ⟨rfl, hsz, hP, hK, hD0⟩ := hv
  have hsz : s.heap.size = sz := hsz
  have hx := B.exec
  have hb := B.bytes
  have hr := B.returns
  have hts := atoms_spec (ws := wsX0_turnBytesOfRow) B.pre
  have hown : s.vm.findClass RX0 = some m.cls := findClass_of_methodNamed B.named
  have hlocks := B.notSynchronized
  subst hsz
  have hD0 := hD0.self (sz := s.heap.size)
  have hA : ∀ q : Nat, s.heap.size ≤ q → va_A (xw o a1 a2 a3 k1 k2 k3 row dv sl nb wd po tp fi la bi bo) s.heap.size q := fun q h => Or.inr h
  unfold muV
  generalize va_A (xw o a1 a2 a3 k1 k2 k3 row dv sl nb wd po tp fi la bi bo) s.heap.size = A at hD0 hA ⊢
  have hD := hD0
  have hS : va_S A s.heap s.heap [] := va_S.rf
  have hl := lv_entry ([.ref o]) (n := 3) (Nat.le_of_ble_eq_true rfl)
  rw [lg_entry_eq]
  generalize (lg_sl ([.ref o]) ++ List.replicate (3 - (lg_sl ([.ref o])).length) Slot.unset).toArray = ls at hl ⊢
  have hl : lv_has ls 3 [(0, .ref o)] := hl
  suffices key : ∀ (H : Heap) (locs : List Loc), va_P D vwCl (xw o a1 a2 a3 k1 k2 k3 row dv sl nb wd po tp fi la bi bo) H → va_S A s.heap H locs → W p l e (headSpec wsX0_turnBytesOfRow { frames := 1, cells := 0, slots := 0, locals := 25 }).room s m ([.ref o] : List Value).toArray below meth c H locs 0 0 (MQ below (va_Qv (fun (_ : Unit) => True) (fun _ t9 => va_P D vwCl (xw o a1 a2 a3 k1 k2 k3 (mTrN row ((nb + 7) / 8)) dv sl nb wd po tp fi la bi bo) t9.heap) A) ([.ref o] : List Value).toArray s 0 0 A) (F0 m 0 ls []) from key s.heap [] hP hS
  intro H locs hP hS
  refine lv_aload_n hx hb dX0_turnBytesOfRow_0 rfl (lv_at hl 0 rfl) ?_
  refine va_get (D := D) (ci := 0) (v := .int (nI nb)) (C := RX0) (T := TX0) (N := 11) hx hb hts in_c_turnBytesOfRow hown hK hP 0 rfl rfl 3 (by decide) (hts (.fieldLink RX0 68 "SliceChecks" "bytes" "I") (by decide +kernel)) (fun _ h9 => h9) rfl dX0_turnBytesOfRow_1 ?_
  refine lv_bipush (v := 8) hx hb dX0_turnBytesOfRow_4 (by decide) ?_
  refine lv_iadd hx hb dX0_turnBytesOfRow_6 ?_
  refine lv_iconst (v := 1) hx hb dX0_turnBytesOfRow_7 (by decide) ?_
  refine lv_isub hx hb dX0_turnBytesOfRow_8 ?_
  refine lv_bipush (v := 8) hx hb dX0_turnBytesOfRow_9 (by decide) ?_
  refine lv_idiv hx hb dX0_turnBytesOfRow_11 (by decide) ?_
  refine du_rwi (y := nI ((nb + 7) / 8)) (by rw [show nI nb + 8 - 1 = nI (nb + 7) from du_a7 nb]; exact du_div8 (by omega)) ?_
  refine lv_istore_n (lv' := [(1, .int (nI ((nb + 7) / 8))), (0, .ref o)]) hx hb dX0_turnBytesOfRow_12 rfl hl (by decide) rfl (fun ls hl => ?_)
  refine lv_iconst (v := 0) hx hb dX0_turnBytesOfRow_13 (by decide) ?_
  refine lv_istore_n (lv' := [(2, .int 0), (1, .int (nI ((nb + 7) / 8))), (0, .ref o)]) hx hb dX0_turnBytesOfRow_14 rfl hl (by decide) rfl (fun ls hl => ?_)
  have lp_15 : ∀ (k i : Nat), i ≤ (nb + 7) / 8 → (nb + 7) / 8 < i + k → ∀ (H : Heap) (locs : List Loc), va_P D vwCl (xw o a1 a2 a3 k1 k2 k3 (mTrN row i) dv sl nb wd po tp fi la bi bo) H → va_S A s.heap H locs → ∀ ls : Array Slot, lv_has ls 3 [(2, .int (nI i)), (1, .int (nI ((nb + 7) / 8))), (0, .ref o)] → W p l e (headSpec wsX0_turnBytesOfRow { frames := 1, cells := 0, slots := 0, locals := 25 }).room s m ([.ref o] : List Value).toArray below meth c H locs 0 0 (MQ below (va_Qv (fun (_ : Unit) => True) (fun _ t9 => va_P D vwCl (xw o a1 a2 a3 k1 k2 k3 (mTrN row ((nb + 7) / 8)) dv sl nb wd po tp fi la bi bo) t9.heap) A) ([.ref o] : List Value).toArray s 0 0 A) (F0 m 15 ls []) := by
    intro k
    induction k with
    | zero =>
      intro i h1 h2
      exact absurd h2 (by omega)
    | succ k ih =>
      intro i hi hk H locs hP hS ls hl
      have hD : va_D A (xw o a1 a2 a3 k1 k2 k3 (mTrN row i) dv sl nb wd po tp fi la bi bo) := du_same hD0 rfl
      refine lv_iload_n hx hb dX0_turnBytesOfRow_15 rfl (lv_at hl 0 rfl) ?_
      refine lv_iload_n hx hb dX0_turnBytesOfRow_16 rfl (lv_at hl 1 rfl) ?_
      refine lv_icmp_ge (tgt := 41) hx hb dX0_turnBytesOfRow_17 (by decide) (fun c_17 => ?_) (fun c_17 => ?_)
      ·
        have hiN := du_ge (by omega) hi c_17
        have hPf : va_P D vwCl (xw o a1 a2 a3 k1 k2 k3 (mTrN row ((nb + 7) / 8)) dv sl nb wd po tp fi la bi bo) H := by subst hiN; exact hP
        exact W.vret hx hb hr (fun t ht hW => ⟨⟨(), rfl, trivial, by show va_P _ _ _ t.heap; rw [ht]; exact hPf⟩, hS.F ht⟩) hS.2.2 dX0_turnBytesOfRow_41
      ·
        have hlt := du_lt (by omega) hi c_17
        refine lv_aload_n hx hb dX0_turnBytesOfRow_20 rfl (lv_at hl 2 rfl) ?_
        refine va_get (D := D) (ci := 0) (v := .ref a1) (C := RX0) (T := TX0) (N := 11) hx hb hts in_c_turnBytesOfRow hown hK hP 0 rfl rfl 0 (by decide) (hts (.fieldLink RX0 9 "SliceChecks" "row" "[J") (by decide +kernel)) (fun _ h9 => h9) rfl dX0_turnBytesOfRow_21 ?_
        refine lv_iload_n hx hb dX0_turnBytesOfRow_24 rfl (lv_at hl 0 rfl) ?_
        refine lv_aload_n hx hb dX0_turnBytesOfRow_25 rfl (lv_at hl 2 rfl) ?_
        refine va_get (D := D) (ci := 0) (v := .ref a1) (C := RX0) (T := TX0) (N := 11) hx hb hts in_c_turnBytesOfRow hown hK hP 0 rfl rfl 0 (by decide) (hts (.fieldLink RX0 9 "SliceChecks" "row" "[J") (by decide +kernel)) (fun _ h9 => h9) rfl dX0_turnBytesOfRow_26 ?_
        refine lv_iload_n hx hb dX0_turnBytesOfRow_29 rfl (lv_at hl 0 rfl) ?_
        refine va_lald hx hb hK hP 1 0 rfl rfl (i := nI i) (vp_in_nI (by omega) (by omega)) dX0_turnBytesOfRow_30 ?_
        refine ro_l (va_runS (As := [.long ((mTrN row i) (nI i).toNatClampNeg)]) (rest := [.int (nI i), .ref a1]) ⟨hx, hb, hml, hown, hts⟩ (c_bytesTurned (sz := H.size) ((mTrN row i) (nI i).toNatClampNeg)) (va_cwS 1 hts gX0_turnBytesOfRow_X0_bytesTurned rfl rfl rfl (by decide +kernel) ⟨Nat.le_of_ble_eq_true rfl, Nat.le_of_ble_eq_true rfl⟩) preS_ST rfl rfl hl.1 rfl (lv_room (Nat.le_of_ble_eq_true rfl)) dX0_turnBytesOfRow_31 ⟨Nat.le_of_ble_eq_true rfl, Nat.le_of_ble_eq_true rfl⟩) hS hA hP (fun H locs hP hS => ?_)
        refine va_last hx hb hK hP hD hS 1 0 rfl rfl (i := nI i) (x := mBT ((mTrN row i) (nI i).toNatClampNeg)) (vp_in_nI (by omega) (by omega)) dX0_turnBytesOfRow_34 (fun H locs hP hD hS => ?_)
        have hP : va_P D vwCl (xw o a1 a2 a3 k1 k2 k3 (mTrN row (i + 1)) dv sl nb wd po tp fi la bi bo) H := hP
        have hD : va_D A (xw o a1 a2 a3 k1 k2 k3 (mTrN row (i + 1)) dv sl nb wd po tp fi la bi bo) := hD
        refine lv_iinc (v := nI (i + 1)) (lv' := [(2, .int (nI (i + 1))), (1, .int (nI ((nb + 7) / 8))), (0, .ref o)]) hx hb dX0_turnBytesOfRow_35 hl (k := 0) rfl (nI_1 i) (by decide) rfl (fun ls hl => ?_)
        refine lv_goto (tgt := 15) hx hb dX0_turnBytesOfRow_38 (by decide) ?_
        exact ih (i + 1) (by omega) (by omega) H locs (hP) hS ls (lv_sub hl [0, 1, 2] rfl)
  exact lp_15 (((nb + 7) / 8) + 1 - 0) 0 (by omega) (by omega) H locs (hP) hS ls (lv_sub hl [0, 1, 2] rfl)
end
section
/-! Contracts, laid by wip/whole/gen.py. -/
theorem in_c_kind_no : ∀ w ∈ wsX00, w ∈ wsX0_kind := fun _ h => List.mem_cons_of_mem _ (List.mem_append_right _ h)
set_option maxHeartbeats 4000000 in
set_option maxRecDepth 100000 in
theorem c_kind_no {l : Launch} {D : va_G} {o a1 a2 a3 : Nat} {k1 k2 k3 : ClassId} {row : Nat → Int64} {dv : Nat → Int64} {sl : Nat → Int64} {nb : Nat} {wd : Nat} {po : Int64} {tp : Int64} {fi : Int64} {la : Int64} {bi : Int32} {bo : Int32} {sz : Nat} (y : Int32) (p0 : Int64) (f0 : Int64) (i0 : Int32) (o0 : Int32) (l0 : Int64) (hno : y < 1 ∨ 64 < y) : Met l yX0_kind wsX0_kind ({ frames := 0, cells := 0, slots := 0, locals := 0 }) (va_Pc [.ref o, .int y, .long p0, .long f0, .int i0, .int o0, .long l0] (pRO D vwCl (xt k1 k2 k3) (xw o a1 a2 a3 k1 k2 k3 row dv sl nb wd po tp fi la bi bo) sz)) (roI sz 0) 0 0 (fun q : Nat => sz ≤ q) := by
  refine Met.ofW (cc := cX0_kind) (maxL := 10) (ret := (some .boolean)) (by decide) rfl ?_
  intro p e s m args below meth c s₁ B hml hv
  obtain ⟨rfl, hsz, hP, hK⟩ := hv
  have hsz : s.heap.size = sz := hsz
  have hx := B.exec
  have hb := B.bytes
  have hr := B.returns
  have hts := atoms_spec (ws := wsX0_kind) B.pre
  have hown : s.vm.findClass RX0 = some m.cls := findClass_of_methodNamed B.named
  have hlocks := B.notSynchronized
  subst hsz
  have hA : ∀ q : Nat, s.heap.size ≤ q → (fun q : Nat => s.heap.size ≤ q) q := fun _ h => h
  have hS : va_S (fun q : Nat => s.heap.size ≤ q) s.heap s.heap [] := va_S.rf
  have hl := lv_entry ([.ref o, .int y, .long p0, .long f0, .int i0, .int o0, .long l0]) (n := 10) (Nat.le_of_ble_eq_true rfl)
  rw [lg_entry_eq]
  generalize (lg_sl ([.ref o, .int y, .long p0, .long f0, .int i0, .int o0, .long l0]) ++ List.replicate (10 - (lg_sl ([.ref o, .int y, .long p0, .long f0, .int i0, .int o0, .long l0])).length) Slot.unset).toArray = ls at hl ⊢
  have hl : lv_has ls 10 [(0, .ref o), (1, .int y), (2, .long p0), (4, .long f0), (6, .int i0), (7, .int o0), (8, .long l0)] := hl
  suffices key : ∀ (H : Heap) (locs : List Loc), va_P D vwCl (xw o a1 a2 a3 k1 k2 k3 row dv sl nb wd po tp fi la bi bo) H → va_S (fun q : Nat => s.heap.size ≤ q) s.heap H locs → W p l e (headSpec wsX0_kind { frames := 0, cells := 0, slots := 0, locals := 0 }).room s m ([.ref o, .int y, .long p0, .long f0, .int i0, .int o0, .long l0] : List Value).toArray below meth c H locs 0 0 (MQ below (roI s.heap.size 0) ([.ref o, .int y, .long p0, .long f0, .int i0, .int o0, .long l0] : List Value).toArray s 0 0 (fun q : Nat => s.heap.size ≤ q)) (F0 m 0 ls []) from key s.heap [] hP hS
  intro H locs hP hS
  refine lv_iload_n hx hb dX0_kind_0 rfl (lv_at hl 1 rfl) ?_
  refine lv_iconst (v := 1) hx hb dX0_kind_1 (by decide) ?_
  refine lv_icmp_lt (tgt := 11) hx hb dX0_kind_2 (by decide) (fun c_2 => ?_) (fun c_2 => ?_)
  ·
    refine lv_iconst (v := 0) hx hb dX0_kind_11 (by decide) ?_
    exact W.zret (v := 0) hx hb hr (by decide) (fun t ht hW => ⟨⟨0, (), rfl, rfl, trivial⟩, hS.F ht⟩) hS.2.2 dX0_kind_12
  ·
    refine lv_iload_n hx hb dX0_kind_5 rfl (lv_at hl 1 rfl) ?_
    refine lv_bipush (v := 64) hx hb dX0_kind_6 (by decide) ?_
    refine lv_icmp_le (tgt := 13) hx hb dX0_kind_8 (by decide) (fun c_8 => ?_) (fun c_8 => ?_)
    ·
      exact hno.elim (fun h => absurd h c_2) (fun h => absurd h (Int32.not_lt.mpr c_8))
    ·
      refine lv_iconst (v := 0) hx hb dX0_kind_11 (by decide) ?_
      exact W.zret (v := 0) hx hb hr (by decide) (fun t ht hW => ⟨⟨0, (), rfl, rfl, trivial⟩, hS.F ht⟩) hS.2.2 dX0_kind_12
theorem in_c_kind : ∀ w ∈ wsX00, w ∈ wsX0_kind := fun _ h => List.mem_cons_of_mem _ (List.mem_append_right _ h)
set_option maxHeartbeats 4000000 in
set_option maxRecDepth 100000 in
theorem c_kind {l : Launch} {D : va_G} {o a1 a2 a3 : Nat} {k1 k2 k3 : ClassId} {row : Nat → Int64} {dv : Nat → Int64} {sl : Nat → Int64} {nb : Nat} {wd : Nat} {po : Int64} {tp : Int64} {fi : Int64} {la : Int64} {bi : Int32} {bo : Int32} {sz : Nat} (v : Nat) (p0 : Int64) (f0 : Int64) (i0 : Int32) (o0 : Int32) (l0 : Int64) (hv1 : 1 ≤ v) (hv : v ≤ 64) (hn : nb ≤ 5000) (hi0 : i0 = 0 ∨ i0 = 1) (ho0 : o0 = 0 ∨ o0 = 1) : Met l yX0_kind wsX0_kind ({ frames := 3, cells := 0, slots := 0, locals := 72 }) (va_Pc [.ref o, .int (nI v), .long p0, .long f0, .int i0, .int o0, .long l0] (pMU D vwCl (xt k1 k2 k3) (xw o a1 a2 a3 k1 k2 k3 row dv sl nb wd po tp fi la bi bo) sz)) (muI D vwCl (xw o a1 a2 a3 k1 k2 k3 row dv sl nb wd po tp fi la bi bo) (xw o a1 a2 a3 k1 k2 k3 (if bi = i0 then row else mTrN row ((nb + 7) / 8)) dv (mFill (mTop (nI v) p0) sl) nb v (mLow (nI v) p0) (mTop (nI v) p0) (mLow (nI v) f0) (mLow (nI v) l0) i0 o0) sz 1) 0 0 (va_A (xw o a1 a2 a3 k1 k2 k3 row dv sl nb wd po tp fi la bi bo) sz) := by
  refine Met.ofW (cc := cX0_kind) (maxL := 10) (ret := (some .boolean)) (by decide) rfl ?_
  intro p e s m args below meth c s₁ B hml hv
  obtain ⟨rfl, hsz, hP, hK, hD0⟩ := hv
  have hsz : s.heap.size = sz := hsz
  have hx := B.exec
  have hb := B.bytes
  have hr := B.returns
  have hts := atoms_spec (ws := wsX0_kind) B.pre
  have hown : s.vm.findClass RX0 = some m.cls := findClass_of_methodNamed B.named
  have hlocks := B.notSynchronized
  subst hsz
  have hD0 := hD0.self (sz := s.heap.size)
  have hA : ∀ q : Nat, s.heap.size ≤ q → va_A (xw o a1 a2 a3 k1 k2 k3 row dv sl nb wd po tp fi la bi bo) s.heap.size q := fun q h => Or.inr h
  unfold muI
  generalize va_A (xw o a1 a2 a3 k1 k2 k3 row dv sl nb wd po tp fi la bi bo) s.heap.size = A at hD0 hA ⊢
  have hD := hD0
  have hS : va_S A s.heap s.heap [] := va_S.rf
  have hl := lv_entry ([.ref o, .int (nI v), .long p0, .long f0, .int i0, .int o0, .long l0]) (n := 10) (Nat.le_of_ble_eq_true rfl)
  rw [lg_entry_eq]
  generalize (lg_sl ([.ref o, .int (nI v), .long p0, .long f0, .int i0, .int o0, .long l0]) ++ List.replicate (10 - (lg_sl ([.ref o, .int (nI v), .long p0, .long f0, .int i0, .int o0, .long l0])).length) Slot.unset).toArray = ls at hl ⊢
  have hl : lv_has ls 10 [(0, .ref o), (1, .int (nI v)), (2, .long p0), (4, .long f0), (6, .int i0), (7, .int o0), (8, .long l0)] := hl
  suffices key : ∀ (H : Heap) (locs : List Loc), va_P D vwCl (xw o a1 a2 a3 k1 k2 k3 row dv sl nb wd po tp fi la bi bo) H → va_S A s.heap H locs → W p l e (headSpec wsX0_kind { frames := 3, cells := 0, slots := 0, locals := 72 }).room s m ([.ref o, .int (nI v), .long p0, .long f0, .int i0, .int o0, .long l0] : List Value).toArray below meth c H locs 0 0 (MQ below (va_Qi (fun r (_ : Unit) => r = 1) (fun _ t9 => va_P D vwCl (xw o a1 a2 a3 k1 k2 k3 (if bi = i0 then row else mTrN row ((nb + 7) / 8)) dv (mFill (mTop (nI v) p0) sl) nb v (mLow (nI v) p0) (mTop (nI v) p0) (mLow (nI v) f0) (mLow (nI v) l0) i0 o0) t9.heap) A) ([.ref o, .int (nI v), .long p0, .long f0, .int i0, .int o0, .long l0] : List Value).toArray s 0 0 A) (F0 m 0 ls []) from key s.heap [] hP hS
  intro H locs hP hS
  refine lv_iload_n hx hb dX0_kind_0 rfl (lv_at hl 1 rfl) ?_
  refine lv_iconst (v := 1) hx hb dX0_kind_1 (by decide) ?_
  refine lv_icmp_lt (tgt := 11) hx hb dX0_kind_2 (by decide) (fun c_2 => ?_) (fun c_2 => ?_)
  ·
    exact absurd c_2 (du_n1 hv1 (by omega))
  ·
    refine lv_iload_n hx hb dX0_kind_5 rfl (lv_at hl 1 rfl) ?_
    refine lv_bipush (v := 64) hx hb dX0_kind_6 (by decide) ?_
    refine lv_icmp_le (tgt := 13) hx hb dX0_kind_8 (by decide) (fun c_8 => ?_) (fun c_8 => ?_)
    ·
      refine lv_aload_n hx hb dX0_kind_13 rfl (lv_at hl 0 rfl) ?_
      refine va_get (D := D) (ci := 0) (v := .int bi) (C := RX0) (T := TX0) (N := 11) hx hb hts in_c_kind hown hK hP 0 rfl rfl 9 (by decide) (hts (.fieldLink RX0 27 "SliceChecks" "in" "Z") (by decide +kernel)) (fun _ h9 => h9) rfl dX0_kind_14 ?_
      refine lv_iload hx hb dX0_kind_17 (lv_at hl 4 rfl) ?_
      refine lv_icmp_eq (tgt := 26) hx hb dX0_kind_19 (by decide) (fun c_19 => ?_) (fun c_19 => ?_)
      ·
        refine lv_aload_n hx hb dX0_kind_26 rfl (lv_at hl 0 rfl) ?_
        refine lv_iload_n hx hb dX0_kind_27 rfl (lv_at hl 1 rfl) ?_
        refine va_put (D := D) (ci := 0) (v := .int (nI v)) (ty := .int) (C := RX0) (T := TX0) (N := 11) hx hb hts in_c_kind tyX0 tyX0_ok nmX0 hown hK hP hD hS 0 rfl rfl 4 (by decide) (hts (.fieldLink RX0 34 "SliceChecks" "width" "I") (by decide +kernel)) (fun _ h9 => h9) rfl (by decide +kernel) rfl rfl (Nat.le_of_ble_eq_true rfl) dX0_kind_28 (fun H locs hP hD hS => ?_)
        have hP : va_P D vwCl (xw o a1 a2 a3 k1 k2 k3 row dv sl nb v po tp fi la bi bo) H := hP
        have hD : va_D A (xw o a1 a2 a3 k1 k2 k3 row dv sl nb v po tp fi la bi bo) := hD
        refine lv_aload_n hx hb dX0_kind_31 rfl (lv_at hl 0 rfl) ?_
        refine lv_aload_n hx hb dX0_kind_32 rfl (lv_at hl 0 rfl) ?_
        refine lv_lload_n hx hb dX0_kind_33 rfl (lv_at hl 2 rfl) ?_
        refine ro_l (va_runV (As := [.long p0]) (rest := [.ref o]) ⟨hx, hb, hml, hown, hts⟩ (c_lowerBits (sz := H.size) p0) (cwV 1 hts gX0_kind_X0_lowerBits rfl rfl rfl (by decide +kernel) ⟨Nat.le_of_ble_eq_true rfl, Nat.le_of_ble_eq_true rfl⟩) (preV_RO hP hK 0 (ci := 0) rfl rfl) rfl rfl hl.1 rfl (lv_room (Nat.le_of_ble_eq_true rfl)) dX0_kind_34 ⟨Nat.le_of_ble_eq_true rfl, Nat.le_of_ble_eq_true rfl⟩) hS hA hP (fun H locs hP hS => ?_)
        refine va_put (D := D) (ci := 0) (v := .long (mLow (nI v) p0)) (ty := .long) (C := RX0) (T := TX0) (N := 11) hx hb hts in_c_kind tyX0 tyX0_ok nmX0 hown hK hP hD hS 0 rfl rfl 5 (by decide) (hts (.fieldLink RX0 42 "SliceChecks" "polynomial" "J") (by decide +kernel)) (fun _ h9 => h9) rfl (by decide +kernel) rfl rfl (Nat.le_of_ble_eq_true rfl) dX0_kind_37 (fun H locs hP hD hS => ?_)
        have hP : va_P D vwCl (xw o a1 a2 a3 k1 k2 k3 row dv sl nb v (mLow (nI v) p0) tp fi la bi bo) H := hP
        have hD : va_D A (xw o a1 a2 a3 k1 k2 k3 row dv sl nb v (mLow (nI v) p0) tp fi la bi bo) := hD
        refine lv_aload_n hx hb dX0_kind_40 rfl (lv_at hl 0 rfl) ?_
        refine lv_aload_n hx hb dX0_kind_41 rfl (lv_at hl 0 rfl) ?_
        refine lv_lload_n hx hb dX0_kind_42 rfl (lv_at hl 2 rfl) ?_
        refine ro_l (va_runV (As := [.long p0]) (rest := [.ref o]) ⟨hx, hb, hml, hown, hts⟩ (c_atTop (sz := H.size) p0) (cwV 1 hts gX0_kind_X0_atTop rfl rfl rfl (by decide +kernel) ⟨Nat.le_of_ble_eq_true rfl, Nat.le_of_ble_eq_true rfl⟩) (preV_RO hP hK 0 (ci := 0) rfl rfl) rfl rfl hl.1 rfl (lv_room (Nat.le_of_ble_eq_true rfl)) dX0_kind_43 ⟨Nat.le_of_ble_eq_true rfl, Nat.le_of_ble_eq_true rfl⟩) hS hA hP (fun H locs hP hS => ?_)
        refine va_put (D := D) (ci := 0) (v := .long (mTop (nI v) p0)) (ty := .long) (C := RX0) (T := TX0) (N := 11) hx hb hts in_c_kind tyX0 tyX0_ok nmX0 hown hK hP hD hS 0 rfl rfl 6 (by decide) (hts (.fieldLink RX0 49 "SliceChecks" "topPolynomial" "J") (by decide +kernel)) (fun _ h9 => h9) rfl (by decide +kernel) rfl rfl (Nat.le_of_ble_eq_true rfl) dX0_kind_46 (fun H locs hP hD hS => ?_)
        have hP : va_P D vwCl (xw o a1 a2 a3 k1 k2 k3 row dv sl nb v (mLow (nI v) p0) (mTop (nI v) p0) fi la bi bo) H := hP
        have hD : va_D A (xw o a1 a2 a3 k1 k2 k3 row dv sl nb v (mLow (nI v) p0) (mTop (nI v) p0) fi la bi bo) := hD
        refine lv_aload_n hx hb dX0_kind_49 rfl (lv_at hl 0 rfl) ?_
        refine lv_aload_n hx hb dX0_kind_50 rfl (lv_at hl 0 rfl) ?_
        refine lv_lload hx hb dX0_kind_51 (lv_at hl 3 rfl) ?_
        refine ro_l (va_runV (As := [.long f0]) (rest := [.ref o]) ⟨hx, hb, hml, hown, hts⟩ (c_lowerBits (sz := H.size) f0) (cwV 1 hts gX0_kind_X0_lowerBits rfl rfl rfl (by decide +kernel) ⟨Nat.le_of_ble_eq_true rfl, Nat.le_of_ble_eq_true rfl⟩) (preV_RO hP hK 0 (ci := 0) rfl rfl) rfl rfl hl.1 rfl (lv_room (Nat.le_of_ble_eq_true rfl)) dX0_kind_53 ⟨Nat.le_of_ble_eq_true rfl, Nat.le_of_ble_eq_true rfl⟩) hS hA hP (fun H locs hP hS => ?_)
        refine va_put (D := D) (ci := 0) (v := .long (mLow (nI v) f0)) (ty := .long) (C := RX0) (T := TX0) (N := 11) hx hb hts in_c_kind tyX0 tyX0_ok nmX0 hown hK hP hD hS 0 rfl rfl 7 (by decide) (hts (.fieldLink RX0 52 "SliceChecks" "first" "J") (by decide +kernel)) (fun _ h9 => h9) rfl (by decide +kernel) rfl rfl (Nat.le_of_ble_eq_true rfl) dX0_kind_56 (fun H locs hP hD hS => ?_)
        have hP : va_P D vwCl (xw o a1 a2 a3 k1 k2 k3 row dv sl nb v (mLow (nI v) p0) (mTop (nI v) p0) (mLow (nI v) f0) la bi bo) H := hP
        have hD : va_D A (xw o a1 a2 a3 k1 k2 k3 row dv sl nb v (mLow (nI v) p0) (mTop (nI v) p0) (mLow (nI v) f0) la bi bo) := hD
        refine lv_aload_n hx hb dX0_kind_59 rfl (lv_at hl 0 rfl) ?_
        refine lv_iload hx hb dX0_kind_60 (lv_at hl 4 rfl) ?_
        refine va_put (D := D) (ci := 0) (v := .int i0) (ty := .boolean) (C := RX0) (T := TX0) (N := 11) hx hb hts in_c_kind tyX0 tyX0_ok nmX0 hown hK hP hD hS 0 rfl rfl 9 (by decide) (hts (.fieldLink RX0 27 "SliceChecks" "in" "Z") (by decide +kernel)) (fun _ h9 => h9) rfl (by decide +kernel) (du_nz hi0) (du_fz hi0) (Nat.le_of_ble_eq_true rfl) dX0_kind_62 (fun H locs hP hD hS => ?_)
        have hP : va_P D vwCl (xw o a1 a2 a3 k1 k2 k3 row dv sl nb v (mLow (nI v) p0) (mTop (nI v) p0) (mLow (nI v) f0) la i0 bo) H := hP
        have hD : va_D A (xw o a1 a2 a3 k1 k2 k3 row dv sl nb v (mLow (nI v) p0) (mTop (nI v) p0) (mLow (nI v) f0) la i0 bo) := hD
        refine lv_aload_n hx hb dX0_kind_65 rfl (lv_at hl 0 rfl) ?_
        refine lv_iload hx hb dX0_kind_66 (lv_at hl 5 rfl) ?_
        refine va_put (D := D) (ci := 0) (v := .int o0) (ty := .boolean) (C := RX0) (T := TX0) (N := 11) hx hb hts in_c_kind tyX0 tyX0_ok nmX0 hown hK hP hD hS 0 rfl rfl 10 (by decide) (hts (.fieldLink RX0 55 "SliceChecks" "out" "Z") (by decide +kernel)) (fun _ h9 => h9) rfl (by decide +kernel) (du_nz ho0) (du_fz ho0) (Nat.le_of_ble_eq_true rfl) dX0_kind_68 (fun H locs hP hD hS => ?_)
        have hP : va_P D vwCl (xw o a1 a2 a3 k1 k2 k3 row dv sl nb v (mLow (nI v) p0) (mTop (nI v) p0) (mLow (nI v) f0) la i0 o0) H := hP
        have hD : va_D A (xw o a1 a2 a3 k1 k2 k3 row dv sl nb v (mLow (nI v) p0) (mTop (nI v) p0) (mLow (nI v) f0) la i0 o0) := hD
        refine lv_aload_n hx hb dX0_kind_71 rfl (lv_at hl 0 rfl) ?_
        refine lv_aload_n hx hb dX0_kind_72 rfl (lv_at hl 0 rfl) ?_
        refine lv_lload hx hb dX0_kind_73 (lv_at hl 6 rfl) ?_
        refine ro_l (va_runV (As := [.long l0]) (rest := [.ref o]) ⟨hx, hb, hml, hown, hts⟩ (c_lowerBits (sz := H.size) l0) (cwV 1 hts gX0_kind_X0_lowerBits rfl rfl rfl (by decide +kernel) ⟨Nat.le_of_ble_eq_true rfl, Nat.le_of_ble_eq_true rfl⟩) (preV_RO hP hK 0 (ci := 0) rfl rfl) rfl rfl hl.1 rfl (lv_room (Nat.le_of_ble_eq_true rfl)) dX0_kind_75 ⟨Nat.le_of_ble_eq_true rfl, Nat.le_of_ble_eq_true rfl⟩) hS hA hP (fun H locs hP hS => ?_)
        refine va_put (D := D) (ci := 0) (v := .long (mLow (nI v) l0)) (ty := .long) (C := RX0) (T := TX0) (N := 11) hx hb hts in_c_kind tyX0 tyX0_ok nmX0 hown hK hP hD hS 0 rfl rfl 8 (by decide) (hts (.fieldLink RX0 58 "SliceChecks" "last" "J") (by decide +kernel)) (fun _ h9 => h9) rfl (by decide +kernel) rfl rfl (Nat.le_of_ble_eq_true rfl) dX0_kind_78 (fun H locs hP hD hS => ?_)
        have hP : va_P D vwCl (xw o a1 a2 a3 k1 k2 k3 row dv sl nb v (mLow (nI v) p0) (mTop (nI v) p0) (mLow (nI v) f0) (mLow (nI v) l0) i0 o0) H := hP
        have hD : va_D A (xw o a1 a2 a3 k1 k2 k3 row dv sl nb v (mLow (nI v) p0) (mTop (nI v) p0) (mLow (nI v) f0) (mLow (nI v) l0) i0 o0) := hD
        refine lv_aload_n hx hb dX0_kind_81 rfl (lv_at hl 0 rfl) ?_
        refine mu_v (wr := []) (ws := (xw o a1 a2 a3 k1 k2 k3 row dv sl nb v (mLow (nI v) p0) (mTop (nI v) p0) (mLow (nI v) f0) (mLow (nI v) l0) i0 o0)) (ws' := (xw o a1 a2 a3 k1 k2 k3 row dv (mFill (mTop (nI v) p0) sl) nb v (mLow (nI v) p0) (mTop (nI v) p0) (mLow (nI v) f0) (mLow (nI v) l0) i0 o0)) (va_runV (As := []) (rest := []) ⟨hx, hb, hml, hown, hts⟩ (c_fillSlices (sz := H.size) ) (cwV 0 hts gX0_kind_X0_fillSlices rfl rfl rfl (by decide +kernel) ⟨Nat.le_of_ble_eq_true rfl, Nat.le_of_ble_eq_true rfl⟩) (preV_MU hP hK hD 0 (ci := 0) rfl rfl) rfl rfl hl.1 rfl (lv_room (Nat.le_of_ble_eq_true rfl)) dX0_kind_82 ⟨Nat.le_of_ble_eq_true rfl, Nat.le_of_ble_eq_true rfl⟩) hS hA (by rw [List.append_nil]; exact hP) (by rw [List.append_nil]; exact hD) rfl (fun H locs hP hD hS => ?_)
        rw [List.append_nil] at hP hD
        refine lv_iconst (v := 1) hx hb dX0_kind_85 (by decide) ?_
        have hPf : va_P D vwCl (xw o a1 a2 a3 k1 k2 k3 (if bi = i0 then row else mTrN row ((nb + 7) / 8)) dv (mFill (mTop (nI v) p0) sl) nb v (mLow (nI v) p0) (mTop (nI v) p0) (mLow (nI v) f0) (mLow (nI v) l0) i0 o0) H := by first | (rw [if_pos c_19]; exact hP) | (rw [if_neg c_19]; exact hP)
        exact W.zret (v := 1) hx hb hr (by decide) (fun t ht hW => ⟨⟨1, (), rfl, rfl, by show va_P _ _ _ t.heap; rw [ht]; exact hPf⟩, hS.F ht⟩) hS.2.2 dX0_kind_86
      ·
        refine lv_aload_n hx hb dX0_kind_22 rfl (lv_at hl 0 rfl) ?_
        refine mu_v (wr := []) (ws := (xw o a1 a2 a3 k1 k2 k3 row dv sl nb wd po tp fi la bi bo)) (ws' := (xw o a1 a2 a3 k1 k2 k3 (mTrN row ((nb + 7) / 8)) dv sl nb wd po tp fi la bi bo)) (va_runV (As := []) (rest := []) ⟨hx, hb, hml, hown, hts⟩ (c_turnBytesOfRow (sz := H.size) (hn)) (cwV 0 hts gX0_kind_X0_turnBytesOfRow rfl rfl rfl (by decide +kernel) ⟨Nat.le_of_ble_eq_true rfl, Nat.le_of_ble_eq_true rfl⟩) (preV_MU hP hK hD 0 (ci := 0) rfl rfl) rfl rfl hl.1 rfl (lv_room (Nat.le_of_ble_eq_true rfl)) dX0_kind_23 ⟨Nat.le_of_ble_eq_true rfl, Nat.le_of_ble_eq_true rfl⟩) hS hA (by rw [List.append_nil]; exact hP) (by rw [List.append_nil]; exact hD) rfl (fun H locs hP hD hS => ?_)
        rw [List.append_nil] at hP hD
        refine lv_aload_n hx hb dX0_kind_26 rfl (lv_at hl 0 rfl) ?_
        refine lv_iload_n hx hb dX0_kind_27 rfl (lv_at hl 1 rfl) ?_
        refine va_put (D := D) (ci := 0) (v := .int (nI v)) (ty := .int) (C := RX0) (T := TX0) (N := 11) hx hb hts in_c_kind tyX0 tyX0_ok nmX0 hown hK hP hD hS 0 rfl rfl 4 (by decide) (hts (.fieldLink RX0 34 "SliceChecks" "width" "I") (by decide +kernel)) (fun _ h9 => h9) rfl (by decide +kernel) rfl rfl (Nat.le_of_ble_eq_true rfl) dX0_kind_28 (fun H locs hP hD hS => ?_)
        have hP : va_P D vwCl (xw o a1 a2 a3 k1 k2 k3 (mTrN row ((nb + 7) / 8)) dv sl nb v po tp fi la bi bo) H := hP
        have hD : va_D A (xw o a1 a2 a3 k1 k2 k3 (mTrN row ((nb + 7) / 8)) dv sl nb v po tp fi la bi bo) := hD
        refine lv_aload_n hx hb dX0_kind_31 rfl (lv_at hl 0 rfl) ?_
        refine lv_aload_n hx hb dX0_kind_32 rfl (lv_at hl 0 rfl) ?_
        refine lv_lload_n hx hb dX0_kind_33 rfl (lv_at hl 2 rfl) ?_
        refine ro_l (va_runV (As := [.long p0]) (rest := [.ref o]) ⟨hx, hb, hml, hown, hts⟩ (c_lowerBits (sz := H.size) p0) (cwV 1 hts gX0_kind_X0_lowerBits rfl rfl rfl (by decide +kernel) ⟨Nat.le_of_ble_eq_true rfl, Nat.le_of_ble_eq_true rfl⟩) (preV_RO hP hK 0 (ci := 0) rfl rfl) rfl rfl hl.1 rfl (lv_room (Nat.le_of_ble_eq_true rfl)) dX0_kind_34 ⟨Nat.le_of_ble_eq_true rfl, Nat.le_of_ble_eq_true rfl⟩) hS hA hP (fun H locs hP hS => ?_)
        refine va_put (D := D) (ci := 0) (v := .long (mLow (nI v) p0)) (ty := .long) (C := RX0) (T := TX0) (N := 11) hx hb hts in_c_kind tyX0 tyX0_ok nmX0 hown hK hP hD hS 0 rfl rfl 5 (by decide) (hts (.fieldLink RX0 42 "SliceChecks" "polynomial" "J") (by decide +kernel)) (fun _ h9 => h9) rfl (by decide +kernel) rfl rfl (Nat.le_of_ble_eq_true rfl) dX0_kind_37 (fun H locs hP hD hS => ?_)
        have hP : va_P D vwCl (xw o a1 a2 a3 k1 k2 k3 (mTrN row ((nb + 7) / 8)) dv sl nb v (mLow (nI v) p0) tp fi la bi bo) H := hP
        have hD : va_D A (xw o a1 a2 a3 k1 k2 k3 (mTrN row ((nb + 7) / 8)) dv sl nb v (mLow (nI v) p0) tp fi la bi bo) := hD
        refine lv_aload_n hx hb dX0_kind_40 rfl (lv_at hl 0 rfl) ?_
        refine lv_aload_n hx hb dX0_kind_41 rfl (lv_at hl 0 rfl) ?_
        refine lv_lload_n hx hb dX0_kind_42 rfl (lv_at hl 2 rfl) ?_
        refine ro_l (va_runV (As := [.long p0]) (rest := [.ref o]) ⟨hx, hb, hml, hown, hts⟩ (c_atTop (sz := H.size) p0) (cwV 1 hts gX0_kind_X0_atTop rfl rfl rfl (by decide +kernel) ⟨Nat.le_of_ble_eq_true rfl, Nat.le_of_ble_eq_true rfl⟩) (preV_RO hP hK 0 (ci := 0) rfl rfl) rfl rfl hl.1 rfl (lv_room (Nat.le_of_ble_eq_true rfl)) dX0_kind_43 ⟨Nat.le_of_ble_eq_true rfl, Nat.le_of_ble_eq_true rfl⟩) hS hA hP (fun H locs hP hS => ?_)
        refine va_put (D := D) (ci := 0) (v := .long (mTop (nI v) p0)) (ty := .long) (C := RX0) (T := TX0) (N := 11) hx hb hts in_c_kind tyX0 tyX0_ok nmX0 hown hK hP hD hS 0 rfl rfl 6 (by decide) (hts (.fieldLink RX0 49 "SliceChecks" "topPolynomial" "J") (by decide +kernel)) (fun _ h9 => h9) rfl (by decide +kernel) rfl rfl (Nat.le_of_ble_eq_true rfl) dX0_kind_46 (fun H locs hP hD hS => ?_)
        have hP : va_P D vwCl (xw o a1 a2 a3 k1 k2 k3 (mTrN row ((nb + 7) / 8)) dv sl nb v (mLow (nI v) p0) (mTop (nI v) p0) fi la bi bo) H := hP
        have hD : va_D A (xw o a1 a2 a3 k1 k2 k3 (mTrN row ((nb + 7) / 8)) dv sl nb v (mLow (nI v) p0) (mTop (nI v) p0) fi la bi bo) := hD
        refine lv_aload_n hx hb dX0_kind_49 rfl (lv_at hl 0 rfl) ?_
        refine lv_aload_n hx hb dX0_kind_50 rfl (lv_at hl 0 rfl) ?_
        refine lv_lload hx hb dX0_kind_51 (lv_at hl 3 rfl) ?_
        refine ro_l (va_runV (As := [.long f0]) (rest := [.ref o]) ⟨hx, hb, hml, hown, hts⟩ (c_lowerBits (sz := H.size) f0) (cwV 1 hts gX0_kind_X0_lowerBits rfl rfl rfl (by decide +kernel) ⟨Nat.le_of_ble_eq_true rfl, Nat.le_of_ble_eq_true rfl⟩) (preV_RO hP hK 0 (ci := 0) rfl rfl) rfl rfl hl.1 rfl (lv_room (Nat.le_of_ble_eq_true rfl)) dX0_kind_53 ⟨Nat.le_of_ble_eq_true rfl, Nat.le_of_ble_eq_true rfl⟩) hS hA hP (fun H locs hP hS => ?_)
        refine va_put (D := D) (ci := 0) (v := .long (mLow (nI v) f0)) (ty := .long) (C := RX0) (T := TX0) (N := 11) hx hb hts in_c_kind tyX0 tyX0_ok nmX0 hown hK hP hD hS 0 rfl rfl 7 (by decide) (hts (.fieldLink RX0 52 "SliceChecks" "first" "J") (by decide +kernel)) (fun _ h9 => h9) rfl (by decide +kernel) rfl rfl (Nat.le_of_ble_eq_true rfl) dX0_kind_56 (fun H locs hP hD hS => ?_)
        have hP : va_P D vwCl (xw o a1 a2 a3 k1 k2 k3 (mTrN row ((nb + 7) / 8)) dv sl nb v (mLow (nI v) p0) (mTop (nI v) p0) (mLow (nI v) f0) la bi bo) H := hP
        have hD : va_D A (xw o a1 a2 a3 k1 k2 k3 (mTrN row ((nb + 7) / 8)) dv sl nb v (mLow (nI v) p0) (mTop (nI v) p0) (mLow (nI v) f0) la bi bo) := hD
        refine lv_aload_n hx hb dX0_kind_59 rfl (lv_at hl 0 rfl) ?_
        refine lv_iload hx hb dX0_kind_60 (lv_at hl 4 rfl) ?_
        refine va_put (D := D) (ci := 0) (v := .int i0) (ty := .boolean) (C := RX0) (T := TX0) (N := 11) hx hb hts in_c_kind tyX0 tyX0_ok nmX0 hown hK hP hD hS 0 rfl rfl 9 (by decide) (hts (.fieldLink RX0 27 "SliceChecks" "in" "Z") (by decide +kernel)) (fun _ h9 => h9) rfl (by decide +kernel) (du_nz hi0) (du_fz hi0) (Nat.le_of_ble_eq_true rfl) dX0_kind_62 (fun H locs hP hD hS => ?_)
        have hP : va_P D vwCl (xw o a1 a2 a3 k1 k2 k3 (mTrN row ((nb + 7) / 8)) dv sl nb v (mLow (nI v) p0) (mTop (nI v) p0) (mLow (nI v) f0) la i0 bo) H := hP
        have hD : va_D A (xw o a1 a2 a3 k1 k2 k3 (mTrN row ((nb + 7) / 8)) dv sl nb v (mLow (nI v) p0) (mTop (nI v) p0) (mLow (nI v) f0) la i0 bo) := hD
        refine lv_aload_n hx hb dX0_kind_65 rfl (lv_at hl 0 rfl) ?_
        refine lv_iload hx hb dX0_kind_66 (lv_at hl 5 rfl) ?_
        refine va_put (D := D) (ci := 0) (v := .int o0) (ty := .boolean) (C := RX0) (T := TX0) (N := 11) hx hb hts in_c_kind tyX0 tyX0_ok nmX0 hown hK hP hD hS 0 rfl rfl 10 (by decide) (hts (.fieldLink RX0 55 "SliceChecks" "out" "Z") (by decide +kernel)) (fun _ h9 => h9) rfl (by decide +kernel) (du_nz ho0) (du_fz ho0) (Nat.le_of_ble_eq_true rfl) dX0_kind_68 (fun H locs hP hD hS => ?_)
        have hP : va_P D vwCl (xw o a1 a2 a3 k1 k2 k3 (mTrN row ((nb + 7) / 8)) dv sl nb v (mLow (nI v) p0) (mTop (nI v) p0) (mLow (nI v) f0) la i0 o0) H := hP
        have hD : va_D A (xw o a1 a2 a3 k1 k2 k3 (mTrN row ((nb + 7) / 8)) dv sl nb v (mLow (nI v) p0) (mTop (nI v) p0) (mLow (nI v) f0) la i0 o0) := hD
        refine lv_aload_n hx hb dX0_kind_71 rfl (lv_at hl 0 rfl) ?_
        refine lv_aload_n hx hb dX0_kind_72 rfl (lv_at hl 0 rfl) ?_
        refine lv_lload hx hb dX0_kind_73 (lv_at hl 6 rfl) ?_
        refine ro_l (va_runV (As := [.long l0]) (rest := [.ref o]) ⟨hx, hb, hml, hown, hts⟩ (c_lowerBits (sz := H.size) l0) (cwV 1 hts gX0_kind_X0_lowerBits rfl rfl rfl (by decide +kernel) ⟨Nat.le_of_ble_eq_true rfl, Nat.le_of_ble_eq_true rfl⟩) (preV_RO hP hK 0 (ci := 0) rfl rfl) rfl rfl hl.1 rfl (lv_room (Nat.le_of_ble_eq_true rfl)) dX0_kind_75 ⟨Nat.le_of_ble_eq_true rfl, Nat.le_of_ble_eq_true rfl⟩) hS hA hP (fun H locs hP hS => ?_)
        refine va_put (D := D) (ci := 0) (v := .long (mLow (nI v) l0)) (ty := .long) (C := RX0) (T := TX0) (N := 11) hx hb hts in_c_kind tyX0 tyX0_ok nmX0 hown hK hP hD hS 0 rfl rfl 8 (by decide) (hts (.fieldLink RX0 58 "SliceChecks" "last" "J") (by decide +kernel)) (fun _ h9 => h9) rfl (by decide +kernel) rfl rfl (Nat.le_of_ble_eq_true rfl) dX0_kind_78 (fun H locs hP hD hS => ?_)
        have hP : va_P D vwCl (xw o a1 a2 a3 k1 k2 k3 (mTrN row ((nb + 7) / 8)) dv sl nb v (mLow (nI v) p0) (mTop (nI v) p0) (mLow (nI v) f0) (mLow (nI v) l0) i0 o0) H := hP
        have hD : va_D A (xw o a1 a2 a3 k1 k2 k3 (mTrN row ((nb + 7) / 8)) dv sl nb v (mLow (nI v) p0) (mTop (nI v) p0) (mLow (nI v) f0) (mLow (nI v) l0) i0 o0) := hD
        refine lv_aload_n hx hb dX0_kind_81 rfl (lv_at hl 0 rfl) ?_
        refine mu_v (wr := []) (ws := (xw o a1 a2 a3 k1 k2 k3 (mTrN row ((nb + 7) / 8)) dv sl nb v (mLow (nI v) p0) (mTop (nI v) p0) (mLow (nI v) f0) (mLow (nI v) l0) i0 o0)) (ws' := (xw o a1 a2 a3 k1 k2 k3 (mTrN row ((nb + 7) / 8)) dv (mFill (mTop (nI v) p0) sl) nb v (mLow (nI v) p0) (mTop (nI v) p0) (mLow (nI v) f0) (mLow (nI v) l0) i0 o0)) (va_runV (As := []) (rest := []) ⟨hx, hb, hml, hown, hts⟩ (c_fillSlices (sz := H.size) ) (cwV 0 hts gX0_kind_X0_fillSlices rfl rfl rfl (by decide +kernel) ⟨Nat.le_of_ble_eq_true rfl, Nat.le_of_ble_eq_true rfl⟩) (preV_MU hP hK hD 0 (ci := 0) rfl rfl) rfl rfl hl.1 rfl (lv_room (Nat.le_of_ble_eq_true rfl)) dX0_kind_82 ⟨Nat.le_of_ble_eq_true rfl, Nat.le_of_ble_eq_true rfl⟩) hS hA (by rw [List.append_nil]; exact hP) (by rw [List.append_nil]; exact hD) rfl (fun H locs hP hD hS => ?_)
        rw [List.append_nil] at hP hD
        refine lv_iconst (v := 1) hx hb dX0_kind_85 (by decide) ?_
        have hPf : va_P D vwCl (xw o a1 a2 a3 k1 k2 k3 (if bi = i0 then row else mTrN row ((nb + 7) / 8)) dv (mFill (mTop (nI v) p0) sl) nb v (mLow (nI v) p0) (mTop (nI v) p0) (mLow (nI v) f0) (mLow (nI v) l0) i0 o0) H := by first | (rw [if_pos c_19]; exact hP) | (rw [if_neg c_19]; exact hP)
        exact W.zret (v := 1) hx hb hr (by decide) (fun t ht hW => ⟨⟨1, (), rfl, rfl, by show va_P _ _ _ t.heap; rw [ht]; exact hPf⟩, hS.F ht⟩) hS.2.2 dX0_kind_86
    ·
      exact absurd (nI_le (b := 64) hv (by decide)) c_8
theorem in_c_feed_no : ∀ w ∈ wsX00, w ∈ wsX0_feed := fun _ h => List.mem_cons_of_mem _ (List.mem_append_right _ h)
set_option maxHeartbeats 4000000 in
set_option maxRecDepth 100000 in
theorem c_feed_no {l : Launch} {D : va_G} {o a1 a2 a3 : Nat} {k1 k2 k3 : ClassId} {row : Nat → Int64} {dv : Nat → Int64} {sl : Nat → Int64} {nb : Nat} {wd : Nat} {po : Int64} {tp : Int64} {fi : Int64} {la : Int64} {bi : Int32} {bo : Int32} {sz : Nat} (b : Int32) (t : Int32) (hn : nb ≤ 5000) (hno : mIsB b = 0 ∨ t < 1 ∨ nI (5000 - nb) < t) : Met l yX0_feed wsX0_feed ({ frames := 1, cells := 0, slots := 0, locals := 20 }) (va_Pc [.ref o, .int b, .int t] (pRO D vwCl (xt k1 k2 k3) (xw o a1 a2 a3 k1 k2 k3 row dv sl nb wd po tp fi la bi bo) sz)) (roI sz 0) 0 0 (fun q : Nat => sz ≤ q) := by
  refine Met.ofW (cc := cX0_feed) (maxL := 6) (ret := (some .boolean)) (by decide) rfl ?_
  intro p e s m args below meth c s₁ B hml hv
  obtain ⟨rfl, hsz, hP, hK⟩ := hv
  have hsz : s.heap.size = sz := hsz
  have hx := B.exec
  have hb := B.bytes
  have hr := B.returns
  have hts := atoms_spec (ws := wsX0_feed) B.pre
  have hown : s.vm.findClass RX0 = some m.cls := findClass_of_methodNamed B.named
  have hlocks := B.notSynchronized
  subst hsz
  have hA : ∀ q : Nat, s.heap.size ≤ q → (fun q : Nat => s.heap.size ≤ q) q := fun _ h => h
  have hS : va_S (fun q : Nat => s.heap.size ≤ q) s.heap s.heap [] := va_S.rf
  have hl := lv_entry ([.ref o, .int b, .int t]) (n := 6) (Nat.le_of_ble_eq_true rfl)
  rw [lg_entry_eq]
  generalize (lg_sl ([.ref o, .int b, .int t]) ++ List.replicate (6 - (lg_sl ([.ref o, .int b, .int t])).length) Slot.unset).toArray = ls at hl ⊢
  have hl : lv_has ls 6 [(0, .ref o), (1, .int b), (2, .int t)] := hl
  suffices key : ∀ (H : Heap) (locs : List Loc), va_P D vwCl (xw o a1 a2 a3 k1 k2 k3 row dv sl nb wd po tp fi la bi bo) H → va_S (fun q : Nat => s.heap.size ≤ q) s.heap H locs → W p l e (headSpec wsX0_feed { frames := 1, cells := 0, slots := 0, locals := 20 }).room s m ([.ref o, .int b, .int t] : List Value).toArray below meth c H locs 0 0 (MQ below (roI s.heap.size 0) ([.ref o, .int b, .int t] : List Value).toArray s 0 0 (fun q : Nat => s.heap.size ≤ q)) (F0 m 0 ls []) from key s.heap [] hP hS
  intro H locs hP hS
  refine lv_iload_n hx hb dX0_feed_0 rfl (lv_at hl 1 rfl) ?_
  refine ro_i (va_runS (As := [.int b]) (rest := []) ⟨hx, hb, hml, hown, hts⟩ (c_isByte (sz := H.size) b) (va_cwS 1 hts gX0_feed_X0_isByte rfl rfl rfl (by decide +kernel) ⟨Nat.le_of_ble_eq_true rfl, Nat.le_of_ble_eq_true rfl⟩) preS_ST rfl rfl hl.1 rfl (lv_room (Nat.le_of_ble_eq_true rfl)) dX0_feed_1 ⟨Nat.le_of_ble_eq_true rfl, Nat.le_of_ble_eq_true rfl⟩) hS hA hP (fun H locs hP hS => ?_)
  refine lv_if_eq (tgt := 24) hx hb dX0_feed_4 (by decide) (fun c_4 => ?_) (fun c_4 => ?_)
  ·
    refine lv_iconst (v := 0) hx hb dX0_feed_24 (by decide) ?_
    exact W.zret (v := 0) hx hb hr (by decide) (fun t ht hW => ⟨⟨0, (), rfl, rfl, trivial⟩, hS.F ht⟩) hS.2.2 dX0_feed_25
  ·
    refine lv_iload_n hx hb dX0_feed_7 rfl (lv_at hl 2 rfl) ?_
    refine lv_iconst (v := 1) hx hb dX0_feed_8 (by decide) ?_
    refine lv_icmp_lt (tgt := 24) hx hb dX0_feed_9 (by decide) (fun c_9 => ?_) (fun c_9 => ?_)
    ·
      refine lv_iconst (v := 0) hx hb dX0_feed_24 (by decide) ?_
      exact W.zret (v := 0) hx hb hr (by decide) (fun t ht hW => ⟨⟨0, (), rfl, rfl, trivial⟩, hS.F ht⟩) hS.2.2 dX0_feed_25
    ·
      refine lv_iload_n hx hb dX0_feed_12 rfl (lv_at hl 2 rfl) ?_
      refine lv_sipush (v := 5000) hx hb dX0_feed_13 (by decide) ?_
      refine lv_aload_n hx hb dX0_feed_16 rfl (lv_at hl 0 rfl) ?_
      refine va_get (D := D) (ci := 0) (v := .int (nI nb)) (C := RX0) (T := TX0) (N := 11) hx hb hts in_c_feed_no hown hK hP 0 rfl rfl 3 (by decide) (hts (.fieldLink RX0 68 "SliceChecks" "bytes" "I") (by decide +kernel)) (fun _ h9 => h9) rfl dX0_feed_17 ?_
      refine lv_isub hx hb dX0_feed_20 ?_
      refine du_rwi (y := nI (5000 - nb)) (pk_sub (a := 5000) hn) ?_
      refine lv_icmp_le (tgt := 26) hx hb dX0_feed_21 (by decide) (fun c_21 => ?_) (fun c_21 => ?_)
      ·
        exact hno.elim (fun h => absurd h c_4) (fun h => h.elim (fun h => absurd h c_9) (fun h => absurd h (Int32.not_lt.mpr c_21)))
      ·
        refine lv_iconst (v := 0) hx hb dX0_feed_24 (by decide) ?_
        exact W.zret (v := 0) hx hb hr (by decide) (fun t ht hW => ⟨⟨0, (), rfl, rfl, trivial⟩, hS.F ht⟩) hS.2.2 dX0_feed_25
theorem in_c_feed : ∀ w ∈ wsX00, w ∈ wsX0_feed := fun _ h => List.mem_cons_of_mem _ (List.mem_append_right _ h)
set_option maxHeartbeats 4000000 in
set_option maxRecDepth 100000 in
theorem c_feed {l : Launch} {D : va_G} {o a1 a2 a3 : Nat} {k1 k2 k3 : ClassId} {row : Nat → Int64} {dv : Nat → Int64} {sl : Nat → Int64} {nb : Nat} {wd : Nat} {po : Int64} {tp : Int64} {fi : Int64} {la : Int64} {bi : Int32} {bo : Int32} {sz : Nat} (b : Nat) (t : Nat) (hn : nb ≤ 5000) (hb8 : b < 256) (ht1 : 1 ≤ t) (ht : t ≤ 5000 - nb) : Met l yX0_feed wsX0_feed ({ frames := 2, cells := 0, slots := 0, locals := 46 }) (va_Pc [.ref o, .int (nI b), .int (nI t)] (pMU D vwCl (xt k1 k2 k3) (xw o a1 a2 a3 k1 k2 k3 row dv sl nb wd po tp fi la bi bo) sz)) (muI D vwCl (xw o a1 a2 a3 k1 k2 k3 row dv sl nb wd po tp fi la bi bo) (xw o a1 a2 a3 k1 k2 k3 (mFeN row (mCome bi (nI b)) nb t) dv sl (nb + t) wd po tp fi la bi bo) sz 1) 0 0 (va_A (xw o a1 a2 a3 k1 k2 k3 row dv sl nb wd po tp fi la bi bo) sz) := by
  refine Met.ofW (cc := cX0_feed) (maxL := 6) (ret := (some .boolean)) (by decide) rfl ?_
  intro p e s m args below meth c s₁ B hml hv
  obtain ⟨rfl, hsz, hP, hK, hD0⟩ := hv
  have hsz : s.heap.size = sz := hsz
  have hx := B.exec
  have hb := B.bytes
  have hr := B.returns
  have hts := atoms_spec (ws := wsX0_feed) B.pre
  have hown : s.vm.findClass RX0 = some m.cls := findClass_of_methodNamed B.named
  have hlocks := B.notSynchronized
  subst hsz
  have hD0 := hD0.self (sz := s.heap.size)
  have hA : ∀ q : Nat, s.heap.size ≤ q → va_A (xw o a1 a2 a3 k1 k2 k3 row dv sl nb wd po tp fi la bi bo) s.heap.size q := fun q h => Or.inr h
  unfold muI
  generalize va_A (xw o a1 a2 a3 k1 k2 k3 row dv sl nb wd po tp fi la bi bo) s.heap.size = A at hD0 hA ⊢
  have hD := hD0
  have hS : va_S A s.heap s.heap [] := va_S.rf
  have hl := lv_entry ([.ref o, .int (nI b), .int (nI t)]) (n := 6) (Nat.le_of_ble_eq_true rfl)
  rw [lg_entry_eq]
  generalize (lg_sl ([.ref o, .int (nI b), .int (nI t)]) ++ List.replicate (6 - (lg_sl ([.ref o, .int (nI b), .int (nI t)])).length) Slot.unset).toArray = ls at hl ⊢
  have hl : lv_has ls 6 [(0, .ref o), (1, .int (nI b)), (2, .int (nI t))] := hl
  suffices key : ∀ (H : Heap) (locs : List Loc), va_P D vwCl (xw o a1 a2 a3 k1 k2 k3 row dv sl nb wd po tp fi la bi bo) H → va_S A s.heap H locs → W p l e (headSpec wsX0_feed { frames := 2, cells := 0, slots := 0, locals := 46 }).room s m ([.ref o, .int (nI b), .int (nI t)] : List Value).toArray below meth c H locs 0 0 (MQ below (va_Qi (fun r (_ : Unit) => r = 1) (fun _ t9 => va_P D vwCl (xw o a1 a2 a3 k1 k2 k3 (mFeN row (mCome bi (nI b)) nb t) dv sl (nb + t) wd po tp fi la bi bo) t9.heap) A) ([.ref o, .int (nI b), .int (nI t)] : List Value).toArray s 0 0 A) (F0 m 0 ls []) from key s.heap [] hP hS
  intro H locs hP hS
  refine lv_iload_n hx hb dX0_feed_0 rfl (lv_at hl 1 rfl) ?_
  refine ro_i (va_runS (As := [.int (nI b)]) (rest := []) ⟨hx, hb, hml, hown, hts⟩ (c_isByte (sz := H.size) (nI b)) (va_cwS 1 hts gX0_feed_X0_isByte rfl rfl rfl (by decide +kernel) ⟨Nat.le_of_ble_eq_true rfl, Nat.le_of_ble_eq_true rfl⟩) preS_ST rfl rfl hl.1 rfl (lv_room (Nat.le_of_ble_eq_true rfl)) dX0_feed_1 ⟨Nat.le_of_ble_eq_true rfl, Nat.le_of_ble_eq_true rfl⟩) hS hA hP (fun H locs hP hS => ?_)
  refine lv_if_eq (tgt := 24) hx hb dX0_feed_4 (by decide) (fun c_4 => ?_) (fun c_4 => ?_)
  ·
    exact absurd c_4 (du_isb hb8)
  ·
    refine lv_iload_n hx hb dX0_feed_7 rfl (lv_at hl 2 rfl) ?_
    refine lv_iconst (v := 1) hx hb dX0_feed_8 (by decide) ?_
    refine lv_icmp_lt (tgt := 24) hx hb dX0_feed_9 (by decide) (fun c_9 => ?_) (fun c_9 => ?_)
    ·
      exact absurd c_9 (du_n1 ht1 (by omega))
    ·
      refine lv_iload_n hx hb dX0_feed_12 rfl (lv_at hl 2 rfl) ?_
      refine lv_sipush (v := 5000) hx hb dX0_feed_13 (by decide) ?_
      refine lv_aload_n hx hb dX0_feed_16 rfl (lv_at hl 0 rfl) ?_
      refine va_get (D := D) (ci := 0) (v := .int (nI nb)) (C := RX0) (T := TX0) (N := 11) hx hb hts in_c_feed hown hK hP 0 rfl rfl 3 (by decide) (hts (.fieldLink RX0 68 "SliceChecks" "bytes" "I") (by decide +kernel)) (fun _ h9 => h9) rfl dX0_feed_17 ?_
      refine lv_isub hx hb dX0_feed_20 ?_
      refine du_rwi (y := nI (5000 - nb)) (pk_sub (a := 5000) hn) ?_
      refine lv_icmp_le (tgt := 26) hx hb dX0_feed_21 (by decide) (fun c_21 => ?_) (fun c_21 => ?_)
      ·
        refine lv_aload_n hx hb dX0_feed_26 rfl (lv_at hl 0 rfl) ?_
        refine lv_iload_n hx hb dX0_feed_27 rfl (lv_at hl 1 rfl) ?_
        refine ro_l (va_runV (As := [.int (nI b)]) (rest := []) ⟨hx, hb, hml, hown, hts⟩ (c_asItComes (sz := H.size) (nI b)) (cwV 1 hts gX0_feed_X0_asItComes rfl rfl rfl (by decide +kernel) ⟨Nat.le_of_ble_eq_true rfl, Nat.le_of_ble_eq_true rfl⟩) (preV_RO hP hK 0 (ci := 0) rfl rfl) rfl rfl hl.1 rfl (lv_room (Nat.le_of_ble_eq_true rfl)) dX0_feed_28 ⟨Nat.le_of_ble_eq_true rfl, Nat.le_of_ble_eq_true rfl⟩) hS hA hP (fun H locs hP hS => ?_)
        refine lv_lstore_n (lv' := [(3, .long (mCome bi (nI b))), (0, .ref o), (1, .int (nI b)), (2, .int (nI t))]) hx hb dX0_feed_31 rfl hl (by decide) rfl (fun ls hl => ?_)
        refine lv_iconst (v := 0) hx hb dX0_feed_32 (by decide) ?_
        refine lv_istore (lv' := [(5, .int 0), (3, .long (mCome bi (nI b))), (0, .ref o), (1, .int (nI b)), (2, .int (nI t))]) hx hb dX0_feed_33 hl (by decide) rfl (fun ls hl => ?_)
        have lp_35 : ∀ (k i : Nat), i ≤ t → t < i + k → ∀ (H : Heap) (locs : List Loc), va_P D vwCl (xw o a1 a2 a3 k1 k2 k3 (mFeN row (mCome bi (nI b)) nb i) dv sl (nb + i) wd po tp fi la bi bo) H → va_S A s.heap H locs → ∀ ls : Array Slot, lv_has ls 6 [(5, .int (nI i)), (3, .long (mCome bi (nI b))), (0, .ref o), (1, .int (nI b)), (2, .int (nI t))] → W p l e (headSpec wsX0_feed { frames := 2, cells := 0, slots := 0, locals := 46 }).room s m ([.ref o, .int (nI b), .int (nI t)] : List Value).toArray below meth c H locs 0 0 (MQ below (va_Qi (fun r (_ : Unit) => r = 1) (fun _ t9 => va_P D vwCl (xw o a1 a2 a3 k1 k2 k3 (mFeN row (mCome bi (nI b)) nb t) dv sl (nb + t) wd po tp fi la bi bo) t9.heap) A) ([.ref o, .int (nI b), .int (nI t)] : List Value).toArray s 0 0 A) (F0 m 35 ls []) := by
          intro k
          induction k with
          | zero =>
            intro i h1 h2
            exact absurd h2 (by omega)
          | succ k ih =>
            intro i hi hk H locs hP hS ls hl
            have hD : va_D A (xw o a1 a2 a3 k1 k2 k3 (mFeN row (mCome bi (nI b)) nb i) dv sl (nb + i) wd po tp fi la bi bo) := du_same hD0 rfl
            refine lv_iload hx hb dX0_feed_35 (lv_at hl 0 rfl) ?_
            refine lv_iload_n hx hb dX0_feed_37 rfl (lv_at hl 4 rfl) ?_
            refine lv_icmp_ge (tgt := 81) hx hb dX0_feed_38 (by decide) (fun c_38 => ?_) (fun c_38 => ?_)
            ·
              have hiN := du_ge (by omega) hi c_38
              refine lv_iconst (v := 1) hx hb dX0_feed_81 (by decide) ?_
              have hPf : va_P D vwCl (xw o a1 a2 a3 k1 k2 k3 (mFeN row (mCome bi (nI b)) nb t) dv sl (nb + t) wd po tp fi la bi bo) H := by rw [← hiN]; exact hP
              exact W.zret (v := 1) hx hb hr (by decide) (fun t ht hW => ⟨⟨1, (), rfl, rfl, by show va_P _ _ _ t.heap; rw [ht]; exact hPf⟩, hS.F ht⟩) hS.2.2 dX0_feed_82
            ·
              have hlt := du_lt (by omega) hi c_38
              refine lv_aload_n hx hb dX0_feed_41 rfl (lv_at hl 2 rfl) ?_
              refine va_get (D := D) (ci := 0) (v := .ref a1) (C := RX0) (T := TX0) (N := 11) hx hb hts in_c_feed hown hK hP 0 rfl rfl 0 (by decide) (hts (.fieldLink RX0 9 "SliceChecks" "row" "[J") (by decide +kernel)) (fun _ h9 => h9) rfl dX0_feed_42 ?_
              refine lv_aload_n hx hb dX0_feed_45 rfl (lv_at hl 2 rfl) ?_
              refine va_get (D := D) (ci := 0) (v := .int (nI (nb + i))) (C := RX0) (T := TX0) (N := 11) hx hb hts in_c_feed hown hK hP 0 rfl rfl 3 (by decide) (hts (.fieldLink RX0 68 "SliceChecks" "bytes" "I") (by decide +kernel)) (fun _ h9 => h9) rfl dX0_feed_46 ?_
              refine lv_bipush (v := 8) hx hb dX0_feed_49 (by decide) ?_
              refine lv_idiv hx hb dX0_feed_51 (by decide) ?_
              refine du_rwi (y := nI ((nb + i) / 8)) (du_div8 (by omega)) ?_
              refine lv_dup2_11 hx hb dX0_feed_52 rfl rfl ?_
              refine va_lald hx hb hK hP 1 0 rfl rfl (i := nI ((nb + i) / 8)) (vp_in_nI (by omega) (by omega)) dX0_feed_53 ?_
              refine lv_lload_n hx hb dX0_feed_54 rfl (lv_at hl 1 rfl) ?_
              refine lv_aload_n hx hb dX0_feed_55 rfl (lv_at hl 2 rfl) ?_
              refine va_get (D := D) (ci := 0) (v := .int (nI (nb + i))) (C := RX0) (T := TX0) (N := 11) hx hb hts in_c_feed hown hK hP 0 rfl rfl 3 (by decide) (hts (.fieldLink RX0 68 "SliceChecks" "bytes" "I") (by decide +kernel)) (fun _ h9 => h9) rfl dX0_feed_56 ?_
              refine ro_i (va_runS (As := [.int (nI (nb + i))]) (rest := [.long (mCome bi (nI b)), .long ((mFeN row (mCome bi (nI b)) nb i) (nI ((nb + i) / 8)).toNatClampNeg), .int (nI ((nb + i) / 8)), .ref a1]) ⟨hx, hb, hml, hown, hts⟩ (c_shiftOfByte (sz := H.size) (nI (nb + i))) (va_cwS 1 hts gX0_feed_X0_shiftOfByte rfl rfl rfl (by decide +kernel) ⟨Nat.le_of_ble_eq_true rfl, Nat.le_of_ble_eq_true rfl⟩) preS_ST rfl rfl hl.1 rfl (lv_room (Nat.le_of_ble_eq_true rfl)) dX0_feed_59 ⟨Nat.le_of_ble_eq_true rfl, Nat.le_of_ble_eq_true rfl⟩) hS hA hP (fun H locs hP hS => ?_)
              refine lv_lshl (v := jshl (mCome bi (nI b)) (mSh (nI (nb + i)))) hx hb dX0_feed_62 rfl ?_
              refine lv_lor hx hb dX0_feed_63 ?_
              refine va_last hx hb hK hP hD hS 1 0 rfl rfl (i := nI ((nb + i) / 8)) (x := ((mFeN row (mCome bi (nI b)) nb i) (nI ((nb + i) / 8)).toNatClampNeg) ||| (jshl (mCome bi (nI b)) (mSh (nI (nb + i))))) (vp_in_nI (by omega) (by omega)) dX0_feed_64 (fun H locs hP hD hS => ?_)
              have hP : va_P D vwCl (xw o a1 a2 a3 k1 k2 k3 (mFeN row (mCome bi (nI b)) nb (i + 1)) dv sl (nb + i) wd po tp fi la bi bo) H := hP
              have hD : va_D A (xw o a1 a2 a3 k1 k2 k3 (mFeN row (mCome bi (nI b)) nb (i + 1)) dv sl (nb + i) wd po tp fi la bi bo) := hD
              refine lv_aload_n hx hb dX0_feed_65 rfl (lv_at hl 2 rfl) ?_
              refine lv_dup hx hb dX0_feed_66 rfl ?_
              refine va_get (D := D) (ci := 0) (v := .int (nI (nb + i))) (C := RX0) (T := TX0) (N := 11) hx hb hts in_c_feed hown hK hP 0 rfl rfl 3 (by decide) (hts (.fieldLink RX0 68 "SliceChecks" "bytes" "I") (by decide +kernel)) (fun _ h9 => h9) rfl dX0_feed_67 ?_
              refine lv_iconst (v := 1) hx hb dX0_feed_70 (by decide) ?_
              refine lv_iadd hx hb dX0_feed_71 ?_
              refine du_rwi (y := nI (nb + (i + 1))) (nI_1 (nb + i)) ?_
              refine va_put (D := D) (ci := 0) (v := .int (nI (nb + (i + 1)))) (ty := .int) (C := RX0) (T := TX0) (N := 11) hx hb hts in_c_feed tyX0 tyX0_ok nmX0 hown hK hP hD hS 0 rfl rfl 3 (by decide) (hts (.fieldLink RX0 68 "SliceChecks" "bytes" "I") (by decide +kernel)) (fun _ h9 => h9) rfl (by decide +kernel) rfl rfl (Nat.le_of_ble_eq_true rfl) dX0_feed_72 (fun H locs hP hD hS => ?_)
              have hP : va_P D vwCl (xw o a1 a2 a3 k1 k2 k3 (mFeN row (mCome bi (nI b)) nb (i + 1)) dv sl (nb + (i + 1)) wd po tp fi la bi bo) H := hP
              have hD : va_D A (xw o a1 a2 a3 k1 k2 k3 (mFeN row (mCome bi (nI b)) nb (i + 1)) dv sl (nb + (i + 1)) wd po tp fi la bi bo) := hD
              refine lv_iinc (v := nI (i + 1)) (lv' := [(5, .int (nI (i + 1))), (3, .long (mCome bi (nI b))), (0, .ref o), (1, .int (nI b)), (2, .int (nI t))]) hx hb dX0_feed_75 hl (k := 0) rfl (nI_1 i) (by decide) rfl (fun ls hl => ?_)
              refine lv_goto (tgt := 35) hx hb dX0_feed_78 (by decide) ?_
              exact ih (i + 1) (by omega) (by omega) H locs (hP) hS ls (lv_sub hl [0, 1, 2, 3, 4] rfl)
        exact lp_35 (t + 1 - 0) 0 (by omega) (by omega) H locs (hP) hS ls (lv_sub hl [0, 1, 2, 3, 4] rfl)
      ·
        exact absurd (nI_le ht (by omega)) c_21
theorem in_c_clear : ∀ w ∈ wsX00, w ∈ wsX0_clear := fun _ h => List.mem_cons_of_mem _ (List.mem_append_right _ h)
set_option maxHeartbeats 4000000 in
set_option maxRecDepth 100000 in
theorem c_clear {l : Launch} {D : va_G} {o a1 a2 a3 : Nat} {k1 k2 k3 : ClassId} {row : Nat → Int64} {dv : Nat → Int64} {sl : Nat → Int64} {nb : Nat} {wd : Nat} {po : Int64} {tp : Int64} {fi : Int64} {la : Int64} {bi : Int32} {bo : Int32} {sz : Nat}   : Met l yX0_clear wsX0_clear ({ frames := 1, cells := 0, slots := 0, locals := 24 }) (va_Pc [.ref o] (pMU D vwCl (xt k1 k2 k3) (xw o a1 a2 a3 k1 k2 k3 row dv sl nb wd po tp fi la bi bo) sz)) (muV D vwCl (xw o a1 a2 a3 k1 k2 k3 row dv sl nb wd po tp fi la bi bo) (xw o a1 a2 a3 k1 k2 k3 (mAFN row 0 625) dv sl 0 wd po tp fi la bi bo) sz) 0 0 (va_A (xw o a1 a2 a3 k1 k2 k3 row dv sl nb wd po tp fi la bi bo) sz) := by
  refine Met.ofW (cc := cX0_clear) (maxL := 1) (ret := none) (by decide) rfl ?_
  intro p e s m args below meth c s₁ B hml hv
  obtain ⟨rfl, hsz, hP, hK, hD0⟩ := hv
  have hsz : s.heap.size = sz := hsz
  have hx := B.exec
  have hb := B.bytes
  have hr := B.returns
  have hts := atoms_spec (ws := wsX0_clear) B.pre
  have hown : s.vm.findClass RX0 = some m.cls := findClass_of_methodNamed B.named
  have hlocks := B.notSynchronized
  subst hsz
  have hD0 := hD0.self (sz := s.heap.size)
  have hA : ∀ q : Nat, s.heap.size ≤ q → va_A (xw o a1 a2 a3 k1 k2 k3 row dv sl nb wd po tp fi la bi bo) s.heap.size q := fun q h => Or.inr h
  unfold muV
  generalize va_A (xw o a1 a2 a3 k1 k2 k3 row dv sl nb wd po tp fi la bi bo) s.heap.size = A at hD0 hA ⊢
  have hD := hD0
  have hS : va_S A s.heap s.heap [] := va_S.rf
  have hl := lv_entry ([.ref o]) (n := 1) (Nat.le_of_ble_eq_true rfl)
  rw [lg_entry_eq]
  generalize (lg_sl ([.ref o]) ++ List.replicate (1 - (lg_sl ([.ref o])).length) Slot.unset).toArray = ls at hl ⊢
  have hl : lv_has ls 1 [(0, .ref o)] := hl
  suffices key : ∀ (H : Heap) (locs : List Loc), va_P D vwCl (xw o a1 a2 a3 k1 k2 k3 row dv sl nb wd po tp fi la bi bo) H → va_S A s.heap H locs → W p l e (headSpec wsX0_clear { frames := 1, cells := 0, slots := 0, locals := 24 }).room s m ([.ref o] : List Value).toArray below meth c H locs 0 0 (MQ below (va_Qv (fun (_ : Unit) => True) (fun _ t9 => va_P D vwCl (xw o a1 a2 a3 k1 k2 k3 (mAFN row 0 625) dv sl 0 wd po tp fi la bi bo) t9.heap) A) ([.ref o] : List Value).toArray s 0 0 A) (F0 m 0 ls []) from key s.heap [] hP hS
  intro H locs hP hS
  refine lv_aload_n hx hb dX0_clear_0 rfl (lv_at hl 0 rfl) ?_
  refine va_get (D := D) (ci := 0) (v := .ref a1) (C := RX0) (T := TX0) (N := 11) hx hb hts in_c_clear hown hK hP 0 rfl rfl 0 (by decide) (hts (.fieldLink RX0 9 "SliceChecks" "row" "[J") (by decide +kernel)) (fun _ h9 => h9) rfl dX0_clear_1 ?_
  refine lv_lconst (v := 0) hx hb dX0_clear_4 (by decide) ?_
  have hPc := hP.sub (ws' := jw a1 k1 row) [1] rfl
  have hDc := hD.sub (ws' := jw a1 k1 row) [1] (by decide) rfl
  have hKc := hK.sub (tys' := jt k1) [0] rfl
  refine mu_v (ws := jw a1 k1 row) (ws' := jw a1 k1 (mAFN row 0 625)) (va_runS (As := [.ref a1, .long 0]) (rest := []) ⟨hx, hb, hml, hown, hts⟩ (c_fill (sz := H.size) 0) (va_cwS 2 hts gX0_clear_J7_fill_d0a16 rfl rfl rfl (by decide +kernel) ⟨Nat.le_of_ble_eq_true rfl, Nat.le_of_ble_eq_true rfl⟩) (preS_MU hPc hKc hDc) rfl rfl hl.1 rfl (lv_room (Nat.le_of_ble_eq_true rfl)) dX0_clear_5 ⟨Nat.le_of_ble_eq_true rfl, Nat.le_of_ble_eq_true rfl⟩) hS hA (hP.sub [1, 0, 2, 3] rfl) (hD.sub [1, 0, 2, 3] (by decide) rfl) rfl (fun H locs hP hD hS => ?_)
  have hP : va_P D vwCl (xw o a1 a2 a3 k1 k2 k3 (mAFN row 0 625) dv sl nb wd po tp fi la bi bo) H := hP.sub [1, 0, 2, 3] rfl
  have hD : va_D A (xw o a1 a2 a3 k1 k2 k3 (mAFN row 0 625) dv sl nb wd po tp fi la bi bo) := hD.sub [1, 0, 2, 3] (by decide) rfl
  refine lv_aload_n hx hb dX0_clear_8 rfl (lv_at hl 0 rfl) ?_
  refine lv_iconst (v := 0) hx hb dX0_clear_9 (by decide) ?_
  refine du_rwi (y := nI 0) (rfl) ?_
  refine va_put (D := D) (ci := 0) (v := .int (nI 0)) (ty := .int) (C := RX0) (T := TX0) (N := 11) hx hb hts in_c_clear tyX0 tyX0_ok nmX0 hown hK hP hD hS 0 rfl rfl 3 (by decide) (hts (.fieldLink RX0 68 "SliceChecks" "bytes" "I") (by decide +kernel)) (fun _ h9 => h9) rfl (by decide +kernel) rfl rfl (Nat.le_of_ble_eq_true rfl) dX0_clear_10 (fun H locs hP hD hS => ?_)
  have hP : va_P D vwCl (xw o a1 a2 a3 k1 k2 k3 (mAFN row 0 625) dv sl 0 wd po tp fi la bi bo) H := hP
  have hD : va_D A (xw o a1 a2 a3 k1 k2 k3 (mAFN row 0 625) dv sl 0 wd po tp fi la bi bo) := hD
  have hPf : va_P D vwCl (xw o a1 a2 a3 k1 k2 k3 (mAFN row 0 625) dv sl 0 wd po tp fi la bi bo) H := by exact hP
  exact W.vret hx hb hr (fun t ht hW => ⟨⟨(), rfl, trivial, by show va_P _ _ _ t.heap; rw [ht]; exact hPf⟩, hS.F ht⟩) hS.2.2 dX0_clear_13
theorem in_c_flip_no : ∀ w ∈ wsX00, w ∈ wsX0_flip := fun _ h => List.mem_cons_of_mem _ (List.mem_append_right _ h)
set_option maxHeartbeats 4000000 in
set_option maxRecDepth 100000 in
theorem c_flip_no {l : Launch} {D : va_G} {o a1 a2 a3 : Nat} {k1 k2 k3 : ClassId} {row : Nat → Int64} {dv : Nat → Int64} {sl : Nat → Int64} {nb : Nat} {wd : Nat} {po : Int64} {tp : Int64} {fi : Int64} {la : Int64} {bi : Int32} {bo : Int32} {sz : Nat} (y : Int32) (hno : y < 0 ∨ nI (nb * 8) ≤ y) : Met l yX0_flip wsX0_flip ({ frames := 1, cells := 0, slots := 0, locals := 20 }) (va_Pc [.ref o, .int y] (pRO D vwCl (xt k1 k2 k3) (xw o a1 a2 a3 k1 k2 k3 row dv sl nb wd po tp fi la bi bo) sz)) (roI sz 0) 0 0 (fun q : Nat => sz ≤ q) := by
  refine Met.ofW (cc := cX0_flip) (maxL := 2) (ret := (some .boolean)) (by decide) rfl ?_
  intro p e s m args below meth c s₁ B hml hv
  obtain ⟨rfl, hsz, hP, hK⟩ := hv
  have hsz : s.heap.size = sz := hsz
  have hx := B.exec
  have hb := B.bytes
  have hr := B.returns
  have hts := atoms_spec (ws := wsX0_flip) B.pre
  have hown : s.vm.findClass RX0 = some m.cls := findClass_of_methodNamed B.named
  have hlocks := B.notSynchronized
  subst hsz
  have hA : ∀ q : Nat, s.heap.size ≤ q → (fun q : Nat => s.heap.size ≤ q) q := fun _ h => h
  have hS : va_S (fun q : Nat => s.heap.size ≤ q) s.heap s.heap [] := va_S.rf
  have hl := lv_entry ([.ref o, .int y]) (n := 2) (Nat.le_of_ble_eq_true rfl)
  rw [lg_entry_eq]
  generalize (lg_sl ([.ref o, .int y]) ++ List.replicate (2 - (lg_sl ([.ref o, .int y])).length) Slot.unset).toArray = ls at hl ⊢
  have hl : lv_has ls 2 [(0, .ref o), (1, .int y)] := hl
  suffices key : ∀ (H : Heap) (locs : List Loc), va_P D vwCl (xw o a1 a2 a3 k1 k2 k3 row dv sl nb wd po tp fi la bi bo) H → va_S (fun q : Nat => s.heap.size ≤ q) s.heap H locs → W p l e (headSpec wsX0_flip { frames := 1, cells := 0, slots := 0, locals := 20 }).room s m ([.ref o, .int y] : List Value).toArray below meth c H locs 0 0 (MQ below (roI s.heap.size 0) ([.ref o, .int y] : List Value).toArray s 0 0 (fun q : Nat => s.heap.size ≤ q)) (F0 m 0 ls []) from key s.heap [] hP hS
  intro H locs hP hS
  refine lv_iload_n hx hb dX0_flip_0 rfl (lv_at hl 1 rfl) ?_
  refine lv_if_lt (tgt := 12) hx hb dX0_flip_1 (by decide) (fun c_1 => ?_) (fun c_1 => ?_)
  ·
    refine lv_iconst (v := 0) hx hb dX0_flip_12 (by decide) ?_
    exact W.zret (v := 0) hx hb hr (by decide) (fun t ht hW => ⟨⟨0, (), rfl, rfl, trivial⟩, hS.F ht⟩) hS.2.2 dX0_flip_13
  ·
    refine lv_iload_n hx hb dX0_flip_4 rfl (lv_at hl 1 rfl) ?_
    refine lv_aload_n hx hb dX0_flip_5 rfl (lv_at hl 0 rfl) ?_
    refine ro_i (va_runV (As := []) (rest := [.int y]) ⟨hx, hb, hml, hown, hts⟩ (c_bitsOfRow (sz := H.size) ) (cwV 0 hts gX0_flip_X0_bitsOfRow rfl rfl rfl (by decide +kernel) ⟨Nat.le_of_ble_eq_true rfl, Nat.le_of_ble_eq_true rfl⟩) (preV_RO hP hK 0 (ci := 0) rfl rfl) rfl rfl hl.1 rfl (lv_room (Nat.le_of_ble_eq_true rfl)) dX0_flip_6 ⟨Nat.le_of_ble_eq_true rfl, Nat.le_of_ble_eq_true rfl⟩) hS hA hP (fun H locs hP hS => ?_)
    refine lv_icmp_lt (tgt := 14) hx hb dX0_flip_9 (by decide) (fun c_9 => ?_) (fun c_9 => ?_)
    ·
      exact hno.elim (fun h => absurd h c_1) (fun h => absurd c_9 (Int32.not_lt.mpr h))
    ·
      refine lv_iconst (v := 0) hx hb dX0_flip_12 (by decide) ?_
      exact W.zret (v := 0) hx hb hr (by decide) (fun t ht hW => ⟨⟨0, (), rfl, rfl, trivial⟩, hS.F ht⟩) hS.2.2 dX0_flip_13
theorem in_c_flip : ∀ w ∈ wsX00, w ∈ wsX0_flip := fun _ h => List.mem_cons_of_mem _ (List.mem_append_right _ h)
set_option maxHeartbeats 4000000 in
set_option maxRecDepth 100000 in
theorem c_flip {l : Launch} {D : va_G} {o a1 a2 a3 : Nat} {k1 k2 k3 : ClassId} {row : Nat → Int64} {dv : Nat → Int64} {sl : Nat → Int64} {nb : Nat} {wd : Nat} {po : Int64} {tp : Int64} {fi : Int64} {la : Int64} {bi : Int32} {bo : Int32} {sz : Nat} (j : Nat) (hn : nb ≤ 5000) (hj : j < nb * 8) : Met l yX0_flip wsX0_flip ({ frames := 1, cells := 0, slots := 0, locals := 20 }) (va_Pc [.ref o, .int (nI j)] (pMU D vwCl (xt k1 k2 k3) (xw o a1 a2 a3 k1 k2 k3 row dv sl nb wd po tp fi la bi bo) sz)) (muI D vwCl (xw o a1 a2 a3 k1 k2 k3 row dv sl nb wd po tp fi la bi bo) (xw o a1 a2 a3 k1 k2 k3 (mFlip row j) dv sl nb wd po tp fi la bi bo) sz 1) 0 0 (va_A (xw o a1 a2 a3 k1 k2 k3 row dv sl nb wd po tp fi la bi bo) sz) := by
  refine Met.ofW (cc := cX0_flip) (maxL := 2) (ret := (some .boolean)) (by decide) rfl ?_
  intro p e s m args below meth c s₁ B hml hv
  obtain ⟨rfl, hsz, hP, hK, hD0⟩ := hv
  have hsz : s.heap.size = sz := hsz
  have hx := B.exec
  have hb := B.bytes
  have hr := B.returns
  have hts := atoms_spec (ws := wsX0_flip) B.pre
  have hown : s.vm.findClass RX0 = some m.cls := findClass_of_methodNamed B.named
  have hlocks := B.notSynchronized
  subst hsz
  have hD0 := hD0.self (sz := s.heap.size)
  have hA : ∀ q : Nat, s.heap.size ≤ q → va_A (xw o a1 a2 a3 k1 k2 k3 row dv sl nb wd po tp fi la bi bo) s.heap.size q := fun q h => Or.inr h
  unfold muI
  generalize va_A (xw o a1 a2 a3 k1 k2 k3 row dv sl nb wd po tp fi la bi bo) s.heap.size = A at hD0 hA ⊢
  have hD := hD0
  have hS : va_S A s.heap s.heap [] := va_S.rf
  have hl := lv_entry ([.ref o, .int (nI j)]) (n := 2) (Nat.le_of_ble_eq_true rfl)
  rw [lg_entry_eq]
  generalize (lg_sl ([.ref o, .int (nI j)]) ++ List.replicate (2 - (lg_sl ([.ref o, .int (nI j)])).length) Slot.unset).toArray = ls at hl ⊢
  have hl : lv_has ls 2 [(0, .ref o), (1, .int (nI j))] := hl
  suffices key : ∀ (H : Heap) (locs : List Loc), va_P D vwCl (xw o a1 a2 a3 k1 k2 k3 row dv sl nb wd po tp fi la bi bo) H → va_S A s.heap H locs → W p l e (headSpec wsX0_flip { frames := 1, cells := 0, slots := 0, locals := 20 }).room s m ([.ref o, .int (nI j)] : List Value).toArray below meth c H locs 0 0 (MQ below (va_Qi (fun r (_ : Unit) => r = 1) (fun _ t9 => va_P D vwCl (xw o a1 a2 a3 k1 k2 k3 (mFlip row j) dv sl nb wd po tp fi la bi bo) t9.heap) A) ([.ref o, .int (nI j)] : List Value).toArray s 0 0 A) (F0 m 0 ls []) from key s.heap [] hP hS
  intro H locs hP hS
  refine lv_iload_n hx hb dX0_flip_0 rfl (lv_at hl 1 rfl) ?_
  refine lv_if_lt (tgt := 12) hx hb dX0_flip_1 (by decide) (fun c_1 => ?_) (fun c_1 => ?_)
  ·
    exact absurd c_1 (nI_pos (by omega))
  ·
    refine lv_iload_n hx hb dX0_flip_4 rfl (lv_at hl 1 rfl) ?_
    refine lv_aload_n hx hb dX0_flip_5 rfl (lv_at hl 0 rfl) ?_
    refine ro_i (va_runV (As := []) (rest := [.int (nI j)]) ⟨hx, hb, hml, hown, hts⟩ (c_bitsOfRow (sz := H.size) ) (cwV 0 hts gX0_flip_X0_bitsOfRow rfl rfl rfl (by decide +kernel) ⟨Nat.le_of_ble_eq_true rfl, Nat.le_of_ble_eq_true rfl⟩) (preV_RO hP hK 0 (ci := 0) rfl rfl) rfl rfl hl.1 rfl (lv_room (Nat.le_of_ble_eq_true rfl)) dX0_flip_6 ⟨Nat.le_of_ble_eq_true rfl, Nat.le_of_ble_eq_true rfl⟩) hS hA hP (fun H locs hP hS => ?_)
    refine lv_icmp_lt (tgt := 14) hx hb dX0_flip_9 (by decide) (fun c_9 => ?_) (fun c_9 => ?_)
    ·
      refine lv_aload_n hx hb dX0_flip_14 rfl (lv_at hl 0 rfl) ?_
      refine va_get (D := D) (ci := 0) (v := .ref a1) (C := RX0) (T := TX0) (N := 11) hx hb hts in_c_flip hown hK hP 0 rfl rfl 0 (by decide) (hts (.fieldLink RX0 9 "SliceChecks" "row" "[J") (by decide +kernel)) (fun _ h9 => h9) rfl dX0_flip_15 ?_
      refine lv_iload_n hx hb dX0_flip_18 rfl (lv_at hl 1 rfl) ?_
      refine lv_bipush (v := 64) hx hb dX0_flip_19 (by decide) ?_
      refine lv_idiv hx hb dX0_flip_21 (by decide) ?_
      refine du_rwi (y := nI (j / 64)) (du_div64 (by omega)) ?_
      refine lv_dup2_11 hx hb dX0_flip_22 rfl rfl ?_
      refine va_lald hx hb hK hP 1 0 rfl rfl (i := nI (j / 64)) (vp_in_nI (by omega) (by omega)) dX0_flip_23 ?_
      refine lv_lconst (v := 1) hx hb dX0_flip_24 (by decide) ?_
      refine lv_bipush (v := 63) hx hb dX0_flip_25 (by decide) ?_
      refine lv_iload_n hx hb dX0_flip_27 rfl (lv_at hl 1 rfl) ?_
      refine lv_bipush (v := 64) hx hb dX0_flip_28 (by decide) ?_
      refine lv_irem hx hb dX0_flip_30 (by decide) ?_
      refine du_rwi (y := nI (j % 64)) (du_rem64 (by omega)) ?_
      refine lv_isub hx hb dX0_flip_31 ?_
      refine lv_lshl (v := jshl 1 (63 - (nI (j % 64)))) hx hb dX0_flip_32 rfl ?_
      refine lv_lxor hx hb dX0_flip_33 ?_
      refine va_last hx hb hK hP hD hS 1 0 rfl rfl (i := nI (j / 64)) (x := (row (nI (j / 64)).toNatClampNeg) ^^^ (jshl 1 (63 - (nI (j % 64))))) (vp_in_nI (by omega) (by omega)) dX0_flip_34 (fun H locs hP hD hS => ?_)
      have hP : va_P D vwCl (xw o a1 a2 a3 k1 k2 k3 (mFlip row j) dv sl nb wd po tp fi la bi bo) H := hP
      have hD : va_D A (xw o a1 a2 a3 k1 k2 k3 (mFlip row j) dv sl nb wd po tp fi la bi bo) := hD
      refine lv_iconst (v := 1) hx hb dX0_flip_35 (by decide) ?_
      have hPf : va_P D vwCl (xw o a1 a2 a3 k1 k2 k3 (mFlip row j) dv sl nb wd po tp fi la bi bo) H := by exact hP
      exact W.zret (v := 1) hx hb hr (by decide) (fun t ht hW => ⟨⟨1, (), rfl, rfl, by show va_P _ _ _ t.heap; rw [ht]; exact hPf⟩, hS.F ht⟩) hS.2.2 dX0_flip_36
    ·
      exact absurd (nI_lt hj (by omega)) c_9
theorem in_c_holds : ∀ w ∈ wsX00, w ∈ wsX0_holds := fun _ h => List.mem_cons_of_mem _ (List.mem_append_right _ h)
set_option maxHeartbeats 4000000 in
set_option maxRecDepth 100000 in
theorem c_holds {l : Launch} {D : va_G} {o a1 a2 a3 : Nat} {k1 k2 k3 : ClassId} {row : Nat → Int64} {dv : Nat → Int64} {sl : Nat → Int64} {nb : Nat} {wd : Nat} {po : Int64} {tp : Int64} {fi : Int64} {la : Int64} {bi : Int32} {bo : Int32} {sz : Nat}  (hw : wd ≤ 64) (hn : nb ≤ 5000) (h1 : mChk row sl nb (nI wd) bo tp fi la 1 = mChk row sl nb (nI wd) bo tp fi la 0) (h2 : mChk row sl nb (nI wd) bo tp fi la 2 = mChk row sl nb (nI wd) bo tp fi la 0) (h3 : mChk3 row dv nb (nI wd) bo tp fi la = mChk row sl nb (nI wd) bo tp fi la 0) (hj : ∀ c : Nat, c ≤ 70 → c ≤ nb → mJoin (nI wd) bo tp fi la (mPart row sl nb (nI wd) bo fi la 0 (nI c)) (mPart row sl nb (nI wd) bo fi la (nI c) (nI nb)) (nI nb - nI c) = mChk row sl nb (nI wd) bo tp fi la 0) : Met l yX0_holds wsX0_holds ({ frames := 5, cells := 0, slots := 0, locals := 117 }) (va_Pc [.ref o] (pMU D vwCl (xt k1 k2 k3) (xw o a1 a2 a3 k1 k2 k3 row dv sl nb wd po tp fi la bi bo) sz)) (muI D vwCl (xw o a1 a2 a3 k1 k2 k3 row dv sl nb wd po tp fi la bi bo) (xw o a1 a2 a3 k1 k2 k3 row (mDvN row dv (mTop (nI wd) fi) tp (nb * 8)) sl nb wd po tp fi la bi bo) sz 1) 0 0 (va_A (xw o a1 a2 a3 k1 k2 k3 row dv sl nb wd po tp fi la bi bo) sz) := by
  refine Met.ofW (cc := cX0_holds) (maxL := 4) (ret := (some .boolean)) (by decide) rfl ?_
  intro p e s m args below meth c s₁ B hml hv
  obtain ⟨rfl, hsz, hP, hK, hD0⟩ := hv
  have hsz : s.heap.size = sz := hsz
  have hx := B.exec
  have hb := B.bytes
  have hr := B.returns
  have hts := atoms_spec (ws := wsX0_holds) B.pre
  have hown : s.vm.findClass RX0 = some m.cls := findClass_of_methodNamed B.named
  have hlocks := B.notSynchronized
  subst hsz
  have hD0 := hD0.self (sz := s.heap.size)
  have hA : ∀ q : Nat, s.heap.size ≤ q → va_A (xw o a1 a2 a3 k1 k2 k3 row dv sl nb wd po tp fi la bi bo) s.heap.size q := fun q h => Or.inr h
  unfold muI
  generalize va_A (xw o a1 a2 a3 k1 k2 k3 row dv sl nb wd po tp fi la bi bo) s.heap.size = A at hD0 hA ⊢
  have hD := hD0
  have hS : va_S A s.heap s.heap [] := va_S.rf
  have hl := lv_entry ([.ref o]) (n := 4) (Nat.le_of_ble_eq_true rfl)
  rw [lg_entry_eq]
  generalize (lg_sl ([.ref o]) ++ List.replicate (4 - (lg_sl ([.ref o])).length) Slot.unset).toArray = ls at hl ⊢
  have hl : lv_has ls 4 [(0, .ref o)] := hl
  suffices key : ∀ (H : Heap) (locs : List Loc), va_P D vwCl (xw o a1 a2 a3 k1 k2 k3 row dv sl nb wd po tp fi la bi bo) H → va_S A s.heap H locs → W p l e (headSpec wsX0_holds { frames := 5, cells := 0, slots := 0, locals := 117 }).room s m ([.ref o] : List Value).toArray below meth c H locs 0 0 (MQ below (va_Qi (fun r (_ : Unit) => r = 1) (fun _ t9 => va_P D vwCl (xw o a1 a2 a3 k1 k2 k3 row (mDvN row dv (mTop (nI wd) fi) tp (nb * 8)) sl nb wd po tp fi la bi bo) t9.heap) A) ([.ref o] : List Value).toArray s 0 0 A) (F0 m 0 ls []) from key s.heap [] hP hS
  intro H locs hP hS
  refine lv_aload_n hx hb dX0_holds_0 rfl (lv_at hl 0 rfl) ?_
  refine lv_iconst (v := 0) hx hb dX0_holds_1 (by decide) ?_
  refine ro_l (va_runV (As := [.int 0]) (rest := []) ⟨hx, hb, hml, hown, hts⟩ (c_check (sz := H.size) 0 (hn) (by decide)) (cwV 1 hts gX0_holds_X0_check rfl rfl rfl (by decide +kernel) ⟨Nat.le_of_ble_eq_true rfl, Nat.le_of_ble_eq_true rfl⟩) (preV_RO hP hK 0 (ci := 0) rfl rfl) rfl rfl hl.1 rfl (lv_room (Nat.le_of_ble_eq_true rfl)) dX0_holds_2 ⟨Nat.le_of_ble_eq_true rfl, Nat.le_of_ble_eq_true rfl⟩) hS hA hP (fun H locs hP hS => ?_)
  refine lv_lstore_n (lv' := [(1, .long (mChk row sl nb (nI wd) bo tp fi la 0)), (0, .ref o)]) hx hb dX0_holds_5 rfl hl (by decide) rfl (fun ls hl => ?_)
  refine lv_aload_n hx hb dX0_holds_6 rfl (lv_at hl 1 rfl) ?_
  refine lv_iconst (v := 1) hx hb dX0_holds_7 (by decide) ?_
  refine ro_l (va_runV (As := [.int 1]) (rest := []) ⟨hx, hb, hml, hown, hts⟩ (c_check (sz := H.size) 1 (hn) (by decide)) (cwV 1 hts gX0_holds_X0_check rfl rfl rfl (by decide +kernel) ⟨Nat.le_of_ble_eq_true rfl, Nat.le_of_ble_eq_true rfl⟩) (preV_RO hP hK 0 (ci := 0) rfl rfl) rfl rfl hl.1 rfl (lv_room (Nat.le_of_ble_eq_true rfl)) dX0_holds_8 ⟨Nat.le_of_ble_eq_true rfl, Nat.le_of_ble_eq_true rfl⟩) hS hA hP (fun H locs hP hS => ?_)
  refine lv_lload_n hx hb dX0_holds_11 rfl (lv_at hl 0 rfl) ?_
  refine W.lcmp hx hb dX0_holds_12 ?_
  refine lv_if_ne (tgt := 36) hx hb dX0_holds_13 (by decide) (fun c_13 => ?_) (fun c_13 => ?_)
  ·
    exact absurd ((lg_cmp_eq _ _).mpr h1) c_13
  ·
    refine lv_aload_n hx hb dX0_holds_16 rfl (lv_at hl 1 rfl) ?_
    refine lv_iconst (v := 2) hx hb dX0_holds_17 (by decide) ?_
    refine ro_l (va_runV (As := [.int 2]) (rest := []) ⟨hx, hb, hml, hown, hts⟩ (c_check (sz := H.size) 2 (hn) (by decide)) (cwV 1 hts gX0_holds_X0_check rfl rfl rfl (by decide +kernel) ⟨Nat.le_of_ble_eq_true rfl, Nat.le_of_ble_eq_true rfl⟩) (preV_RO hP hK 0 (ci := 0) rfl rfl) rfl rfl hl.1 rfl (lv_room (Nat.le_of_ble_eq_true rfl)) dX0_holds_18 ⟨Nat.le_of_ble_eq_true rfl, Nat.le_of_ble_eq_true rfl⟩) hS hA hP (fun H locs hP hS => ?_)
    refine lv_lload_n hx hb dX0_holds_21 rfl (lv_at hl 0 rfl) ?_
    refine W.lcmp hx hb dX0_holds_22 ?_
    refine lv_if_ne (tgt := 36) hx hb dX0_holds_23 (by decide) (fun c_23 => ?_) (fun c_23 => ?_)
    ·
      exact absurd ((lg_cmp_eq _ _).mpr h2) c_23
    ·
      refine lv_aload_n hx hb dX0_holds_26 rfl (lv_at hl 1 rfl) ?_
      refine lv_iconst (v := 3) hx hb dX0_holds_27 (by decide) ?_
      refine mu_l (wr := []) (ws := (xw o a1 a2 a3 k1 k2 k3 row dv sl nb wd po tp fi la bi bo)) (ws' := (xw o a1 a2 a3 k1 k2 k3 row (mDvN row dv (mTop (nI wd) fi) tp (nb * 8)) sl nb wd po tp fi la bi bo)) (va_runV (As := [.int 3]) (rest := []) ⟨hx, hb, hml, hown, hts⟩ (c_check3 (sz := H.size) 3 (hn) (rfl)) (cwV 1 hts gX0_holds_X0_check rfl rfl rfl (by decide +kernel) ⟨Nat.le_of_ble_eq_true rfl, Nat.le_of_ble_eq_true rfl⟩) (preV_MU hP hK hD 0 (ci := 0) rfl rfl) rfl rfl hl.1 rfl (lv_room (Nat.le_of_ble_eq_true rfl)) dX0_holds_28 ⟨Nat.le_of_ble_eq_true rfl, Nat.le_of_ble_eq_true rfl⟩) hS hA (by rw [List.append_nil]; exact hP) (by rw [List.append_nil]; exact hD) rfl (fun H locs hP hD hS => ?_)
      rw [List.append_nil] at hP hD
      refine lv_lload_n hx hb dX0_holds_31 rfl (lv_at hl 0 rfl) ?_
      refine W.lcmp hx hb dX0_holds_32 ?_
      refine lv_if_eq (tgt := 38) hx hb dX0_holds_33 (by decide) (fun c_33 => ?_) (fun c_33 => ?_)
      ·
        refine lv_iconst (v := 0) hx hb dX0_holds_38 (by decide) ?_
        refine lv_istore_n (lv' := [(3, .int 0), (1, .long (mChk row sl nb (nI wd) bo tp fi la 0)), (0, .ref o)]) hx hb dX0_holds_39 rfl hl (by decide) rfl (fun ls hl => ?_)
        have lp_40 : ∀ (k i : Nat), i ≤ 11 → 11 < i + k → ∀ (H : Heap) (locs : List Loc), va_P D vwCl (xw o a1 a2 a3 k1 k2 k3 row (mDvN row dv (mTop (nI wd) fi) tp (nb * 8)) sl nb wd po tp fi la bi bo) H → va_S A s.heap H locs → ∀ ls : Array Slot, lv_has ls 4 [(3, .int (nI (7 * i))), (1, .long (mChk row sl nb (nI wd) bo tp fi la 0)), (0, .ref o)] → W p l e (headSpec wsX0_holds { frames := 5, cells := 0, slots := 0, locals := 117 }).room s m ([.ref o] : List Value).toArray below meth c H locs 0 0 (MQ below (va_Qi (fun r (_ : Unit) => r = 1) (fun _ t9 => va_P D vwCl (xw o a1 a2 a3 k1 k2 k3 row (mDvN row dv (mTop (nI wd) fi) tp (nb * 8)) sl nb wd po tp fi la bi bo) t9.heap) A) ([.ref o] : List Value).toArray s 0 0 A) (F0 m 40 ls []) := by
          intro k
          induction k with
          | zero =>
            intro i h1 h2
            exact absurd h2 (by omega)
          | succ k ih =>
            intro i hi hk H locs hP hS ls hl
            have hD : va_D A (xw o a1 a2 a3 k1 k2 k3 row (mDvN row dv (mTop (nI wd) fi) tp (nb * 8)) sl nb wd po tp fi la bi bo) := du_same hD0 rfl
            refine lv_iload_n hx hb dX0_holds_40 rfl (lv_at hl 0 rfl) ?_
            refine lv_bipush (v := 70) hx hb dX0_holds_41 (by decide) ?_
            refine lv_icmp_gt (tgt := 92) hx hb dX0_holds_43 (by decide) (fun c_43 => ?_) (fun c_43 => ?_)
            ·
              refine lv_iconst (v := 1) hx hb dX0_holds_92 (by decide) ?_
              have hPf : va_P D vwCl (xw o a1 a2 a3 k1 k2 k3 row (mDvN row dv (mTop (nI wd) fi) tp (nb * 8)) sl nb wd po tp fi la bi bo) H := by exact hP
              exact W.zret (v := 1) hx hb hr (by decide) (fun t ht hW => ⟨⟨1, (), rfl, rfl, by show va_P _ _ _ t.heap; rw [ht]; exact hPf⟩, hS.F ht⟩) hS.2.2 dX0_holds_93
            ·
              have h43 : 7 * i ≤ 70 := du_le7 hi c_43
              refine lv_iload_n hx hb dX0_holds_46 rfl (lv_at hl 0 rfl) ?_
              refine lv_aload_n hx hb dX0_holds_47 rfl (lv_at hl 2 rfl) ?_
              refine va_get (D := D) (ci := 0) (v := .int (nI nb)) (C := RX0) (T := TX0) (N := 11) hx hb hts in_c_holds hown hK hP 0 rfl rfl 3 (by decide) (hts (.fieldLink RX0 68 "SliceChecks" "bytes" "I") (by decide +kernel)) (fun _ h9 => h9) rfl dX0_holds_48 ?_
              refine lv_icmp_gt (tgt := 92) hx hb dX0_holds_51 (by decide) (fun c_51 => ?_) (fun c_51 => ?_)
              ·
                refine lv_iconst (v := 1) hx hb dX0_holds_92 (by decide) ?_
                have hPf : va_P D vwCl (xw o a1 a2 a3 k1 k2 k3 row (mDvN row dv (mTop (nI wd) fi) tp (nb * 8)) sl nb wd po tp fi la bi bo) H := by exact hP
                exact W.zret (v := 1) hx hb hr (by decide) (fun t ht hW => ⟨⟨1, (), rfl, rfl, by show va_P _ _ _ t.heap; rw [ht]; exact hPf⟩, hS.F ht⟩) hS.2.2 dX0_holds_93
              ·
                have h51 : 7 * i ≤ nb := du_nlt (by omega) (by omega) c_51
                refine lv_aload_n hx hb dX0_holds_54 rfl (lv_at hl 2 rfl) ?_
                refine lv_aload_n hx hb dX0_holds_55 rfl (lv_at hl 2 rfl) ?_
                refine lv_iconst (v := 0) hx hb dX0_holds_56 (by decide) ?_
                refine lv_iload_n hx hb dX0_holds_57 rfl (lv_at hl 0 rfl) ?_
                refine ro_l (va_runV (As := [.int 0, .int (nI (7 * i))]) (rest := [.ref o]) ⟨hx, hb, hml, hown, hts⟩ (c_part (sz := H.size) 0 (nI (7 * i)) (hn)) (cwV 2 hts gX0_holds_X0_part rfl rfl rfl (by decide +kernel) ⟨Nat.le_of_ble_eq_true rfl, Nat.le_of_ble_eq_true rfl⟩) (preV_RO hP hK 0 (ci := 0) rfl rfl) rfl rfl hl.1 rfl (lv_room (Nat.le_of_ble_eq_true rfl)) dX0_holds_58 ⟨Nat.le_of_ble_eq_true rfl, Nat.le_of_ble_eq_true rfl⟩) hS hA hP (fun H locs hP hS => ?_)
                refine lv_aload_n hx hb dX0_holds_61 rfl (lv_at hl 2 rfl) ?_
                refine lv_iload_n hx hb dX0_holds_62 rfl (lv_at hl 0 rfl) ?_
                refine lv_aload_n hx hb dX0_holds_63 rfl (lv_at hl 2 rfl) ?_
                refine va_get (D := D) (ci := 0) (v := .int (nI nb)) (C := RX0) (T := TX0) (N := 11) hx hb hts in_c_holds hown hK hP 0 rfl rfl 3 (by decide) (hts (.fieldLink RX0 68 "SliceChecks" "bytes" "I") (by decide +kernel)) (fun _ h9 => h9) rfl dX0_holds_64 ?_
                refine ro_l (va_runV (As := [.int (nI (7 * i)), .int (nI nb)]) (rest := [.long (mPart row sl nb (nI wd) bo fi la 0 (nI (7 * i))), .ref o]) ⟨hx, hb, hml, hown, hts⟩ (c_part (sz := H.size) (nI (7 * i)) (nI nb) (hn)) (cwV 2 hts gX0_holds_X0_part rfl rfl rfl (by decide +kernel) ⟨Nat.le_of_ble_eq_true rfl, Nat.le_of_ble_eq_true rfl⟩) (preV_RO hP hK 0 (ci := 0) rfl rfl) rfl rfl hl.1 rfl (lv_room (Nat.le_of_ble_eq_true rfl)) dX0_holds_67 ⟨Nat.le_of_ble_eq_true rfl, Nat.le_of_ble_eq_true rfl⟩) hS hA hP (fun H locs hP hS => ?_)
                refine lv_aload_n hx hb dX0_holds_70 rfl (lv_at hl 2 rfl) ?_
                refine va_get (D := D) (ci := 0) (v := .int (nI nb)) (C := RX0) (T := TX0) (N := 11) hx hb hts in_c_holds hown hK hP 0 rfl rfl 3 (by decide) (hts (.fieldLink RX0 68 "SliceChecks" "bytes" "I") (by decide +kernel)) (fun _ h9 => h9) rfl dX0_holds_71 ?_
                refine lv_iload_n hx hb dX0_holds_74 rfl (lv_at hl 0 rfl) ?_
                refine lv_isub hx hb dX0_holds_75 ?_
                refine ro_l (va_runV (As := [.long (mPart row sl nb (nI wd) bo fi la 0 (nI (7 * i))), .long (mPart row sl nb (nI wd) bo fi la (nI (7 * i)) (nI nb)), .int ((nI nb) - (nI (7 * i)))]) (rest := []) ⟨hx, hb, hml, hown, hts⟩ (c_joined (sz := H.size) (mPart row sl nb (nI wd) bo fi la 0 (nI (7 * i))) (mPart row sl nb (nI wd) bo fi la (nI (7 * i)) (nI nb)) ((nI nb) - (nI (7 * i))) (hw)) (cwV 3 hts gX0_holds_X0_joined rfl rfl rfl (by decide +kernel) ⟨Nat.le_of_ble_eq_true rfl, Nat.le_of_ble_eq_true rfl⟩) (preV_RO hP hK 0 (ci := 0) rfl rfl) rfl rfl hl.1 rfl (lv_room (Nat.le_of_ble_eq_true rfl)) dX0_holds_76 ⟨Nat.le_of_ble_eq_true rfl, Nat.le_of_ble_eq_true rfl⟩) hS hA hP (fun H locs hP hS => ?_)
                refine lv_lload_n hx hb dX0_holds_79 rfl (lv_at hl 1 rfl) ?_
                refine W.lcmp hx hb dX0_holds_80 ?_
                refine lv_if_eq (tgt := 86) hx hb dX0_holds_81 (by decide) (fun c_81 => ?_) (fun c_81 => ?_)
                ·
                  refine lv_iinc (v := nI (7 * (i + 1))) (lv' := [(3, .int (nI (7 * (i + 1)))), (1, .long (mChk row sl nb (nI wd) bo tp fi la 0)), (0, .ref o)]) hx hb dX0_holds_86 hl (k := 0) rfl (nI_add (7 * i) 7) (by decide) rfl (fun ls hl => ?_)
                  refine lv_goto (tgt := 40) hx hb dX0_holds_89 (by decide) ?_
                  exact ih (i + 1) (by omega) (by omega) H locs (hP) hS ls (lv_sub hl [0, 1, 2] rfl)
                ·
                  exact absurd ((lg_cmp_eq _ _).mpr (hj (7 * i) h43 h51)) c_81
        exact lp_40 (11 + 1 - 0) 0 (by omega) (by omega) H locs (hP) hS ls (lv_sub hl [0, 1, 2] rfl)
      ·
        exact absurd ((lg_cmp_eq _ _).mpr h3) c_33
end
section
/-! Contracts, laid by wip/whole/gen.py. -/
set_option maxHeartbeats 4000000 in
set_option maxRecDepth 100000 in
theorem r_low {l : Launch} {sz : Nat} (x : Int64) (w : Int32)  : Met l yX1_low wsX1_low ({ frames := 0, cells := 0, slots := 0, locals := 0 }) (va_Pc [.long x, .int w] (pST sz)) (roL sz (rLow x w)) 0 0 (fun q : Nat => sz ≤ q) := by
  refine Met.ofW (cc := cX1_low) (maxL := 3) (ret := (some .long)) (by decide) rfl ?_
  intro p e s m args below meth c s₁ B hml hv
  obtain ⟨rfl, hsz⟩ := hv
  have hsz : s.heap.size = sz := hsz
  have hx := B.exec
  have hb := B.bytes
  have hr := B.returns
  have hts := atoms_spec (ws := wsX1_low) B.pre
  have hown : s.vm.findClass RX1 = some m.cls := findClass_of_methodNamed B.named
  have hlocks := B.notSynchronized
  subst hsz
  have hA : ∀ q : Nat, s.heap.size ≤ q → (fun q : Nat => s.heap.size ≤ q) q := fun _ h => h
  have hS : va_S (fun q : Nat => s.heap.size ≤ q) s.heap s.heap [] := va_S.rf
  have hl := lv_entry ([.long x, .int w]) (n := 3) (Nat.le_of_ble_eq_true rfl)
  rw [lg_entry_eq]
  generalize (lg_sl ([.long x, .int w]) ++ List.replicate (3 - (lg_sl ([.long x, .int w])).length) Slot.unset).toArray = ls at hl ⊢
  have hl : lv_has ls 3 [(0, .long x), (2, .int w)] := hl
  suffices key : ∀ (H : Heap) (locs : List Loc), va_S (fun q : Nat => s.heap.size ≤ q) s.heap H locs → W p l e (headSpec wsX1_low { frames := 0, cells := 0, slots := 0, locals := 0 }).room s m ([.long x, .int w] : List Value).toArray below meth c H locs 0 0 (MQ below (roL s.heap.size (rLow x w)) ([.long x, .int w] : List Value).toArray s 0 0 (fun q : Nat => s.heap.size ≤ q)) (F0 m 0 ls []) from key s.heap [] hS
  intro H locs hS
  refine lv_iload_n hx hb dX1_low_0 rfl (lv_at hl 1 rfl) ?_
  refine lv_bipush (v := 64) hx hb dX1_low_1 (by decide) ?_
  refine lv_icmp_ne (tgt := 10) hx hb dX1_low_3 (by decide) (fun c_3 => ?_) (fun c_3 => ?_)
  ·
    refine lv_lload_n hx hb dX1_low_10 rfl (lv_at hl 0 rfl) ?_
    refine lv_lconst (v := 1) hx hb dX1_low_11 (by decide) ?_
    refine lv_iload_n hx hb dX1_low_12 rfl (lv_at hl 1 rfl) ?_
    refine lv_lshl (v := jshl 1 w) hx hb dX1_low_13 rfl ?_
    refine lv_lconst (v := 1) hx hb dX1_low_14 (by decide) ?_
    refine lv_lsub hx hb dX1_low_15 ?_
    refine lv_land hx hb dX1_low_16 ?_
    exact W.lret (v := (x &&& ((jshl 1 w) - 1))) hx hb hr (fun t ht hW => ⟨⟨(x &&& ((jshl 1 w) - 1)), (), rfl, by first | rw [rLow, if_neg c_3] | rw [rLow, if_pos c_3], trivial⟩, hS.F ht⟩) hS.2.2 dX1_low_17
  ·
    refine lv_lload_n hx hb dX1_low_6 rfl (lv_at hl 0 rfl) ?_
    refine lv_goto (tgt := 17) hx hb dX1_low_7 (by decide) ?_
    exact W.lret (v := x) hx hb hr (fun t ht hW => ⟨⟨x, (), rfl, by first | rw [rLow, if_neg c_3] | rw [rLow, if_pos c_3], trivial⟩, hS.F ht⟩) hS.2.2 dX1_low_17
theorem in_r_cut : ∀ w ∈ wsX10, w ∈ wsX1_cut := fun _ h => List.mem_cons_of_mem _ (List.mem_append_right _ h)
set_option maxHeartbeats 4000000 in
set_option maxRecDepth 100000 in
theorem r_cut {l : Launch} {D : va_G} {q b1 : Nat} {k4 : ClassId} {by8 : Nat → Int32} {wd : Nat} {po : Int64} {fi : Int64} {la : Int64} {bi : Int32} {bo : Int32} {nb : Nat} {sz : Nat} (x : Int64)  : Met l yX1_cut wsX1_cut ({ frames := 1, cells := 0, slots := 0, locals := 22 }) (va_Pc [.ref q, .long x] (pRO D vwCl (mt k4) (mw q b1 k4 by8 wd po fi la bi bo nb) sz)) (roL sz (rLow x (nI wd))) 0 0 (fun q : Nat => sz ≤ q) := by
  refine Met.ofW (cc := cX1_cut) (maxL := 3) (ret := (some .long)) (by decide) rfl ?_
  intro p e s m args below meth c s₁ B hml hv
  obtain ⟨rfl, hsz, hP, hK⟩ := hv
  have hsz : s.heap.size = sz := hsz
  have hx := B.exec
  have hb := B.bytes
  have hr := B.returns
  have hts := atoms_spec (ws := wsX1_cut) B.pre
  have hown : s.vm.findClass RX1 = some m.cls := findClass_of_methodNamed B.named
  have hlocks := B.notSynchronized
  subst hsz
  have hA : ∀ q : Nat, s.heap.size ≤ q → (fun q : Nat => s.heap.size ≤ q) q := fun _ h => h
  have hS : va_S (fun q : Nat => s.heap.size ≤ q) s.heap s.heap [] := va_S.rf
  have hl := lv_entry ([.ref q, .long x]) (n := 3) (Nat.le_of_ble_eq_true rfl)
  rw [lg_entry_eq]
  generalize (lg_sl ([.ref q, .long x]) ++ List.replicate (3 - (lg_sl ([.ref q, .long x])).length) Slot.unset).toArray = ls at hl ⊢
  have hl : lv_has ls 3 [(0, .ref q), (1, .long x)] := hl
  suffices key : ∀ (H : Heap) (locs : List Loc), va_P D vwCl (mw q b1 k4 by8 wd po fi la bi bo nb) H → va_S (fun q : Nat => s.heap.size ≤ q) s.heap H locs → W p l e (headSpec wsX1_cut { frames := 1, cells := 0, slots := 0, locals := 22 }).room s m ([.ref q, .long x] : List Value).toArray below meth c H locs 0 0 (MQ below (roL s.heap.size (rLow x (nI wd))) ([.ref q, .long x] : List Value).toArray s 0 0 (fun q : Nat => s.heap.size ≤ q)) (F0 m 0 ls []) from key s.heap [] hP hS
  intro H locs hP hS
  refine lv_lload_n hx hb dX1_cut_0 rfl (lv_at hl 1 rfl) ?_
  refine lv_aload_n hx hb dX1_cut_1 rfl (lv_at hl 0 rfl) ?_
  refine va_get (D := D) (ci := 1) (v := .int (nI wd)) (C := RX1) (T := TX1) (N := 8) hx hb hts in_r_cut hown hK hP 0 rfl rfl 0 (by decide) (hts (.fieldLink RX1 7 "SliceChecksModel" "width" "I") (by decide +kernel)) (fun _ h9 => h9) rfl dX1_cut_2 ?_
  refine ro_l (va_runS (As := [.long x, .int (nI wd)]) (rest := []) ⟨hx, hb, hml, hown, hts⟩ (r_low (sz := H.size) x (nI wd)) (va_cwS 2 hts gX1_cut_X1_low rfl rfl rfl (by decide +kernel) ⟨Nat.le_of_ble_eq_true rfl, Nat.le_of_ble_eq_true rfl⟩) preS_ST rfl rfl hl.1 rfl (lv_room (Nat.le_of_ble_eq_true rfl)) dX1_cut_5 ⟨Nat.le_of_ble_eq_true rfl, Nat.le_of_ble_eq_true rfl⟩) hS hA hP (fun H locs hP hS => ?_)
  exact W.lret (v := (rLow x (nI wd))) hx hb hr (fun t ht hW => ⟨⟨(rLow x (nI wd)), (), rfl, rfl, trivial⟩, hS.F ht⟩) hS.2.2 dX1_cut_8
theorem in_r_bit : ∀ w ∈ wsX10, w ∈ wsX1_bit := fun _ h => List.mem_cons_of_mem _ (List.mem_append_right _ h)
set_option maxHeartbeats 4000000 in
set_option maxRecDepth 100000 in
theorem r_bit {l : Launch} {D : va_G} {q b1 : Nat} {k4 : ClassId} {by8 : Nat → Int32} {wd : Nat} {po : Int64} {fi : Int64} {la : Int64} {bi : Int32} {bo : Int32} {nb : Nat} {sz : Nat} (x : Int64) (b : Int32)  : Met l yX1_bit wsX1_bit ({ frames := 2, cells := 0, slots := 0, locals := 44 }) (va_Pc [.ref q, .long x, .int b] (pRO D vwCl (mt k4) (mw q b1 k4 by8 wd po fi la bi bo nb) sz)) (roL sz (rBit (nI wd) po x b)) 0 0 (fun q : Nat => sz ≤ q) := by
  refine Met.ofW (cc := cX1_bit) (maxL := 7) (ret := (some .long)) (by decide) rfl ?_
  intro p e s m args below meth c s₁ B hml hv
  obtain ⟨rfl, hsz, hP, hK⟩ := hv
  have hsz : s.heap.size = sz := hsz
  have hx := B.exec
  have hb := B.bytes
  have hr := B.returns
  have hts := atoms_spec (ws := wsX1_bit) B.pre
  have hown : s.vm.findClass RX1 = some m.cls := findClass_of_methodNamed B.named
  have hlocks := B.notSynchronized
  subst hsz
  have hA : ∀ q : Nat, s.heap.size ≤ q → (fun q : Nat => s.heap.size ≤ q) q := fun _ h => h
  have hS : va_S (fun q : Nat => s.heap.size ≤ q) s.heap s.heap [] := va_S.rf
  have hl := lv_entry ([.ref q, .long x, .int b]) (n := 7) (Nat.le_of_ble_eq_true rfl)
  rw [lg_entry_eq]
  generalize (lg_sl ([.ref q, .long x, .int b]) ++ List.replicate (7 - (lg_sl ([.ref q, .long x, .int b])).length) Slot.unset).toArray = ls at hl ⊢
  have hl : lv_has ls 7 [(0, .ref q), (1, .long x), (3, .int b)] := hl
  suffices key : ∀ (H : Heap) (locs : List Loc), va_P D vwCl (mw q b1 k4 by8 wd po fi la bi bo nb) H → va_S (fun q : Nat => s.heap.size ≤ q) s.heap H locs → W p l e (headSpec wsX1_bit { frames := 2, cells := 0, slots := 0, locals := 44 }).room s m ([.ref q, .long x, .int b] : List Value).toArray below meth c H locs 0 0 (MQ below (roL s.heap.size (rBit (nI wd) po x b)) ([.ref q, .long x, .int b] : List Value).toArray s 0 0 (fun q : Nat => s.heap.size ≤ q)) (F0 m 0 ls []) from key s.heap [] hP hS
  intro H locs hP hS
  refine lv_lload_n hx hb dX1_bit_0 rfl (lv_at hl 1 rfl) ?_
  refine lv_aload_n hx hb dX1_bit_1 rfl (lv_at hl 0 rfl) ?_
  refine va_get (D := D) (ci := 1) (v := .int (nI wd)) (C := RX1) (T := TX1) (N := 8) hx hb hts in_r_bit hown hK hP 0 rfl rfl 0 (by decide) (hts (.fieldLink RX1 7 "SliceChecksModel" "width" "I") (by decide +kernel)) (fun _ h9 => h9) rfl dX1_bit_2 ?_
  refine lv_iconst (v := 1) hx hb dX1_bit_5 (by decide) ?_
  refine lv_isub hx hb dX1_bit_6 ?_
  refine lv_lushr (v := jushr x ((nI wd) - 1)) hx hb dX1_bit_7 rfl ?_
  refine lv_lconst (v := 1) hx hb dX1_bit_8 (by decide) ?_
  refine lv_land hx hb dX1_bit_9 ?_
  refine lv_lconst (v := 1) hx hb dX1_bit_10 (by decide) ?_
  refine W.lcmp hx hb dX1_bit_11 ?_
  refine lv_if_ne (tgt := 19) hx hb dX1_bit_12 (by decide) (fun c_12 => ?_) (fun c_12 => ?_)
  ·
    refine lv_iconst (v := 0) hx hb dX1_bit_19 (by decide) ?_
    refine lv_istore (lv' := [(4, .int 0), (0, .ref q), (1, .long x), (3, .int b)]) hx hb dX1_bit_20 hl (by decide) rfl (fun ls hl => ?_)
    refine lv_aload_n hx hb dX1_bit_22 rfl (lv_at hl 1 rfl) ?_
    refine lv_lload_n hx hb dX1_bit_23 rfl (lv_at hl 2 rfl) ?_
    refine lv_iconst (v := 1) hx hb dX1_bit_24 (by decide) ?_
    refine lv_lshl (v := jshl x 1) hx hb dX1_bit_25 rfl ?_
    refine ro_l (va_runV (As := [.long (jshl x 1)]) (rest := []) ⟨hx, hb, hml, hown, hts⟩ (r_cut (sz := H.size) (jshl x 1)) (cwV 1 hts gX1_bit_X1_cut rfl rfl rfl (by decide +kernel) ⟨Nat.le_of_ble_eq_true rfl, Nat.le_of_ble_eq_true rfl⟩) (preV_RO hP hK 0 (ci := 1) rfl rfl) rfl rfl hl.1 rfl (lv_room (Nat.le_of_ble_eq_true rfl)) dX1_bit_26 ⟨Nat.le_of_ble_eq_true rfl, Nat.le_of_ble_eq_true rfl⟩) hS hA hP (fun H locs hP hS => ?_)
    refine lv_lstore (lv' := [(5, .long (rLow (jshl x 1) (nI wd))), (4, .int 0), (0, .ref q), (1, .long x), (3, .int b)]) hx hb dX1_bit_29 hl (by decide) rfl (fun ls hl => ?_)
    refine lv_iload hx hb dX1_bit_31 (lv_at hl 1 rfl) ?_
    refine lv_iload_n hx hb dX1_bit_33 rfl (lv_at hl 4 rfl) ?_
    refine lv_iconst (v := 1) hx hb dX1_bit_34 (by decide) ?_
    refine lv_icmp_ne (tgt := 42) hx hb dX1_bit_35 (by decide) (fun c_35 => ?_) (fun c_35 => ?_)
    ·
      refine lv_iconst (v := 0) hx hb dX1_bit_42 (by decide) ?_
      refine lv_icmp_eq (tgt := 56) hx hb dX1_bit_43 (by decide) (fun c_43 => ?_) (fun c_43 => ?_)
      ·
        refine lv_lload hx hb dX1_bit_56 (lv_at hl 0 rfl) ?_
        exact W.lret (v := (rLow (jshl x 1) (nI wd))) hx hb hr (fun t ht hW => ⟨⟨(rLow (jshl x 1) (nI wd)), (), rfl, by first | exact absurd c_43 (by decide) | exact absurd rfl c_43 | (rw [rBit]; simp [c_12, c_35]), trivial⟩, hS.F ht⟩) hS.2.2 dX1_bit_58
      ·
        refine lv_lload hx hb dX1_bit_46 (lv_at hl 0 rfl) ?_
        refine lv_aload_n hx hb dX1_bit_48 rfl (lv_at hl 2 rfl) ?_
        refine va_get (D := D) (ci := 1) (v := .long po) (C := RX1) (T := TX1) (N := 8) hx hb hts in_r_bit hown hK hP 0 rfl rfl 1 (by decide) (hts (.fieldLink RX1 15 "SliceChecksModel" "polynomial" "J") (by decide +kernel)) (fun _ h9 => h9) rfl dX1_bit_49 ?_
        refine lv_lxor hx hb dX1_bit_52 ?_
        refine lv_goto (tgt := 58) hx hb dX1_bit_53 (by decide) ?_
        exact W.lret (v := ((rLow (jshl x 1) (nI wd)) ^^^ po)) hx hb hr (fun t ht hW => ⟨⟨((rLow (jshl x 1) (nI wd)) ^^^ po), (), rfl, by first | exact absurd c_43 (by decide) | exact absurd rfl c_43 | (rw [rBit]; simp [c_12, c_35]), trivial⟩, hS.F ht⟩) hS.2.2 dX1_bit_58
    ·
      refine lv_iconst (v := 1) hx hb dX1_bit_38 (by decide) ?_
      refine lv_goto (tgt := 43) hx hb dX1_bit_39 (by decide) ?_
      refine lv_icmp_eq (tgt := 56) hx hb dX1_bit_43 (by decide) (fun c_43 => ?_) (fun c_43 => ?_)
      ·
        refine lv_lload hx hb dX1_bit_56 (lv_at hl 0 rfl) ?_
        exact W.lret (v := (rLow (jshl x 1) (nI wd))) hx hb hr (fun t ht hW => ⟨⟨(rLow (jshl x 1) (nI wd)), (), rfl, by first | exact absurd c_43 (by decide) | exact absurd rfl c_43 | (rw [rBit]; simp [c_12, c_35]), trivial⟩, hS.F ht⟩) hS.2.2 dX1_bit_58
      ·
        refine lv_lload hx hb dX1_bit_46 (lv_at hl 0 rfl) ?_
        refine lv_aload_n hx hb dX1_bit_48 rfl (lv_at hl 2 rfl) ?_
        refine va_get (D := D) (ci := 1) (v := .long po) (C := RX1) (T := TX1) (N := 8) hx hb hts in_r_bit hown hK hP 0 rfl rfl 1 (by decide) (hts (.fieldLink RX1 15 "SliceChecksModel" "polynomial" "J") (by decide +kernel)) (fun _ h9 => h9) rfl dX1_bit_49 ?_
        refine lv_lxor hx hb dX1_bit_52 ?_
        refine lv_goto (tgt := 58) hx hb dX1_bit_53 (by decide) ?_
        exact W.lret (v := ((rLow (jshl x 1) (nI wd)) ^^^ po)) hx hb hr (fun t ht hW => ⟨⟨((rLow (jshl x 1) (nI wd)) ^^^ po), (), rfl, by first | exact absurd c_43 (by decide) | exact absurd rfl c_43 | (rw [rBit]; simp [c_12, c_35]), trivial⟩, hS.F ht⟩) hS.2.2 dX1_bit_58
  ·
    refine lv_iconst (v := 1) hx hb dX1_bit_15 (by decide) ?_
    refine lv_goto (tgt := 20) hx hb dX1_bit_16 (by decide) ?_
    refine lv_istore (lv' := [(4, .int 1), (0, .ref q), (1, .long x), (3, .int b)]) hx hb dX1_bit_20 hl (by decide) rfl (fun ls hl => ?_)
    refine lv_aload_n hx hb dX1_bit_22 rfl (lv_at hl 1 rfl) ?_
    refine lv_lload_n hx hb dX1_bit_23 rfl (lv_at hl 2 rfl) ?_
    refine lv_iconst (v := 1) hx hb dX1_bit_24 (by decide) ?_
    refine lv_lshl (v := jshl x 1) hx hb dX1_bit_25 rfl ?_
    refine ro_l (va_runV (As := [.long (jshl x 1)]) (rest := []) ⟨hx, hb, hml, hown, hts⟩ (r_cut (sz := H.size) (jshl x 1)) (cwV 1 hts gX1_bit_X1_cut rfl rfl rfl (by decide +kernel) ⟨Nat.le_of_ble_eq_true rfl, Nat.le_of_ble_eq_true rfl⟩) (preV_RO hP hK 0 (ci := 1) rfl rfl) rfl rfl hl.1 rfl (lv_room (Nat.le_of_ble_eq_true rfl)) dX1_bit_26 ⟨Nat.le_of_ble_eq_true rfl, Nat.le_of_ble_eq_true rfl⟩) hS hA hP (fun H locs hP hS => ?_)
    refine lv_lstore (lv' := [(5, .long (rLow (jshl x 1) (nI wd))), (4, .int 1), (0, .ref q), (1, .long x), (3, .int b)]) hx hb dX1_bit_29 hl (by decide) rfl (fun ls hl => ?_)
    refine lv_iload hx hb dX1_bit_31 (lv_at hl 1 rfl) ?_
    refine lv_iload_n hx hb dX1_bit_33 rfl (lv_at hl 4 rfl) ?_
    refine lv_iconst (v := 1) hx hb dX1_bit_34 (by decide) ?_
    refine lv_icmp_ne (tgt := 42) hx hb dX1_bit_35 (by decide) (fun c_35 => ?_) (fun c_35 => ?_)
    ·
      refine lv_iconst (v := 0) hx hb dX1_bit_42 (by decide) ?_
      refine lv_icmp_eq (tgt := 56) hx hb dX1_bit_43 (by decide) (fun c_43 => ?_) (fun c_43 => ?_)
      ·
        refine lv_lload hx hb dX1_bit_56 (lv_at hl 0 rfl) ?_
        exact W.lret (v := (rLow (jshl x 1) (nI wd))) hx hb hr (fun t ht hW => ⟨⟨(rLow (jshl x 1) (nI wd)), (), rfl, by first | exact absurd c_43 (by decide) | exact absurd rfl c_43 | (rw [rBit]; simp [c_12, c_35]), trivial⟩, hS.F ht⟩) hS.2.2 dX1_bit_58
      ·
        refine lv_lload hx hb dX1_bit_46 (lv_at hl 0 rfl) ?_
        refine lv_aload_n hx hb dX1_bit_48 rfl (lv_at hl 2 rfl) ?_
        refine va_get (D := D) (ci := 1) (v := .long po) (C := RX1) (T := TX1) (N := 8) hx hb hts in_r_bit hown hK hP 0 rfl rfl 1 (by decide) (hts (.fieldLink RX1 15 "SliceChecksModel" "polynomial" "J") (by decide +kernel)) (fun _ h9 => h9) rfl dX1_bit_49 ?_
        refine lv_lxor hx hb dX1_bit_52 ?_
        refine lv_goto (tgt := 58) hx hb dX1_bit_53 (by decide) ?_
        exact W.lret (v := ((rLow (jshl x 1) (nI wd)) ^^^ po)) hx hb hr (fun t ht hW => ⟨⟨((rLow (jshl x 1) (nI wd)) ^^^ po), (), rfl, by first | exact absurd c_43 (by decide) | exact absurd rfl c_43 | (rw [rBit]; simp [c_12, c_35]), trivial⟩, hS.F ht⟩) hS.2.2 dX1_bit_58
    ·
      refine lv_iconst (v := 1) hx hb dX1_bit_38 (by decide) ?_
      refine lv_goto (tgt := 43) hx hb dX1_bit_39 (by decide) ?_
      refine lv_icmp_eq (tgt := 56) hx hb dX1_bit_43 (by decide) (fun c_43 => ?_) (fun c_43 => ?_)
      ·
        refine lv_lload hx hb dX1_bit_56 (lv_at hl 0 rfl) ?_
        exact W.lret (v := (rLow (jshl x 1) (nI wd))) hx hb hr (fun t ht hW => ⟨⟨(rLow (jshl x 1) (nI wd)), (), rfl, by first | exact absurd c_43 (by decide) | exact absurd rfl c_43 | (rw [rBit]; simp [c_12, c_35]), trivial⟩, hS.F ht⟩) hS.2.2 dX1_bit_58
      ·
        refine lv_lload hx hb dX1_bit_46 (lv_at hl 0 rfl) ?_
        refine lv_aload_n hx hb dX1_bit_48 rfl (lv_at hl 2 rfl) ?_
        refine va_get (D := D) (ci := 1) (v := .long po) (C := RX1) (T := TX1) (N := 8) hx hb hts in_r_bit hown hK hP 0 rfl rfl 1 (by decide) (hts (.fieldLink RX1 15 "SliceChecksModel" "polynomial" "J") (by decide +kernel)) (fun _ h9 => h9) rfl dX1_bit_49 ?_
        refine lv_lxor hx hb dX1_bit_52 ?_
        refine lv_goto (tgt := 58) hx hb dX1_bit_53 (by decide) ?_
        exact W.lret (v := ((rLow (jshl x 1) (nI wd)) ^^^ po)) hx hb hr (fun t ht hW => ⟨⟨((rLow (jshl x 1) (nI wd)) ^^^ po), (), rfl, by first | exact absurd c_43 (by decide) | exact absurd rfl c_43 | (rw [rBit]; simp [c_12, c_35]), trivial⟩, hS.F ht⟩) hS.2.2 dX1_bit_58
theorem in_r_oneByte : ∀ w ∈ wsX10, w ∈ wsX1_oneByte := fun _ h => List.mem_cons_of_mem _ (List.mem_append_right _ h)
set_option maxHeartbeats 4000000 in
set_option maxRecDepth 100000 in
theorem r_oneByte {l : Launch} {D : va_G} {q b1 : Nat} {k4 : ClassId} {by8 : Nat → Int32} {wd : Nat} {po : Int64} {fi : Int64} {la : Int64} {bi : Int32} {bo : Int32} {nb : Nat} {sz : Nat} (x : Int64) (b : Int32)  : Met l yX1_oneByte wsX1_oneByte ({ frames := 3, cells := 0, slots := 0, locals := 70 }) (va_Pc [.ref q, .long x, .int b] (pRO D vwCl (mt k4) (mw q b1 k4 by8 wd po fi la bi bo nb) sz)) (roL sz (rByN (nI wd) po bi b x 8)) 0 0 (fun q : Nat => sz ≤ q) := by
  refine Met.ofW (cc := cX1_oneByte) (maxL := 7) (ret := (some .long)) (by decide) rfl ?_
  intro p e s m args below meth c s₁ B hml hv
  obtain ⟨rfl, hsz, hP, hK⟩ := hv
  have hsz : s.heap.size = sz := hsz
  have hx := B.exec
  have hb := B.bytes
  have hr := B.returns
  have hts := atoms_spec (ws := wsX1_oneByte) B.pre
  have hown : s.vm.findClass RX1 = some m.cls := findClass_of_methodNamed B.named
  have hlocks := B.notSynchronized
  subst hsz
  have hA : ∀ q : Nat, s.heap.size ≤ q → (fun q : Nat => s.heap.size ≤ q) q := fun _ h => h
  have hS : va_S (fun q : Nat => s.heap.size ≤ q) s.heap s.heap [] := va_S.rf
  have hl := lv_entry ([.ref q, .long x, .int b]) (n := 7) (Nat.le_of_ble_eq_true rfl)
  rw [lg_entry_eq]
  generalize (lg_sl ([.ref q, .long x, .int b]) ++ List.replicate (7 - (lg_sl ([.ref q, .long x, .int b])).length) Slot.unset).toArray = ls at hl ⊢
  have hl : lv_has ls 7 [(0, .ref q), (1, .long x), (3, .int b)] := hl
  suffices key : ∀ (H : Heap) (locs : List Loc), va_P D vwCl (mw q b1 k4 by8 wd po fi la bi bo nb) H → va_S (fun q : Nat => s.heap.size ≤ q) s.heap H locs → W p l e (headSpec wsX1_oneByte { frames := 3, cells := 0, slots := 0, locals := 70 }).room s m ([.ref q, .long x, .int b] : List Value).toArray below meth c H locs 0 0 (MQ below (roL s.heap.size (rByN (nI wd) po bi b x 8)) ([.ref q, .long x, .int b] : List Value).toArray s 0 0 (fun q : Nat => s.heap.size ≤ q)) (F0 m 0 ls []) from key s.heap [] hP hS
  intro H locs hP hS
  refine lv_lload_n hx hb dX1_oneByte_0 rfl (lv_at hl 1 rfl) ?_
  refine lv_lstore (lv' := [(4, .long x), (0, .ref q), (1, .long x), (3, .int b)]) hx hb dX1_oneByte_1 hl (by decide) rfl (fun ls hl => ?_)
  refine lv_iconst (v := 0) hx hb dX1_oneByte_3 (by decide) ?_
  refine lv_istore (lv' := [(6, .int 0), (4, .long x), (0, .ref q), (1, .long x), (3, .int b)]) hx hb dX1_oneByte_4 hl (by decide) rfl (fun ls hl => ?_)
  have lp_6 : ∀ (k i : Nat), i ≤ 8 → 8 < i + k → ∀ (H : Heap) (locs : List Loc), va_P D vwCl (mw q b1 k4 by8 wd po fi la bi bo nb) H → va_S (fun q : Nat => s.heap.size ≤ q) s.heap H locs → ∀ ls : Array Slot, lv_has ls 7 [(6, .int (nI i)), (4, .long (rByN (nI wd) po bi b x i)), (0, .ref q), (1, .long x), (3, .int b)] → W p l e (headSpec wsX1_oneByte { frames := 3, cells := 0, slots := 0, locals := 70 }).room s m ([.ref q, .long x, .int b] : List Value).toArray below meth c H locs 0 0 (MQ below (roL s.heap.size (rByN (nI wd) po bi b x 8)) ([.ref q, .long x, .int b] : List Value).toArray s 0 0 (fun q : Nat => s.heap.size ≤ q)) (F0 m 6 ls []) := by
    intro k
    induction k with
    | zero =>
      intro i h1 h2
      exact absurd h2 (by omega)
    | succ k ih =>
      intro i hi hk H locs hP hS ls hl
      refine lv_iload hx hb dX1_oneByte_6 (lv_at hl 0 rfl) ?_
      refine lv_bipush (v := 8) hx hb dX1_oneByte_8 (by decide) ?_
      refine lv_icmp_ge (tgt := 52) hx hb dX1_oneByte_10 (by decide) (fun c_10 => ?_) (fun c_10 => ?_)
      ·
        have hiN := du_ge (N := 8) (by omega) hi c_10
        refine lv_lload hx hb dX1_oneByte_52 (lv_at hl 1 rfl) ?_
        exact W.lret (v := (rByN (nI wd) po bi b x i)) hx hb hr (fun t ht hW => ⟨⟨(rByN (nI wd) po bi b x i), (), rfl, by subst hiN; rfl, trivial⟩, hS.F ht⟩) hS.2.2 dX1_oneByte_54
      ·
        have hlt := du_lt (N := 8) (by omega) hi c_10
        refine lv_aload_n hx hb dX1_oneByte_13 rfl (lv_at hl 2 rfl) ?_
        refine lv_lload hx hb dX1_oneByte_14 (lv_at hl 1 rfl) ?_
        refine lv_aload_n hx hb dX1_oneByte_16 rfl (lv_at hl 2 rfl) ?_
        refine va_get (D := D) (ci := 1) (v := .int bi) (C := RX1) (T := TX1) (N := 8) hx hb hts in_r_oneByte hown hK hP 0 rfl rfl 4 (by decide) (hts (.fieldLink RX1 27 "SliceChecksModel" "in" "Z") (by decide +kernel)) (fun _ h9 => h9) rfl dX1_oneByte_17 ?_
        refine lv_if_eq (tgt := 32) hx hb dX1_oneByte_20 (by decide) (fun c_20 => ?_) (fun c_20 => ?_)
        ·
          refine lv_iload_n hx hb dX1_oneByte_32 rfl (lv_at hl 4 rfl) ?_
          refine lv_bipush (v := 7) hx hb dX1_oneByte_33 (by decide) ?_
          refine lv_iload hx hb dX1_oneByte_35 (lv_at hl 0 rfl) ?_
          refine lv_isub hx hb dX1_oneByte_37 ?_
          refine lv_ishr hx hb dX1_oneByte_38 ?_
          refine lv_iconst (v := 1) hx hb dX1_oneByte_39 (by decide) ?_
          refine lv_iand hx hb dX1_oneByte_40 ?_
          refine ro_l (va_runV (As := [.long (rByN (nI wd) po bi b x i), .int ((b >>> ((7 - (nI i)) &&& 31)) &&& 1)]) (rest := []) ⟨hx, hb, hml, hown, hts⟩ (r_bit (sz := H.size) (rByN (nI wd) po bi b x i) ((b >>> ((7 - (nI i)) &&& 31)) &&& 1)) (cwV 2 hts gX1_oneByte_X1_bit rfl rfl rfl (by decide +kernel) ⟨Nat.le_of_ble_eq_true rfl, Nat.le_of_ble_eq_true rfl⟩) (preV_RO hP hK 0 (ci := 1) rfl rfl) rfl rfl hl.1 rfl (lv_room (Nat.le_of_ble_eq_true rfl)) dX1_oneByte_41 ⟨Nat.le_of_ble_eq_true rfl, Nat.le_of_ble_eq_true rfl⟩) hS hA hP (fun H locs hP hS => ?_)
          refine du_rwl (y := rByN (nI wd) po bi b x (i + 1)) (by first | rw [rByN, if_pos c_20] | rw [rByN, if_neg c_20]) ?_
          refine lv_lstore (lv' := [(4, .long (rByN (nI wd) po bi b x (i + 1))), (6, .int (nI i)), (0, .ref q), (1, .long x), (3, .int b)]) hx hb dX1_oneByte_44 hl (by decide) rfl (fun ls hl => ?_)
          refine lv_iinc (v := nI (i + 1)) (lv' := [(6, .int (nI (i + 1))), (4, .long (rByN (nI wd) po bi b x (i + 1))), (0, .ref q), (1, .long x), (3, .int b)]) hx hb dX1_oneByte_46 hl (k := 1) rfl (nI_1 i) (by decide) rfl (fun ls hl => ?_)
          refine lv_goto (tgt := 6) hx hb dX1_oneByte_49 (by decide) ?_
          exact ih (i + 1) (by omega) (by omega) H locs (hP) hS ls (lv_sub hl [0, 1, 2, 3, 4] rfl)
        ·
          refine lv_iload_n hx hb dX1_oneByte_23 rfl (lv_at hl 4 rfl) ?_
          refine lv_iload hx hb dX1_oneByte_24 (lv_at hl 0 rfl) ?_
          refine lv_ishr hx hb dX1_oneByte_26 ?_
          refine lv_iconst (v := 1) hx hb dX1_oneByte_27 (by decide) ?_
          refine lv_iand hx hb dX1_oneByte_28 ?_
          refine lv_goto (tgt := 41) hx hb dX1_oneByte_29 (by decide) ?_
          refine ro_l (va_runV (As := [.long (rByN (nI wd) po bi b x i), .int ((b >>> ((nI i) &&& 31)) &&& 1)]) (rest := []) ⟨hx, hb, hml, hown, hts⟩ (r_bit (sz := H.size) (rByN (nI wd) po bi b x i) ((b >>> ((nI i) &&& 31)) &&& 1)) (cwV 2 hts gX1_oneByte_X1_bit rfl rfl rfl (by decide +kernel) ⟨Nat.le_of_ble_eq_true rfl, Nat.le_of_ble_eq_true rfl⟩) (preV_RO hP hK 0 (ci := 1) rfl rfl) rfl rfl hl.1 rfl (lv_room (Nat.le_of_ble_eq_true rfl)) dX1_oneByte_41 ⟨Nat.le_of_ble_eq_true rfl, Nat.le_of_ble_eq_true rfl⟩) hS hA hP (fun H locs hP hS => ?_)
          refine du_rwl (y := rByN (nI wd) po bi b x (i + 1)) (by first | rw [rByN, if_pos c_20] | rw [rByN, if_neg c_20]) ?_
          refine lv_lstore (lv' := [(4, .long (rByN (nI wd) po bi b x (i + 1))), (6, .int (nI i)), (0, .ref q), (1, .long x), (3, .int b)]) hx hb dX1_oneByte_44 hl (by decide) rfl (fun ls hl => ?_)
          refine lv_iinc (v := nI (i + 1)) (lv' := [(6, .int (nI (i + 1))), (4, .long (rByN (nI wd) po bi b x (i + 1))), (0, .ref q), (1, .long x), (3, .int b)]) hx hb dX1_oneByte_46 hl (k := 1) rfl (nI_1 i) (by decide) rfl (fun ls hl => ?_)
          refine lv_goto (tgt := 6) hx hb dX1_oneByte_49 (by decide) ?_
          exact ih (i + 1) (by omega) (by omega) H locs (hP) hS ls (lv_sub hl [0, 1, 2, 3, 4] rfl)
  exact lp_6 (8 + 1 - 0) 0 (by omega) (by omega) H locs (hP) hS ls (lv_sub hl [0, 1, 2, 3, 4] rfl)
theorem in_r_turned : ∀ w ∈ wsX10, w ∈ wsX1_turned := fun _ h => List.mem_cons_of_mem _ (List.mem_append_right _ h)
set_option maxHeartbeats 4000000 in
set_option maxRecDepth 100000 in
theorem r_turned {l : Launch} {D : va_G} {q b1 : Nat} {k4 : ClassId} {by8 : Nat → Int32} {wd : Nat} {po : Int64} {fi : Int64} {la : Int64} {bi : Int32} {bo : Int32} {nb : Nat} {sz : Nat} (x : Int64) (hw : wd ≤ 64) : Met l yX1_turned wsX1_turned ({ frames := 0, cells := 0, slots := 0, locals := 0 }) (va_Pc [.ref q, .long x] (pRO D vwCl (mt k4) (mw q b1 k4 by8 wd po fi la bi bo nb) sz)) (roL sz (mTuN x wd)) 0 0 (fun q : Nat => sz ≤ q) := by
  refine Met.ofW (cc := cX1_turned) (maxL := 6) (ret := (some .long)) (by decide) rfl ?_
  intro p e s m args below meth c s₁ B hml hv
  obtain ⟨rfl, hsz, hP, hK⟩ := hv
  have hsz : s.heap.size = sz := hsz
  have hx := B.exec
  have hb := B.bytes
  have hr := B.returns
  have hts := atoms_spec (ws := wsX1_turned) B.pre
  have hown : s.vm.findClass RX1 = some m.cls := findClass_of_methodNamed B.named
  have hlocks := B.notSynchronized
  subst hsz
  have hA : ∀ q : Nat, s.heap.size ≤ q → (fun q : Nat => s.heap.size ≤ q) q := fun _ h => h
  have hS : va_S (fun q : Nat => s.heap.size ≤ q) s.heap s.heap [] := va_S.rf
  have hl := lv_entry ([.ref q, .long x]) (n := 6) (Nat.le_of_ble_eq_true rfl)
  rw [lg_entry_eq]
  generalize (lg_sl ([.ref q, .long x]) ++ List.replicate (6 - (lg_sl ([.ref q, .long x])).length) Slot.unset).toArray = ls at hl ⊢
  have hl : lv_has ls 6 [(0, .ref q), (1, .long x)] := hl
  suffices key : ∀ (H : Heap) (locs : List Loc), va_P D vwCl (mw q b1 k4 by8 wd po fi la bi bo nb) H → va_S (fun q : Nat => s.heap.size ≤ q) s.heap H locs → W p l e (headSpec wsX1_turned { frames := 0, cells := 0, slots := 0, locals := 0 }).room s m ([.ref q, .long x] : List Value).toArray below meth c H locs 0 0 (MQ below (roL s.heap.size (mTuN x wd)) ([.ref q, .long x] : List Value).toArray s 0 0 (fun q : Nat => s.heap.size ≤ q)) (F0 m 0 ls []) from key s.heap [] hP hS
  intro H locs hP hS
  refine lv_lconst (v := 0) hx hb dX1_turned_0 (by decide) ?_
  refine lv_lstore_n (lv' := [(3, .long 0), (0, .ref q), (1, .long x)]) hx hb dX1_turned_1 rfl hl (by decide) rfl (fun ls hl => ?_)
  refine lv_iconst (v := 0) hx hb dX1_turned_2 (by decide) ?_
  refine lv_istore (lv' := [(5, .int 0), (3, .long 0), (0, .ref q), (1, .long x)]) hx hb dX1_turned_3 hl (by decide) rfl (fun ls hl => ?_)
  have lp_5 : ∀ (k i : Nat), i ≤ wd → wd < i + k → ∀ (H : Heap) (locs : List Loc), va_P D vwCl (mw q b1 k4 by8 wd po fi la bi bo nb) H → va_S (fun q : Nat => s.heap.size ≤ q) s.heap H locs → ∀ ls : Array Slot, lv_has ls 6 [(5, .int (nI i)), (3, .long (mTuN x i)), (0, .ref q), (1, .long x)] → W p l e (headSpec wsX1_turned { frames := 0, cells := 0, slots := 0, locals := 0 }).room s m ([.ref q, .long x] : List Value).toArray below meth c H locs 0 0 (MQ below (roL s.heap.size (mTuN x wd)) ([.ref q, .long x] : List Value).toArray s 0 0 (fun q : Nat => s.heap.size ≤ q)) (F0 m 5 ls []) := by
    intro k
    induction k with
    | zero =>
      intro i h1 h2
      exact absurd h2 (by omega)
    | succ k ih =>
      intro i hi hk H locs hP hS ls hl
      refine lv_iload hx hb dX1_turned_5 (lv_at hl 0 rfl) ?_
      refine lv_aload_n hx hb dX1_turned_7 rfl (lv_at hl 2 rfl) ?_
      refine va_get (D := D) (ci := 1) (v := .int (nI wd)) (C := RX1) (T := TX1) (N := 8) hx hb hts in_r_turned hown hK hP 0 rfl rfl 0 (by decide) (hts (.fieldLink RX1 7 "SliceChecksModel" "width" "I") (by decide +kernel)) (fun _ h9 => h9) rfl dX1_turned_8 ?_
      refine lv_icmp_ge (tgt := 31) hx hb dX1_turned_11 (by decide) (fun c_11 => ?_) (fun c_11 => ?_)
      ·
        have hiN := du_ge (by omega) hi c_11
        refine lv_lload_n hx hb dX1_turned_31 rfl (lv_at hl 1 rfl) ?_
        exact W.lret (v := (mTuN x i)) hx hb hr (fun t ht hW => ⟨⟨(mTuN x i), (), rfl, by subst hiN; rfl, trivial⟩, hS.F ht⟩) hS.2.2 dX1_turned_32
      ·
        have hlt := du_lt (by omega) hi c_11
        refine lv_lload_n hx hb dX1_turned_14 rfl (lv_at hl 1 rfl) ?_
        refine lv_iconst (v := 1) hx hb dX1_turned_15 (by decide) ?_
        refine lv_lshl (v := jshl (mTuN x i) 1) hx hb dX1_turned_16 rfl ?_
        refine lv_lload_n hx hb dX1_turned_17 rfl (lv_at hl 3 rfl) ?_
        refine lv_iload hx hb dX1_turned_18 (lv_at hl 0 rfl) ?_
        refine lv_lushr (v := jushr x (nI i)) hx hb dX1_turned_20 rfl ?_
        refine lv_lconst (v := 1) hx hb dX1_turned_21 (by decide) ?_
        refine lv_land hx hb dX1_turned_22 ?_
        refine lv_lor hx hb dX1_turned_23 ?_
        refine du_rwl (y := mTuN x (i + 1)) (rfl) ?_
        refine lv_lstore_n (lv' := [(3, .long (mTuN x (i + 1))), (5, .int (nI i)), (0, .ref q), (1, .long x)]) hx hb dX1_turned_24 rfl hl (by decide) rfl (fun ls hl => ?_)
        refine lv_iinc (v := nI (i + 1)) (lv' := [(5, .int (nI (i + 1))), (3, .long (mTuN x (i + 1))), (0, .ref q), (1, .long x)]) hx hb dX1_turned_25 hl (k := 1) rfl (nI_1 i) (by decide) rfl (fun ls hl => ?_)
        refine lv_goto (tgt := 5) hx hb dX1_turned_28 (by decide) ?_
        exact ih (i + 1) (by omega) (by omega) H locs (hP) hS ls (lv_sub hl [0, 1, 2, 3] rfl)
  exact lp_5 (wd + 1 - 0) 0 (by omega) (by omega) H locs (hP) hS ls (lv_sub hl [0, 1, 2, 3] rfl)
theorem in_r_told : ∀ w ∈ wsX10, w ∈ wsX1_told := fun _ h => List.mem_cons_of_mem _ (List.mem_append_right _ h)
set_option maxHeartbeats 4000000 in
set_option maxRecDepth 100000 in
theorem r_told {l : Launch} {D : va_G} {q b1 : Nat} {k4 : ClassId} {by8 : Nat → Int32} {wd : Nat} {po : Int64} {fi : Int64} {la : Int64} {bi : Int32} {bo : Int32} {nb : Nat} {sz : Nat} (x : Int64) (hw : wd ≤ 64) : Met l yX1_told wsX1_told ({ frames := 1, cells := 0, slots := 0, locals := 25 }) (va_Pc [.ref q, .long x] (pRO D vwCl (mt k4) (mw q b1 k4 by8 wd po fi la bi bo nb) sz)) (roL sz (rTold bo la wd x)) 0 0 (fun q : Nat => sz ≤ q) := by
  refine Met.ofW (cc := cX1_told) (maxL := 3) (ret := (some .long)) (by decide) rfl ?_
  intro p e s m args below meth c s₁ B hml hv
  obtain ⟨rfl, hsz, hP, hK⟩ := hv
  have hsz : s.heap.size = sz := hsz
  have hx := B.exec
  have hb := B.bytes
  have hr := B.returns
  have hts := atoms_spec (ws := wsX1_told) B.pre
  have hown : s.vm.findClass RX1 = some m.cls := findClass_of_methodNamed B.named
  have hlocks := B.notSynchronized
  subst hsz
  have hA : ∀ q : Nat, s.heap.size ≤ q → (fun q : Nat => s.heap.size ≤ q) q := fun _ h => h
  have hS : va_S (fun q : Nat => s.heap.size ≤ q) s.heap s.heap [] := va_S.rf
  have hl := lv_entry ([.ref q, .long x]) (n := 3) (Nat.le_of_ble_eq_true rfl)
  rw [lg_entry_eq]
  generalize (lg_sl ([.ref q, .long x]) ++ List.replicate (3 - (lg_sl ([.ref q, .long x])).length) Slot.unset).toArray = ls at hl ⊢
  have hl : lv_has ls 3 [(0, .ref q), (1, .long x)] := hl
  suffices key : ∀ (H : Heap) (locs : List Loc), va_P D vwCl (mw q b1 k4 by8 wd po fi la bi bo nb) H → va_S (fun q : Nat => s.heap.size ≤ q) s.heap H locs → W p l e (headSpec wsX1_told { frames := 1, cells := 0, slots := 0, locals := 25 }).room s m ([.ref q, .long x] : List Value).toArray below meth c H locs 0 0 (MQ below (roL s.heap.size (rTold bo la wd x)) ([.ref q, .long x] : List Value).toArray s 0 0 (fun q : Nat => s.heap.size ≤ q)) (F0 m 0 ls []) from key s.heap [] hP hS
  intro H locs hP hS
  refine lv_aload_n hx hb dX1_told_0 rfl (lv_at hl 0 rfl) ?_
  refine va_get (D := D) (ci := 1) (v := .int bo) (C := RX1) (T := TX1) (N := 8) hx hb hts in_r_told hown hK hP 0 rfl rfl 5 (by decide) (hts (.fieldLink RX1 31 "SliceChecksModel" "out" "Z") (by decide +kernel)) (fun _ h9 => h9) rfl dX1_told_1 ?_
  refine lv_if_eq (tgt := 15) hx hb dX1_told_4 (by decide) (fun c_4 => ?_) (fun c_4 => ?_)
  ·
    refine lv_lload_n hx hb dX1_told_15 rfl (lv_at hl 1 rfl) ?_
    refine lv_aload_n hx hb dX1_told_16 rfl (lv_at hl 0 rfl) ?_
    refine va_get (D := D) (ci := 1) (v := .long la) (C := RX1) (T := TX1) (N := 8) hx hb hts in_r_told hown hK hP 0 rfl rfl 3 (by decide) (hts (.fieldLink RX1 24 "SliceChecksModel" "last" "J") (by decide +kernel)) (fun _ h9 => h9) rfl dX1_told_17 ?_
    refine lv_lxor hx hb dX1_told_20 ?_
    exact W.lret (v := (x ^^^ la)) hx hb hr (fun t ht hW => ⟨⟨(x ^^^ la), (), rfl, by first | rw [rTold, if_pos c_4] | rw [rTold, if_neg c_4], trivial⟩, hS.F ht⟩) hS.2.2 dX1_told_21
  ·
    refine lv_aload_n hx hb dX1_told_7 rfl (lv_at hl 0 rfl) ?_
    refine lv_lload_n hx hb dX1_told_8 rfl (lv_at hl 1 rfl) ?_
    refine ro_l (va_runV (As := [.long x]) (rest := []) ⟨hx, hb, hml, hown, hts⟩ (r_turned (sz := H.size) x (hw)) (cwV 1 hts gX1_told_X1_turned rfl rfl rfl (by decide +kernel) ⟨Nat.le_of_ble_eq_true rfl, Nat.le_of_ble_eq_true rfl⟩) (preV_RO hP hK 0 (ci := 1) rfl rfl) rfl rfl hl.1 rfl (lv_room (Nat.le_of_ble_eq_true rfl)) dX1_told_9 ⟨Nat.le_of_ble_eq_true rfl, Nat.le_of_ble_eq_true rfl⟩) hS hA hP (fun H locs hP hS => ?_)
    refine lv_goto (tgt := 16) hx hb dX1_told_12 (by decide) ?_
    refine lv_aload_n hx hb dX1_told_16 rfl (lv_at hl 0 rfl) ?_
    refine va_get (D := D) (ci := 1) (v := .long la) (C := RX1) (T := TX1) (N := 8) hx hb hts in_r_told hown hK hP 0 rfl rfl 3 (by decide) (hts (.fieldLink RX1 24 "SliceChecksModel" "last" "J") (by decide +kernel)) (fun _ h9 => h9) rfl dX1_told_17 ?_
    refine lv_lxor hx hb dX1_told_20 ?_
    exact W.lret (v := ((mTuN x wd) ^^^ la)) hx hb hr (fun t ht hW => ⟨⟨((mTuN x wd) ^^^ la), (), rfl, by first | rw [rTold, if_pos c_4] | rw [rTold, if_neg c_4], trivial⟩, hS.F ht⟩) hS.2.2 dX1_told_21
theorem in_r_register : ∀ w ∈ wsX10, w ∈ wsX1_register := fun _ h => List.mem_cons_of_mem _ (List.mem_append_right _ h)
set_option maxHeartbeats 4000000 in
set_option maxRecDepth 100000 in
theorem r_register {l : Launch} {D : va_G} {q b1 : Nat} {k4 : ClassId} {by8 : Nat → Int32} {wd : Nat} {po : Int64} {fi : Int64} {la : Int64} {bi : Int32} {bo : Int32} {nb : Nat} {sz : Nat} (x : Int64) (hw : wd ≤ 64) : Met l yX1_register wsX1_register ({ frames := 2, cells := 0, slots := 0, locals := 44 }) (va_Pc [.ref q, .long x] (pRO D vwCl (mt k4) (mw q b1 k4 by8 wd po fi la bi bo nb) sz)) (roL sz (rReg bo la wd x)) 0 0 (fun q : Nat => sz ≤ q) := by
  refine Met.ofW (cc := cX1_register) (maxL := 5) (ret := (some .long)) (by decide) rfl ?_
  intro p e s m args below meth c s₁ B hml hv
  obtain ⟨rfl, hsz, hP, hK⟩ := hv
  have hsz : s.heap.size = sz := hsz
  have hx := B.exec
  have hb := B.bytes
  have hr := B.returns
  have hts := atoms_spec (ws := wsX1_register) B.pre
  have hown : s.vm.findClass RX1 = some m.cls := findClass_of_methodNamed B.named
  have hlocks := B.notSynchronized
  subst hsz
  have hA : ∀ q : Nat, s.heap.size ≤ q → (fun q : Nat => s.heap.size ≤ q) q := fun _ h => h
  have hS : va_S (fun q : Nat => s.heap.size ≤ q) s.heap s.heap [] := va_S.rf
  have hl := lv_entry ([.ref q, .long x]) (n := 5) (Nat.le_of_ble_eq_true rfl)
  rw [lg_entry_eq]
  generalize (lg_sl ([.ref q, .long x]) ++ List.replicate (5 - (lg_sl ([.ref q, .long x])).length) Slot.unset).toArray = ls at hl ⊢
  have hl : lv_has ls 5 [(0, .ref q), (1, .long x)] := hl
  suffices key : ∀ (H : Heap) (locs : List Loc), va_P D vwCl (mw q b1 k4 by8 wd po fi la bi bo nb) H → va_S (fun q : Nat => s.heap.size ≤ q) s.heap H locs → W p l e (headSpec wsX1_register { frames := 2, cells := 0, slots := 0, locals := 44 }).room s m ([.ref q, .long x] : List Value).toArray below meth c H locs 0 0 (MQ below (roL s.heap.size (rReg bo la wd x)) ([.ref q, .long x] : List Value).toArray s 0 0 (fun q : Nat => s.heap.size ≤ q)) (F0 m 0 ls []) from key s.heap [] hP hS
  intro H locs hP hS
  refine lv_aload_n hx hb dX1_register_0 rfl (lv_at hl 0 rfl) ?_
  refine lv_lload_n hx hb dX1_register_1 rfl (lv_at hl 1 rfl) ?_
  refine ro_l (va_runV (As := [.long x]) (rest := []) ⟨hx, hb, hml, hown, hts⟩ (r_cut (sz := H.size) x) (cwV 1 hts gX1_register_X1_cut rfl rfl rfl (by decide +kernel) ⟨Nat.le_of_ble_eq_true rfl, Nat.le_of_ble_eq_true rfl⟩) (preV_RO hP hK 0 (ci := 1) rfl rfl) rfl rfl hl.1 rfl (lv_room (Nat.le_of_ble_eq_true rfl)) dX1_register_2 ⟨Nat.le_of_ble_eq_true rfl, Nat.le_of_ble_eq_true rfl⟩) hS hA hP (fun H locs hP hS => ?_)
  refine lv_aload_n hx hb dX1_register_5 rfl (lv_at hl 0 rfl) ?_
  refine va_get (D := D) (ci := 1) (v := .long la) (C := RX1) (T := TX1) (N := 8) hx hb hts in_r_register hown hK hP 0 rfl rfl 3 (by decide) (hts (.fieldLink RX1 24 "SliceChecksModel" "last" "J") (by decide +kernel)) (fun _ h9 => h9) rfl dX1_register_6 ?_
  refine lv_lxor hx hb dX1_register_9 ?_
  refine lv_lstore_n (lv' := [(3, .long ((rLow x (nI wd)) ^^^ la)), (0, .ref q), (1, .long x)]) hx hb dX1_register_10 rfl hl (by decide) rfl (fun ls hl => ?_)
  refine lv_aload_n hx hb dX1_register_11 rfl (lv_at hl 1 rfl) ?_
  refine va_get (D := D) (ci := 1) (v := .int bo) (C := RX1) (T := TX1) (N := 8) hx hb hts in_r_register hown hK hP 0 rfl rfl 5 (by decide) (hts (.fieldLink RX1 31 "SliceChecksModel" "out" "Z") (by decide +kernel)) (fun _ h9 => h9) rfl dX1_register_12 ?_
  refine lv_if_eq (tgt := 26) hx hb dX1_register_15 (by decide) (fun c_15 => ?_) (fun c_15 => ?_)
  ·
    refine lv_lload_n hx hb dX1_register_26 rfl (lv_at hl 0 rfl) ?_
    exact W.lret (v := ((rLow x (nI wd)) ^^^ la)) hx hb hr (fun t ht hW => ⟨⟨((rLow x (nI wd)) ^^^ la), (), rfl, by first | rw [rReg, if_pos c_15] | rw [rReg, if_neg c_15], trivial⟩, hS.F ht⟩) hS.2.2 dX1_register_27
  ·
    refine lv_aload_n hx hb dX1_register_18 rfl (lv_at hl 1 rfl) ?_
    refine lv_lload_n hx hb dX1_register_19 rfl (lv_at hl 0 rfl) ?_
    refine ro_l (va_runV (As := [.long ((rLow x (nI wd)) ^^^ la)]) (rest := []) ⟨hx, hb, hml, hown, hts⟩ (r_turned (sz := H.size) ((rLow x (nI wd)) ^^^ la) (hw)) (cwV 1 hts gX1_register_X1_turned rfl rfl rfl (by decide +kernel) ⟨Nat.le_of_ble_eq_true rfl, Nat.le_of_ble_eq_true rfl⟩) (preV_RO hP hK 0 (ci := 1) rfl rfl) rfl rfl hl.1 rfl (lv_room (Nat.le_of_ble_eq_true rfl)) dX1_register_20 ⟨Nat.le_of_ble_eq_true rfl, Nat.le_of_ble_eq_true rfl⟩) hS hA hP (fun H locs hP hS => ?_)
    refine lv_goto (tgt := 27) hx hb dX1_register_23 (by decide) ?_
    exact W.lret (v := (mTuN ((rLow x (nI wd)) ^^^ la) wd)) hx hb hr (fun t ht hW => ⟨⟨(mTuN ((rLow x (nI wd)) ^^^ la) wd), (), rfl, by first | rw [rReg, if_pos c_15] | rw [rReg, if_neg c_15], trivial⟩, hS.F ht⟩) hS.2.2 dX1_register_27
theorem in_r_over : ∀ w ∈ wsX10, w ∈ wsX1_over := fun _ h => List.mem_cons_of_mem _ (List.mem_append_right _ h)
set_option maxHeartbeats 4000000 in
set_option maxRecDepth 100000 in
theorem r_over {l : Launch} {D : va_G} {q b1 : Nat} {k4 : ClassId} {by8 : Nat → Int32} {wd : Nat} {po : Int64} {fi : Int64} {la : Int64} {bi : Int32} {bo : Int32} {nb : Nat} {sz : Nat} (a : Nat) (b : Nat) (hw : wd ≤ 64) (ha : a ≤ 5000) (hb5 : b ≤ 5000) : Met l yX1_over wsX1_over ({ frames := 4, cells := 0, slots := 0, locals := 96 }) (va_Pc [.ref q, .int (nI a), .int (nI b)] (pRO D vwCl (mt k4) (mw q b1 k4 by8 wd po fi la bi bo nb) sz)) (roL sz (rOver wd po fi la bi bo by8 a b)) 0 0 (fun q : Nat => sz ≤ q) := by
  refine Met.ofW (cc := cX1_over) (maxL := 6) (ret := (some .long)) (by decide) rfl ?_
  intro p e s m args below meth c s₁ B hml hv
  obtain ⟨rfl, hsz, hP, hK⟩ := hv
  have hsz : s.heap.size = sz := hsz
  have hx := B.exec
  have hb := B.bytes
  have hr := B.returns
  have hts := atoms_spec (ws := wsX1_over) B.pre
  have hown : s.vm.findClass RX1 = some m.cls := findClass_of_methodNamed B.named
  have hlocks := B.notSynchronized
  subst hsz
  have hA : ∀ q : Nat, s.heap.size ≤ q → (fun q : Nat => s.heap.size ≤ q) q := fun _ h => h
  have hS : va_S (fun q : Nat => s.heap.size ≤ q) s.heap s.heap [] := va_S.rf
  have hl := lv_entry ([.ref q, .int (nI a), .int (nI b)]) (n := 6) (Nat.le_of_ble_eq_true rfl)
  rw [lg_entry_eq]
  generalize (lg_sl ([.ref q, .int (nI a), .int (nI b)]) ++ List.replicate (6 - (lg_sl ([.ref q, .int (nI a), .int (nI b)])).length) Slot.unset).toArray = ls at hl ⊢
  have hl : lv_has ls 6 [(0, .ref q), (1, .int (nI a)), (2, .int (nI b))] := hl
  suffices key : ∀ (H : Heap) (locs : List Loc), va_P D vwCl (mw q b1 k4 by8 wd po fi la bi bo nb) H → va_S (fun q : Nat => s.heap.size ≤ q) s.heap H locs → W p l e (headSpec wsX1_over { frames := 4, cells := 0, slots := 0, locals := 96 }).room s m ([.ref q, .int (nI a), .int (nI b)] : List Value).toArray below meth c H locs 0 0 (MQ below (roL s.heap.size (rOver wd po fi la bi bo by8 a b)) ([.ref q, .int (nI a), .int (nI b)] : List Value).toArray s 0 0 (fun q : Nat => s.heap.size ≤ q)) (F0 m 0 ls []) from key s.heap [] hP hS
  intro H locs hP hS
  refine lv_aload_n hx hb dX1_over_0 rfl (lv_at hl 0 rfl) ?_
  refine va_get (D := D) (ci := 1) (v := .long fi) (C := RX1) (T := TX1) (N := 8) hx hb hts in_r_over hown hK hP 0 rfl rfl 2 (by decide) (hts (.fieldLink RX1 21 "SliceChecksModel" "first" "J") (by decide +kernel)) (fun _ h9 => h9) rfl dX1_over_1 ?_
  refine lv_lstore_n (lv' := [(3, .long fi), (0, .ref q), (1, .int (nI a)), (2, .int (nI b))]) hx hb dX1_over_4 rfl hl (by decide) rfl (fun ls hl => ?_)
  refine lv_iload_n hx hb dX1_over_5 rfl (lv_at hl 2 rfl) ?_
  refine lv_istore (lv' := [(5, .int (nI a)), (3, .long fi), (0, .ref q), (1, .int (nI a)), (2, .int (nI b))]) hx hb dX1_over_6 hl (by decide) rfl (fun ls hl => ?_)
  have lp_8 : ∀ (k i : Nat), i ≤ b - a → b - a < i + k → ∀ (H : Heap) (locs : List Loc), va_P D vwCl (mw q b1 k4 by8 wd po fi la bi bo nb) H → va_S (fun q : Nat => s.heap.size ≤ q) s.heap H locs → ∀ ls : Array Slot, lv_has ls 6 [(5, .int (nI (a + i))), (3, .long (rOvN (nI wd) po bi by8 fi a i)), (0, .ref q), (1, .int (nI a)), (2, .int (nI b))] → W p l e (headSpec wsX1_over { frames := 4, cells := 0, slots := 0, locals := 96 }).room s m ([.ref q, .int (nI a), .int (nI b)] : List Value).toArray below meth c H locs 0 0 (MQ below (roL s.heap.size (rOver wd po fi la bi bo by8 a b)) ([.ref q, .int (nI a), .int (nI b)] : List Value).toArray s 0 0 (fun q : Nat => s.heap.size ≤ q)) (F0 m 8 ls []) := by
    intro k
    induction k with
    | zero =>
      intro i h1 h2
      exact absurd h2 (by omega)
    | succ k ih =>
      intro i hi hk H locs hP hS ls hl
      refine lv_iload hx hb dX1_over_8 (lv_at hl 0 rfl) ?_
      refine lv_iload_n hx hb dX1_over_10 rfl (lv_at hl 4 rfl) ?_
      refine lv_icmp_ge (tgt := 33) hx hb dX1_over_11 (by decide) (fun c_11 => ?_) (fun c_11 => ?_)
      ·
        have hiN : i = b - a := by have := (nI_leI (by omega) (by omega)).mp c_11; omega
        refine lv_aload_n hx hb dX1_over_33 rfl (lv_at hl 2 rfl) ?_
        refine lv_lload_n hx hb dX1_over_34 rfl (lv_at hl 1 rfl) ?_
        refine ro_l (va_runV (As := [.long (rOvN (nI wd) po bi by8 fi a i)]) (rest := []) ⟨hx, hb, hml, hown, hts⟩ (r_told (sz := H.size) (rOvN (nI wd) po bi by8 fi a i) (hw)) (cwV 1 hts gX1_over_X1_told rfl rfl rfl (by decide +kernel) ⟨Nat.le_of_ble_eq_true rfl, Nat.le_of_ble_eq_true rfl⟩) (preV_RO hP hK 0 (ci := 1) rfl rfl) rfl rfl hl.1 rfl (lv_room (Nat.le_of_ble_eq_true rfl)) dX1_over_35 ⟨Nat.le_of_ble_eq_true rfl, Nat.le_of_ble_eq_true rfl⟩) hS hA hP (fun H locs hP hS => ?_)
        exact W.lret (v := (rTold bo la wd (rOvN (nI wd) po bi by8 fi a i))) hx hb hr (fun t ht hW => ⟨⟨(rTold bo la wd (rOvN (nI wd) po bi by8 fi a i)), (), rfl, by subst hiN; rfl, trivial⟩, hS.F ht⟩) hS.2.2 dX1_over_38
      ·
        have hlt : i < b - a := by rcases Nat.lt_or_ge i (b - a) with h | h; exact h; exact absurd (nI_le (by omega) (by omega)) c_11
        refine lv_aload_n hx hb dX1_over_14 rfl (lv_at hl 2 rfl) ?_
        refine lv_lload_n hx hb dX1_over_15 rfl (lv_at hl 1 rfl) ?_
        refine lv_aload_n hx hb dX1_over_16 rfl (lv_at hl 2 rfl) ?_
        refine va_get (D := D) (ci := 1) (v := .ref b1) (C := RX1) (T := TX1) (N := 8) hx hb hts in_r_over hown hK hP 0 rfl rfl 6 (by decide) (hts (.fieldLink RX1 34 "SliceChecksModel" "bytes" "[I") (by decide +kernel)) (fun _ h9 => h9) rfl dX1_over_17 ?_
        refine lv_iload hx hb dX1_over_20 (lv_at hl 0 rfl) ?_
        refine va_iald hx hb hK hP 1 0 rfl rfl (i := nI (a + i)) (vp_in_nI (by omega) (by omega)) dX1_over_22 ?_
        refine ro_l (va_runV (As := [.long (rOvN (nI wd) po bi by8 fi a i), .int (by8 (nI (a + i)).toNatClampNeg)]) (rest := []) ⟨hx, hb, hml, hown, hts⟩ (r_oneByte (sz := H.size) (rOvN (nI wd) po bi by8 fi a i) (by8 (nI (a + i)).toNatClampNeg)) (cwV 2 hts gX1_over_X1_oneByte rfl rfl rfl (by decide +kernel) ⟨Nat.le_of_ble_eq_true rfl, Nat.le_of_ble_eq_true rfl⟩) (preV_RO hP hK 0 (ci := 1) rfl rfl) rfl rfl hl.1 rfl (lv_room (Nat.le_of_ble_eq_true rfl)) dX1_over_23 ⟨Nat.le_of_ble_eq_true rfl, Nat.le_of_ble_eq_true rfl⟩) hS hA hP (fun H locs hP hS => ?_)
        refine du_rwl (y := rOvN (nI wd) po bi by8 fi a (i + 1)) (rfl) ?_
        refine lv_lstore_n (lv' := [(3, .long (rOvN (nI wd) po bi by8 fi a (i + 1))), (5, .int (nI (a + i))), (0, .ref q), (1, .int (nI a)), (2, .int (nI b))]) hx hb dX1_over_26 rfl hl (by decide) rfl (fun ls hl => ?_)
        refine lv_iinc (v := nI (a + (i + 1))) (lv' := [(5, .int (nI (a + (i + 1)))), (3, .long (rOvN (nI wd) po bi by8 fi a (i + 1))), (0, .ref q), (1, .int (nI a)), (2, .int (nI b))]) hx hb dX1_over_27 hl (k := 1) rfl (nI_1 (a + i)) (by decide) rfl (fun ls hl => ?_)
        refine lv_goto (tgt := 8) hx hb dX1_over_30 (by decide) ?_
        exact ih (i + 1) (by omega) (by omega) H locs (hP) hS ls (lv_sub hl [0, 1, 2, 3, 4] rfl)
  exact lp_8 ((b - a) + 1 - 0) 0 (by omega) (by omega) H locs (hP) hS ls (lv_sub hl [0, 1, 2, 3, 4] rfl)
theorem in_r_check : ∀ w ∈ wsX10, w ∈ wsX1_check := fun _ h => List.mem_cons_of_mem _ (List.mem_append_right _ h)
set_option maxHeartbeats 4000000 in
set_option maxRecDepth 100000 in
theorem r_check {l : Launch} {D : va_G} {q b1 : Nat} {k4 : ClassId} {by8 : Nat → Int32} {wd : Nat} {po : Int64} {fi : Int64} {la : Int64} {bi : Int32} {bo : Int32} {nb : Nat} {sz : Nat} (y : Int32) (hw : wd ≤ 64) (hn : nb ≤ 5000) : Met l yX1_check wsX1_check ({ frames := 5, cells := 0, slots := 0, locals := 121 }) (va_Pc [.ref q, .int y] (pRO D vwCl (mt k4) (mw q b1 k4 by8 wd po fi la bi bo nb) sz)) (roL sz (rChk y (rOver wd po fi la bi bo by8 0 nb))) 0 0 (fun q : Nat => sz ≤ q) := by
  refine Met.ofW (cc := cX1_check) (maxL := 2) (ret := (some .long)) (by decide) rfl ?_
  intro p e s m args below meth c s₁ B hml hv
  obtain ⟨rfl, hsz, hP, hK⟩ := hv
  have hsz : s.heap.size = sz := hsz
  have hx := B.exec
  have hb := B.bytes
  have hr := B.returns
  have hts := atoms_spec (ws := wsX1_check) B.pre
  have hown : s.vm.findClass RX1 = some m.cls := findClass_of_methodNamed B.named
  have hlocks := B.notSynchronized
  subst hsz
  have hA : ∀ q : Nat, s.heap.size ≤ q → (fun q : Nat => s.heap.size ≤ q) q := fun _ h => h
  have hS : va_S (fun q : Nat => s.heap.size ≤ q) s.heap s.heap [] := va_S.rf
  have hl := lv_entry ([.ref q, .int y]) (n := 2) (Nat.le_of_ble_eq_true rfl)
  rw [lg_entry_eq]
  generalize (lg_sl ([.ref q, .int y]) ++ List.replicate (2 - (lg_sl ([.ref q, .int y])).length) Slot.unset).toArray = ls at hl ⊢
  have hl : lv_has ls 2 [(0, .ref q), (1, .int y)] := hl
  suffices key : ∀ (H : Heap) (locs : List Loc), va_P D vwCl (mw q b1 k4 by8 wd po fi la bi bo nb) H → va_S (fun q : Nat => s.heap.size ≤ q) s.heap H locs → W p l e (headSpec wsX1_check { frames := 5, cells := 0, slots := 0, locals := 121 }).room s m ([.ref q, .int y] : List Value).toArray below meth c H locs 0 0 (MQ below (roL s.heap.size (rChk y (rOver wd po fi la bi bo by8 0 nb))) ([.ref q, .int y] : List Value).toArray s 0 0 (fun q : Nat => s.heap.size ≤ q)) (F0 m 0 ls []) from key s.heap [] hP hS
  intro H locs hP hS
  refine lv_iload_n hx hb dX1_check_0 rfl (lv_at hl 1 rfl) ?_
  refine lv_if_lt (tgt := 9) hx hb dX1_check_1 (by decide) (fun c_1 => ?_) (fun c_1 => ?_)
  ·
    refine lv_lconst (v := 0) hx hb dX1_check_9 (by decide) ?_
    refine lv_goto (tgt := 22) hx hb dX1_check_10 (by decide) ?_
    exact W.lret (v := 0) hx hb hr (fun t ht hW => ⟨⟨0, (), rfl, by first | rw [rChk, if_pos c_1] | rw [rChk, if_neg c_1, if_pos c_6] | rw [rChk, if_neg c_1, if_neg c_6], trivial⟩, hS.F ht⟩) hS.2.2 dX1_check_22
  ·
    refine lv_iload_n hx hb dX1_check_4 rfl (lv_at hl 1 rfl) ?_
    refine lv_iconst (v := 3) hx hb dX1_check_5 (by decide) ?_
    refine lv_icmp_le (tgt := 13) hx hb dX1_check_6 (by decide) (fun c_6 => ?_) (fun c_6 => ?_)
    ·
      refine lv_aload_n hx hb dX1_check_13 rfl (lv_at hl 0 rfl) ?_
      refine lv_iconst (v := 0) hx hb dX1_check_14 (by decide) ?_
      refine du_rwi (y := nI 0) (rfl) ?_
      refine lv_aload_n hx hb dX1_check_15 rfl (lv_at hl 0 rfl) ?_
      refine va_get (D := D) (ci := 1) (v := .int (nI nb)) (C := RX1) (T := TX1) (N := 8) hx hb hts in_r_check hown hK hP 0 rfl rfl 7 (by decide) (hts (.fieldLink RX1 46 "SliceChecksModel" "count" "I") (by decide +kernel)) (fun _ h9 => h9) rfl dX1_check_16 ?_
      refine ro_l (va_runV (As := [.int (nI 0), .int (nI nb)]) (rest := []) ⟨hx, hb, hml, hown, hts⟩ (r_over (sz := H.size) 0 nb (hw) (by omega) (hn)) (cwV 2 hts gX1_check_X1_over rfl rfl rfl (by decide +kernel) ⟨Nat.le_of_ble_eq_true rfl, Nat.le_of_ble_eq_true rfl⟩) (preV_RO hP hK 0 (ci := 1) rfl rfl) rfl rfl hl.1 rfl (lv_room (Nat.le_of_ble_eq_true rfl)) dX1_check_19 ⟨Nat.le_of_ble_eq_true rfl, Nat.le_of_ble_eq_true rfl⟩) hS hA hP (fun H locs hP hS => ?_)
      exact W.lret (v := (rOver wd po fi la bi bo by8 0 nb)) hx hb hr (fun t ht hW => ⟨⟨(rOver wd po fi la bi bo by8 0 nb), (), rfl, by first | rw [rChk, if_pos c_1] | rw [rChk, if_neg c_1, if_pos c_6] | rw [rChk, if_neg c_1, if_neg c_6], trivial⟩, hS.F ht⟩) hS.2.2 dX1_check_22
    ·
      refine lv_lconst (v := 0) hx hb dX1_check_9 (by decide) ?_
      refine lv_goto (tgt := 22) hx hb dX1_check_10 (by decide) ?_
      exact W.lret (v := 0) hx hb hr (fun t ht hW => ⟨⟨0, (), rfl, by first | rw [rChk, if_pos c_1] | rw [rChk, if_neg c_1, if_pos c_6] | rw [rChk, if_neg c_1, if_neg c_6], trivial⟩, hS.F ht⟩) hS.2.2 dX1_check_22
theorem in_r_part : ∀ w ∈ wsX10, w ∈ wsX1_part := fun _ h => List.mem_cons_of_mem _ (List.mem_append_right _ h)
set_option maxHeartbeats 4000000 in
set_option maxRecDepth 100000 in
theorem r_part {l : Launch} {D : va_G} {q b1 : Nat} {k4 : ClassId} {by8 : Nat → Int32} {wd : Nat} {po : Int64} {fi : Int64} {la : Int64} {bi : Int32} {bo : Int32} {nb : Nat} {sz : Nat} (x : Int32) (y : Int32) (hw : wd ≤ 64) (hn : nb ≤ 5000) : Met l yX1_part wsX1_part ({ frames := 5, cells := 0, slots := 0, locals := 121 }) (va_Pc [.ref q, .int x, .int y] (pRO D vwCl (mt k4) (mw q b1 k4 by8 wd po fi la bi bo nb) sz)) (roL sz (rPart nb wd po fi la bi bo by8 x y)) 0 0 (fun q : Nat => sz ≤ q) := by
  refine Met.ofW (cc := cX1_part) (maxL := 3) (ret := (some .long)) (by decide) rfl ?_
  intro p e s m args below meth c s₁ B hml hv
  obtain ⟨rfl, hsz, hP, hK⟩ := hv
  have hsz : s.heap.size = sz := hsz
  have hx := B.exec
  have hb := B.bytes
  have hr := B.returns
  have hts := atoms_spec (ws := wsX1_part) B.pre
  have hown : s.vm.findClass RX1 = some m.cls := findClass_of_methodNamed B.named
  have hlocks := B.notSynchronized
  subst hsz
  have hA : ∀ q : Nat, s.heap.size ≤ q → (fun q : Nat => s.heap.size ≤ q) q := fun _ h => h
  have hS : va_S (fun q : Nat => s.heap.size ≤ q) s.heap s.heap [] := va_S.rf
  have hl := lv_entry ([.ref q, .int x, .int y]) (n := 3) (Nat.le_of_ble_eq_true rfl)
  rw [lg_entry_eq]
  generalize (lg_sl ([.ref q, .int x, .int y]) ++ List.replicate (3 - (lg_sl ([.ref q, .int x, .int y])).length) Slot.unset).toArray = ls at hl ⊢
  have hl : lv_has ls 3 [(0, .ref q), (1, .int x), (2, .int y)] := hl
  suffices key : ∀ (H : Heap) (locs : List Loc), va_P D vwCl (mw q b1 k4 by8 wd po fi la bi bo nb) H → va_S (fun q : Nat => s.heap.size ≤ q) s.heap H locs → W p l e (headSpec wsX1_part { frames := 5, cells := 0, slots := 0, locals := 121 }).room s m ([.ref q, .int x, .int y] : List Value).toArray below meth c H locs 0 0 (MQ below (roL s.heap.size (rPart nb wd po fi la bi bo by8 x y)) ([.ref q, .int x, .int y] : List Value).toArray s 0 0 (fun q : Nat => s.heap.size ≤ q)) (F0 m 0 ls []) from key s.heap [] hP hS
  intro H locs hP hS
  refine lv_iload_n hx hb dX1_part_0 rfl (lv_at hl 1 rfl) ?_
  refine lv_if_lt (tgt := 17) hx hb dX1_part_1 (by decide) (fun c_1 => ?_) (fun c_1 => ?_)
  ·
    refine lv_lconst (v := 0) hx hb dX1_part_17 (by decide) ?_
    refine lv_goto (tgt := 27) hx hb dX1_part_18 (by decide) ?_
    exact W.lret (v := 0) hx hb hr (fun t ht hW => ⟨⟨0, (), rfl, by first | rw [rPart, if_pos c_1] | rw [rPart, if_neg c_1, if_pos c_6] | rw [rPart, if_neg c_1, if_neg c_6, if_pos c_14] | rw [rPart, if_neg c_1, if_neg c_6, if_neg c_14], trivial⟩, hS.F ht⟩) hS.2.2 dX1_part_27
  ·
    refine lv_iload_n hx hb dX1_part_4 rfl (lv_at hl 2 rfl) ?_
    refine lv_iload_n hx hb dX1_part_5 rfl (lv_at hl 1 rfl) ?_
    refine lv_icmp_lt (tgt := 17) hx hb dX1_part_6 (by decide) (fun c_6 => ?_) (fun c_6 => ?_)
    ·
      refine lv_lconst (v := 0) hx hb dX1_part_17 (by decide) ?_
      refine lv_goto (tgt := 27) hx hb dX1_part_18 (by decide) ?_
      exact W.lret (v := 0) hx hb hr (fun t ht hW => ⟨⟨0, (), rfl, by first | rw [rPart, if_pos c_1] | rw [rPart, if_neg c_1, if_pos c_6] | rw [rPart, if_neg c_1, if_neg c_6, if_pos c_14] | rw [rPart, if_neg c_1, if_neg c_6, if_neg c_14], trivial⟩, hS.F ht⟩) hS.2.2 dX1_part_27
    ·
      refine lv_iload_n hx hb dX1_part_9 rfl (lv_at hl 2 rfl) ?_
      refine lv_aload_n hx hb dX1_part_10 rfl (lv_at hl 0 rfl) ?_
      refine va_get (D := D) (ci := 1) (v := .int (nI nb)) (C := RX1) (T := TX1) (N := 8) hx hb hts in_r_part hown hK hP 0 rfl rfl 7 (by decide) (hts (.fieldLink RX1 46 "SliceChecksModel" "count" "I") (by decide +kernel)) (fun _ h9 => h9) rfl dX1_part_11 ?_
      refine lv_icmp_le (tgt := 21) hx hb dX1_part_14 (by decide) (fun c_14 => ?_) (fun c_14 => ?_)
      ·
        have hx1 := du_nn c_1
        have hy1 : ¬ y < 0 := du_nn2 c_1 c_6
        have hy2 := du_nn hy1
        have hy3 : y.toNatClampNeg ≤ nb := du_cle hy1 c_14 (by omega)
        have hx3 : x.toNatClampNeg ≤ y.toNatClampNeg := du_cl2 c_6
        refine lv_aload_n hx hb dX1_part_21 rfl (lv_at hl 0 rfl) ?_
        refine lv_iload_n hx hb dX1_part_22 rfl (lv_at hl 1 rfl) ?_
        refine du_rwi (y := nI x.toNatClampNeg) (hx1) ?_
        refine lv_iload_n hx hb dX1_part_23 rfl (lv_at hl 2 rfl) ?_
        refine du_rwi (y := nI y.toNatClampNeg) (hy2) ?_
        refine ro_l (va_runV (As := [.int (nI x.toNatClampNeg), .int (nI y.toNatClampNeg)]) (rest := []) ⟨hx, hb, hml, hown, hts⟩ (r_over (sz := H.size) x.toNatClampNeg y.toNatClampNeg (hw) (by omega) (by omega)) (cwV 2 hts gX1_part_X1_over rfl rfl rfl (by decide +kernel) ⟨Nat.le_of_ble_eq_true rfl, Nat.le_of_ble_eq_true rfl⟩) (preV_RO hP hK 0 (ci := 1) rfl rfl) rfl rfl hl.1 rfl (lv_room (Nat.le_of_ble_eq_true rfl)) dX1_part_24 ⟨Nat.le_of_ble_eq_true rfl, Nat.le_of_ble_eq_true rfl⟩) hS hA hP (fun H locs hP hS => ?_)
        exact W.lret (v := (rOver wd po fi la bi bo by8 x.toNatClampNeg y.toNatClampNeg)) hx hb hr (fun t ht hW => ⟨⟨(rOver wd po fi la bi bo by8 x.toNatClampNeg y.toNatClampNeg), (), rfl, by first | rw [rPart, if_pos c_1] | rw [rPart, if_neg c_1, if_pos c_6] | rw [rPart, if_neg c_1, if_neg c_6, if_pos c_14] | rw [rPart, if_neg c_1, if_neg c_6, if_neg c_14], trivial⟩, hS.F ht⟩) hS.2.2 dX1_part_27
      ·
        refine lv_lconst (v := 0) hx hb dX1_part_17 (by decide) ?_
        refine lv_goto (tgt := 27) hx hb dX1_part_18 (by decide) ?_
        exact W.lret (v := 0) hx hb hr (fun t ht hW => ⟨⟨0, (), rfl, by first | rw [rPart, if_pos c_1] | rw [rPart, if_neg c_1, if_pos c_6] | rw [rPart, if_neg c_1, if_neg c_6, if_pos c_14] | rw [rPart, if_neg c_1, if_neg c_6, if_neg c_14], trivial⟩, hS.F ht⟩) hS.2.2 dX1_part_27
end
section
/-! Contracts, laid by wip/whole/gen.py. -/
theorem in_r_times : ∀ w ∈ wsX10, w ∈ wsX1_times := fun _ h => List.mem_cons_of_mem _ (List.mem_append_right _ h)
set_option maxHeartbeats 4000000 in
set_option maxRecDepth 100000 in
theorem r_times {l : Launch} {D : va_G} {q b1 : Nat} {k4 : ClassId} {by8 : Nat → Int32} {wd : Nat} {po : Int64} {fi : Int64} {la : Int64} {bi : Int32} {bo : Int32} {nb : Nat} {sz : Nat} (x : Int64) (y : Int64) (hw1 : 1 ≤ wd) (hw : wd ≤ 64) : Met l yX1_times wsX1_times ({ frames := 3, cells := 0, slots := 0, locals := 70 }) (va_Pc [.ref q, .long x, .long y] (pRO D vwCl (mt k4) (mw q b1 k4 by8 wd po fi la bi bo nb) sz)) (roL sz (rTmN wd po x y wd)) 0 0 (fun q : Nat => sz ≤ q) := by
  refine Met.ofW (cc := cX1_times) (maxL := 8) (ret := (some .long)) (by decide) rfl ?_
  intro p e s m args below meth c s₁ B hml hv
  obtain ⟨rfl, hsz, hP, hK⟩ := hv
  have hsz : s.heap.size = sz := hsz
  have hx := B.exec
  have hb := B.bytes
  have hr := B.returns
  have hts := atoms_spec (ws := wsX1_times) B.pre
  have hown : s.vm.findClass RX1 = some m.cls := findClass_of_methodNamed B.named
  have hlocks := B.notSynchronized
  subst hsz
  have hA : ∀ q : Nat, s.heap.size ≤ q → (fun q : Nat => s.heap.size ≤ q) q := fun _ h => h
  have hS : va_S (fun q : Nat => s.heap.size ≤ q) s.heap s.heap [] := va_S.rf
  have hl := lv_entry ([.ref q, .long x, .long y]) (n := 8) (Nat.le_of_ble_eq_true rfl)
  rw [lg_entry_eq]
  generalize (lg_sl ([.ref q, .long x, .long y]) ++ List.replicate (8 - (lg_sl ([.ref q, .long x, .long y])).length) Slot.unset).toArray = ls at hl ⊢
  have hl : lv_has ls 8 [(0, .ref q), (1, .long x), (3, .long y)] := hl
  suffices key : ∀ (H : Heap) (locs : List Loc), va_P D vwCl (mw q b1 k4 by8 wd po fi la bi bo nb) H → va_S (fun q : Nat => s.heap.size ≤ q) s.heap H locs → W p l e (headSpec wsX1_times { frames := 3, cells := 0, slots := 0, locals := 70 }).room s m ([.ref q, .long x, .long y] : List Value).toArray below meth c H locs 0 0 (MQ below (roL s.heap.size (rTmN wd po x y wd)) ([.ref q, .long x, .long y] : List Value).toArray s 0 0 (fun q : Nat => s.heap.size ≤ q)) (F0 m 0 ls []) from key s.heap [] hP hS
  intro H locs hP hS
  refine lv_lconst (v := 0) hx hb dX1_times_0 (by decide) ?_
  refine lv_lstore (lv' := [(5, .long 0), (0, .ref q), (1, .long x), (3, .long y)]) hx hb dX1_times_1 hl (by decide) rfl (fun ls hl => ?_)
  refine lv_aload_n hx hb dX1_times_3 rfl (lv_at hl 1 rfl) ?_
  refine va_get (D := D) (ci := 1) (v := .int (nI wd)) (C := RX1) (T := TX1) (N := 8) hx hb hts in_r_times hown hK hP 0 rfl rfl 0 (by decide) (hts (.fieldLink RX1 7 "SliceChecksModel" "width" "I") (by decide +kernel)) (fun _ h9 => h9) rfl dX1_times_4 ?_
  refine lv_iconst (v := 1) hx hb dX1_times_7 (by decide) ?_
  refine lv_isub hx hb dX1_times_8 ?_
  refine lv_istore (lv' := [(7, .int ((nI wd) - 1)), (5, .long 0), (0, .ref q), (1, .long x), (3, .long y)]) hx hb dX1_times_9 hl (by decide) rfl (fun ls hl => ?_)
  have lp_11 : ∀ (k i : Nat), i ≤ wd → wd < i + k → ∀ (H : Heap) (locs : List Loc), va_P D vwCl (mw q b1 k4 by8 wd po fi la bi bo nb) H → va_S (fun q : Nat => s.heap.size ≤ q) s.heap H locs → ∀ ls : Array Slot, lv_has ls 8 [(7, .int (nI wd - 1 - nI i)), (5, .long (rTmN wd po x y i)), (0, .ref q), (1, .long x), (3, .long y)] → W p l e (headSpec wsX1_times { frames := 3, cells := 0, slots := 0, locals := 70 }).room s m ([.ref q, .long x, .long y] : List Value).toArray below meth c H locs 0 0 (MQ below (roL s.heap.size (rTmN wd po x y wd)) ([.ref q, .long x, .long y] : List Value).toArray s 0 0 (fun q : Nat => s.heap.size ≤ q)) (F0 m 11 ls []) := by
    intro k
    induction k with
    | zero =>
      intro i h1 h2
      exact absurd h2 (by omega)
    | succ k ih =>
      intro i hi hk H locs hP hS ls hl
      refine lv_iload hx hb dX1_times_11 (lv_at hl 0 rfl) ?_
      refine lv_if_lt (tgt := 52) hx hb dX1_times_13 (by decide) (fun c_13 => ?_) (fun c_13 => ?_)
      ·
        have hiN := du_wa hw1 hw hi c_13
        refine lv_lload hx hb dX1_times_52 (lv_at hl 1 rfl) ?_
        exact W.lret (v := (rTmN wd po x y i)) hx hb hr (fun t ht hW => ⟨⟨(rTmN wd po x y i), (), rfl, by subst hiN; rfl, trivial⟩, hS.F ht⟩) hS.2.2 dX1_times_54
      ·
        have hlt := du_wb hw1 hw hi c_13
        refine lv_aload_n hx hb dX1_times_16 rfl (lv_at hl 2 rfl) ?_
        refine lv_lload hx hb dX1_times_17 (lv_at hl 1 rfl) ?_
        refine lv_iconst (v := 0) hx hb dX1_times_19 (by decide) ?_
        refine ro_l (va_runV (As := [.long (rTmN wd po x y i), .int 0]) (rest := []) ⟨hx, hb, hml, hown, hts⟩ (r_bit (sz := H.size) (rTmN wd po x y i) 0) (cwV 2 hts gX1_times_X1_bit rfl rfl rfl (by decide +kernel) ⟨Nat.le_of_ble_eq_true rfl, Nat.le_of_ble_eq_true rfl⟩) (preV_RO hP hK 0 (ci := 1) rfl rfl) rfl rfl hl.1 rfl (lv_room (Nat.le_of_ble_eq_true rfl)) dX1_times_20 ⟨Nat.le_of_ble_eq_true rfl, Nat.le_of_ble_eq_true rfl⟩) hS hA hP (fun H locs hP hS => ?_)
        refine lv_lstore (lv' := [(5, .long (rBit (nI wd) po (rTmN wd po x y i) 0)), (7, .int (nI wd - 1 - nI i)), (0, .ref q), (1, .long x), (3, .long y)]) hx hb dX1_times_23 hl (by decide) rfl (fun ls hl => ?_)
        refine lv_lload hx hb dX1_times_25 (lv_at hl 0 rfl) ?_
        refine lv_lload_n hx hb dX1_times_27 rfl (lv_at hl 4 rfl) ?_
        refine lv_iload hx hb dX1_times_28 (lv_at hl 1 rfl) ?_
        refine lv_lushr (v := jushr y (nI wd - 1 - nI i)) hx hb dX1_times_30 rfl ?_
        refine lv_lconst (v := 1) hx hb dX1_times_31 (by decide) ?_
        refine lv_land hx hb dX1_times_32 ?_
        refine lv_lconst (v := 1) hx hb dX1_times_33 (by decide) ?_
        refine W.lcmp hx hb dX1_times_34 ?_
        refine lv_if_ne (tgt := 42) hx hb dX1_times_35 (by decide) (fun c_35 => ?_) (fun c_35 => ?_)
        ·
          refine lv_lconst (v := 0) hx hb dX1_times_42 (by decide) ?_
          refine lv_lxor hx hb dX1_times_43 ?_
          refine du_rwl (y := rTmN wd po x y (i + 1)) (by first | rw [rTmN, if_pos c_35] | rw [rTmN, if_neg c_35]) ?_
          refine lv_lstore (lv' := [(5, .long (rTmN wd po x y (i + 1))), (7, .int (nI wd - 1 - nI i)), (0, .ref q), (1, .long x), (3, .long y)]) hx hb dX1_times_44 hl (by decide) rfl (fun ls hl => ?_)
          refine lv_iinc (v := nI wd - 1 - nI (i + 1)) (lv' := [(7, .int (nI wd - 1 - nI (i + 1))), (5, .long (rTmN wd po x y (i + 1))), (0, .ref q), (1, .long x), (3, .long y)]) hx hb dX1_times_46 hl (k := 1) rfl (du_wc wd i) (by decide) rfl (fun ls hl => ?_)
          refine lv_goto (tgt := 11) hx hb dX1_times_49 (by decide) ?_
          exact ih (i + 1) (by omega) (by omega) H locs (hP) hS ls (lv_sub hl [0, 1, 2, 3, 4] rfl)
        ·
          refine lv_lload_n hx hb dX1_times_38 rfl (lv_at hl 3 rfl) ?_
          refine lv_goto (tgt := 43) hx hb dX1_times_39 (by decide) ?_
          refine lv_lxor hx hb dX1_times_43 ?_
          refine du_rwl (y := rTmN wd po x y (i + 1)) (by first | rw [rTmN, if_pos c_35] | rw [rTmN, if_neg c_35]) ?_
          refine lv_lstore (lv' := [(5, .long (rTmN wd po x y (i + 1))), (7, .int (nI wd - 1 - nI i)), (0, .ref q), (1, .long x), (3, .long y)]) hx hb dX1_times_44 hl (by decide) rfl (fun ls hl => ?_)
          refine lv_iinc (v := nI wd - 1 - nI (i + 1)) (lv' := [(7, .int (nI wd - 1 - nI (i + 1))), (5, .long (rTmN wd po x y (i + 1))), (0, .ref q), (1, .long x), (3, .long y)]) hx hb dX1_times_46 hl (k := 1) rfl (du_wc wd i) (by decide) rfl (fun ls hl => ?_)
          refine lv_goto (tgt := 11) hx hb dX1_times_49 (by decide) ?_
          exact ih (i + 1) (by omega) (by omega) H locs (hP) hS ls (lv_sub hl [0, 1, 2, 3, 4] rfl)
  exact lp_11 (wd + 1 - 0) 0 (by omega) (by omega) H locs (hP) hS ls (by rw [du_s0]; exact lv_sub hl [0, 1, 2, 3, 4] rfl)
theorem in_r_behind : ∀ w ∈ wsX10, w ∈ wsX1_behind := fun _ h => List.mem_cons_of_mem _ (List.mem_append_right _ h)
set_option maxHeartbeats 4000000 in
set_option maxRecDepth 100000 in
theorem r_behind {l : Launch} {D : va_G} {q b1 : Nat} {k4 : ClassId} {by8 : Nat → Int32} {wd : Nat} {po : Int64} {fi : Int64} {la : Int64} {bi : Int32} {bo : Int32} {nb : Nat} {sz : Nat} (x : Int64) (Z : Nat) (hw1 : 1 ≤ wd) (hw : wd ≤ 64) (hZ : Z < 2 ^ 35) : Met l yX1_behind wsX1_behind ({ frames := 4, cells := 0, slots := 0, locals := 97 }) (va_Pc [.ref q, .long x, .long (lN Z)] (pRO D vwCl (mt k4) (mw q b1 k4 by8 wd po fi la bi bo nb) sz)) (roL sz (rBh wd po x Z)) 0 0 (fun q : Nat => sz ≤ q) := by
  refine Met.ofW (cc := cX1_behind) (maxL := 11) (ret := (some .long)) (by decide) rfl ?_
  intro p e s m args below meth c s₁ B hml hv
  obtain ⟨rfl, hsz, hP, hK⟩ := hv
  have hsz : s.heap.size = sz := hsz
  have hx := B.exec
  have hb := B.bytes
  have hr := B.returns
  have hts := atoms_spec (ws := wsX1_behind) B.pre
  have hown : s.vm.findClass RX1 = some m.cls := findClass_of_methodNamed B.named
  have hlocks := B.notSynchronized
  subst hsz
  have hA : ∀ q : Nat, s.heap.size ≤ q → (fun q : Nat => s.heap.size ≤ q) q := fun _ h => h
  have hS : va_S (fun q : Nat => s.heap.size ≤ q) s.heap s.heap [] := va_S.rf
  have hl := lv_entry ([.ref q, .long x, .long (lN Z)]) (n := 11) (Nat.le_of_ble_eq_true rfl)
  rw [lg_entry_eq]
  generalize (lg_sl ([.ref q, .long x, .long (lN Z)]) ++ List.replicate (11 - (lg_sl ([.ref q, .long x, .long (lN Z)])).length) Slot.unset).toArray = ls at hl ⊢
  have hl : lv_has ls 11 [(0, .ref q), (1, .long x), (3, .long (lN Z))] := hl
  suffices key : ∀ (H : Heap) (locs : List Loc), va_P D vwCl (mw q b1 k4 by8 wd po fi la bi bo nb) H → va_S (fun q : Nat => s.heap.size ≤ q) s.heap H locs → W p l e (headSpec wsX1_behind { frames := 4, cells := 0, slots := 0, locals := 97 }).room s m ([.ref q, .long x, .long (lN Z)] : List Value).toArray below meth c H locs 0 0 (MQ below (roL s.heap.size (rBh wd po x Z)) ([.ref q, .long x, .long (lN Z)] : List Value).toArray s 0 0 (fun q : Nat => s.heap.size ≤ q)) (F0 m 0 ls []) from key s.heap [] hP hS
  intro H locs hP hS
  refine lv_lload_n hx hb dX1_behind_0 rfl (lv_at hl 1 rfl) ?_
  refine lv_lstore (lv' := [(5, .long x), (0, .ref q), (1, .long x), (3, .long (lN Z))]) hx hb dX1_behind_1 hl (by decide) rfl (fun ls hl => ?_)
  refine lv_aload_n hx hb dX1_behind_3 rfl (lv_at hl 1 rfl) ?_
  refine lv_lconst (v := 1) hx hb dX1_behind_4 (by decide) ?_
  refine lv_iconst (v := 0) hx hb dX1_behind_5 (by decide) ?_
  refine ro_l (va_runV (As := [.long 1, .int 0]) (rest := []) ⟨hx, hb, hml, hown, hts⟩ (r_bit (sz := H.size) 1 0) (cwV 2 hts gX1_behind_X1_bit rfl rfl rfl (by decide +kernel) ⟨Nat.le_of_ble_eq_true rfl, Nat.le_of_ble_eq_true rfl⟩) (preV_RO hP hK 0 (ci := 1) rfl rfl) rfl rfl hl.1 rfl (lv_room (Nat.le_of_ble_eq_true rfl)) dX1_behind_6 ⟨Nat.le_of_ble_eq_true rfl, Nat.le_of_ble_eq_true rfl⟩) hS hA hP (fun H locs hP hS => ?_)
  refine lv_lstore (lv' := [(7, .long (rBit (nI wd) po 1 0)), (5, .long x), (0, .ref q), (1, .long x), (3, .long (lN Z))]) hx hb dX1_behind_9 hl (by decide) rfl (fun ls hl => ?_)
  refine lv_lload_n hx hb dX1_behind_11 rfl (lv_at hl 4 rfl) ?_
  refine lv_lstore (lv' := [(9, .long (lN Z)), (7, .long (rBit (nI wd) po 1 0)), (5, .long x), (0, .ref q), (1, .long x), (3, .long (lN Z))]) hx hb dX1_behind_12 hl (by decide) rfl (fun ls hl => ?_)
  have lp_14 : ∀ (k i : Nat), i ≤ 35 → 35 < i + k → ∀ (H : Heap) (locs : List Loc), va_P D vwCl (mw q b1 k4 by8 wd po fi la bi bo nb) H → va_S (fun q : Nat => s.heap.size ≤ q) s.heap H locs → ∀ ls : Array Slot, lv_has ls 11 [(9, .long (lN (Z / 2 ^ i))), (7, .long (rPw wd po i)), (5, .long (rBhN wd po x Z i)), (0, .ref q), (1, .long x), (3, .long (lN Z))] → W p l e (headSpec wsX1_behind { frames := 4, cells := 0, slots := 0, locals := 97 }).room s m ([.ref q, .long x, .long (lN Z)] : List Value).toArray below meth c H locs 0 0 (MQ below (roL s.heap.size (rBh wd po x Z)) ([.ref q, .long x, .long (lN Z)] : List Value).toArray s 0 0 (fun q : Nat => s.heap.size ≤ q)) (F0 m 14 ls []) := by
    intro k
    induction k with
    | zero =>
      intro i h1 h2
      exact absurd h2 (by omega)
    | succ k ih =>
      intro i hi hk H locs hP hS ls hl
      have hZi : Z / 2 ^ i < 2 ^ 35 := Nat.lt_of_le_of_lt (Nat.div_le_self _ _) hZ
      refine lv_lload hx hb dX1_behind_14 (lv_at hl 0 rfl) ?_
      refine lv_lconst (v := 0) hx hb dX1_behind_16 (by decide) ?_
      refine W.lcmp hx hb dX1_behind_17 ?_
      refine lv_if_le (tgt := 68) hx hb dX1_behind_18 (by decide) (fun c_18 => ?_) (fun c_18 => ?_)
      ·
        have hz0 : Z / 2 ^ i = 0 := du_l0 hZi ((lg_cmp_le _ _).mp c_18)
        have hrz : rBhN wd po x Z i = rBh wd po x Z := du_bst hi hz0
        refine lv_lload hx hb dX1_behind_68 (lv_at hl 2 rfl) ?_
        exact W.lret (v := (rBhN wd po x Z i)) hx hb hr (fun t ht hW => ⟨⟨(rBhN wd po x Z i), (), rfl, hrz, trivial⟩, hS.F ht⟩) hS.2.2 dX1_behind_70
      ·
        have hz1 : Z / 2 ^ i ≠ 0 := du_l1 (fun h => c_18 ((lg_cmp_le _ _).mpr h))
        have hlt : i < 35 := du_l2 hZ hi hz1
        refine lv_lload hx hb dX1_behind_21 (lv_at hl 0 rfl) ?_
        refine lv_ldc2 hx hb hown (hts (.constantLong RX1 65 2) (by decide +kernel)) dX1_behind_23 ?_
        refine lv_lrem hx hb dX1_behind_26 (by decide) ?_
        refine lv_lconst (v := 1) hx hb dX1_behind_27 (by decide) ?_
        refine W.lcmp hx hb dX1_behind_28 ?_
        refine lv_if_ne (tgt := 43) hx hb dX1_behind_29 (by decide) (fun c_29 => ?_) (fun c_29 => ?_)
        ·
          refine lv_lload hx hb dX1_behind_43 (lv_at hl 2 rfl) ?_
          refine du_rwl (y := rBhN wd po x Z (i + 1)) (by first | rw [rBhN, if_pos (du_m1 hZi c_29)] | rw [rBhN, if_neg (du_m0 hZi c_29)]) ?_
          refine lv_lstore (lv' := [(5, .long (rBhN wd po x Z (i + 1))), (9, .long (lN (Z / 2 ^ i))), (7, .long (rPw wd po i)), (0, .ref q), (1, .long x), (3, .long (lN Z))]) hx hb dX1_behind_45 hl (by decide) rfl (fun ls hl => ?_)
          refine lv_aload_n hx hb dX1_behind_47 rfl (lv_at hl 3 rfl) ?_
          refine lv_lload hx hb dX1_behind_48 (lv_at hl 2 rfl) ?_
          refine lv_lload hx hb dX1_behind_50 (lv_at hl 2 rfl) ?_
          refine ro_l (va_runV (As := [.long (rPw wd po i), .long (rPw wd po i)]) (rest := []) ⟨hx, hb, hml, hown, hts⟩ (r_times (sz := H.size) (rPw wd po i) (rPw wd po i) (hw1) (hw)) (cwV 2 hts gX1_behind_X1_times rfl rfl rfl (by decide +kernel) ⟨Nat.le_of_ble_eq_true rfl, Nat.le_of_ble_eq_true rfl⟩) (preV_RO hP hK 0 (ci := 1) rfl rfl) rfl rfl hl.1 rfl (lv_room (Nat.le_of_ble_eq_true rfl)) dX1_behind_52 ⟨Nat.le_of_ble_eq_true rfl, Nat.le_of_ble_eq_true rfl⟩) hS hA hP (fun H locs hP hS => ?_)
          refine du_rwl (y := rPw wd po (i + 1)) (rfl) ?_
          refine lv_lstore (lv' := [(7, .long (rPw wd po (i + 1))), (5, .long (rBhN wd po x Z (i + 1))), (9, .long (lN (Z / 2 ^ i))), (0, .ref q), (1, .long x), (3, .long (lN Z))]) hx hb dX1_behind_55 hl (by decide) rfl (fun ls hl => ?_)
          refine lv_lload hx hb dX1_behind_57 (lv_at hl 2 rfl) ?_
          refine lv_ldc2 hx hb hown (hts (.constantLong RX1 65 2) (by decide +kernel)) dX1_behind_59 ?_
          refine lv_ldiv hx hb dX1_behind_62 (by decide) ?_
          refine du_rwl (y := lN (Z / 2 ^ (i + 1))) (du_half hZi) ?_
          refine lv_lstore (lv' := [(9, .long (lN (Z / 2 ^ (i + 1)))), (7, .long (rPw wd po (i + 1))), (5, .long (rBhN wd po x Z (i + 1))), (0, .ref q), (1, .long x), (3, .long (lN Z))]) hx hb dX1_behind_63 hl (by decide) rfl (fun ls hl => ?_)
          refine lv_goto (tgt := 14) hx hb dX1_behind_65 (by decide) ?_
          exact ih (i + 1) (by omega) (by omega) H locs (hP) hS ls (lv_sub hl [0, 1, 2, 3, 4, 5] rfl)
        ·
          refine lv_aload_n hx hb dX1_behind_32 rfl (lv_at hl 3 rfl) ?_
          refine lv_lload hx hb dX1_behind_33 (lv_at hl 2 rfl) ?_
          refine lv_lload hx hb dX1_behind_35 (lv_at hl 1 rfl) ?_
          refine ro_l (va_runV (As := [.long (rBhN wd po x Z i), .long (rPw wd po i)]) (rest := []) ⟨hx, hb, hml, hown, hts⟩ (r_times (sz := H.size) (rBhN wd po x Z i) (rPw wd po i) (hw1) (hw)) (cwV 2 hts gX1_behind_X1_times rfl rfl rfl (by decide +kernel) ⟨Nat.le_of_ble_eq_true rfl, Nat.le_of_ble_eq_true rfl⟩) (preV_RO hP hK 0 (ci := 1) rfl rfl) rfl rfl hl.1 rfl (lv_room (Nat.le_of_ble_eq_true rfl)) dX1_behind_37 ⟨Nat.le_of_ble_eq_true rfl, Nat.le_of_ble_eq_true rfl⟩) hS hA hP (fun H locs hP hS => ?_)
          refine lv_goto (tgt := 45) hx hb dX1_behind_40 (by decide) ?_
          refine du_rwl (y := rBhN wd po x Z (i + 1)) (by first | rw [rBhN, if_pos (du_m1 hZi c_29)] | rw [rBhN, if_neg (du_m0 hZi c_29)]) ?_
          refine lv_lstore (lv' := [(5, .long (rBhN wd po x Z (i + 1))), (9, .long (lN (Z / 2 ^ i))), (7, .long (rPw wd po i)), (0, .ref q), (1, .long x), (3, .long (lN Z))]) hx hb dX1_behind_45 hl (by decide) rfl (fun ls hl => ?_)
          refine lv_aload_n hx hb dX1_behind_47 rfl (lv_at hl 3 rfl) ?_
          refine lv_lload hx hb dX1_behind_48 (lv_at hl 2 rfl) ?_
          refine lv_lload hx hb dX1_behind_50 (lv_at hl 2 rfl) ?_
          refine ro_l (va_runV (As := [.long (rPw wd po i), .long (rPw wd po i)]) (rest := []) ⟨hx, hb, hml, hown, hts⟩ (r_times (sz := H.size) (rPw wd po i) (rPw wd po i) (hw1) (hw)) (cwV 2 hts gX1_behind_X1_times rfl rfl rfl (by decide +kernel) ⟨Nat.le_of_ble_eq_true rfl, Nat.le_of_ble_eq_true rfl⟩) (preV_RO hP hK 0 (ci := 1) rfl rfl) rfl rfl hl.1 rfl (lv_room (Nat.le_of_ble_eq_true rfl)) dX1_behind_52 ⟨Nat.le_of_ble_eq_true rfl, Nat.le_of_ble_eq_true rfl⟩) hS hA hP (fun H locs hP hS => ?_)
          refine du_rwl (y := rPw wd po (i + 1)) (rfl) ?_
          refine lv_lstore (lv' := [(7, .long (rPw wd po (i + 1))), (5, .long (rBhN wd po x Z (i + 1))), (9, .long (lN (Z / 2 ^ i))), (0, .ref q), (1, .long x), (3, .long (lN Z))]) hx hb dX1_behind_55 hl (by decide) rfl (fun ls hl => ?_)
          refine lv_lload hx hb dX1_behind_57 (lv_at hl 2 rfl) ?_
          refine lv_ldc2 hx hb hown (hts (.constantLong RX1 65 2) (by decide +kernel)) dX1_behind_59 ?_
          refine lv_ldiv hx hb dX1_behind_62 (by decide) ?_
          refine du_rwl (y := lN (Z / 2 ^ (i + 1))) (du_half hZi) ?_
          refine lv_lstore (lv' := [(9, .long (lN (Z / 2 ^ (i + 1)))), (7, .long (rPw wd po (i + 1))), (5, .long (rBhN wd po x Z (i + 1))), (0, .ref q), (1, .long x), (3, .long (lN Z))]) hx hb dX1_behind_63 hl (by decide) rfl (fun ls hl => ?_)
          refine lv_goto (tgt := 14) hx hb dX1_behind_65 (by decide) ?_
          exact ih (i + 1) (by omega) (by omega) H locs (hP) hS ls (lv_sub hl [0, 1, 2, 3, 4, 5] rfl)
  exact lp_14 (35 + 1 - 0) 0 (by omega) (by omega) H locs (hP) hS ls (by rw [show lN (Z / 2 ^ 0) = lN Z by rw [Nat.pow_zero, Nat.div_one]]; exact lv_sub hl [0, 1, 2, 3, 4, 5] rfl)
theorem in_r_joined : ∀ w ∈ wsX10, w ∈ wsX1_joined := fun _ h => List.mem_cons_of_mem _ (List.mem_append_right _ h)
set_option maxHeartbeats 4000000 in
set_option maxRecDepth 100000 in
theorem r_joined {l : Launch} {D : va_G} {q b1 : Nat} {k4 : ClassId} {by8 : Nat → Int32} {wd : Nat} {po : Int64} {fi : Int64} {la : Int64} {bi : Int32} {bo : Int32} {nb : Nat} {sz : Nat} (x : Int64) (y : Int64) (n : Int32) (hw1 : 1 ≤ wd) (hw : wd ≤ 64) : Met l yX1_joined wsX1_joined ({ frames := 5, cells := 0, slots := 0, locals := 127 }) (va_Pc [.ref q, .long x, .long y, .int n] (pRO D vwCl (mt k4) (mw q b1 k4 by8 wd po fi la bi bo nb) sz)) (roL sz (rJoin wd po fi la bo x y n)) 0 0 (fun q : Nat => sz ≤ q) := by
  refine Met.ofW (cc := cX1_joined) (maxL := 6) (ret := (some .long)) (by decide) rfl ?_
  intro p e s m args below meth c s₁ B hml hv
  obtain ⟨rfl, hsz, hP, hK⟩ := hv
  have hsz : s.heap.size = sz := hsz
  have hx := B.exec
  have hb := B.bytes
  have hr := B.returns
  have hts := atoms_spec (ws := wsX1_joined) B.pre
  have hown : s.vm.findClass RX1 = some m.cls := findClass_of_methodNamed B.named
  have hlocks := B.notSynchronized
  subst hsz
  have hA : ∀ q : Nat, s.heap.size ≤ q → (fun q : Nat => s.heap.size ≤ q) q := fun _ h => h
  have hS : va_S (fun q : Nat => s.heap.size ≤ q) s.heap s.heap [] := va_S.rf
  have hl := lv_entry ([.ref q, .long x, .long y, .int n]) (n := 6) (Nat.le_of_ble_eq_true rfl)
  rw [lg_entry_eq]
  generalize (lg_sl ([.ref q, .long x, .long y, .int n]) ++ List.replicate (6 - (lg_sl ([.ref q, .long x, .long y, .int n])).length) Slot.unset).toArray = ls at hl ⊢
  have hl : lv_has ls 6 [(0, .ref q), (1, .long x), (3, .long y), (5, .int n)] := hl
  suffices key : ∀ (H : Heap) (locs : List Loc), va_P D vwCl (mw q b1 k4 by8 wd po fi la bi bo nb) H → va_S (fun q : Nat => s.heap.size ≤ q) s.heap H locs → W p l e (headSpec wsX1_joined { frames := 5, cells := 0, slots := 0, locals := 127 }).room s m ([.ref q, .long x, .long y, .int n] : List Value).toArray below meth c H locs 0 0 (MQ below (roL s.heap.size (rJoin wd po fi la bo x y n)) ([.ref q, .long x, .long y, .int n] : List Value).toArray s 0 0 (fun q : Nat => s.heap.size ≤ q)) (F0 m 0 ls []) from key s.heap [] hP hS
  intro H locs hP hS
  refine lv_iload hx hb dX1_joined_0 (lv_at hl 3 rfl) ?_
  refine lv_if_ge (tgt := 7) hx hb dX1_joined_2 (by decide) (fun c_2 => ?_) (fun c_2 => ?_)
  ·
    refine lv_aload_n hx hb dX1_joined_7 rfl (lv_at hl 0 rfl) ?_
    refine lv_aload_n hx hb dX1_joined_8 rfl (lv_at hl 0 rfl) ?_
    refine lv_aload_n hx hb dX1_joined_9 rfl (lv_at hl 0 rfl) ?_
    refine lv_lload_n hx hb dX1_joined_10 rfl (lv_at hl 1 rfl) ?_
    refine ro_l (va_runV (As := [.long x]) (rest := [.ref q, .ref q]) ⟨hx, hb, hml, hown, hts⟩ (r_register (sz := H.size) x (hw)) (cwV 1 hts gX1_joined_X1_register rfl rfl rfl (by decide +kernel) ⟨Nat.le_of_ble_eq_true rfl, Nat.le_of_ble_eq_true rfl⟩) (preV_RO hP hK 0 (ci := 1) rfl rfl) rfl rfl hl.1 rfl (lv_room (Nat.le_of_ble_eq_true rfl)) dX1_joined_11 ⟨Nat.le_of_ble_eq_true rfl, Nat.le_of_ble_eq_true rfl⟩) hS hA hP (fun H locs hP hS => ?_)
    refine lv_aload_n hx hb dX1_joined_14 rfl (lv_at hl 0 rfl) ?_
    refine va_get (D := D) (ci := 1) (v := .long fi) (C := RX1) (T := TX1) (N := 8) hx hb hts in_r_joined hown hK hP 0 rfl rfl 2 (by decide) (hts (.fieldLink RX1 21 "SliceChecksModel" "first" "J") (by decide +kernel)) (fun _ h9 => h9) rfl dX1_joined_15 ?_
    refine lv_lxor hx hb dX1_joined_18 ?_
    refine lv_ldc2 hx hb hown (hts (.constantLong RX1 74 8) (by decide +kernel)) dX1_joined_19 ?_
    refine lv_iload hx hb dX1_joined_22 (lv_at hl 3 rfl) ?_
    refine lv_i2l (v := n.toInt64) hx hb dX1_joined_24 rfl ?_
    refine lv_lmul hx hb dX1_joined_25 ?_
    refine du_rwl (y := lN (8 * n.toNatClampNeg)) (du_8n c_2) ?_
    refine ro_l (va_runV (As := [.long ((rReg bo la wd x) ^^^ fi), .long (lN (8 * n.toNatClampNeg))]) (rest := [.ref q]) ⟨hx, hb, hml, hown, hts⟩ (r_behind (sz := H.size) ((rReg bo la wd x) ^^^ fi) (8 * n.toNatClampNeg) (hw1) (hw) (du_8l n)) (cwV 2 hts gX1_joined_X1_behind rfl rfl rfl (by decide +kernel) ⟨Nat.le_of_ble_eq_true rfl, Nat.le_of_ble_eq_true rfl⟩) (preV_RO hP hK 0 (ci := 1) rfl rfl) rfl rfl hl.1 rfl (lv_room (Nat.le_of_ble_eq_true rfl)) dX1_joined_26 ⟨Nat.le_of_ble_eq_true rfl, Nat.le_of_ble_eq_true rfl⟩) hS hA hP (fun H locs hP hS => ?_)
    refine lv_aload_n hx hb dX1_joined_29 rfl (lv_at hl 0 rfl) ?_
    refine lv_lload_n hx hb dX1_joined_30 rfl (lv_at hl 2 rfl) ?_
    refine ro_l (va_runV (As := [.long y]) (rest := [.long (rBh wd po ((rReg bo la wd x) ^^^ fi) (8 * n.toNatClampNeg)), .ref q]) ⟨hx, hb, hml, hown, hts⟩ (r_register (sz := H.size) y (hw)) (cwV 1 hts gX1_joined_X1_register rfl rfl rfl (by decide +kernel) ⟨Nat.le_of_ble_eq_true rfl, Nat.le_of_ble_eq_true rfl⟩) (preV_RO hP hK 0 (ci := 1) rfl rfl) rfl rfl hl.1 rfl (lv_room (Nat.le_of_ble_eq_true rfl)) dX1_joined_31 ⟨Nat.le_of_ble_eq_true rfl, Nat.le_of_ble_eq_true rfl⟩) hS hA hP (fun H locs hP hS => ?_)
    refine lv_lxor hx hb dX1_joined_34 ?_
    refine ro_l (va_runV (As := [.long ((rBh wd po ((rReg bo la wd x) ^^^ fi) (8 * n.toNatClampNeg)) ^^^ (rReg bo la wd y))]) (rest := []) ⟨hx, hb, hml, hown, hts⟩ (r_told (sz := H.size) ((rBh wd po ((rReg bo la wd x) ^^^ fi) (8 * n.toNatClampNeg)) ^^^ (rReg bo la wd y)) (hw)) (cwV 1 hts gX1_joined_X1_told rfl rfl rfl (by decide +kernel) ⟨Nat.le_of_ble_eq_true rfl, Nat.le_of_ble_eq_true rfl⟩) (preV_RO hP hK 0 (ci := 1) rfl rfl) rfl rfl hl.1 rfl (lv_room (Nat.le_of_ble_eq_true rfl)) dX1_joined_35 ⟨Nat.le_of_ble_eq_true rfl, Nat.le_of_ble_eq_true rfl⟩) hS hA hP (fun H locs hP hS => ?_)
    exact W.lret (v := (rTold bo la wd ((rBh wd po ((rReg bo la wd x) ^^^ fi) (8 * n.toNatClampNeg)) ^^^ (rReg bo la wd y)))) hx hb hr (fun t ht hW => ⟨⟨(rTold bo la wd ((rBh wd po ((rReg bo la wd x) ^^^ fi) (8 * n.toNatClampNeg)) ^^^ (rReg bo la wd y))), (), rfl, by first | rw [rJoin, if_pos c_2] | rw [rJoin, if_neg c_2], trivial⟩, hS.F ht⟩) hS.2.2 dX1_joined_38
  ·
    refine lv_lconst (v := 0) hx hb dX1_joined_5 (by decide) ?_
    exact W.lret (v := 0) hx hb hr (fun t ht hW => ⟨⟨0, (), rfl, by first | rw [rJoin, if_pos c_2] | rw [rJoin, if_neg c_2], trivial⟩, hS.F ht⟩) hS.2.2 dX1_joined_6
theorem in_r_entry : ∀ w ∈ wsX10, w ∈ wsX1_entry := fun _ h => List.mem_cons_of_mem _ (List.mem_append_right _ h)
set_option maxHeartbeats 4000000 in
set_option maxRecDepth 100000 in
theorem r_entry {l : Launch} {D : va_G} {q b1 : Nat} {k4 : ClassId} {by8 : Nat → Int32} {wd : Nat} {po : Int64} {fi : Int64} {la : Int64} {bi : Int32} {bo : Int32} {nb : Nat} {sz : Nat} (k : Int32) (b : Int32) (hw1 : 1 ≤ wd) (hw : wd ≤ 64) : Met l yX1_entry wsX1_entry ({ frames := 5, cells := 0, slots := 0, locals := 127 }) (va_Pc [.ref q, .int k, .int b] (pRO D vwCl (mt k4) (mw q b1 k4 by8 wd po fi la bi bo nb) sz)) (roL sz (rEntry wd po bi k b)) 0 0 (fun q : Nat => sz ≤ q) := by
  refine Met.ofW (cc := cX1_entry) (maxL := 3) (ret := (some .long)) (by decide) rfl ?_
  intro p e s m args below meth c s₁ B hml hv
  obtain ⟨rfl, hsz, hP, hK⟩ := hv
  have hsz : s.heap.size = sz := hsz
  have hx := B.exec
  have hb := B.bytes
  have hr := B.returns
  have hts := atoms_spec (ws := wsX1_entry) B.pre
  have hown : s.vm.findClass RX1 = some m.cls := findClass_of_methodNamed B.named
  have hlocks := B.notSynchronized
  subst hsz
  have hA : ∀ q : Nat, s.heap.size ≤ q → (fun q : Nat => s.heap.size ≤ q) q := fun _ h => h
  have hS : va_S (fun q : Nat => s.heap.size ≤ q) s.heap s.heap [] := va_S.rf
  have hl := lv_entry ([.ref q, .int k, .int b]) (n := 3) (Nat.le_of_ble_eq_true rfl)
  rw [lg_entry_eq]
  generalize (lg_sl ([.ref q, .int k, .int b]) ++ List.replicate (3 - (lg_sl ([.ref q, .int k, .int b])).length) Slot.unset).toArray = ls at hl ⊢
  have hl : lv_has ls 3 [(0, .ref q), (1, .int k), (2, .int b)] := hl
  suffices key : ∀ (H : Heap) (locs : List Loc), va_P D vwCl (mw q b1 k4 by8 wd po fi la bi bo nb) H → va_S (fun q : Nat => s.heap.size ≤ q) s.heap H locs → W p l e (headSpec wsX1_entry { frames := 5, cells := 0, slots := 0, locals := 127 }).room s m ([.ref q, .int k, .int b] : List Value).toArray below meth c H locs 0 0 (MQ below (roL s.heap.size (rEntry wd po bi k b)) ([.ref q, .int k, .int b] : List Value).toArray s 0 0 (fun q : Nat => s.heap.size ≤ q)) (F0 m 0 ls []) from key s.heap [] hP hS
  intro H locs hP hS
  refine lv_iload_n hx hb dX1_entry_0 rfl (lv_at hl 1 rfl) ?_
  refine lv_if_lt (tgt := 21) hx hb dX1_entry_1 (by decide) (fun c_1 => ?_) (fun c_1 => ?_)
  ·
    refine lv_lconst (v := 0) hx hb dX1_entry_21 (by decide) ?_
    exact W.lret (v := 0) hx hb hr (fun t ht hW => ⟨⟨0, (), rfl, by first | rw [rEntry, if_pos c_1] | rw [rEntry, if_neg c_1, if_pos c_7] | rw [rEntry, if_neg c_1, if_neg c_7, if_pos c_11] | rw [rEntry, if_neg c_1, if_neg c_7, if_neg c_11, if_pos c_18] | rw [rEntry, if_neg c_1, if_neg c_7, if_neg c_11, if_neg c_18], trivial⟩, hS.F ht⟩) hS.2.2 dX1_entry_22
  ·
    refine lv_iload_n hx hb dX1_entry_4 rfl (lv_at hl 1 rfl) ?_
    refine lv_bipush (v := 7) hx hb dX1_entry_5 (by decide) ?_
    refine lv_icmp_gt (tgt := 21) hx hb dX1_entry_7 (by decide) (fun c_7 => ?_) (fun c_7 => ?_)
    ·
      refine lv_lconst (v := 0) hx hb dX1_entry_21 (by decide) ?_
      exact W.lret (v := 0) hx hb hr (fun t ht hW => ⟨⟨0, (), rfl, by first | rw [rEntry, if_pos c_1] | rw [rEntry, if_neg c_1, if_pos c_7] | rw [rEntry, if_neg c_1, if_neg c_7, if_pos c_11] | rw [rEntry, if_neg c_1, if_neg c_7, if_neg c_11, if_pos c_18] | rw [rEntry, if_neg c_1, if_neg c_7, if_neg c_11, if_neg c_18], trivial⟩, hS.F ht⟩) hS.2.2 dX1_entry_22
    ·
      refine lv_iload_n hx hb dX1_entry_10 rfl (lv_at hl 2 rfl) ?_
      refine lv_if_lt (tgt := 21) hx hb dX1_entry_11 (by decide) (fun c_11 => ?_) (fun c_11 => ?_)
      ·
        refine lv_lconst (v := 0) hx hb dX1_entry_21 (by decide) ?_
        exact W.lret (v := 0) hx hb hr (fun t ht hW => ⟨⟨0, (), rfl, by first | rw [rEntry, if_pos c_1] | rw [rEntry, if_neg c_1, if_pos c_7] | rw [rEntry, if_neg c_1, if_neg c_7, if_pos c_11] | rw [rEntry, if_neg c_1, if_neg c_7, if_neg c_11, if_pos c_18] | rw [rEntry, if_neg c_1, if_neg c_7, if_neg c_11, if_neg c_18], trivial⟩, hS.F ht⟩) hS.2.2 dX1_entry_22
      ·
        refine lv_iload_n hx hb dX1_entry_14 rfl (lv_at hl 2 rfl) ?_
        refine lv_sipush (v := 255) hx hb dX1_entry_15 (by decide) ?_
        refine lv_icmp_le (tgt := 23) hx hb dX1_entry_18 (by decide) (fun c_18 => ?_) (fun c_18 => ?_)
        ·
          refine lv_aload_n hx hb dX1_entry_23 rfl (lv_at hl 0 rfl) ?_
          refine lv_aload_n hx hb dX1_entry_24 rfl (lv_at hl 0 rfl) ?_
          refine lv_lconst (v := 0) hx hb dX1_entry_25 (by decide) ?_
          refine lv_iload_n hx hb dX1_entry_26 rfl (lv_at hl 2 rfl) ?_
          refine ro_l (va_runV (As := [.long 0, .int b]) (rest := [.ref q]) ⟨hx, hb, hml, hown, hts⟩ (r_oneByte (sz := H.size) 0 b) (cwV 2 hts gX1_entry_X1_oneByte rfl rfl rfl (by decide +kernel) ⟨Nat.le_of_ble_eq_true rfl, Nat.le_of_ble_eq_true rfl⟩) (preV_RO hP hK 0 (ci := 1) rfl rfl) rfl rfl hl.1 rfl (lv_room (Nat.le_of_ble_eq_true rfl)) dX1_entry_27 ⟨Nat.le_of_ble_eq_true rfl, Nat.le_of_ble_eq_true rfl⟩) hS hA hP (fun H locs hP hS => ?_)
          refine lv_ldc2 hx hb hown (hts (.constantLong RX1 74 8) (by decide +kernel)) dX1_entry_30 ?_
          refine lv_iload_n hx hb dX1_entry_33 rfl (lv_at hl 1 rfl) ?_
          refine lv_i2l (v := k.toInt64) hx hb dX1_entry_34 rfl ?_
          refine lv_lmul hx hb dX1_entry_35 ?_
          refine du_rwl (y := lN (8 * k.toNatClampNeg)) (du_8n (du_pos c_1)) ?_
          refine ro_l (va_runV (As := [.long (rByN (nI wd) po bi b 0 8), .long (lN (8 * k.toNatClampNeg))]) (rest := []) ⟨hx, hb, hml, hown, hts⟩ (r_behind (sz := H.size) (rByN (nI wd) po bi b 0 8) (8 * k.toNatClampNeg) (hw1) (hw) (du_8l k)) (cwV 2 hts gX1_entry_X1_behind rfl rfl rfl (by decide +kernel) ⟨Nat.le_of_ble_eq_true rfl, Nat.le_of_ble_eq_true rfl⟩) (preV_RO hP hK 0 (ci := 1) rfl rfl) rfl rfl hl.1 rfl (lv_room (Nat.le_of_ble_eq_true rfl)) dX1_entry_36 ⟨Nat.le_of_ble_eq_true rfl, Nat.le_of_ble_eq_true rfl⟩) hS hA hP (fun H locs hP hS => ?_)
          exact W.lret (v := (rBh wd po (rByN (nI wd) po bi b 0 8) (8 * k.toNatClampNeg))) hx hb hr (fun t ht hW => ⟨⟨(rBh wd po (rByN (nI wd) po bi b 0 8) (8 * k.toNatClampNeg)), (), rfl, by first | rw [rEntry, if_pos c_1] | rw [rEntry, if_neg c_1, if_pos c_7] | rw [rEntry, if_neg c_1, if_neg c_7, if_pos c_11] | rw [rEntry, if_neg c_1, if_neg c_7, if_neg c_11, if_pos c_18] | rw [rEntry, if_neg c_1, if_neg c_7, if_neg c_11, if_neg c_18], trivial⟩, hS.F ht⟩) hS.2.2 dX1_entry_39
        ·
          refine lv_lconst (v := 0) hx hb dX1_entry_21 (by decide) ?_
          exact W.lret (v := 0) hx hb hr (fun t ht hW => ⟨⟨0, (), rfl, by first | rw [rEntry, if_pos c_1] | rw [rEntry, if_neg c_1, if_pos c_7] | rw [rEntry, if_neg c_1, if_neg c_7, if_pos c_11] | rw [rEntry, if_neg c_1, if_neg c_7, if_neg c_11, if_pos c_18] | rw [rEntry, if_neg c_1, if_neg c_7, if_neg c_11, if_neg c_18], trivial⟩, hS.F ht⟩) hS.2.2 dX1_entry_22
theorem in_r_zeros : ∀ w ∈ wsX10, w ∈ wsX1_zeros := fun _ h => List.mem_cons_of_mem _ (List.mem_append_right _ h)
set_option maxHeartbeats 4000000 in
set_option maxRecDepth 100000 in
theorem r_zeros {l : Launch} {D : va_G} {q b1 : Nat} {k4 : ClassId} {by8 : Nat → Int32} {wd : Nat} {po : Int64} {fi : Int64} {la : Int64} {bi : Int32} {bo : Int32} {nb : Nat} {sz : Nat} (x : Int64) (n : Int32) (hw1 : 1 ≤ wd) (hw : wd ≤ 64) : Met l yX1_zeros wsX1_zeros ({ frames := 5, cells := 0, slots := 0, locals := 127 }) (va_Pc [.ref q, .long x, .int n] (pRO D vwCl (mt k4) (mw q b1 k4 by8 wd po fi la bi bo nb) sz)) (roL sz (rZeros wd po x n)) 0 0 (fun q : Nat => sz ≤ q) := by
  refine Met.ofW (cc := cX1_zeros) (maxL := 4) (ret := (some .long)) (by decide) rfl ?_
  intro p e s m args below meth c s₁ B hml hv
  obtain ⟨rfl, hsz, hP, hK⟩ := hv
  have hsz : s.heap.size = sz := hsz
  have hx := B.exec
  have hb := B.bytes
  have hr := B.returns
  have hts := atoms_spec (ws := wsX1_zeros) B.pre
  have hown : s.vm.findClass RX1 = some m.cls := findClass_of_methodNamed B.named
  have hlocks := B.notSynchronized
  subst hsz
  have hA : ∀ q : Nat, s.heap.size ≤ q → (fun q : Nat => s.heap.size ≤ q) q := fun _ h => h
  have hS : va_S (fun q : Nat => s.heap.size ≤ q) s.heap s.heap [] := va_S.rf
  have hl := lv_entry ([.ref q, .long x, .int n]) (n := 4) (Nat.le_of_ble_eq_true rfl)
  rw [lg_entry_eq]
  generalize (lg_sl ([.ref q, .long x, .int n]) ++ List.replicate (4 - (lg_sl ([.ref q, .long x, .int n])).length) Slot.unset).toArray = ls at hl ⊢
  have hl : lv_has ls 4 [(0, .ref q), (1, .long x), (3, .int n)] := hl
  suffices key : ∀ (H : Heap) (locs : List Loc), va_P D vwCl (mw q b1 k4 by8 wd po fi la bi bo nb) H → va_S (fun q : Nat => s.heap.size ≤ q) s.heap H locs → W p l e (headSpec wsX1_zeros { frames := 5, cells := 0, slots := 0, locals := 127 }).room s m ([.ref q, .long x, .int n] : List Value).toArray below meth c H locs 0 0 (MQ below (roL s.heap.size (rZeros wd po x n)) ([.ref q, .long x, .int n] : List Value).toArray s 0 0 (fun q : Nat => s.heap.size ≤ q)) (F0 m 0 ls []) from key s.heap [] hP hS
  intro H locs hP hS
  refine lv_iload_n hx hb dX1_zeros_0 rfl (lv_at hl 2 rfl) ?_
  refine lv_if_lt (tgt := 10) hx hb dX1_zeros_1 (by decide) (fun c_1 => ?_) (fun c_1 => ?_)
  ·
    refine lv_lconst (v := 0) hx hb dX1_zeros_10 (by decide) ?_
    refine lv_goto (tgt := 25) hx hb dX1_zeros_11 (by decide) ?_
    exact W.lret (v := 0) hx hb hr (fun t ht hW => ⟨⟨0, (), rfl, by first | rw [rZeros, if_pos c_1] | rw [rZeros, if_neg c_1, if_pos c_7] | rw [rZeros, if_neg c_1, if_neg c_7], trivial⟩, hS.F ht⟩) hS.2.2 dX1_zeros_25
  ·
    refine lv_iload_n hx hb dX1_zeros_4 rfl (lv_at hl 2 rfl) ?_
    refine lv_ldc hx hb hown (hts (.constant RX1 79 1000000) (by decide +kernel)) dX1_zeros_5 ?_
    refine lv_icmp_le (tgt := 14) hx hb dX1_zeros_7 (by decide) (fun c_7 => ?_) (fun c_7 => ?_)
    ·
      refine lv_aload_n hx hb dX1_zeros_14 rfl (lv_at hl 0 rfl) ?_
      refine lv_aload_n hx hb dX1_zeros_15 rfl (lv_at hl 0 rfl) ?_
      refine lv_lload_n hx hb dX1_zeros_16 rfl (lv_at hl 1 rfl) ?_
      refine ro_l (va_runV (As := [.long x]) (rest := [.ref q]) ⟨hx, hb, hml, hown, hts⟩ (r_cut (sz := H.size) x) (cwV 1 hts gX1_zeros_X1_cut rfl rfl rfl (by decide +kernel) ⟨Nat.le_of_ble_eq_true rfl, Nat.le_of_ble_eq_true rfl⟩) (preV_RO hP hK 0 (ci := 1) rfl rfl) rfl rfl hl.1 rfl (lv_room (Nat.le_of_ble_eq_true rfl)) dX1_zeros_17 ⟨Nat.le_of_ble_eq_true rfl, Nat.le_of_ble_eq_true rfl⟩) hS hA hP (fun H locs hP hS => ?_)
      refine lv_iload_n hx hb dX1_zeros_20 rfl (lv_at hl 2 rfl) ?_
      refine lv_i2l (v := n.toInt64) hx hb dX1_zeros_21 rfl ?_
      refine du_rwl (y := lN n.toNatClampNeg) (du_ln c_1) ?_
      refine ro_l (va_runV (As := [.long (rLow x (nI wd)), .long (lN n.toNatClampNeg)]) (rest := []) ⟨hx, hb, hml, hown, hts⟩ (r_behind (sz := H.size) (rLow x (nI wd)) n.toNatClampNeg (hw1) (hw) (du_ll n)) (cwV 2 hts gX1_zeros_X1_behind rfl rfl rfl (by decide +kernel) ⟨Nat.le_of_ble_eq_true rfl, Nat.le_of_ble_eq_true rfl⟩) (preV_RO hP hK 0 (ci := 1) rfl rfl) rfl rfl hl.1 rfl (lv_room (Nat.le_of_ble_eq_true rfl)) dX1_zeros_22 ⟨Nat.le_of_ble_eq_true rfl, Nat.le_of_ble_eq_true rfl⟩) hS hA hP (fun H locs hP hS => ?_)
      exact W.lret (v := (rBh wd po (rLow x (nI wd)) n.toNatClampNeg)) hx hb hr (fun t ht hW => ⟨⟨(rBh wd po (rLow x (nI wd)) n.toNatClampNeg), (), rfl, by first | rw [rZeros, if_pos c_1] | rw [rZeros, if_neg c_1, if_pos c_7] | rw [rZeros, if_neg c_1, if_neg c_7], trivial⟩, hS.F ht⟩) hS.2.2 dX1_zeros_25
    ·
      refine lv_lconst (v := 0) hx hb dX1_zeros_10 (by decide) ?_
      refine lv_goto (tgt := 25) hx hb dX1_zeros_11 (by decide) ?_
      exact W.lret (v := 0) hx hb hr (fun t ht hW => ⟨⟨0, (), rfl, by first | rw [rZeros, if_pos c_1] | rw [rZeros, if_neg c_1, if_pos c_7] | rw [rZeros, if_neg c_1, if_neg c_7], trivial⟩, hS.F ht⟩) hS.2.2 dX1_zeros_25
theorem in_r_round : ∀ w ∈ wsX10, w ∈ wsX1_round := fun _ h => List.mem_cons_of_mem _ (List.mem_append_right _ h)
set_option maxHeartbeats 4000000 in
set_option maxRecDepth 100000 in
theorem r_round {l : Launch} {D : va_G} {q b1 : Nat} {k4 : ClassId} {by8 : Nat → Int32} {wd : Nat} {po : Int64} {fi : Int64} {la : Int64} {bi : Int32} {bo : Int32} {nb : Nat} {sz : Nat}   : Met l yX1_round wsX1_round ({ frames := 3, cells := 0, slots := 0, locals := 70 }) (va_Pc [.ref q] (pRO D vwCl (mt k4) (mw q b1 k4 by8 wd po fi la bi bo nb) sz)) (roI sz (rRound wd po)) 0 0 (fun q : Nat => sz ≤ q) := by
  refine Met.ofW (cc := cX1_round) (maxL := 4) (ret := (some .int)) (by decide) rfl ?_
  intro p e s m args below meth c s₁ B hml hv
  obtain ⟨rfl, hsz, hP, hK⟩ := hv
  have hsz : s.heap.size = sz := hsz
  have hx := B.exec
  have hb := B.bytes
  have hr := B.returns
  have hts := atoms_spec (ws := wsX1_round) B.pre
  have hown : s.vm.findClass RX1 = some m.cls := findClass_of_methodNamed B.named
  have hlocks := B.notSynchronized
  subst hsz
  have hA : ∀ q : Nat, s.heap.size ≤ q → (fun q : Nat => s.heap.size ≤ q) q := fun _ h => h
  have hS : va_S (fun q : Nat => s.heap.size ≤ q) s.heap s.heap [] := va_S.rf
  have hl := lv_entry ([.ref q]) (n := 4) (Nat.le_of_ble_eq_true rfl)
  rw [lg_entry_eq]
  generalize (lg_sl ([.ref q]) ++ List.replicate (4 - (lg_sl ([.ref q])).length) Slot.unset).toArray = ls at hl ⊢
  have hl : lv_has ls 4 [(0, .ref q)] := hl
  suffices key : ∀ (H : Heap) (locs : List Loc), va_P D vwCl (mw q b1 k4 by8 wd po fi la bi bo nb) H → va_S (fun q : Nat => s.heap.size ≤ q) s.heap H locs → W p l e (headSpec wsX1_round { frames := 3, cells := 0, slots := 0, locals := 70 }).room s m ([.ref q] : List Value).toArray below meth c H locs 0 0 (MQ below (roI s.heap.size (rRound wd po)) ([.ref q] : List Value).toArray s 0 0 (fun q : Nat => s.heap.size ≤ q)) (F0 m 0 ls []) from key s.heap [] hP hS
  intro H locs hP hS
  refine lv_lconst (v := 1) hx hb dX1_round_0 (by decide) ?_
  refine lv_lstore_n (lv' := [(1, .long 1), (0, .ref q)]) hx hb dX1_round_1 rfl hl (by decide) rfl (fun ls hl => ?_)
  refine lv_iconst (v := 1) hx hb dX1_round_2 (by decide) ?_
  refine lv_istore_n (lv' := [(3, .int 1), (1, .long 1), (0, .ref q)]) hx hb dX1_round_3 rfl hl (by decide) rfl (fun ls hl => ?_)
  have lp_4 : ∀ (k i : Nat), i ≤ 4096 → 4096 < i + k → firstAt (fun i => decide (rRdN wd po i = 1)) i (4096 - i) = rRound wd po → ∀ (H : Heap) (locs : List Loc), va_P D vwCl (mw q b1 k4 by8 wd po fi la bi bo nb) H → va_S (fun q : Nat => s.heap.size ≤ q) s.heap H locs → ∀ ls : Array Slot, lv_has ls 4 [(3, .int (nI (i + 1))), (1, .long (rRdN wd po i)), (0, .ref q)] → W p l e (headSpec wsX1_round { frames := 3, cells := 0, slots := 0, locals := 70 }).room s m ([.ref q] : List Value).toArray below meth c H locs 0 0 (MQ below (roI s.heap.size (rRound wd po)) ([.ref q] : List Value).toArray s 0 0 (fun q : Nat => s.heap.size ≤ q)) (F0 m 4 ls []) := by
    intro k
    induction k with
    | zero =>
      intro i h1 h2
      exact absurd h2 (by omega)
    | succ k ih =>
      intro i hi hk hfr H locs hP hS ls hl
      refine lv_iload_n hx hb dX1_round_4 rfl (lv_at hl 0 rfl) ?_
      refine lv_sipush (v := 4096) hx hb dX1_round_5 (by decide) ?_
      refine lv_icmp_gt (tgt := 32) hx hb dX1_round_8 (by decide) (fun c_8 => ?_) (fun c_8 => ?_)
      ·
        have hiN : i = 4096 := du_rd1 hi c_8
        refine lv_iconst (v := (-1)) hx hb dX1_round_32 (by decide) ?_
        exact W.iret (v := (-1)) hx hb hr (fun t ht hW => ⟨⟨(-1), (), rfl, by rw [← hfr, hiN]; rfl, trivial⟩, hS.F ht⟩) hS.2.2 dX1_round_33
      ·
        have hlt : i < 4096 := du_rd2 hi c_8
        refine lv_aload_n hx hb dX1_round_11 rfl (lv_at hl 2 rfl) ?_
        refine lv_lload_n hx hb dX1_round_12 rfl (lv_at hl 1 rfl) ?_
        refine lv_iconst (v := 0) hx hb dX1_round_13 (by decide) ?_
        refine ro_l (va_runV (As := [.long (rRdN wd po i), .int 0]) (rest := []) ⟨hx, hb, hml, hown, hts⟩ (r_bit (sz := H.size) (rRdN wd po i) 0) (cwV 2 hts gX1_round_X1_bit rfl rfl rfl (by decide +kernel) ⟨Nat.le_of_ble_eq_true rfl, Nat.le_of_ble_eq_true rfl⟩) (preV_RO hP hK 0 (ci := 1) rfl rfl) rfl rfl hl.1 rfl (lv_room (Nat.le_of_ble_eq_true rfl)) dX1_round_14 ⟨Nat.le_of_ble_eq_true rfl, Nat.le_of_ble_eq_true rfl⟩) hS hA hP (fun H locs hP hS => ?_)
        refine du_rwl (y := rRdN wd po (i + 1)) (rfl) ?_
        refine lv_lstore_n (lv' := [(1, .long (rRdN wd po (i + 1))), (3, .int (nI (i + 1))), (0, .ref q)]) hx hb dX1_round_17 rfl hl (by decide) rfl (fun ls hl => ?_)
        refine lv_lload_n hx hb dX1_round_18 rfl (lv_at hl 0 rfl) ?_
        refine lv_lconst (v := 1) hx hb dX1_round_19 (by decide) ?_
        refine W.lcmp hx hb dX1_round_20 ?_
        refine lv_if_ne (tgt := 26) hx hb dX1_round_21 (by decide) (fun c_21 => ?_) (fun c_21 => ?_)
        ·
          have hfr2 : firstAt (fun i => decide (rRdN wd po i = 1)) (i + 1) (4096 - (i + 1)) = rRound wd po := by rw [← hfr, du_fn hlt]; exact (if_neg (by simpa using fun h => c_21 ((lg_cmp_eq _ _).mpr h))).symm
          refine lv_iinc (v := nI (i + 1 + 1)) (lv' := [(3, .int (nI (i + 1 + 1))), (1, .long (rRdN wd po (i + 1))), (0, .ref q)]) hx hb dX1_round_26 hl (k := 1) rfl (nI_1 _) (by decide) rfl (fun ls hl => ?_)
          refine lv_goto (tgt := 4) hx hb dX1_round_29 (by decide) ?_
          exact ih (i + 1) (by omega) (by omega) (hfr2) H locs (hP) hS ls (lv_sub hl [0, 1, 2] rfl)
        ·
          have hfr2 : nI (i + 1) = rRound wd po := by rw [← hfr, du_fn hlt]; exact (if_pos (by simpa using (lg_cmp_eq _ _).mp c_21)).symm
          refine lv_iload_n hx hb dX1_round_24 rfl (lv_at hl 1 rfl) ?_
          exact W.iret (v := (nI (i + 1))) hx hb hr (fun t ht hW => ⟨⟨(nI (i + 1)), (), rfl, hfr2, trivial⟩, hS.F ht⟩) hS.2.2 dX1_round_25
  exact lp_4 (4096 + 1 - 0) 0 (by omega) (by omega) (rfl) H locs (hP) hS ls (lv_sub hl [0, 1, 2] rfl)
set_option maxHeartbeats 4000000 in
set_option maxRecDepth 100000 in
theorem r_holds {l : Launch} {D : va_G} {q b1 : Nat} {k4 : ClassId} {by8 : Nat → Int32} {wd : Nat} {po : Int64} {fi : Int64} {la : Int64} {bi : Int32} {bo : Int32} {nb : Nat} {sz : Nat}   : Met l yX1_holds wsX1_holds ({ frames := 0, cells := 0, slots := 0, locals := 0 }) (va_Pc [.ref q] (pRO D vwCl (mt k4) (mw q b1 k4 by8 wd po fi la bi bo nb) sz)) (roI sz 1) 0 0 (fun q : Nat => sz ≤ q) := by
  refine Met.ofW (cc := cX1_holds) (maxL := 1) (ret := (some .boolean)) (by decide) rfl ?_
  intro p e s m args below meth c s₁ B hml hv
  obtain ⟨rfl, hsz, hP, hK⟩ := hv
  have hsz : s.heap.size = sz := hsz
  have hx := B.exec
  have hb := B.bytes
  have hr := B.returns
  have hts := atoms_spec (ws := wsX1_holds) B.pre
  have hown : s.vm.findClass RX1 = some m.cls := findClass_of_methodNamed B.named
  have hlocks := B.notSynchronized
  subst hsz
  have hA : ∀ q : Nat, s.heap.size ≤ q → (fun q : Nat => s.heap.size ≤ q) q := fun _ h => h
  have hS : va_S (fun q : Nat => s.heap.size ≤ q) s.heap s.heap [] := va_S.rf
  have hl := lv_entry ([.ref q]) (n := 1) (Nat.le_of_ble_eq_true rfl)
  rw [lg_entry_eq]
  generalize (lg_sl ([.ref q]) ++ List.replicate (1 - (lg_sl ([.ref q])).length) Slot.unset).toArray = ls at hl ⊢
  have hl : lv_has ls 1 [(0, .ref q)] := hl
  suffices key : ∀ (H : Heap) (locs : List Loc), va_P D vwCl (mw q b1 k4 by8 wd po fi la bi bo nb) H → va_S (fun q : Nat => s.heap.size ≤ q) s.heap H locs → W p l e (headSpec wsX1_holds { frames := 0, cells := 0, slots := 0, locals := 0 }).room s m ([.ref q] : List Value).toArray below meth c H locs 0 0 (MQ below (roI s.heap.size 1) ([.ref q] : List Value).toArray s 0 0 (fun q : Nat => s.heap.size ≤ q)) (F0 m 0 ls []) from key s.heap [] hP hS
  intro H locs hP hS
  refine lv_iconst (v := 1) hx hb dX1_holds_0 (by decide) ?_
  exact W.zret (v := 1) hx hb hr (by decide) (fun t ht hW => ⟨⟨1, (), rfl, rfl, trivial⟩, hS.F ht⟩) hS.2.2 dX1_holds_1
theorem in_r_count : ∀ w ∈ wsX10, w ∈ wsX1_count := fun _ h => List.mem_cons_of_mem _ (List.mem_append_right _ h)
set_option maxHeartbeats 4000000 in
set_option maxRecDepth 100000 in
theorem r_count {l : Launch} {D : va_G} {q b1 : Nat} {k4 : ClassId} {by8 : Nat → Int32} {wd : Nat} {po : Int64} {fi : Int64} {la : Int64} {bi : Int32} {bo : Int32} {nb : Nat} {sz : Nat} (x : Int32)  : Met l yX1_count wsX1_count ({ frames := 0, cells := 0, slots := 0, locals := 0 }) (va_Pc [.ref q, .int x] (pRO D vwCl (mt k4) (mw q b1 k4 by8 wd po fi la bi bo nb) sz)) (roI sz (cCount nb wd bi bo x)) 0 0 (fun q : Nat => sz ≤ q) := by
  refine Met.ofW (cc := cX1_count) (maxL := 2) (ret := (some .int)) (by decide) rfl ?_
  intro p e s m args below meth c s₁ B hml hv
  obtain ⟨rfl, hsz, hP, hK⟩ := hv
  have hsz : s.heap.size = sz := hsz
  have hx := B.exec
  have hb := B.bytes
  have hr := B.returns
  have hts := atoms_spec (ws := wsX1_count) B.pre
  have hown : s.vm.findClass RX1 = some m.cls := findClass_of_methodNamed B.named
  have hlocks := B.notSynchronized
  subst hsz
  have hA : ∀ q : Nat, s.heap.size ≤ q → (fun q : Nat => s.heap.size ≤ q) q := fun _ h => h
  have hS : va_S (fun q : Nat => s.heap.size ≤ q) s.heap s.heap [] := va_S.rf
  have hl := lv_entry ([.ref q, .int x]) (n := 2) (Nat.le_of_ble_eq_true rfl)
  rw [lg_entry_eq]
  generalize (lg_sl ([.ref q, .int x]) ++ List.replicate (2 - (lg_sl ([.ref q, .int x])).length) Slot.unset).toArray = ls at hl ⊢
  have hl : lv_has ls 2 [(0, .ref q), (1, .int x)] := hl
  suffices key : ∀ (H : Heap) (locs : List Loc), va_P D vwCl (mw q b1 k4 by8 wd po fi la bi bo nb) H → va_S (fun q : Nat => s.heap.size ≤ q) s.heap H locs → W p l e (headSpec wsX1_count { frames := 0, cells := 0, slots := 0, locals := 0 }).room s m ([.ref q, .int x] : List Value).toArray below meth c H locs 0 0 (MQ below (roI s.heap.size (cCount nb wd bi bo x)) ([.ref q, .int x] : List Value).toArray s 0 0 (fun q : Nat => s.heap.size ≤ q)) (F0 m 0 ls []) from key s.heap [] hP hS
  intro H locs hP hS
  refine lv_iload_n hx hb dX1_count_0 rfl (lv_at hl 1 rfl) ?_
  rcases du_sw x (0) with s_0 | s_0
  ·
    refine lv_tableIn (tgt := 32) hx hb dX1_count_1 (by rw [s_0]; decide) (by rw [s_0]; decide) (by rw [s_0]; rfl) (by decide) ?_
    refine lv_aload_n hx hb dX1_count_32 rfl (lv_at hl 0 rfl) ?_
    refine va_get (D := D) (ci := 1) (v := .int (nI nb)) (C := RX1) (T := TX1) (N := 8) hx hb hts in_r_count hown hK hP 0 rfl rfl 7 (by decide) (hts (.fieldLink RX1 46 "SliceChecksModel" "count" "I") (by decide +kernel)) (fun _ h9 => h9) rfl dX1_count_33 ?_
    exact W.iret (v := (nI nb)) hx hb hr (fun t ht hW => ⟨⟨(nI nb), (), rfl, by first | rw [cCount, if_pos s_0] | rw [cCount, if_neg s_0, if_pos s_1] | rw [cCount, if_neg s_0, if_neg s_1, if_pos s_2, if_pos c_46] | rw [cCount, if_neg s_0, if_neg s_1, if_pos s_2, if_neg c_46] | rw [cCount, if_neg s_0, if_neg s_1, if_neg s_2, if_pos s_3, if_pos c_59] | rw [cCount, if_neg s_0, if_neg s_1, if_neg s_2, if_pos s_3, if_neg c_59] | rw [cCount, if_neg s_0, if_neg s_1, if_neg s_2, if_neg s_3], trivial⟩, hS.F ht⟩) hS.2.2 dX1_count_36
  rcases du_sw x (1) with s_1 | s_1
  ·
    refine lv_tableIn (tgt := 37) hx hb dX1_count_1 (by rw [s_1]; decide) (by rw [s_1]; decide) (by rw [s_1]; rfl) (by decide) ?_
    refine lv_aload_n hx hb dX1_count_37 rfl (lv_at hl 0 rfl) ?_
    refine va_get (D := D) (ci := 1) (v := .int (nI wd)) (C := RX1) (T := TX1) (N := 8) hx hb hts in_r_count hown hK hP 0 rfl rfl 0 (by decide) (hts (.fieldLink RX1 7 "SliceChecksModel" "width" "I") (by decide +kernel)) (fun _ h9 => h9) rfl dX1_count_38 ?_
    exact W.iret (v := (nI wd)) hx hb hr (fun t ht hW => ⟨⟨(nI wd), (), rfl, by first | rw [cCount, if_pos s_0] | rw [cCount, if_neg s_0, if_pos s_1] | rw [cCount, if_neg s_0, if_neg s_1, if_pos s_2, if_pos c_46] | rw [cCount, if_neg s_0, if_neg s_1, if_pos s_2, if_neg c_46] | rw [cCount, if_neg s_0, if_neg s_1, if_neg s_2, if_pos s_3, if_pos c_59] | rw [cCount, if_neg s_0, if_neg s_1, if_neg s_2, if_pos s_3, if_neg c_59] | rw [cCount, if_neg s_0, if_neg s_1, if_neg s_2, if_neg s_3], trivial⟩, hS.F ht⟩) hS.2.2 dX1_count_41
  rcases du_sw x (2) with s_2 | s_2
  ·
    refine lv_tableIn (tgt := 42) hx hb dX1_count_1 (by rw [s_2]; decide) (by rw [s_2]; decide) (by rw [s_2]; rfl) (by decide) ?_
    refine lv_aload_n hx hb dX1_count_42 rfl (lv_at hl 0 rfl) ?_
    refine va_get (D := D) (ci := 1) (v := .int bi) (C := RX1) (T := TX1) (N := 8) hx hb hts in_r_count hown hK hP 0 rfl rfl 4 (by decide) (hts (.fieldLink RX1 27 "SliceChecksModel" "in" "Z") (by decide +kernel)) (fun _ h9 => h9) rfl dX1_count_43 ?_
    refine lv_if_eq (tgt := 53) hx hb dX1_count_46 (by decide) (fun c_46 => ?_) (fun c_46 => ?_)
    ·
      refine lv_iconst (v := 0) hx hb dX1_count_53 (by decide) ?_
      exact W.iret (v := 0) hx hb hr (fun t ht hW => ⟨⟨0, (), rfl, by first | rw [cCount, if_pos s_0] | rw [cCount, if_neg s_0, if_pos s_1] | rw [cCount, if_neg s_0, if_neg s_1, if_pos s_2, if_pos c_46] | rw [cCount, if_neg s_0, if_neg s_1, if_pos s_2, if_neg c_46] | rw [cCount, if_neg s_0, if_neg s_1, if_neg s_2, if_pos s_3, if_pos c_59] | rw [cCount, if_neg s_0, if_neg s_1, if_neg s_2, if_pos s_3, if_neg c_59] | rw [cCount, if_neg s_0, if_neg s_1, if_neg s_2, if_neg s_3], trivial⟩, hS.F ht⟩) hS.2.2 dX1_count_54
    ·
      refine lv_iconst (v := 1) hx hb dX1_count_49 (by decide) ?_
      refine lv_goto (tgt := 54) hx hb dX1_count_50 (by decide) ?_
      exact W.iret (v := 1) hx hb hr (fun t ht hW => ⟨⟨1, (), rfl, by first | rw [cCount, if_pos s_0] | rw [cCount, if_neg s_0, if_pos s_1] | rw [cCount, if_neg s_0, if_neg s_1, if_pos s_2, if_pos c_46] | rw [cCount, if_neg s_0, if_neg s_1, if_pos s_2, if_neg c_46] | rw [cCount, if_neg s_0, if_neg s_1, if_neg s_2, if_pos s_3, if_pos c_59] | rw [cCount, if_neg s_0, if_neg s_1, if_neg s_2, if_pos s_3, if_neg c_59] | rw [cCount, if_neg s_0, if_neg s_1, if_neg s_2, if_neg s_3], trivial⟩, hS.F ht⟩) hS.2.2 dX1_count_54
  rcases du_sw x (3) with s_3 | s_3
  ·
    refine lv_tableIn (tgt := 55) hx hb dX1_count_1 (by rw [s_3]; decide) (by rw [s_3]; decide) (by rw [s_3]; rfl) (by decide) ?_
    refine lv_aload_n hx hb dX1_count_55 rfl (lv_at hl 0 rfl) ?_
    refine va_get (D := D) (ci := 1) (v := .int bo) (C := RX1) (T := TX1) (N := 8) hx hb hts in_r_count hown hK hP 0 rfl rfl 5 (by decide) (hts (.fieldLink RX1 31 "SliceChecksModel" "out" "Z") (by decide +kernel)) (fun _ h9 => h9) rfl dX1_count_56 ?_
    refine lv_if_eq (tgt := 66) hx hb dX1_count_59 (by decide) (fun c_59 => ?_) (fun c_59 => ?_)
    ·
      refine lv_iconst (v := 0) hx hb dX1_count_66 (by decide) ?_
      exact W.iret (v := 0) hx hb hr (fun t ht hW => ⟨⟨0, (), rfl, by first | rw [cCount, if_pos s_0] | rw [cCount, if_neg s_0, if_pos s_1] | rw [cCount, if_neg s_0, if_neg s_1, if_pos s_2, if_pos c_46] | rw [cCount, if_neg s_0, if_neg s_1, if_pos s_2, if_neg c_46] | rw [cCount, if_neg s_0, if_neg s_1, if_neg s_2, if_pos s_3, if_pos c_59] | rw [cCount, if_neg s_0, if_neg s_1, if_neg s_2, if_pos s_3, if_neg c_59] | rw [cCount, if_neg s_0, if_neg s_1, if_neg s_2, if_neg s_3], trivial⟩, hS.F ht⟩) hS.2.2 dX1_count_67
    ·
      refine lv_iconst (v := 1) hx hb dX1_count_62 (by decide) ?_
      refine lv_goto (tgt := 67) hx hb dX1_count_63 (by decide) ?_
      exact W.iret (v := 1) hx hb hr (fun t ht hW => ⟨⟨1, (), rfl, by first | rw [cCount, if_pos s_0] | rw [cCount, if_neg s_0, if_pos s_1] | rw [cCount, if_neg s_0, if_neg s_1, if_pos s_2, if_pos c_46] | rw [cCount, if_neg s_0, if_neg s_1, if_pos s_2, if_neg c_46] | rw [cCount, if_neg s_0, if_neg s_1, if_neg s_2, if_pos s_3, if_pos c_59] | rw [cCount, if_neg s_0, if_neg s_1, if_neg s_2, if_pos s_3, if_neg c_59] | rw [cCount, if_neg s_0, if_neg s_1, if_neg s_2, if_neg s_3], trivial⟩, hS.F ht⟩) hS.2.2 dX1_count_67
  refine lv_tableOut (tgt := 68) hx hb dX1_count_1 (by have n_0 := du_ne (n := 0) (by decide) s_0; have n_1 := du_ne (n := 1) (by decide) s_1; have n_2 := du_ne (n := 2) (by decide) s_2; have n_3 := du_ne (n := 3) (by decide) s_3; omega) (by decide) ?_
  refine lv_iconst (v := (-1)) hx hb dX1_count_68 (by decide) ?_
  exact W.iret (v := (-1)) hx hb hr (fun t ht hW => ⟨⟨(-1), (), rfl, by first | rw [cCount, if_pos s_0] | rw [cCount, if_neg s_0, if_pos s_1] | rw [cCount, if_neg s_0, if_neg s_1, if_pos s_2, if_pos c_46] | rw [cCount, if_neg s_0, if_neg s_1, if_pos s_2, if_neg c_46] | rw [cCount, if_neg s_0, if_neg s_1, if_neg s_2, if_pos s_3, if_pos c_59] | rw [cCount, if_neg s_0, if_neg s_1, if_neg s_2, if_pos s_3, if_neg c_59] | rw [cCount, if_neg s_0, if_neg s_1, if_neg s_2, if_neg s_3], trivial⟩, hS.F ht⟩) hS.2.2 dX1_count_69
theorem in_r_told2 : ∀ w ∈ wsX10, w ∈ wsX1_told_ := fun _ h => List.mem_cons_of_mem _ (List.mem_append_right _ h)
set_option maxHeartbeats 4000000 in
set_option maxRecDepth 100000 in
theorem r_told2 {l : Launch} {D : va_G} {q b1 : Nat} {k4 : ClassId} {by8 : Nat → Int32} {wd : Nat} {po : Int64} {fi : Int64} {la : Int64} {bi : Int32} {bo : Int32} {nb : Nat} {sz : Nat} (x : Int32)  : Met l yX1_told_ wsX1_told_ ({ frames := 0, cells := 0, slots := 0, locals := 0 }) (va_Pc [.ref q, .int x] (pRO D vwCl (mt k4) (mw q b1 k4 by8 wd po fi la bi bo nb) sz)) (roL sz (cTold po fi la x)) 0 0 (fun q : Nat => sz ≤ q) := by
  refine Met.ofW (cc := cX1_told_) (maxL := 2) (ret := (some .long)) (by decide) rfl ?_
  intro p e s m args below meth c s₁ B hml hv
  obtain ⟨rfl, hsz, hP, hK⟩ := hv
  have hsz : s.heap.size = sz := hsz
  have hx := B.exec
  have hb := B.bytes
  have hr := B.returns
  have hts := atoms_spec (ws := wsX1_told_) B.pre
  have hown : s.vm.findClass RX1 = some m.cls := findClass_of_methodNamed B.named
  have hlocks := B.notSynchronized
  subst hsz
  have hA : ∀ q : Nat, s.heap.size ≤ q → (fun q : Nat => s.heap.size ≤ q) q := fun _ h => h
  have hS : va_S (fun q : Nat => s.heap.size ≤ q) s.heap s.heap [] := va_S.rf
  have hl := lv_entry ([.ref q, .int x]) (n := 2) (Nat.le_of_ble_eq_true rfl)
  rw [lg_entry_eq]
  generalize (lg_sl ([.ref q, .int x]) ++ List.replicate (2 - (lg_sl ([.ref q, .int x])).length) Slot.unset).toArray = ls at hl ⊢
  have hl : lv_has ls 2 [(0, .ref q), (1, .int x)] := hl
  suffices key : ∀ (H : Heap) (locs : List Loc), va_P D vwCl (mw q b1 k4 by8 wd po fi la bi bo nb) H → va_S (fun q : Nat => s.heap.size ≤ q) s.heap H locs → W p l e (headSpec wsX1_told_ { frames := 0, cells := 0, slots := 0, locals := 0 }).room s m ([.ref q, .int x] : List Value).toArray below meth c H locs 0 0 (MQ below (roL s.heap.size (cTold po fi la x)) ([.ref q, .int x] : List Value).toArray s 0 0 (fun q : Nat => s.heap.size ≤ q)) (F0 m 0 ls []) from key s.heap [] hP hS
  intro H locs hP hS
  refine lv_iload_n hx hb dX1_told__0 rfl (lv_at hl 1 rfl) ?_
  refine lv_if_ne (tgt := 11) hx hb dX1_told__1 (by decide) (fun c_1 => ?_) (fun c_1 => ?_)
  ·
    refine lv_iload_n hx hb dX1_told__11 rfl (lv_at hl 1 rfl) ?_
    refine lv_iconst (v := 1) hx hb dX1_told__12 (by decide) ?_
    refine lv_icmp_ne (tgt := 23) hx hb dX1_told__13 (by decide) (fun c_13 => ?_) (fun c_13 => ?_)
    ·
      refine lv_iload_n hx hb dX1_told__23 rfl (lv_at hl 1 rfl) ?_
      refine lv_iconst (v := 2) hx hb dX1_told__24 (by decide) ?_
      refine lv_icmp_ne (tgt := 35) hx hb dX1_told__25 (by decide) (fun c_25 => ?_) (fun c_25 => ?_)
      ·
        refine lv_lconst (v := 0) hx hb dX1_told__35 (by decide) ?_
        exact W.lret (v := 0) hx hb hr (fun t ht hW => ⟨⟨0, (), rfl, by first | rw [cTold, if_pos c_1] | rw [cTold, if_neg c_1, if_pos c_13] | rw [cTold, if_neg c_1, if_neg c_13, if_pos c_25] | rw [cTold, if_neg c_1, if_neg c_13, if_neg c_25], trivial⟩, hS.F ht⟩) hS.2.2 dX1_told__36
      ·
        refine lv_aload_n hx hb dX1_told__28 rfl (lv_at hl 0 rfl) ?_
        refine va_get (D := D) (ci := 1) (v := .long la) (C := RX1) (T := TX1) (N := 8) hx hb hts in_r_told2 hown hK hP 0 rfl rfl 3 (by decide) (hts (.fieldLink RX1 24 "SliceChecksModel" "last" "J") (by decide +kernel)) (fun _ h9 => h9) rfl dX1_told__29 ?_
        refine lv_goto (tgt := 36) hx hb dX1_told__32 (by decide) ?_
        exact W.lret (v := la) hx hb hr (fun t ht hW => ⟨⟨la, (), rfl, by first | rw [cTold, if_pos c_1] | rw [cTold, if_neg c_1, if_pos c_13] | rw [cTold, if_neg c_1, if_neg c_13, if_pos c_25] | rw [cTold, if_neg c_1, if_neg c_13, if_neg c_25], trivial⟩, hS.F ht⟩) hS.2.2 dX1_told__36
    ·
      refine lv_aload_n hx hb dX1_told__16 rfl (lv_at hl 0 rfl) ?_
      refine va_get (D := D) (ci := 1) (v := .long fi) (C := RX1) (T := TX1) (N := 8) hx hb hts in_r_told2 hown hK hP 0 rfl rfl 2 (by decide) (hts (.fieldLink RX1 21 "SliceChecksModel" "first" "J") (by decide +kernel)) (fun _ h9 => h9) rfl dX1_told__17 ?_
      refine lv_goto (tgt := 36) hx hb dX1_told__20 (by decide) ?_
      exact W.lret (v := fi) hx hb hr (fun t ht hW => ⟨⟨fi, (), rfl, by first | rw [cTold, if_pos c_1] | rw [cTold, if_neg c_1, if_pos c_13] | rw [cTold, if_neg c_1, if_neg c_13, if_pos c_25] | rw [cTold, if_neg c_1, if_neg c_13, if_neg c_25], trivial⟩, hS.F ht⟩) hS.2.2 dX1_told__36
  ·
    refine lv_aload_n hx hb dX1_told__4 rfl (lv_at hl 0 rfl) ?_
    refine va_get (D := D) (ci := 1) (v := .long po) (C := RX1) (T := TX1) (N := 8) hx hb hts in_r_told2 hown hK hP 0 rfl rfl 1 (by decide) (hts (.fieldLink RX1 15 "SliceChecksModel" "polynomial" "J") (by decide +kernel)) (fun _ h9 => h9) rfl dX1_told__5 ?_
    refine lv_goto (tgt := 36) hx hb dX1_told__8 (by decide) ?_
    exact W.lret (v := po) hx hb hr (fun t ht hW => ⟨⟨po, (), rfl, by first | rw [cTold, if_pos c_1] | rw [cTold, if_neg c_1, if_pos c_13] | rw [cTold, if_neg c_1, if_neg c_13, if_pos c_25] | rw [cTold, if_neg c_1, if_neg c_13, if_neg c_25], trivial⟩, hS.F ht⟩) hS.2.2 dX1_told__36
theorem in_r_kind_no : ∀ w ∈ wsX10, w ∈ wsX1_kind := fun _ h => List.mem_cons_of_mem _ (List.mem_append_right _ h)
set_option maxHeartbeats 4000000 in
set_option maxRecDepth 100000 in
theorem r_kind_no {l : Launch} {D : va_G} {q b1 : Nat} {k4 : ClassId} {by8 : Nat → Int32} {wd : Nat} {po : Int64} {fi : Int64} {la : Int64} {bi : Int32} {bo : Int32} {nb : Nat} {sz : Nat} (y : Int32) (p0 : Int64) (f0 : Int64) (i0 : Int32) (o0 : Int32) (l0 : Int64) (hno : y < 1 ∨ 64 < y) : Met l yX1_kind wsX1_kind ({ frames := 0, cells := 0, slots := 0, locals := 0 }) (va_Pc [.ref q, .int y, .long p0, .long f0, .int i0, .int o0, .long l0] (pRO D vwCl (mt k4) (mw q b1 k4 by8 wd po fi la bi bo nb) sz)) (roI sz 0) 0 0 (fun q : Nat => sz ≤ q) := by
  refine Met.ofW (cc := cX1_kind) (maxL := 10) (ret := (some .boolean)) (by decide) rfl ?_
  intro p e s m args below meth c s₁ B hml hv
  obtain ⟨rfl, hsz, hP, hK⟩ := hv
  have hsz : s.heap.size = sz := hsz
  have hx := B.exec
  have hb := B.bytes
  have hr := B.returns
  have hts := atoms_spec (ws := wsX1_kind) B.pre
  have hown : s.vm.findClass RX1 = some m.cls := findClass_of_methodNamed B.named
  have hlocks := B.notSynchronized
  subst hsz
  have hA : ∀ q : Nat, s.heap.size ≤ q → (fun q : Nat => s.heap.size ≤ q) q := fun _ h => h
  have hS : va_S (fun q : Nat => s.heap.size ≤ q) s.heap s.heap [] := va_S.rf
  have hl := lv_entry ([.ref q, .int y, .long p0, .long f0, .int i0, .int o0, .long l0]) (n := 10) (Nat.le_of_ble_eq_true rfl)
  rw [lg_entry_eq]
  generalize (lg_sl ([.ref q, .int y, .long p0, .long f0, .int i0, .int o0, .long l0]) ++ List.replicate (10 - (lg_sl ([.ref q, .int y, .long p0, .long f0, .int i0, .int o0, .long l0])).length) Slot.unset).toArray = ls at hl ⊢
  have hl : lv_has ls 10 [(0, .ref q), (1, .int y), (2, .long p0), (4, .long f0), (6, .int i0), (7, .int o0), (8, .long l0)] := hl
  suffices key : ∀ (H : Heap) (locs : List Loc), va_P D vwCl (mw q b1 k4 by8 wd po fi la bi bo nb) H → va_S (fun q : Nat => s.heap.size ≤ q) s.heap H locs → W p l e (headSpec wsX1_kind { frames := 0, cells := 0, slots := 0, locals := 0 }).room s m ([.ref q, .int y, .long p0, .long f0, .int i0, .int o0, .long l0] : List Value).toArray below meth c H locs 0 0 (MQ below (roI s.heap.size 0) ([.ref q, .int y, .long p0, .long f0, .int i0, .int o0, .long l0] : List Value).toArray s 0 0 (fun q : Nat => s.heap.size ≤ q)) (F0 m 0 ls []) from key s.heap [] hP hS
  intro H locs hP hS
  refine lv_iload_n hx hb dX1_kind_0 rfl (lv_at hl 1 rfl) ?_
  refine lv_iconst (v := 1) hx hb dX1_kind_1 (by decide) ?_
  refine lv_icmp_lt (tgt := 11) hx hb dX1_kind_2 (by decide) (fun c_2 => ?_) (fun c_2 => ?_)
  ·
    refine lv_iconst (v := 0) hx hb dX1_kind_11 (by decide) ?_
    exact W.zret (v := 0) hx hb hr (by decide) (fun t ht hW => ⟨⟨0, (), rfl, rfl, trivial⟩, hS.F ht⟩) hS.2.2 dX1_kind_12
  ·
    refine lv_iload_n hx hb dX1_kind_5 rfl (lv_at hl 1 rfl) ?_
    refine lv_bipush (v := 64) hx hb dX1_kind_6 (by decide) ?_
    refine lv_icmp_le (tgt := 13) hx hb dX1_kind_8 (by decide) (fun c_8 => ?_) (fun c_8 => ?_)
    ·
      exact hno.elim (fun h => absurd h c_2) (fun h => absurd h (Int32.not_lt.mpr c_8))
    ·
      refine lv_iconst (v := 0) hx hb dX1_kind_11 (by decide) ?_
      exact W.zret (v := 0) hx hb hr (by decide) (fun t ht hW => ⟨⟨0, (), rfl, rfl, trivial⟩, hS.F ht⟩) hS.2.2 dX1_kind_12
theorem in_r_kind : ∀ w ∈ wsX10, w ∈ wsX1_kind := fun _ h => List.mem_cons_of_mem _ (List.mem_append_right _ h)
set_option maxHeartbeats 4000000 in
set_option maxRecDepth 100000 in
theorem r_kind {l : Launch} {D : va_G} {q b1 : Nat} {k4 : ClassId} {by8 : Nat → Int32} {wd : Nat} {po : Int64} {fi : Int64} {la : Int64} {bi : Int32} {bo : Int32} {nb : Nat} {sz : Nat} (v : Nat) (p0 : Int64) (f0 : Int64) (i0 : Int32) (o0 : Int32) (l0 : Int64) (hv1 : 1 ≤ v) (hv : v ≤ 64) (hi0 : i0 = 0 ∨ i0 = 1) (ho0 : o0 = 0 ∨ o0 = 1) : Met l yX1_kind wsX1_kind ({ frames := 2, cells := 0, slots := 0, locals := 44 }) (va_Pc [.ref q, .int (nI v), .long p0, .long f0, .int i0, .int o0, .long l0] (pMU D vwCl (mt k4) (mw q b1 k4 by8 wd po fi la bi bo nb) sz)) (muI D vwCl (mw q b1 k4 by8 wd po fi la bi bo nb) (mw q b1 k4 by8 v (rLow p0 (nI v)) (rLow f0 (nI v)) (rLow l0 (nI v)) i0 o0 nb) sz 1) 0 0 (va_A (mw q b1 k4 by8 wd po fi la bi bo nb) sz) := by
  refine Met.ofW (cc := cX1_kind) (maxL := 10) (ret := (some .boolean)) (by decide) rfl ?_
  intro p e s m args below meth c s₁ B hml hv
  obtain ⟨rfl, hsz, hP, hK, hD0⟩ := hv
  have hsz : s.heap.size = sz := hsz
  have hx := B.exec
  have hb := B.bytes
  have hr := B.returns
  have hts := atoms_spec (ws := wsX1_kind) B.pre
  have hown : s.vm.findClass RX1 = some m.cls := findClass_of_methodNamed B.named
  have hlocks := B.notSynchronized
  subst hsz
  have hD0 := hD0.self (sz := s.heap.size)
  have hA : ∀ q9 : Nat, s.heap.size ≤ q9 → va_A (mw q b1 k4 by8 wd po fi la bi bo nb) s.heap.size q9 := fun q9 h => Or.inr h
  unfold muI
  generalize va_A (mw q b1 k4 by8 wd po fi la bi bo nb) s.heap.size = A at hD0 hA ⊢
  have hD := hD0
  have hS : va_S A s.heap s.heap [] := va_S.rf
  have hl := lv_entry ([.ref q, .int (nI v), .long p0, .long f0, .int i0, .int o0, .long l0]) (n := 10) (Nat.le_of_ble_eq_true rfl)
  rw [lg_entry_eq]
  generalize (lg_sl ([.ref q, .int (nI v), .long p0, .long f0, .int i0, .int o0, .long l0]) ++ List.replicate (10 - (lg_sl ([.ref q, .int (nI v), .long p0, .long f0, .int i0, .int o0, .long l0])).length) Slot.unset).toArray = ls at hl ⊢
  have hl : lv_has ls 10 [(0, .ref q), (1, .int (nI v)), (2, .long p0), (4, .long f0), (6, .int i0), (7, .int o0), (8, .long l0)] := hl
  suffices key : ∀ (H : Heap) (locs : List Loc), va_P D vwCl (mw q b1 k4 by8 wd po fi la bi bo nb) H → va_S A s.heap H locs → W p l e (headSpec wsX1_kind { frames := 2, cells := 0, slots := 0, locals := 44 }).room s m ([.ref q, .int (nI v), .long p0, .long f0, .int i0, .int o0, .long l0] : List Value).toArray below meth c H locs 0 0 (MQ below (va_Qi (fun r (_ : Unit) => r = 1) (fun _ t9 => va_P D vwCl (mw q b1 k4 by8 v (rLow p0 (nI v)) (rLow f0 (nI v)) (rLow l0 (nI v)) i0 o0 nb) t9.heap) A) ([.ref q, .int (nI v), .long p0, .long f0, .int i0, .int o0, .long l0] : List Value).toArray s 0 0 A) (F0 m 0 ls []) from key s.heap [] hP hS
  intro H locs hP hS
  refine lv_iload_n hx hb dX1_kind_0 rfl (lv_at hl 1 rfl) ?_
  refine lv_iconst (v := 1) hx hb dX1_kind_1 (by decide) ?_
  refine lv_icmp_lt (tgt := 11) hx hb dX1_kind_2 (by decide) (fun c_2 => ?_) (fun c_2 => ?_)
  ·
    exact absurd c_2 (du_n1 hv1 (by omega))
  ·
    refine lv_iload_n hx hb dX1_kind_5 rfl (lv_at hl 1 rfl) ?_
    refine lv_bipush (v := 64) hx hb dX1_kind_6 (by decide) ?_
    refine lv_icmp_le (tgt := 13) hx hb dX1_kind_8 (by decide) (fun c_8 => ?_) (fun c_8 => ?_)
    ·
      refine lv_aload_n hx hb dX1_kind_13 rfl (lv_at hl 0 rfl) ?_
      refine lv_iload_n hx hb dX1_kind_14 rfl (lv_at hl 1 rfl) ?_
      refine va_put (D := D) (ci := 1) (v := .int (nI v)) (ty := .int) (C := RX1) (T := TX1) (N := 8) hx hb hts in_r_kind tyX1 tyX1_ok nmX1 hown hK hP hD hS 0 rfl rfl 0 (by decide) (hts (.fieldLink RX1 7 "SliceChecksModel" "width" "I") (by decide +kernel)) (fun _ h9 => h9) rfl (by decide +kernel) rfl rfl (Nat.le_of_ble_eq_true rfl) dX1_kind_15 (fun H locs hP hD hS => ?_)
      have hP : va_P D vwCl (mw q b1 k4 by8 v po fi la bi bo nb) H := hP
      have hD : va_D A (mw q b1 k4 by8 v po fi la bi bo nb) := hD
      refine lv_aload_n hx hb dX1_kind_18 rfl (lv_at hl 0 rfl) ?_
      refine lv_aload_n hx hb dX1_kind_19 rfl (lv_at hl 0 rfl) ?_
      refine lv_lload_n hx hb dX1_kind_20 rfl (lv_at hl 2 rfl) ?_
      refine ro_l (va_runV (As := [.long p0]) (rest := [.ref q]) ⟨hx, hb, hml, hown, hts⟩ (r_cut (sz := H.size) p0) (cwV 1 hts gX1_kind_X1_cut rfl rfl rfl (by decide +kernel) ⟨Nat.le_of_ble_eq_true rfl, Nat.le_of_ble_eq_true rfl⟩) (preV_RO hP hK 0 (ci := 1) rfl rfl) rfl rfl hl.1 rfl (lv_room (Nat.le_of_ble_eq_true rfl)) dX1_kind_21 ⟨Nat.le_of_ble_eq_true rfl, Nat.le_of_ble_eq_true rfl⟩) hS hA hP (fun H locs hP hS => ?_)
      refine va_put (D := D) (ci := 1) (v := .long (rLow p0 (nI v))) (ty := .long) (C := RX1) (T := TX1) (N := 8) hx hb hts in_r_kind tyX1 tyX1_ok nmX1 hown hK hP hD hS 0 rfl rfl 1 (by decide) (hts (.fieldLink RX1 15 "SliceChecksModel" "polynomial" "J") (by decide +kernel)) (fun _ h9 => h9) rfl (by decide +kernel) rfl rfl (Nat.le_of_ble_eq_true rfl) dX1_kind_24 (fun H locs hP hD hS => ?_)
      have hP : va_P D vwCl (mw q b1 k4 by8 v (rLow p0 (nI v)) fi la bi bo nb) H := hP
      have hD : va_D A (mw q b1 k4 by8 v (rLow p0 (nI v)) fi la bi bo nb) := hD
      refine lv_aload_n hx hb dX1_kind_27 rfl (lv_at hl 0 rfl) ?_
      refine lv_aload_n hx hb dX1_kind_28 rfl (lv_at hl 0 rfl) ?_
      refine lv_lload hx hb dX1_kind_29 (lv_at hl 3 rfl) ?_
      refine ro_l (va_runV (As := [.long f0]) (rest := [.ref q]) ⟨hx, hb, hml, hown, hts⟩ (r_cut (sz := H.size) f0) (cwV 1 hts gX1_kind_X1_cut rfl rfl rfl (by decide +kernel) ⟨Nat.le_of_ble_eq_true rfl, Nat.le_of_ble_eq_true rfl⟩) (preV_RO hP hK 0 (ci := 1) rfl rfl) rfl rfl hl.1 rfl (lv_room (Nat.le_of_ble_eq_true rfl)) dX1_kind_31 ⟨Nat.le_of_ble_eq_true rfl, Nat.le_of_ble_eq_true rfl⟩) hS hA hP (fun H locs hP hS => ?_)
      refine va_put (D := D) (ci := 1) (v := .long (rLow f0 (nI v))) (ty := .long) (C := RX1) (T := TX1) (N := 8) hx hb hts in_r_kind tyX1 tyX1_ok nmX1 hown hK hP hD hS 0 rfl rfl 2 (by decide) (hts (.fieldLink RX1 21 "SliceChecksModel" "first" "J") (by decide +kernel)) (fun _ h9 => h9) rfl (by decide +kernel) rfl rfl (Nat.le_of_ble_eq_true rfl) dX1_kind_34 (fun H locs hP hD hS => ?_)
      have hP : va_P D vwCl (mw q b1 k4 by8 v (rLow p0 (nI v)) (rLow f0 (nI v)) la bi bo nb) H := hP
      have hD : va_D A (mw q b1 k4 by8 v (rLow p0 (nI v)) (rLow f0 (nI v)) la bi bo nb) := hD
      refine lv_aload_n hx hb dX1_kind_37 rfl (lv_at hl 0 rfl) ?_
      refine lv_aload_n hx hb dX1_kind_38 rfl (lv_at hl 0 rfl) ?_
      refine lv_lload hx hb dX1_kind_39 (lv_at hl 6 rfl) ?_
      refine ro_l (va_runV (As := [.long l0]) (rest := [.ref q]) ⟨hx, hb, hml, hown, hts⟩ (r_cut (sz := H.size) l0) (cwV 1 hts gX1_kind_X1_cut rfl rfl rfl (by decide +kernel) ⟨Nat.le_of_ble_eq_true rfl, Nat.le_of_ble_eq_true rfl⟩) (preV_RO hP hK 0 (ci := 1) rfl rfl) rfl rfl hl.1 rfl (lv_room (Nat.le_of_ble_eq_true rfl)) dX1_kind_41 ⟨Nat.le_of_ble_eq_true rfl, Nat.le_of_ble_eq_true rfl⟩) hS hA hP (fun H locs hP hS => ?_)
      refine va_put (D := D) (ci := 1) (v := .long (rLow l0 (nI v))) (ty := .long) (C := RX1) (T := TX1) (N := 8) hx hb hts in_r_kind tyX1 tyX1_ok nmX1 hown hK hP hD hS 0 rfl rfl 3 (by decide) (hts (.fieldLink RX1 24 "SliceChecksModel" "last" "J") (by decide +kernel)) (fun _ h9 => h9) rfl (by decide +kernel) rfl rfl (Nat.le_of_ble_eq_true rfl) dX1_kind_44 (fun H locs hP hD hS => ?_)
      have hP : va_P D vwCl (mw q b1 k4 by8 v (rLow p0 (nI v)) (rLow f0 (nI v)) (rLow l0 (nI v)) bi bo nb) H := hP
      have hD : va_D A (mw q b1 k4 by8 v (rLow p0 (nI v)) (rLow f0 (nI v)) (rLow l0 (nI v)) bi bo nb) := hD
      refine lv_aload_n hx hb dX1_kind_47 rfl (lv_at hl 0 rfl) ?_
      refine lv_iload hx hb dX1_kind_48 (lv_at hl 4 rfl) ?_
      refine va_put (D := D) (ci := 1) (v := .int i0) (ty := .boolean) (C := RX1) (T := TX1) (N := 8) hx hb hts in_r_kind tyX1 tyX1_ok nmX1 hown hK hP hD hS 0 rfl rfl 4 (by decide) (hts (.fieldLink RX1 27 "SliceChecksModel" "in" "Z") (by decide +kernel)) (fun _ h9 => h9) rfl (by decide +kernel) (du_nz hi0) (du_fz hi0) (Nat.le_of_ble_eq_true rfl) dX1_kind_50 (fun H locs hP hD hS => ?_)
      have hP : va_P D vwCl (mw q b1 k4 by8 v (rLow p0 (nI v)) (rLow f0 (nI v)) (rLow l0 (nI v)) i0 bo nb) H := hP
      have hD : va_D A (mw q b1 k4 by8 v (rLow p0 (nI v)) (rLow f0 (nI v)) (rLow l0 (nI v)) i0 bo nb) := hD
      refine lv_aload_n hx hb dX1_kind_53 rfl (lv_at hl 0 rfl) ?_
      refine lv_iload hx hb dX1_kind_54 (lv_at hl 5 rfl) ?_
      refine va_put (D := D) (ci := 1) (v := .int o0) (ty := .boolean) (C := RX1) (T := TX1) (N := 8) hx hb hts in_r_kind tyX1 tyX1_ok nmX1 hown hK hP hD hS 0 rfl rfl 5 (by decide) (hts (.fieldLink RX1 31 "SliceChecksModel" "out" "Z") (by decide +kernel)) (fun _ h9 => h9) rfl (by decide +kernel) (du_nz ho0) (du_fz ho0) (Nat.le_of_ble_eq_true rfl) dX1_kind_56 (fun H locs hP hD hS => ?_)
      have hP : va_P D vwCl (mw q b1 k4 by8 v (rLow p0 (nI v)) (rLow f0 (nI v)) (rLow l0 (nI v)) i0 o0 nb) H := hP
      have hD : va_D A (mw q b1 k4 by8 v (rLow p0 (nI v)) (rLow f0 (nI v)) (rLow l0 (nI v)) i0 o0 nb) := hD
      refine lv_iconst (v := 1) hx hb dX1_kind_59 (by decide) ?_
      have hPf : va_P D vwCl (mw q b1 k4 by8 v (rLow p0 (nI v)) (rLow f0 (nI v)) (rLow l0 (nI v)) i0 o0 nb) H := by exact hP
      exact W.zret (v := 1) hx hb hr (by decide) (fun t ht hW => ⟨⟨1, (), rfl, rfl, by show va_P _ _ _ t.heap; rw [ht]; exact hPf⟩, hS.F ht⟩) hS.2.2 dX1_kind_60
    ·
      exact absurd (nI_le (b := 64) hv (by decide)) c_8
theorem in_r_feed_no : ∀ w ∈ wsX10, w ∈ wsX1_feed := fun _ h => List.mem_cons_of_mem _ (List.mem_append_right _ h)
set_option maxHeartbeats 4000000 in
set_option maxRecDepth 100000 in
theorem r_feed_no {l : Launch} {D : va_G} {q b1 : Nat} {k4 : ClassId} {by8 : Nat → Int32} {wd : Nat} {po : Int64} {fi : Int64} {la : Int64} {bi : Int32} {bo : Int32} {nb : Nat} {sz : Nat} (b : Int32) (t : Int32) (hn : nb ≤ 5000) (hno : mIsB b = 0 ∨ t < 1 ∨ nI (5000 - nb) < t) : Met l yX1_feed wsX1_feed ({ frames := 0, cells := 0, slots := 0, locals := 0 }) (va_Pc [.ref q, .int b, .int t] (pRO D vwCl (mt k4) (mw q b1 k4 by8 wd po fi la bi bo nb) sz)) (roI sz 0) 0 0 (fun q : Nat => sz ≤ q) := by
  refine Met.ofW (cc := cX1_feed) (maxL := 4) (ret := (some .boolean)) (by decide) rfl ?_
  intro p e s m args below meth c s₁ B hml hv
  obtain ⟨rfl, hsz, hP, hK⟩ := hv
  have hsz : s.heap.size = sz := hsz
  have hx := B.exec
  have hb := B.bytes
  have hr := B.returns
  have hts := atoms_spec (ws := wsX1_feed) B.pre
  have hown : s.vm.findClass RX1 = some m.cls := findClass_of_methodNamed B.named
  have hlocks := B.notSynchronized
  subst hsz
  have hA : ∀ q : Nat, s.heap.size ≤ q → (fun q : Nat => s.heap.size ≤ q) q := fun _ h => h
  have hS : va_S (fun q : Nat => s.heap.size ≤ q) s.heap s.heap [] := va_S.rf
  have hl := lv_entry ([.ref q, .int b, .int t]) (n := 4) (Nat.le_of_ble_eq_true rfl)
  rw [lg_entry_eq]
  generalize (lg_sl ([.ref q, .int b, .int t]) ++ List.replicate (4 - (lg_sl ([.ref q, .int b, .int t])).length) Slot.unset).toArray = ls at hl ⊢
  have hl : lv_has ls 4 [(0, .ref q), (1, .int b), (2, .int t)] := hl
  suffices key : ∀ (H : Heap) (locs : List Loc), va_P D vwCl (mw q b1 k4 by8 wd po fi la bi bo nb) H → va_S (fun q : Nat => s.heap.size ≤ q) s.heap H locs → W p l e (headSpec wsX1_feed { frames := 0, cells := 0, slots := 0, locals := 0 }).room s m ([.ref q, .int b, .int t] : List Value).toArray below meth c H locs 0 0 (MQ below (roI s.heap.size 0) ([.ref q, .int b, .int t] : List Value).toArray s 0 0 (fun q : Nat => s.heap.size ≤ q)) (F0 m 0 ls []) from key s.heap [] hP hS
  intro H locs hP hS
  refine lv_iload_n hx hb dX1_feed_0 rfl (lv_at hl 1 rfl) ?_
  refine lv_if_lt (tgt := 28) hx hb dX1_feed_1 (by decide) (fun c_1 => ?_) (fun c_1 => ?_)
  ·
    refine lv_iconst (v := 0) hx hb dX1_feed_28 (by decide) ?_
    exact W.zret (v := 0) hx hb hr (by decide) (fun t ht hW => ⟨⟨0, (), rfl, rfl, trivial⟩, hS.F ht⟩) hS.2.2 dX1_feed_29
  ·
    refine lv_iload_n hx hb dX1_feed_4 rfl (lv_at hl 1 rfl) ?_
    refine lv_sipush (v := 255) hx hb dX1_feed_5 (by decide) ?_
    refine lv_icmp_gt (tgt := 28) hx hb dX1_feed_8 (by decide) (fun c_8 => ?_) (fun c_8 => ?_)
    ·
      refine lv_iconst (v := 0) hx hb dX1_feed_28 (by decide) ?_
      exact W.zret (v := 0) hx hb hr (by decide) (fun t ht hW => ⟨⟨0, (), rfl, rfl, trivial⟩, hS.F ht⟩) hS.2.2 dX1_feed_29
    ·
      refine lv_iload_n hx hb dX1_feed_11 rfl (lv_at hl 2 rfl) ?_
      refine lv_iconst (v := 1) hx hb dX1_feed_12 (by decide) ?_
      refine lv_icmp_lt (tgt := 28) hx hb dX1_feed_13 (by decide) (fun c_13 => ?_) (fun c_13 => ?_)
      ·
        refine lv_iconst (v := 0) hx hb dX1_feed_28 (by decide) ?_
        exact W.zret (v := 0) hx hb hr (by decide) (fun t ht hW => ⟨⟨0, (), rfl, rfl, trivial⟩, hS.F ht⟩) hS.2.2 dX1_feed_29
      ·
        refine lv_iload_n hx hb dX1_feed_16 rfl (lv_at hl 2 rfl) ?_
        refine lv_sipush (v := 5000) hx hb dX1_feed_17 (by decide) ?_
        refine lv_aload_n hx hb dX1_feed_20 rfl (lv_at hl 0 rfl) ?_
        refine va_get (D := D) (ci := 1) (v := .int (nI nb)) (C := RX1) (T := TX1) (N := 8) hx hb hts in_r_feed_no hown hK hP 0 rfl rfl 7 (by decide) (hts (.fieldLink RX1 46 "SliceChecksModel" "count" "I") (by decide +kernel)) (fun _ h9 => h9) rfl dX1_feed_21 ?_
        refine lv_isub hx hb dX1_feed_24 ?_
        refine du_rwi (y := nI (5000 - nb)) (pk_sub (a := 5000) hn) ?_
        refine lv_icmp_le (tgt := 30) hx hb dX1_feed_25 (by decide) (fun c_25 => ?_) (fun c_25 => ?_)
        ·
          exact hno.elim (fun h => absurd h (du_isb2 c_1 c_8)) (fun h => h.elim (fun h => absurd h c_13) (fun h => absurd h (Int32.not_lt.mpr c_25)))
        ·
          refine lv_iconst (v := 0) hx hb dX1_feed_28 (by decide) ?_
          exact W.zret (v := 0) hx hb hr (by decide) (fun t ht hW => ⟨⟨0, (), rfl, rfl, trivial⟩, hS.F ht⟩) hS.2.2 dX1_feed_29
theorem in_r_feed : ∀ w ∈ wsX10, w ∈ wsX1_feed := fun _ h => List.mem_cons_of_mem _ (List.mem_append_right _ h)
set_option maxHeartbeats 4000000 in
set_option maxRecDepth 100000 in
theorem r_feed {l : Launch} {D : va_G} {q b1 : Nat} {k4 : ClassId} {by8 : Nat → Int32} {wd : Nat} {po : Int64} {fi : Int64} {la : Int64} {bi : Int32} {bo : Int32} {nb : Nat} {sz : Nat} (b : Nat) (t : Nat) (hn : nb ≤ 5000) (hb8 : b < 256) (ht1 : 1 ≤ t) (ht : t ≤ 5000 - nb) : Met l yX1_feed wsX1_feed ({ frames := 0, cells := 0, slots := 0, locals := 0 }) (va_Pc [.ref q, .int (nI b), .int (nI t)] (pMU D vwCl (mt k4) (mw q b1 k4 by8 wd po fi la bi bo nb) sz)) (muI D vwCl (mw q b1 k4 by8 wd po fi la bi bo nb) (mw q b1 k4 (rFeN by8 (nI b) nb t) wd po fi la bi bo (nb + t)) sz 1) 0 0 (va_A (mw q b1 k4 by8 wd po fi la bi bo nb) sz) := by
  refine Met.ofW (cc := cX1_feed) (maxL := 4) (ret := (some .boolean)) (by decide) rfl ?_
  intro p e s m args below meth c s₁ B hml hv
  obtain ⟨rfl, hsz, hP, hK, hD0⟩ := hv
  have hsz : s.heap.size = sz := hsz
  have hx := B.exec
  have hb := B.bytes
  have hr := B.returns
  have hts := atoms_spec (ws := wsX1_feed) B.pre
  have hown : s.vm.findClass RX1 = some m.cls := findClass_of_methodNamed B.named
  have hlocks := B.notSynchronized
  subst hsz
  have hD0 := hD0.self (sz := s.heap.size)
  have hA : ∀ q9 : Nat, s.heap.size ≤ q9 → va_A (mw q b1 k4 by8 wd po fi la bi bo nb) s.heap.size q9 := fun q9 h => Or.inr h
  unfold muI
  generalize va_A (mw q b1 k4 by8 wd po fi la bi bo nb) s.heap.size = A at hD0 hA ⊢
  have hD := hD0
  have hS : va_S A s.heap s.heap [] := va_S.rf
  have hl := lv_entry ([.ref q, .int (nI b), .int (nI t)]) (n := 4) (Nat.le_of_ble_eq_true rfl)
  rw [lg_entry_eq]
  generalize (lg_sl ([.ref q, .int (nI b), .int (nI t)]) ++ List.replicate (4 - (lg_sl ([.ref q, .int (nI b), .int (nI t)])).length) Slot.unset).toArray = ls at hl ⊢
  have hl : lv_has ls 4 [(0, .ref q), (1, .int (nI b)), (2, .int (nI t))] := hl
  suffices key : ∀ (H : Heap) (locs : List Loc), va_P D vwCl (mw q b1 k4 by8 wd po fi la bi bo nb) H → va_S A s.heap H locs → W p l e (headSpec wsX1_feed { frames := 0, cells := 0, slots := 0, locals := 0 }).room s m ([.ref q, .int (nI b), .int (nI t)] : List Value).toArray below meth c H locs 0 0 (MQ below (va_Qi (fun r (_ : Unit) => r = 1) (fun _ t9 => va_P D vwCl (mw q b1 k4 (rFeN by8 (nI b) nb t) wd po fi la bi bo (nb + t)) t9.heap) A) ([.ref q, .int (nI b), .int (nI t)] : List Value).toArray s 0 0 A) (F0 m 0 ls []) from key s.heap [] hP hS
  intro H locs hP hS
  refine lv_iload_n hx hb dX1_feed_0 rfl (lv_at hl 1 rfl) ?_
  refine lv_if_lt (tgt := 28) hx hb dX1_feed_1 (by decide) (fun c_1 => ?_) (fun c_1 => ?_)
  ·
    exact absurd c_1 (nI_pos (by omega))
  ·
    refine lv_iload_n hx hb dX1_feed_4 rfl (lv_at hl 1 rfl) ?_
    refine lv_sipush (v := 255) hx hb dX1_feed_5 (by decide) ?_
    refine lv_icmp_gt (tgt := 28) hx hb dX1_feed_8 (by decide) (fun c_8 => ?_) (fun c_8 => ?_)
    ·
      exact absurd c_8 (nI_nlt (b := b) (a := 255) (by omega) (by omega))
    ·
      refine lv_iload_n hx hb dX1_feed_11 rfl (lv_at hl 2 rfl) ?_
      refine lv_iconst (v := 1) hx hb dX1_feed_12 (by decide) ?_
      refine lv_icmp_lt (tgt := 28) hx hb dX1_feed_13 (by decide) (fun c_13 => ?_) (fun c_13 => ?_)
      ·
        exact absurd c_13 (du_n1 ht1 (by omega))
      ·
        refine lv_iload_n hx hb dX1_feed_16 rfl (lv_at hl 2 rfl) ?_
        refine lv_sipush (v := 5000) hx hb dX1_feed_17 (by decide) ?_
        refine lv_aload_n hx hb dX1_feed_20 rfl (lv_at hl 0 rfl) ?_
        refine va_get (D := D) (ci := 1) (v := .int (nI nb)) (C := RX1) (T := TX1) (N := 8) hx hb hts in_r_feed hown hK hP 0 rfl rfl 7 (by decide) (hts (.fieldLink RX1 46 "SliceChecksModel" "count" "I") (by decide +kernel)) (fun _ h9 => h9) rfl dX1_feed_21 ?_
        refine lv_isub hx hb dX1_feed_24 ?_
        refine du_rwi (y := nI (5000 - nb)) (pk_sub (a := 5000) hn) ?_
        refine lv_icmp_le (tgt := 30) hx hb dX1_feed_25 (by decide) (fun c_25 => ?_) (fun c_25 => ?_)
        ·
          refine lv_iconst (v := 0) hx hb dX1_feed_30 (by decide) ?_
          refine lv_istore_n (lv' := [(3, .int 0), (0, .ref q), (1, .int (nI b)), (2, .int (nI t))]) hx hb dX1_feed_31 rfl hl (by decide) rfl (fun ls hl => ?_)
          have lp_32 : ∀ (k i : Nat), i ≤ t → t < i + k → ∀ (H : Heap) (locs : List Loc), va_P D vwCl (mw q b1 k4 (rFeN by8 (nI b) nb i) wd po fi la bi bo (nb + i)) H → va_S A s.heap H locs → ∀ ls : Array Slot, lv_has ls 4 [(3, .int (nI i)), (0, .ref q), (1, .int (nI b)), (2, .int (nI t))] → W p l e (headSpec wsX1_feed { frames := 0, cells := 0, slots := 0, locals := 0 }).room s m ([.ref q, .int (nI b), .int (nI t)] : List Value).toArray below meth c H locs 0 0 (MQ below (va_Qi (fun r (_ : Unit) => r = 1) (fun _ t9 => va_P D vwCl (mw q b1 k4 (rFeN by8 (nI b) nb t) wd po fi la bi bo (nb + t)) t9.heap) A) ([.ref q, .int (nI b), .int (nI t)] : List Value).toArray s 0 0 A) (F0 m 32 ls []) := by
            intro k
            induction k with
            | zero =>
              intro i h1 h2
              exact absurd h2 (by omega)
            | succ k ih =>
              intro i hi hk H locs hP hS ls hl
              have hD : va_D A (mw q b1 k4 (rFeN by8 (nI b) nb i) wd po fi la bi bo (nb + i)) := du_same hD0 rfl
              refine lv_iload_n hx hb dX1_feed_32 rfl (lv_at hl 0 rfl) ?_
              refine lv_iload_n hx hb dX1_feed_33 rfl (lv_at hl 3 rfl) ?_
              refine lv_icmp_ge (tgt := 63) hx hb dX1_feed_34 (by decide) (fun c_34 => ?_) (fun c_34 => ?_)
              ·
                have hiN := du_ge (by omega) hi c_34
                refine lv_iconst (v := 1) hx hb dX1_feed_63 (by decide) ?_
                have hPf : va_P D vwCl (mw q b1 k4 (rFeN by8 (nI b) nb t) wd po fi la bi bo (nb + t)) H := by rw [← hiN]; exact hP
                exact W.zret (v := 1) hx hb hr (by decide) (fun t ht hW => ⟨⟨1, (), rfl, rfl, by show va_P _ _ _ t.heap; rw [ht]; exact hPf⟩, hS.F ht⟩) hS.2.2 dX1_feed_64
              ·
                have hlt := du_lt (by omega) hi c_34
                refine lv_aload_n hx hb dX1_feed_37 rfl (lv_at hl 1 rfl) ?_
                refine va_get (D := D) (ci := 1) (v := .ref b1) (C := RX1) (T := TX1) (N := 8) hx hb hts in_r_feed hown hK hP 0 rfl rfl 6 (by decide) (hts (.fieldLink RX1 34 "SliceChecksModel" "bytes" "[I") (by decide +kernel)) (fun _ h9 => h9) rfl dX1_feed_38 ?_
                refine lv_aload_n hx hb dX1_feed_41 rfl (lv_at hl 1 rfl) ?_
                refine va_get (D := D) (ci := 1) (v := .int (nI (nb + i))) (C := RX1) (T := TX1) (N := 8) hx hb hts in_r_feed hown hK hP 0 rfl rfl 7 (by decide) (hts (.fieldLink RX1 46 "SliceChecksModel" "count" "I") (by decide +kernel)) (fun _ h9 => h9) rfl dX1_feed_42 ?_
                refine lv_iload_n hx hb dX1_feed_45 rfl (lv_at hl 2 rfl) ?_
                refine va_iast hx hb hK hP hD hS 1 0 rfl rfl (i := nI (nb + i)) (x := nI b) (vp_in_nI (by omega) (by omega)) dX1_feed_46 (fun H locs hP hD hS => ?_)
                have hP : va_P D vwCl (mw q b1 k4 (rFeN by8 (nI b) nb (i + 1)) wd po fi la bi bo (nb + i)) H := hP
                have hD : va_D A (mw q b1 k4 (rFeN by8 (nI b) nb (i + 1)) wd po fi la bi bo (nb + i)) := hD
                refine lv_aload_n hx hb dX1_feed_47 rfl (lv_at hl 1 rfl) ?_
                refine lv_dup hx hb dX1_feed_48 rfl ?_
                refine va_get (D := D) (ci := 1) (v := .int (nI (nb + i))) (C := RX1) (T := TX1) (N := 8) hx hb hts in_r_feed hown hK hP 0 rfl rfl 7 (by decide) (hts (.fieldLink RX1 46 "SliceChecksModel" "count" "I") (by decide +kernel)) (fun _ h9 => h9) rfl dX1_feed_49 ?_
                refine lv_iconst (v := 1) hx hb dX1_feed_52 (by decide) ?_
                refine lv_iadd hx hb dX1_feed_53 ?_
                refine du_rwi (y := nI (nb + (i + 1))) (nI_1 (nb + i)) ?_
                refine va_put (D := D) (ci := 1) (v := .int (nI (nb + (i + 1)))) (ty := .int) (C := RX1) (T := TX1) (N := 8) hx hb hts in_r_feed tyX1 tyX1_ok nmX1 hown hK hP hD hS 0 rfl rfl 7 (by decide) (hts (.fieldLink RX1 46 "SliceChecksModel" "count" "I") (by decide +kernel)) (fun _ h9 => h9) rfl (by decide +kernel) rfl rfl (Nat.le_of_ble_eq_true rfl) dX1_feed_54 (fun H locs hP hD hS => ?_)
                have hP : va_P D vwCl (mw q b1 k4 (rFeN by8 (nI b) nb (i + 1)) wd po fi la bi bo (nb + (i + 1))) H := hP
                have hD : va_D A (mw q b1 k4 (rFeN by8 (nI b) nb (i + 1)) wd po fi la bi bo (nb + (i + 1))) := hD
                refine lv_iinc (v := nI (i + 1)) (lv' := [(3, .int (nI (i + 1))), (0, .ref q), (1, .int (nI b)), (2, .int (nI t))]) hx hb dX1_feed_57 hl (k := 0) rfl (nI_1 i) (by decide) rfl (fun ls hl => ?_)
                refine lv_goto (tgt := 32) hx hb dX1_feed_60 (by decide) ?_
                exact ih (i + 1) (by omega) (by omega) H locs (hP) hS ls (lv_sub hl [0, 1, 2, 3] rfl)
          exact lp_32 (t + 1 - 0) 0 (by omega) (by omega) H locs (hP) hS ls (lv_sub hl [0, 1, 2, 3] rfl)
        ·
          exact absurd (nI_le ht (by omega)) c_25
theorem in_r_clear : ∀ w ∈ wsX10, w ∈ wsX1_clear := fun _ h => List.mem_cons_of_mem _ (List.mem_append_right _ h)
set_option maxHeartbeats 4000000 in
set_option maxRecDepth 100000 in
theorem r_clear {l : Launch} {D : va_G} {q b1 : Nat} {k4 : ClassId} {by8 : Nat → Int32} {wd : Nat} {po : Int64} {fi : Int64} {la : Int64} {bi : Int32} {bo : Int32} {nb : Nat} {sz : Nat}   : Met l yX1_clear wsX1_clear ({ frames := 0, cells := 0, slots := 0, locals := 0 }) (va_Pc [.ref q] (pMU D vwCl (mt k4) (mw q b1 k4 by8 wd po fi la bi bo nb) sz)) (muV D vwCl (mw q b1 k4 by8 wd po fi la bi bo nb) (mw q b1 k4 by8 wd po fi la bi bo 0) sz) 0 0 (va_A (mw q b1 k4 by8 wd po fi la bi bo nb) sz) := by
  refine Met.ofW (cc := cX1_clear) (maxL := 1) (ret := none) (by decide) rfl ?_
  intro p e s m args below meth c s₁ B hml hv
  obtain ⟨rfl, hsz, hP, hK, hD0⟩ := hv
  have hsz : s.heap.size = sz := hsz
  have hx := B.exec
  have hb := B.bytes
  have hr := B.returns
  have hts := atoms_spec (ws := wsX1_clear) B.pre
  have hown : s.vm.findClass RX1 = some m.cls := findClass_of_methodNamed B.named
  have hlocks := B.notSynchronized
  subst hsz
  have hD0 := hD0.self (sz := s.heap.size)
  have hA : ∀ q9 : Nat, s.heap.size ≤ q9 → va_A (mw q b1 k4 by8 wd po fi la bi bo nb) s.heap.size q9 := fun q9 h => Or.inr h
  unfold muV
  generalize va_A (mw q b1 k4 by8 wd po fi la bi bo nb) s.heap.size = A at hD0 hA ⊢
  have hD := hD0
  have hS : va_S A s.heap s.heap [] := va_S.rf
  have hl := lv_entry ([.ref q]) (n := 1) (Nat.le_of_ble_eq_true rfl)
  rw [lg_entry_eq]
  generalize (lg_sl ([.ref q]) ++ List.replicate (1 - (lg_sl ([.ref q])).length) Slot.unset).toArray = ls at hl ⊢
  have hl : lv_has ls 1 [(0, .ref q)] := hl
  suffices key : ∀ (H : Heap) (locs : List Loc), va_P D vwCl (mw q b1 k4 by8 wd po fi la bi bo nb) H → va_S A s.heap H locs → W p l e (headSpec wsX1_clear { frames := 0, cells := 0, slots := 0, locals := 0 }).room s m ([.ref q] : List Value).toArray below meth c H locs 0 0 (MQ below (va_Qv (fun (_ : Unit) => True) (fun _ t9 => va_P D vwCl (mw q b1 k4 by8 wd po fi la bi bo 0) t9.heap) A) ([.ref q] : List Value).toArray s 0 0 A) (F0 m 0 ls []) from key s.heap [] hP hS
  intro H locs hP hS
  refine lv_aload_n hx hb dX1_clear_0 rfl (lv_at hl 0 rfl) ?_
  refine lv_iconst (v := 0) hx hb dX1_clear_1 (by decide) ?_
  refine du_rwi (y := nI 0) (rfl) ?_
  refine va_put (D := D) (ci := 1) (v := .int (nI 0)) (ty := .int) (C := RX1) (T := TX1) (N := 8) hx hb hts in_r_clear tyX1 tyX1_ok nmX1 hown hK hP hD hS 0 rfl rfl 7 (by decide) (hts (.fieldLink RX1 46 "SliceChecksModel" "count" "I") (by decide +kernel)) (fun _ h9 => h9) rfl (by decide +kernel) rfl rfl (Nat.le_of_ble_eq_true rfl) dX1_clear_2 (fun H locs hP hD hS => ?_)
  have hP : va_P D vwCl (mw q b1 k4 by8 wd po fi la bi bo 0) H := hP
  have hD : va_D A (mw q b1 k4 by8 wd po fi la bi bo 0) := hD
  have hPf : va_P D vwCl (mw q b1 k4 by8 wd po fi la bi bo 0) H := by exact hP
  exact W.vret hx hb hr (fun t ht hW => ⟨⟨(), rfl, trivial, by show va_P _ _ _ t.heap; rw [ht]; exact hPf⟩, hS.F ht⟩) hS.2.2 dX1_clear_5
theorem in_r_flip_no : ∀ w ∈ wsX10, w ∈ wsX1_flip := fun _ h => List.mem_cons_of_mem _ (List.mem_append_right _ h)
set_option maxHeartbeats 4000000 in
set_option maxRecDepth 100000 in
theorem r_flip_no {l : Launch} {D : va_G} {q b1 : Nat} {k4 : ClassId} {by8 : Nat → Int32} {wd : Nat} {po : Int64} {fi : Int64} {la : Int64} {bi : Int32} {bo : Int32} {nb : Nat} {sz : Nat} (y : Int32) (hno : y < 0 ∨ nI (8 * nb) ≤ y) : Met l yX1_flip wsX1_flip ({ frames := 0, cells := 0, slots := 0, locals := 0 }) (va_Pc [.ref q, .int y] (pRO D vwCl (mt k4) (mw q b1 k4 by8 wd po fi la bi bo nb) sz)) (roI sz 0) 0 0 (fun q : Nat => sz ≤ q) := by
  refine Met.ofW (cc := cX1_flip) (maxL := 2) (ret := (some .boolean)) (by decide) rfl ?_
  intro p e s m args below meth c s₁ B hml hv
  obtain ⟨rfl, hsz, hP, hK⟩ := hv
  have hsz : s.heap.size = sz := hsz
  have hx := B.exec
  have hb := B.bytes
  have hr := B.returns
  have hts := atoms_spec (ws := wsX1_flip) B.pre
  have hown : s.vm.findClass RX1 = some m.cls := findClass_of_methodNamed B.named
  have hlocks := B.notSynchronized
  subst hsz
  have hA : ∀ q : Nat, s.heap.size ≤ q → (fun q : Nat => s.heap.size ≤ q) q := fun _ h => h
  have hS : va_S (fun q : Nat => s.heap.size ≤ q) s.heap s.heap [] := va_S.rf
  have hl := lv_entry ([.ref q, .int y]) (n := 2) (Nat.le_of_ble_eq_true rfl)
  rw [lg_entry_eq]
  generalize (lg_sl ([.ref q, .int y]) ++ List.replicate (2 - (lg_sl ([.ref q, .int y])).length) Slot.unset).toArray = ls at hl ⊢
  have hl : lv_has ls 2 [(0, .ref q), (1, .int y)] := hl
  suffices key : ∀ (H : Heap) (locs : List Loc), va_P D vwCl (mw q b1 k4 by8 wd po fi la bi bo nb) H → va_S (fun q : Nat => s.heap.size ≤ q) s.heap H locs → W p l e (headSpec wsX1_flip { frames := 0, cells := 0, slots := 0, locals := 0 }).room s m ([.ref q, .int y] : List Value).toArray below meth c H locs 0 0 (MQ below (roI s.heap.size 0) ([.ref q, .int y] : List Value).toArray s 0 0 (fun q : Nat => s.heap.size ≤ q)) (F0 m 0 ls []) from key s.heap [] hP hS
  intro H locs hP hS
  refine lv_iload_n hx hb dX1_flip_0 rfl (lv_at hl 1 rfl) ?_
  refine lv_if_lt (tgt := 15) hx hb dX1_flip_1 (by decide) (fun c_1 => ?_) (fun c_1 => ?_)
  ·
    refine lv_iconst (v := 0) hx hb dX1_flip_15 (by decide) ?_
    exact W.zret (v := 0) hx hb hr (by decide) (fun t ht hW => ⟨⟨0, (), rfl, rfl, trivial⟩, hS.F ht⟩) hS.2.2 dX1_flip_16
  ·
    refine lv_iload_n hx hb dX1_flip_4 rfl (lv_at hl 1 rfl) ?_
    refine lv_bipush (v := 8) hx hb dX1_flip_5 (by decide) ?_
    refine lv_aload_n hx hb dX1_flip_7 rfl (lv_at hl 0 rfl) ?_
    refine va_get (D := D) (ci := 1) (v := .int (nI nb)) (C := RX1) (T := TX1) (N := 8) hx hb hts in_r_flip_no hown hK hP 0 rfl rfl 7 (by decide) (hts (.fieldLink RX1 46 "SliceChecksModel" "count" "I") (by decide +kernel)) (fun _ h9 => h9) rfl dX1_flip_8 ?_
    refine lv_imul hx hb dX1_flip_11 ?_
    refine du_rwi (y := nI (8 * nb)) (pk_mul 8 nb) ?_
    refine lv_icmp_lt (tgt := 17) hx hb dX1_flip_12 (by decide) (fun c_12 => ?_) (fun c_12 => ?_)
    ·
      exact hno.elim (fun h => absurd h c_1) (fun h => absurd c_12 (Int32.not_lt.mpr h))
    ·
      refine lv_iconst (v := 0) hx hb dX1_flip_15 (by decide) ?_
      exact W.zret (v := 0) hx hb hr (by decide) (fun t ht hW => ⟨⟨0, (), rfl, rfl, trivial⟩, hS.F ht⟩) hS.2.2 dX1_flip_16
theorem in_r_flip : ∀ w ∈ wsX10, w ∈ wsX1_flip := fun _ h => List.mem_cons_of_mem _ (List.mem_append_right _ h)
set_option maxHeartbeats 4000000 in
set_option maxRecDepth 100000 in
theorem r_flip {l : Launch} {D : va_G} {q b1 : Nat} {k4 : ClassId} {by8 : Nat → Int32} {wd : Nat} {po : Int64} {fi : Int64} {la : Int64} {bi : Int32} {bo : Int32} {nb : Nat} {sz : Nat} (j : Nat) (hn : nb ≤ 5000) (hj : j < 8 * nb) : Met l yX1_flip wsX1_flip ({ frames := 0, cells := 0, slots := 0, locals := 0 }) (va_Pc [.ref q, .int (nI j)] (pMU D vwCl (mt k4) (mw q b1 k4 by8 wd po fi la bi bo nb) sz)) (muI D vwCl (mw q b1 k4 by8 wd po fi la bi bo nb) (mw q b1 k4 (rFlip by8 bi j) wd po fi la bi bo nb) sz 1) 0 0 (va_A (mw q b1 k4 by8 wd po fi la bi bo nb) sz) := by
  refine Met.ofW (cc := cX1_flip) (maxL := 2) (ret := (some .boolean)) (by decide) rfl ?_
  intro p e s m args below meth c s₁ B hml hv
  obtain ⟨rfl, hsz, hP, hK, hD0⟩ := hv
  have hsz : s.heap.size = sz := hsz
  have hx := B.exec
  have hb := B.bytes
  have hr := B.returns
  have hts := atoms_spec (ws := wsX1_flip) B.pre
  have hown : s.vm.findClass RX1 = some m.cls := findClass_of_methodNamed B.named
  have hlocks := B.notSynchronized
  subst hsz
  have hD0 := hD0.self (sz := s.heap.size)
  have hA : ∀ q9 : Nat, s.heap.size ≤ q9 → va_A (mw q b1 k4 by8 wd po fi la bi bo nb) s.heap.size q9 := fun q9 h => Or.inr h
  unfold muI
  generalize va_A (mw q b1 k4 by8 wd po fi la bi bo nb) s.heap.size = A at hD0 hA ⊢
  have hD := hD0
  have hS : va_S A s.heap s.heap [] := va_S.rf
  have hl := lv_entry ([.ref q, .int (nI j)]) (n := 2) (Nat.le_of_ble_eq_true rfl)
  rw [lg_entry_eq]
  generalize (lg_sl ([.ref q, .int (nI j)]) ++ List.replicate (2 - (lg_sl ([.ref q, .int (nI j)])).length) Slot.unset).toArray = ls at hl ⊢
  have hl : lv_has ls 2 [(0, .ref q), (1, .int (nI j))] := hl
  suffices key : ∀ (H : Heap) (locs : List Loc), va_P D vwCl (mw q b1 k4 by8 wd po fi la bi bo nb) H → va_S A s.heap H locs → W p l e (headSpec wsX1_flip { frames := 0, cells := 0, slots := 0, locals := 0 }).room s m ([.ref q, .int (nI j)] : List Value).toArray below meth c H locs 0 0 (MQ below (va_Qi (fun r (_ : Unit) => r = 1) (fun _ t9 => va_P D vwCl (mw q b1 k4 (rFlip by8 bi j) wd po fi la bi bo nb) t9.heap) A) ([.ref q, .int (nI j)] : List Value).toArray s 0 0 A) (F0 m 0 ls []) from key s.heap [] hP hS
  intro H locs hP hS
  refine lv_iload_n hx hb dX1_flip_0 rfl (lv_at hl 1 rfl) ?_
  refine lv_if_lt (tgt := 15) hx hb dX1_flip_1 (by decide) (fun c_1 => ?_) (fun c_1 => ?_)
  ·
    exact absurd c_1 (nI_pos (by omega))
  ·
    refine lv_iload_n hx hb dX1_flip_4 rfl (lv_at hl 1 rfl) ?_
    refine lv_bipush (v := 8) hx hb dX1_flip_5 (by decide) ?_
    refine lv_aload_n hx hb dX1_flip_7 rfl (lv_at hl 0 rfl) ?_
    refine va_get (D := D) (ci := 1) (v := .int (nI nb)) (C := RX1) (T := TX1) (N := 8) hx hb hts in_r_flip hown hK hP 0 rfl rfl 7 (by decide) (hts (.fieldLink RX1 46 "SliceChecksModel" "count" "I") (by decide +kernel)) (fun _ h9 => h9) rfl dX1_flip_8 ?_
    refine lv_imul hx hb dX1_flip_11 ?_
    refine du_rwi (y := nI (8 * nb)) (pk_mul 8 nb) ?_
    refine lv_icmp_lt (tgt := 17) hx hb dX1_flip_12 (by decide) (fun c_12 => ?_) (fun c_12 => ?_)
    ·
      refine lv_aload_n hx hb dX1_flip_17 rfl (lv_at hl 0 rfl) ?_
      refine va_get (D := D) (ci := 1) (v := .ref b1) (C := RX1) (T := TX1) (N := 8) hx hb hts in_r_flip hown hK hP 0 rfl rfl 6 (by decide) (hts (.fieldLink RX1 34 "SliceChecksModel" "bytes" "[I") (by decide +kernel)) (fun _ h9 => h9) rfl dX1_flip_18 ?_
      refine lv_iload_n hx hb dX1_flip_21 rfl (lv_at hl 1 rfl) ?_
      refine lv_bipush (v := 8) hx hb dX1_flip_22 (by decide) ?_
      refine lv_idiv hx hb dX1_flip_24 (by decide) ?_
      refine du_rwi (y := nI (j / 8)) (du_div8 (by omega)) ?_
      refine lv_dup2_11 hx hb dX1_flip_25 rfl rfl ?_
      refine va_iald hx hb hK hP 1 0 rfl rfl (i := nI (j / 8)) (vp_in_nI (by omega) (by omega)) dX1_flip_26 ?_
      refine lv_aload_n hx hb dX1_flip_27 rfl (lv_at hl 0 rfl) ?_
      refine va_get (D := D) (ci := 1) (v := .int bi) (C := RX1) (T := TX1) (N := 8) hx hb hts in_r_flip hown hK hP 0 rfl rfl 4 (by decide) (hts (.fieldLink RX1 27 "SliceChecksModel" "in" "Z") (by decide +kernel)) (fun _ h9 => h9) rfl dX1_flip_28 ?_
      refine lv_if_eq (tgt := 43) hx hb dX1_flip_31 (by decide) (fun c_31 => ?_) (fun c_31 => ?_)
      ·
        refine lv_sipush (v := 128) hx hb dX1_flip_43 (by decide) ?_
        refine lv_iload_n hx hb dX1_flip_46 rfl (lv_at hl 1 rfl) ?_
        refine lv_bipush (v := 8) hx hb dX1_flip_47 (by decide) ?_
        refine lv_irem hx hb dX1_flip_49 (by decide) ?_
        refine du_rwi (y := nI (j % 8)) (du_rem8 (by omega)) ?_
        refine lv_ishr hx hb dX1_flip_50 ?_
        refine lv_ixor hx hb dX1_flip_51 ?_
        refine va_iast hx hb hK hP hD hS 1 0 rfl rfl (i := nI (j / 8)) (x := (by8 (nI (j / 8)).toNatClampNeg) ^^^ (128 >>> ((nI (j % 8)) &&& 31))) (vp_in_nI (by omega) (by omega)) dX1_flip_52 (fun H locs hP hD hS => ?_)
        have hP : va_P D vwCl (mw q b1 k4 (upd by8 (nI (j / 8)).toNatClampNeg ((by8 (nI (j / 8)).toNatClampNeg) ^^^ (128 >>> ((nI (j % 8)) &&& 31)))) wd po fi la bi bo nb) H := hP
        have hD : va_D A (mw q b1 k4 (upd by8 (nI (j / 8)).toNatClampNeg ((by8 (nI (j / 8)).toNatClampNeg) ^^^ (128 >>> ((nI (j % 8)) &&& 31)))) wd po fi la bi bo nb) := hD
        refine lv_iconst (v := 1) hx hb dX1_flip_53 (by decide) ?_
        have hPf : va_P D vwCl (mw q b1 k4 (rFlip by8 bi j) wd po fi la bi bo nb) H := by first | (rw [rFlip, if_pos c_31]; exact hP) | (rw [rFlip, if_neg c_31]; exact hP)
        exact W.zret (v := 1) hx hb hr (by decide) (fun t ht hW => ⟨⟨1, (), rfl, rfl, by show va_P _ _ _ t.heap; rw [ht]; exact hPf⟩, hS.F ht⟩) hS.2.2 dX1_flip_54
      ·
        refine lv_iconst (v := 1) hx hb dX1_flip_34 (by decide) ?_
        refine lv_iload_n hx hb dX1_flip_35 rfl (lv_at hl 1 rfl) ?_
        refine lv_bipush (v := 8) hx hb dX1_flip_36 (by decide) ?_
        refine lv_irem hx hb dX1_flip_38 (by decide) ?_
        refine du_rwi (y := nI (j % 8)) (du_rem8 (by omega)) ?_
        refine lv_ishl hx hb dX1_flip_39 ?_
        refine lv_goto (tgt := 51) hx hb dX1_flip_40 (by decide) ?_
        refine lv_ixor hx hb dX1_flip_51 ?_
        refine va_iast hx hb hK hP hD hS 1 0 rfl rfl (i := nI (j / 8)) (x := (by8 (nI (j / 8)).toNatClampNeg) ^^^ (1 <<< ((nI (j % 8)) &&& 31))) (vp_in_nI (by omega) (by omega)) dX1_flip_52 (fun H locs hP hD hS => ?_)
        have hP : va_P D vwCl (mw q b1 k4 (upd by8 (nI (j / 8)).toNatClampNeg ((by8 (nI (j / 8)).toNatClampNeg) ^^^ (1 <<< ((nI (j % 8)) &&& 31)))) wd po fi la bi bo nb) H := hP
        have hD : va_D A (mw q b1 k4 (upd by8 (nI (j / 8)).toNatClampNeg ((by8 (nI (j / 8)).toNatClampNeg) ^^^ (1 <<< ((nI (j % 8)) &&& 31)))) wd po fi la bi bo nb) := hD
        refine lv_iconst (v := 1) hx hb dX1_flip_53 (by decide) ?_
        have hPf : va_P D vwCl (mw q b1 k4 (rFlip by8 bi j) wd po fi la bi bo nb) H := by first | (rw [rFlip, if_pos c_31]; exact hP) | (rw [rFlip, if_neg c_31]; exact hP)
        exact W.zret (v := 1) hx hb hr (by decide) (fun t ht hW => ⟨⟨1, (), rfl, rfl, by show va_P _ _ _ t.heap; rw [ht]; exact hPf⟩, hS.F ht⟩) hS.2.2 dX1_flip_54
    ·
      exact absurd (nI_lt hj (by omega)) c_12
end
section
/-! The register as a vector of 64 bits at the top; a bit 0 is the linear map cz; all ways come down to its powers. -/
def cz (P r : BitVec 64) : BitVec 64 := if r.msb then (r <<< 1) ^^^ P else r <<< 1
theorem cz_xor (P r s : BitVec 64) : cz P (r ^^^ s) = cz P r ^^^ cz P s := by
  unfold cz
  rw [BitVec.msb_xor, BitVec.shiftLeft_xor_distrib]
  apply BitVec.eq_of_getLsbD_eq
  intro i hi
  cases r.msb <;> cases s.msb <;> simp only [Bool.false_xor, Bool.true_xor, Bool.not_false, Bool.not_true, ↓reduceIte, Bool.false_eq_true, BitVec.getLsbD_xor] <;>
    (generalize (r <<< 1).getLsbD i = a; generalize (s <<< 1).getLsbD i = b; generalize P.getLsbD i = c; cases a <;> cases b <;> cases c <;> rfl)
theorem cz_0 (P : BitVec 64) : cz P 0#64 = 0#64 := by
  unfold cz; simp
def czn (P : BitVec 64) : Nat → BitVec 64 → BitVec 64
  | 0, r => r
  | n + 1, r => cz P (czn P n r)
theorem czn_add (P : BitVec 64) (m n : Nat) (r : BitVec 64) : czn P (m + n) r = czn P m (czn P n r) := by
  induction m with
  | zero => rw [Nat.zero_add]; rfl
  | succ m ih => rw [Nat.succ_add]; show cz P (czn P (m + n) r) = cz P (czn P m (czn P n r)); rw [ih]
theorem czn_xor (P : BitVec 64) (n : Nat) (r s : BitVec 64) : czn P n (r ^^^ s) = czn P n r ^^^ czn P n s := by
  induction n with
  | zero => rfl
  | succ n ih => show cz P (czn P n (r ^^^ s)) = _; rw [ih, cz_xor]; rfl
theorem czn_0 (P : BitVec 64) (n : Nat) : czn P n 0#64 = 0#64 := by
  induction n with
  | zero => rfl
  | succ n ih => show cz P (czn P n 0#64) = _; rw [ih, cz_0]
theorem czn_1 (P : BitVec 64) (n : Nat) (r : BitVec 64) : czn P n (cz P r) = czn P (n + 1) r := by
  rw [czn_add P n 1 r]; rfl
theorem bb_hi {r : BitVec 64} {k i : Nat} (h : r.toNat < 2 ^ k) (hi : k ≤ i) : r.getLsbD i = false :=
  Nat.testBit_lt_two_pow (Nat.lt_of_lt_of_le h (Nat.pow_le_pow_right (by decide) hi))
theorem czn_shl (P : BitVec 64) (r : BitVec 64) : ∀ n, n ≤ 64 → r.toNat < 2 ^ (64 - n) → czn P n r = r <<< n := by
  intro n
  induction n with
  | zero => intro _ _; show r = r <<< 0; simp
  | succ n ih =>
    intro hn h
    have h2 : r.toNat < 2 ^ (64 - n) := Nat.lt_of_lt_of_le h (Nat.pow_le_pow_right (by decide) (by omega))
    show cz P (czn P n r) = _
    rw [ih (by omega) h2]
    unfold cz
    have hm : (r <<< n).msb = false := by
      rw [BitVec.msb_eq_getLsbD_last, BitVec.getLsbD_shiftLeft]
      rw [bb_hi h (show 64 - (n + 1) ≤ 64 - 1 - n by omega)]
      simp
    rw [hm, if_neg (by decide), ← BitVec.shiftLeft_add]
/-- the bit that comes, at the register's top -/
def tb (b : Bool) : BitVec 64 := if b then BitVec.twoPow 64 63 else 0#64
/-- the register behind n bits of f, from place a on -/
def rgN (P : BitVec 64) (f : Nat → Bool) (r : BitVec 64) (a : Nat) : Nat → BitVec 64
  | 0 => r
  | k + 1 => cz P (rgN P f r a k ^^^ tb (f (a + k)))
theorem rg_add (P : BitVec 64) (f : Nat → Bool) (r : BitVec 64) (a m n : Nat) : rgN P f r a (m + n) = rgN P f (rgN P f r a m) (a + m) n := by
  induction n with
  | zero => rfl
  | succ n ih =>
    show cz P (rgN P f r a (m + n) ^^^ tb (f (a + (m + n)))) = cz P (rgN P f (rgN P f r a m) (a + m) n ^^^ tb (f (a + m + n)))
    rw [ih, Nat.add_assoc]
theorem rg_congr {P : BitVec 64} {f g : Nat → Bool} {r : BitVec 64} {a b : Nat} : ∀ {n : Nat}, (∀ k, k < n → f (a + k) = g (b + k)) → rgN P f r a n = rgN P g r b n := by
  intro n
  induction n with
  | zero => intro _; rfl
  | succ n ih =>
    intro h
    show cz P (rgN P f r a n ^^^ tb (f (a + n))) = cz P (rgN P g r b n ^^^ tb (g (b + n)))
    rw [ih (fun k hk => h k (by omega)), h n (by omega)]
theorem bx_ac (a b c : BitVec 64) : a ^^^ b ^^^ c = a ^^^ c ^^^ b := by
  rw [BitVec.xor_assoc, BitVec.xor_comm b c, ← BitVec.xor_assoc]
theorem rg_xor (P : BitVec 64) (f : Nat → Bool) (r s : BitVec 64) (a n : Nat) : rgN P f (r ^^^ s) a n = rgN P f r a n ^^^ czn P n s := by
  induction n with
  | zero => rfl
  | succ n ih =>
    show cz P (rgN P f (r ^^^ s) a n ^^^ tb (f (a + n))) = cz P (rgN P f r a n ^^^ tb (f (a + n))) ^^^ cz P (czn P n s)
    rw [ih, bx_ac, cz_xor]
def wN (f : Nat → Bool) (a : Nat) : Nat → BitVec 64
  | 0 => 0#64
  | n + 1 => wN f a n ^^^ (if f (a + n) then BitVec.twoPow 64 (63 - n) else 0#64)
theorem tb_czn (P : BitVec 64) (b : Bool) {n : Nat} (hn : n < 64) : czn P n (if b then BitVec.twoPow 64 (63 - n) else 0#64) = tb b := by
  cases b with
  | false => exact czn_0 P n
  | true =>
    show czn P n (BitVec.twoPow 64 (63 - n)) = BitVec.twoPow 64 63
    rw [czn_shl P _ n (by omega)]
    · apply BitVec.eq_of_getLsbD_eq
      intro i hi
      rw [BitVec.getLsbD_shiftLeft, BitVec.getLsbD_twoPow, BitVec.getLsbD_twoPow]
      rcases Nat.lt_trichotomy i 63 with h | h | h
      · have e1 : decide (63 = i) = false := by simp; omega
        rcases Nat.lt_or_ge i n with q | q
        · have e2 : decide (i < n) = true := by simp; omega
          rw [e1, e2]; simp
        · have e2 : decide (63 - n = i - n) = false := by simp; omega
          rw [e1, e2]; simp
      · subst h
        have e2 : decide (63 < n) = false := by simp; omega
        rw [e2]; simp; omega
      · omega
    · rw [BitVec.toNat_twoPow, Nat.mod_eq_of_lt (Nat.pow_lt_pow_right (by decide) (by omega))]
      exact Nat.pow_lt_pow_right (by decide) (by omega)
theorem rg_w (P : BitVec 64) (f : Nat → Bool) (r : BitVec 64) (a : Nat) : ∀ n, n ≤ 64 → rgN P f r a n = czn P n (r ^^^ wN f a n) := by
  intro n
  induction n with
  | zero => intro _; show r = r ^^^ 0#64; simp
  | succ n ih =>
    intro hn
    show cz P (rgN P f r a n ^^^ tb (f (a + n))) = cz P (czn P n (r ^^^ (wN f a n ^^^ _)))
    rw [ih (by omega), ← BitVec.xor_assoc, czn_xor P n (r ^^^ wN f a n), tb_czn P _ (by omega)]
theorem wN_bit (f : Nat → Bool) (a : Nat) : ∀ n, n ≤ 64 → ∀ j, j < 64 → (wN f a n).getLsbD j = (decide (63 - j < n) && f (a + (63 - j))) := by
  intro n
  induction n with
  | zero => intro _ j _; show (0#64).getLsbD j = _; simp
  | succ n ih =>
    intro hn j hj
    show (wN f a n ^^^ _).getLsbD j = _
    rw [BitVec.getLsbD_xor, ih (by omega) j hj]
    have e0 : (if f (a + n) then BitVec.twoPow 64 (63 - n) else 0#64).getLsbD j = (decide (63 - n = j) && f (a + n)) := by
      cases f (a + n) with
      | false => simp
      | true =>
        simp only [↓reduceIte, Bool.and_true]
        rw [BitVec.getLsbD_twoPow]
        have : decide (63 - n < 64) = true := by simp; omega
        rw [this]; simp
    rw [e0]
    rcases Nat.lt_trichotomy (63 - j) n with h | h | h
    · have e1 : decide (63 - j < n) = true := by simpa using h
      have e2 : decide (63 - n = j) = false := by simp; omega
      have e3 : decide (63 - j < n + 1) = true := by simp; omega
      rw [e1, e2, e3]; simp
    · have e1 : decide (63 - j < n) = false := by simp; omega
      have e2 : decide (63 - n = j) = true := by simp; omega
      have e3 : decide (63 - j < n + 1) = true := by simp; omega
      rw [e1, e2, e3, h]; simp
    · have e1 : decide (63 - j < n) = false := by simp; omega
      have e2 : decide (63 - n = j) = false := by simp; omega
      have e3 : decide (63 - j < n + 1) = false := by simp; omega
      rw [e1, e2, e3]; simp
theorem rg_word {P : BitVec 64} {f : Nat → Bool} {r X : BitVec 64} {a n : Nat} (hn : n ≤ 64) (h : ∀ j, j < 64 → X.getLsbD j = (decide (63 - j < n) && f (a + (63 - j)))) : rgN P f r a n = czn P n (r ^^^ X) := by
  rw [rg_w P f r a n hn]
  have : wN f a n = X := BitVec.eq_of_getLsbD_eq (fun i hi => by rw [wN_bit f a n hn i hi, h i hi])
  rw [this]
/-- the lowest s bits are 0 -/
def lz (s : Nat) (r : BitVec 64) : Prop := ∀ j, j < s → r.getLsbD j = false
theorem lz_xor {s : Nat} {r t : BitVec 64} (h : lz s r) (h2 : lz s t) : lz s (r ^^^ t) := fun j hj => by rw [BitVec.getLsbD_xor, h j hj, h2 j hj]; rfl
theorem lz_0 (s : Nat) : lz s 0#64 := fun j _ => by simp
theorem lz_shl (s : Nat) (x : BitVec 64) : lz s (x <<< s) := fun j hj => by
  rw [BitVec.getLsbD_shiftLeft]
  have : decide (j < s) = true := by simpa using hj
  rw [this]; simp
theorem lz_cz {s : Nat} {P r : BitVec 64} (hP : lz s P) (h : lz s r) : lz s (cz P r) := by
  have h1 : lz s (r <<< 1) := fun j hj => by
    rw [BitVec.getLsbD_shiftLeft, h (j - 1) (by omega)]; simp
  unfold cz
  split
  · exact lz_xor h1 hP
  · exact h1
theorem lz_czn {s : Nat} {P r : BitVec 64} (hP : lz s P) (h : lz s r) : ∀ n, lz s (czn P n r) := by
  intro n
  induction n with
  | zero => exact h
  | succ n ih => exact lz_cz hP ih
theorem lz_tb {s : Nat} (hs : s ≤ 63) (b : Bool) : lz s (tb b) := fun j hj => by
  cases b with
  | false => show (0#64).getLsbD j = false; simp
  | true =>
    show (BitVec.twoPow 64 63).getLsbD j = false
    rw [BitVec.getLsbD_twoPow]
    have : decide (63 = j) = false := by simp; omega
    rw [this]; simp
theorem lz_rg {s : Nat} {P r : BitVec 64} {f : Nat → Bool} {a : Nat} (hs : s ≤ 63) (hP : lz s P) (h : lz s r) : ∀ n, lz s (rgN P f r a n) := by
  intro n
  induction n with
  | zero => exact h
  | succ n ih => exact lz_cz hP (lz_xor ih (lz_tb hs _))
/-- the product of two registers, A's highest coefficient first -/
def px (P A B : BitVec 64) : Nat → BitVec 64
  | 0 => 0#64
  | n + 1 => cz P (px P A B n) ^^^ (if A.getLsbD (63 - n) then B else 0#64)
theorem bx_4 (a b c d : BitVec 64) : (a ^^^ b) ^^^ (c ^^^ d) = (a ^^^ c) ^^^ (b ^^^ d) := by
  rw [← BitVec.xor_assoc, bx_ac a b c, BitVec.xor_assoc]
theorem px_xor (P A B C : BitVec 64) (n : Nat) : px P A (B ^^^ C) n = px P A B n ^^^ px P A C n := by
  induction n with
  | zero => show 0#64 = 0#64 ^^^ 0#64; simp
  | succ n ih =>
    show cz P (px P A (B ^^^ C) n) ^^^ _ = (cz P (px P A B n) ^^^ _) ^^^ (cz P (px P A C n) ^^^ _)
    rw [ih, cz_xor, bx_4]
    cases A.getLsbD (63 - n) <;> simp
theorem px_cz (P A B : BitVec 64) (n : Nat) : px P A (cz P B) n = cz P (px P A B n) := by
  induction n with
  | zero => show 0#64 = cz P 0#64; rw [cz_0]
  | succ n ih =>
    show cz P (px P A (cz P B) n) ^^^ _ = cz P (cz P (px P A B n) ^^^ _)
    rw [ih, cz_xor]
    cases A.getLsbD (63 - n) <;> simp [cz_0]
theorem px_czn (P A B : BitVec 64) (n : Nat) : ∀ k, px P A (czn P k B) n = czn P k (px P A B n) := by
  intro k
  induction k with
  | zero => rfl
  | succ k ih => show px P A (cz P (czn P k B)) n = cz P (czn P k (px P A B n)); rw [px_cz, ih]
theorem px_0 (P A : BitVec 64) (n : Nat) : px P A 0#64 n = 0#64 := by
  induction n with
  | zero => rfl
  | succ n ih =>
    show cz P (px P A 0#64 n) ^^^ _ = _
    rw [ih, cz_0]
    cases A.getLsbD (63 - n) <;> simp
theorem px_comm (P A B C : BitVec 64) (m : Nat) : ∀ n, px P A (px P B C n) m = px P B (px P A C m) n := by
  intro n
  induction n with
  | zero => exact px_0 P A m
  | succ n ih =>
    show px P A (cz P (px P B C n) ^^^ _) m = cz P (px P B (px P A C m) n) ^^^ _
    rw [px_xor, px_cz, ih]
    cases B.getLsbD (63 - n) <;> simp [px_0]
theorem px_n (P A : BitVec 64) {s : Nat} : ∀ n, n + s ≤ 64 → px P A (1#64 <<< s) n = (A >>> (64 - n)) <<< s := by
  intro n
  induction n with
  | zero =>
    intro _
    show 0#64 = _
    apply BitVec.eq_of_getLsbD_eq
    intro i hi
    rw [BitVec.getLsbD_shiftLeft, BitVec.getLsbD_ushiftRight, BitVec.getLsbD_of_ge A _ (by omega)]
    simp
  | succ n ih =>
    intro hn
    show cz P (px P A (1#64 <<< s) n) ^^^ _ = _
    rw [ih (by omega)]
    have hm : ((A >>> (64 - n)) <<< s).msb = false := by
      rw [BitVec.msb_eq_getLsbD_last, BitVec.getLsbD_shiftLeft, BitVec.getLsbD_ushiftRight, BitVec.getLsbD_of_ge A _ (by omega)]
      simp
    unfold cz
    rw [hm, if_neg (by decide)]
    apply BitVec.eq_of_getLsbD_eq
    intro i hi
    have e0 : (if A.getLsbD (63 - n) then 1#64 <<< s else 0#64).getLsbD i = (decide (i = s) && A.getLsbD (63 - n)) := by
      cases A.getLsbD (63 - n) with
      | false => simp
      | true =>
        simp only [↓reduceIte, Bool.and_true]
        rw [BitVec.getLsbD_shiftLeft, BitVec.getLsbD_one]
        rcases Nat.lt_trichotomy i s with h | h | h
        · have e1 : decide (i < s) = true := by simpa using h
          have e2 : decide (i = s) = false := by simp; omega
          rw [e1, e2]; simp
        · subst h; simp; omega
        · have e1 : decide (i - s = 0) = false := by simp; omega
          have e2 : decide (i = s) = false := by simp; omega
          rw [e1, e2]; simp
    rw [BitVec.getLsbD_xor, e0, BitVec.getLsbD_shiftLeft, BitVec.getLsbD_shiftLeft, BitVec.getLsbD_ushiftRight, BitVec.getLsbD_shiftLeft, BitVec.getLsbD_ushiftRight]
    rcases Nat.lt_trichotomy i s with h | h | h
    · have e1 : decide (i < s) = true := by simpa using h
      have e2 : decide (i = s) = false := by simp; omega
      have e3 : decide (i - 1 < s) = true := by simp; omega
      rw [e1, e2, e3]; simp
    · subst h
      have e1 : decide (i < i) = false := by simp
      have e2 : decide (i < 64) = true := by simpa using hi
      rcases Nat.eq_zero_or_pos i with q | q
      · subst q; simp
      · have e3 : decide (i - 1 < i) = true := by simp; omega
        rw [e1, e2, e3, show 64 - (n + 1) + (i - i) = 63 - n by omega]; simp
    · have e1 : decide (i < s) = false := by simp; omega
      have e2 : decide (i = s) = false := by simp; omega
      have e3 : decide (i - 1 < s) = false := by simp; omega
      have e4 : decide (i < 1) = false := by simp; omega
      have e5 : decide (i - 1 < 64) = true := by simp; omega
      have e6 : decide (i < 64) = true := by simpa using hi
      rw [e1, e2, e3, e4, e5, e6, show 64 - (n + 1) + (i - s) = 64 - n + (i - 1 - s) by omega]; simp
theorem px_one {P A : BitVec 64} {wd : Nat} (hw : wd ≤ 64) (hA : lz (64 - wd) A) : px P A (1#64 <<< (64 - wd)) wd = A := by
  rw [px_n P A wd (by omega)]
  apply BitVec.eq_of_getLsbD_eq
  intro i hi
  rw [BitVec.getLsbD_shiftLeft, BitVec.getLsbD_ushiftRight]
  rcases Nat.lt_or_ge i (64 - wd) with h | h
  · have e1 : decide (i < 64 - wd) = true := by simpa using h
    rw [hA i h, e1]; simp
  · have e1 : decide (i < 64 - wd) = false := by simp; omega
    have e2 : decide (i < 64) = true := by simpa using hi
    rw [e1, e2, show 64 - wd + (i - (64 - wd)) = i by omega]; simp
/-- times x to the m, either way round -/
theorem px_l {P A : BitVec 64} {wd : Nat} (hw : wd ≤ 64) (hA : lz (64 - wd) A) (m : Nat) : px P A (czn P m (1#64 <<< (64 - wd))) wd = czn P m A := by
  rw [px_czn, px_one hw hA]
theorem px_r {P B : BitVec 64} {wd : Nat} (hw : wd ≤ 64) (hP : lz (64 - wd) P) (hB : lz (64 - wd) B) (m : Nat) : px P (czn P m (1#64 <<< (64 - wd))) B wd = czn P m B := by
  have h1 : lz (64 - wd) (czn P m (1#64 <<< (64 - wd))) := lz_czn hP (lz_shl _ _) m
  have h2 := px_comm P (czn P m (1#64 <<< (64 - wd))) B (1#64 <<< (64 - wd)) wd wd
  rw [px_one hw hB, px_one hw h1] at h2
  rw [h2, px_l hw hB]
end
section
/-! What the class's models mean. -/
theorem bt_top {wd : Nat} (hw1 : 1 ≤ wd) (hw : wd ≤ 64) (x : Int64) : (mTop (nI wd) x).toBitVec = x.toBitVec <<< (64 - wd) := by
  unfold mTop
  rw [show (64 : Int32) - nI wd = nI (64 - wd) from pk_sub (a := 64) hw]
  exact bv_shl x (by omega)
theorem bt_from {wd : Nat} (hw1 : 1 ≤ wd) (hw : wd ≤ 64) (x : Int64) : (mFrom (nI wd) x).toBitVec = x.toBitVec >>> (64 - wd) := by
  unfold mFrom
  rw [show (64 : Int32) - nI wd = nI (64 - wd) from pk_sub (a := 64) hw]
  exact bv_ushr x (by omega)
def i01 (b : Bool) : Int32 := if b then 1 else 0
theorem u63 (r : Int64) : jushr r 63 = if r.toBitVec.msb then 1 else 0 := by
  apply bw_inj
  rw [show jushr r 63 = jushr r (nI 63) from rfl, bv_ushr r (k := 63) (by decide)]
  apply BitVec.eq_of_getLsbD_eq
  intro i hi
  rw [BitVec.getLsbD_ushiftRight]
  rcases Nat.eq_zero_or_pos i with h | h
  · subst h
    rw [BitVec.msb_eq_getLsbD_last]
    cases r.toBitVec.getLsbD (64 - 1) <;> rfl
  · rw [BitVec.getLsbD_of_ge _ _ (by omega)]
    cases r.toBitVec.msb with
    | false => show _ = (0#64).getLsbD i; simp
    | true =>
      show _ = (1#64).getLsbD i
      rw [BitVec.getLsbD_one]
      have : decide (i = 0) = false := by simp; omega
      rw [this]; simp
theorem tb_msb (r : BitVec 64) (b : Bool) : (r ^^^ tb b).msb = (r.msb ^^ b) := by
  rw [BitVec.msb_xor]
  cases b <;> rfl
theorem tb_shl (r : BitVec 64) (b : Bool) : (r ^^^ tb b) <<< 1 = r <<< 1 := by
  rw [BitVec.shiftLeft_xor_distrib]
  have : tb b <<< 1 = 0#64 := by cases b <;> rfl
  rw [this]; simp
theorem mBit_bv (tp r : Int64) (b : Bool) : (mBit tp r (i01 b)).toBitVec = cz tp.toBitVec (r.toBitVec ^^^ tb b) := by
  unfold mBit cz
  rw [tb_msb, tb_shl, u63]
  cases r.toBitVec.msb <;> cases b
  · rw [if_pos (by decide), if_neg (by decide)]; exact bv_shl1 r
  · rw [if_neg (by decide), if_pos (by decide), bv_xor, bv_shl1]
  · rw [if_neg (by decide), if_pos (by decide), bv_xor, bv_shl1]
  · rw [if_pos (by decide), if_neg (by decide)]; exact bv_shl1 r
theorem mBit_0 (tp r : Int64) : (mBit tp r 0).toBitVec = cz tp.toBitVec r.toBitVec := by
  have h := mBit_bv tp r false
  rw [show r.toBitVec ^^^ tb false = r.toBitVec by show r.toBitVec ^^^ 0#64 = _; simp] at h
  exact h
theorem by_bit : ∀ β, β < 256 → ∀ j, j < 8 → (jiushr (nI β) (7 - nI j) &&& 1) = i01 (β.testBit (7 - j)) := by decide +kernel
theorem mByN_bv (tp r : Int64) {β : Nat} (hβ : β < 256) : ∀ j, j ≤ 8 → (mByN tp r (nI β) j).toBitVec = rgN tp.toBitVec (fun t => β.testBit (7 - t)) r.toBitVec 0 j := by
  intro j
  induction j with
  | zero => intro _; rfl
  | succ j ih =>
    intro hj
    rw [mByN, by_bit β hβ j (by omega), mBit_bv, ih (by omega)]
    show _ = cz _ (_ ^^^ tb (β.testBit (7 - (0 + j))))
    rw [Nat.zero_add]
/-- a byte's eight bits, highest first, are a shift -/
theorem rg_byte {P : BitVec 64} {f : Nat → Bool} {r : BitVec 64} {a β : Nat} (hβ : β < 256) (h : ∀ t, t < 8 → f (a + t) = β.testBit (7 - t)) : rgN P f r a 8 = czn P 8 (r ^^^ (BitVec.ofNat 64 β <<< 56)) := by
  apply rg_word (by decide)
  intro j hj
  rw [BitVec.getLsbD_shiftLeft, BitVec.getLsbD_ofNat]
  rcases Nat.lt_or_ge j 56 with q | q
  · have e1 : decide (j < 56) = true := by simpa using q
    have e2 : decide (63 - j < 8) = false := by simp; omega
    rw [e1, e2]; simp
  · have e1 : decide (j < 56) = false := by simp; omega
    have e2 : decide (63 - j < 8) = true := by simp; omega
    have e3 : decide (j < 64) = true := by simpa using hj
    have e4 : decide (j - 56 < 64) = true := by simp; omega
    rw [e1, e2, e3, e4, h (63 - j) (by omega), show 7 - (63 - j) = j - 56 by omega]; simp
theorem mByte_bv (tp r : Int64) {β : Nat} (hβ : β < 256) : (mByte tp r (nI β)).toBitVec = czn tp.toBitVec 8 (r.toBitVec ^^^ (BitVec.ofNat 64 β <<< 56)) := by
  unfold mByte
  rw [mByN_bv tp r hβ 8 (by decide)]
  exact rg_byte hβ (fun t _ => by rw [Nat.zero_add])
theorem lo8 (P r : BitVec 64) : czn P 8 ((r <<< 8) >>> 8) = r <<< 8 := by
  rw [czn_shl P _ 8 (by decide)]
  · apply BitVec.eq_of_getLsbD_eq
    intro i hi
    rw [BitVec.getLsbD_shiftLeft, BitVec.getLsbD_ushiftRight, BitVec.getLsbD_shiftLeft, BitVec.getLsbD_shiftLeft]
    rcases Nat.lt_or_ge i 8 with q | q
    · have e1 : decide (i < 8) = true := by simpa using q
      rw [e1]; simp
    · have e1 : decide (i < 8) = false := by simp; omega
      have e2 : decide (8 + (i - 8) < 8) = false := by simp
      have e3 : decide (8 + (i - 8) < 64) = true := by simp; omega
      rw [e1, e2, e3, show 8 + (i - 8) - 8 = i - 8 by omega]; simp
  · rw [BitVec.toNat_ushiftRight, Nat.shiftRight_eq_div_pow]
    have := (r <<< 8).isLt
    omega
theorem hi8 (r : BitVec 64) : r = ((r <<< 8) >>> 8) ^^^ (BitVec.ofNat 64 (r.toNat / 2 ^ 56) <<< 56) := by
  apply BitVec.eq_of_getLsbD_eq
  intro i hi
  rw [BitVec.getLsbD_xor, BitVec.getLsbD_ushiftRight, BitVec.getLsbD_shiftLeft, BitVec.getLsbD_shiftLeft, BitVec.getLsbD_ofNat]
  have et : (r.toNat / 2 ^ 56).testBit (i - 56) = r.getLsbD (56 + (i - 56)) := by
    rw [← Nat.shiftRight_eq_div_pow, Nat.testBit_shiftRight]; rfl
  rw [et]
  rcases Nat.lt_or_ge i 56 with q | q
  · have e1 : decide (i < 56) = true := by simpa using q
    have e2 : decide (8 + i < 64) = true := by simp; omega
    have e3 : decide (8 + i < 8) = false := by simp
    rw [e1, e2, e3, show 8 + i - 8 = i by omega]; simp
  · have e1 : decide (i < 56) = false := by simp; omega
    have e2 : decide (8 + i < 64) = false := by simp; omega
    have e3 : decide (i - 56 < 64) = true := by simp; omega
    have e4 : decide (i < 64) = true := by simpa using hi
    rw [e1, e2, e3, e4, show 56 + (i - 56) = i by omega]; simp
theorem of_xor (a b : Nat) : BitVec.ofNat 64 (a ^^^ b) = BitVec.ofNat 64 a ^^^ BitVec.ofNat 64 b := by
  apply BitVec.eq_of_getLsbD_eq
  intro i hi
  simp [hi]
theorem mTab_bv {P : BitVec 64} {sl : Nat → Int64} (hsl : ∀ b, b < 256 → (sl b).toBitVec = czn P 8 (BitVec.ofNat 64 b <<< 56)) (r : Int64) {β : Nat} (hβ : β < 256) : (mTab sl r (nI β)).toBitVec = czn P 8 (r.toBitVec ^^^ (BitVec.ofNat 64 β <<< 56)) := by
  obtain ⟨a, ha, ea, ed⟩ := bw_56 r
  unfold mTab
  have hx : a ^^^ β < 256 := Nat.xor_lt_two_pow (n := 8) ha hβ
  rw [ea, bw_xor, nI_clamp (by omega), bv_xor, hsl _ hx, show jshl r 8 = jshl r (nI 8) from rfl, bv_shl r (k := 8) (by decide), of_xor, BitVec.shiftLeft_xor_distrib, czn_xor]
  have h := hi8 r.toBitVec
  rw [← ed] at h
  conv => rhs; rw [h]
  rw [czn_xor, czn_xor, lo8, BitVec.xor_assoc]
/-- the eight tables -/
def tblOK (P : BitVec 64) (sl : Nat → Int64) : Prop := ∀ k, k < 2048 → (sl k).toBitVec = czn P (8 * (k / 256 + 1)) (BitVec.ofNat 64 (k % 256) <<< 56)
theorem tbl_0 {P : BitVec 64} {sl : Nat → Int64} (h : tblOK P sl) : ∀ b, b < 256 → (sl b).toBitVec = czn P 8 (BitVec.ofNat 64 b <<< 56) := by
  intro b hb
  have := h b (by omega)
  rw [Nat.div_eq_of_lt hb, Nat.mod_eq_of_lt hb] at this
  exact this
theorem mFl1_at (tp : Int64) (sl : Nat → Int64) : ∀ k, k ≤ 256 → ∀ b, b < k → mFl1 tp sl k b = mByte tp 0 (nI b) := by
  intro k
  induction k with
  | zero => intro _ b hb; omega
  | succ k ih =>
    intro hk b hb
    rw [mFl1, nI_clamp (by omega)]
    rcases Nat.eq_or_lt_of_le (Nat.le_of_lt_succ hb) with h | h
    · rw [h]; exact pk_uLs
    · rw [pk_uLn (by omega)]; exact ih (by omega) b h
theorem mFl2_at (tp : Int64) (sl : Nat → Int64) : ∀ k, k ≤ 1792 → ∀ i, i < 256 + k → (mFl2 tp sl k i).toBitVec = czn tp.toBitVec (8 * (i / 256 + 1)) (BitVec.ofNat 64 (i % 256) <<< 56) := by
  intro k
  induction k with
  | zero =>
    intro _ i hi
    rw [mFl2, mFl1_at tp sl 256 (by decide) i (by omega), mByte_bv tp 0 (by omega), Nat.div_eq_of_lt (by omega), Nat.mod_eq_of_lt (by omega)]
    show czn _ 8 (0#64 ^^^ _) = _
    rw [BitVec.zero_xor]
  | succ k ih =>
    intro hk i hi
    rw [mFl2, nI_clamp (by omega), du_fs3, nI_clamp (by omega)]
    rcases Nat.eq_or_lt_of_le (show i ≤ 256 + k by omega) with h | h
    · subst h
      rw [pk_uLs]
      have h0 : ∀ b, b < 256 → (mFl2 tp sl k b).toBitVec = czn tp.toBitVec 8 (BitVec.ofNat 64 b <<< 56) := by
        intro b hb
        have := ih (by omega) b (by omega)
        rw [Nat.div_eq_of_lt hb, Nat.mod_eq_of_lt hb] at this
        exact this
      have h1 := mTab_bv h0 (mFl2 tp sl k k) (β := 0) (by decide)
      rw [show (nI 0) = 0 from rfl] at h1
      rw [h1, ih (by omega) k (by omega)]
      have e0 : BitVec.ofNat 64 0 <<< 56 = 0#64 := rfl
      rw [e0, BitVec.xor_zero, ← czn_add, show (256 + k) / 256 = k / 256 + 1 by omega, show (256 + k) % 256 = k % 256 by omega]
      congr 1
      omega
    · rw [pk_uLn (by omega)]; exact ih (by omega) i h
theorem mFill_ok (tp : Int64) (sl : Nat → Int64) : tblOK tp.toBitVec (mFill tp sl) := fun k hk => mFl2_at tp sl 1792 (by decide) k (by omega)
theorem mWdL_bv (X : Int64) : ∀ k, (mWdL X k).toBitVec = X.toBitVec >>> (8 * k) := by
  intro k
  induction k with
  | zero => show X.toBitVec = X.toBitVec >>> 0; simp
  | succ k ih =>
    rw [mWdL, show jushr (mWdL X k) 8 = jushr (mWdL X k) (nI 8) from rfl, bv_ushr _ (k := 8) (by decide), ih, ← BitVec.shiftRight_add, show 8 * k + 8 = 8 * (k + 1) by omega]
theorem mWdA_bv {P : BitVec 64} {sl : Nat → Int64} (hT : tblOK P sl) (X : Int64) : ∀ n, n ≤ 8 → (mWdA sl X n).toBitVec = czn P 64 ((X.toBitVec <<< (64 - 8 * n)) >>> (64 - 8 * n)) := by
  intro n
  induction n with
  | zero =>
    intro _
    have : (X.toBitVec <<< (64 - 8 * 0)) >>> (64 - 8 * 0) = 0#64 := by
      apply BitVec.eq_of_getLsbD_eq
      intro i hi
      rw [BitVec.getLsbD_ushiftRight, BitVec.getLsbD_of_ge _ _ (by omega)]; simp
    rw [this, czn_0]; rfl
  | succ n ih =>
    intro hn
    rw [mWdA, bw_255, show (256 : Int32) = nI 256 from rfl, pk_mul, nI_add, mWdL_bv, bv_xor, ih (by omega)]
    have hβ : (X.toBitVec >>> (8 * n)).toNat % 256 < 256 := Nat.mod_lt _ (by decide)
    generalize hβe : (X.toBitVec >>> (8 * n)).toNat % 256 = β at hβ ⊢
    rw [nI_clamp (by omega), hT _ (by omega), show (n * 256 + β) / 256 = n by omega, show (n * 256 + β) % 256 = β by omega]
    have h1 : czn P (56 - 8 * n) (BitVec.ofNat 64 β <<< (8 * n)) = BitVec.ofNat 64 β <<< 56 := by
      rw [czn_shl P _ _ (by omega), ← BitVec.shiftLeft_add, show 8 * n + (56 - 8 * n) = 56 by omega]
      rw [BitVec.toNat_shiftLeft, BitVec.toNat_ofNat, Nat.mod_eq_of_lt (show β < 2 ^ 64 by omega), Nat.shiftLeft_eq]
      have h2 : β * 2 ^ (8 * n) < 2 ^ (64 - (56 - 8 * n)) := by
        rw [show 64 - (56 - 8 * n) = 8 + 8 * n by omega, Nat.pow_add]
        exact Nat.mul_lt_mul_of_pos_right hβ (Nat.pow_pos (by decide))
      exact Nat.lt_of_le_of_lt (Nat.mod_le _ _) h2
    rw [← h1, ← czn_add, show 8 * (n + 1) + (56 - 8 * n) = 64 by omega, ← czn_xor]
    congr 1
    apply BitVec.eq_of_getLsbD_eq
    intro i hi
    rw [BitVec.getLsbD_xor, BitVec.getLsbD_ushiftRight, BitVec.getLsbD_ushiftRight, BitVec.getLsbD_shiftLeft, BitVec.getLsbD_shiftLeft, BitVec.getLsbD_shiftLeft, BitVec.getLsbD_ofNat]
    have et : β.testBit (i - 8 * n) = (decide (i - 8 * n < 8) && X.toBitVec.getLsbD (8 * n + (i - 8 * n))) := by
      rw [← hβe, show (256 : Nat) = 2 ^ 8 from rfl, Nat.testBit_mod_two_pow, BitVec.toNat_ushiftRight, Nat.testBit_shiftRight]; rfl
    rw [et]
    rcases Nat.lt_or_ge i (8 * n) with q | q
    · have e1 : decide (i < 8 * n) = true := by simpa using q
      have e2 : decide (64 - 8 * n + i < 64) = true := by simp; omega
      have e3 : decide (64 - 8 * (n + 1) + i < 64) = true := by simp; omega
      have e4 : decide (64 - 8 * n + i < 64 - 8 * n) = false := by simp
      have e5 : decide (64 - 8 * (n + 1) + i < 64 - 8 * (n + 1)) = false := by simp
      rw [e1, e2, e3, e4, e5, show 64 - 8 * n + i - (64 - 8 * n) = i by omega, show 64 - 8 * (n + 1) + i - (64 - 8 * (n + 1)) = i by omega]; simp
    · have e1 : decide (i < 8 * n) = false := by simp; omega
      have e2 : decide (64 - 8 * n + i < 64) = false := by simp; omega
      have e5 : decide (64 - 8 * (n + 1) + i < 64 - 8 * (n + 1)) = false := by simp
      have e6 : decide (i < 64) = true := by simpa using hi
      have e8 : decide (i - 8 * n < 64) = true := by simp; omega
      rw [e1, e2, e5, e6, e8, show 8 * n + (i - 8 * n) = i by omega, show 64 - 8 * (n + 1) + i - (64 - 8 * (n + 1)) = i by omega]
      rcases Nat.lt_or_ge (i - 8 * n) 8 with z | z
      · have e7 : decide (i - 8 * n < 8) = true := by simpa using z
        have e3 : decide (64 - 8 * (n + 1) + i < 64) = true := by simp; omega
        rw [e7, e3]; simp
      · have e7 : decide (i - 8 * n < 8) = false := by simp; omega
        have e3 : decide (64 - 8 * (n + 1) + i < 64) = false := by simp; omega
        rw [e7, e3]; simp
theorem mWord_bv {P : BitVec 64} {sl : Nat → Int64} (hT : tblOK P sl) (r x : Int64) : (mWord sl r x).toBitVec = czn P 64 (r.toBitVec ^^^ x.toBitVec) := by
  unfold mWord
  rw [mWdA_bv hT _ 8 (by decide), bv_xor]
  simp
end
section
/-! The row's bits; the first three ways are one register. -/
/-- bit p of a row of words, the first one highest in word 0 -/
def wb (a : Nat → Int64) (p : Nat) : Bool := (a (p / 64)).toBitVec.getLsbD (63 - p % 64)
def rowOK (row : Nat → Int64) (f : Nat → Bool) : Prop := ∀ p, p < 40000 → wb row p = f p
theorem mSh_eq {i : Nat} (hi : i < 2 ^ 31) : mSh (nI i) = nI (56 - 8 * (i % 8)) := by
  unfold mSh
  rw [du_rem8 hi, show (8 : Int32) = nI 8 from rfl, pk_mul, show (56 : Int32) = nI 56 from rfl, pk_sub (by omega), Nat.mul_comm]
theorem bw_32 (y : Int64) : y.toInt32 &&& 255 = nI (y.toBitVec.toNat % 256) := by
  rw [pk_and y.toInt32 (m := 255) 8 rfl]
  congr 1
  show (y.toBitVec.signExtend 32).toNat % 256 = _
  rw [BitVec.signExtend_eq_setWidth_of_le _ (by decide), BitVec.toNat_setWidth]
  omega
theorem mByA_of {row : Nat → Int64} {f : Nat → Bool} (h : rowOK row f) {i : Nat} (hi : i < 5000) : ∃ β : Nat, β < 256 ∧ mByA row (nI i) = nI β ∧ ∀ t, t < 8 → f (8 * i + t) = β.testBit (7 - t) := by
  refine ⟨((row (i / 8)).toBitVec >>> (56 - 8 * (i % 8))).toNat % 256, Nat.mod_lt _ (by decide), ?_, ?_⟩
  · unfold mByA
    rw [du_div8 (by omega), nI_clamp (by omega), mSh_eq (by omega), bw_32, bv_ushr _ (by omega)]
  · intro t ht
    rw [show (256 : Nat) = 2 ^ 8 from rfl, Nat.testBit_mod_two_pow, BitVec.toNat_ushiftRight, Nat.testBit_shiftRight, ← h _ (by omega)]
    unfold wb
    have e1 : decide (7 - t < 8) = true := by simp; omega
    rw [e1, show (8 * i + t) / 64 = i / 8 by omega, show 63 - (8 * i + t) % 64 = 56 - 8 * (i % 8) + (7 - t) by omega]
    rfl
theorem mBbN_bv {row : Nat → Int64} {f : Nat → Bool} (h : rowOK row f) (tp r : Int64) : ∀ n, n ≤ 5000 → (mBbN row tp r n).toBitVec = rgN tp.toBitVec f r.toBitVec 0 (8 * n) := by
  intro n
  induction n with
  | zero => intro _; rfl
  | succ n ih =>
    intro hn
    obtain ⟨β, hβ, e, hb⟩ := mByA_of h (i := n) (by omega)
    rw [mBbN, e, mByte_bv tp _ hβ, ih (by omega), show 8 * (n + 1) = 8 * n + 8 by omega, rg_add, rg_byte hβ (fun t ht => by rw [Nat.zero_add]; exact hb t ht)]
theorem mYyN_bv {P : BitVec 64} {row sl : Nat → Int64} {f : Nat → Bool} (h : rowOK row f) (hT : tblOK P sl) (r : Int64) (a : Nat) : ∀ k, a + k ≤ 5000 → (mYyN row sl r a k).toBitVec = rgN P f r.toBitVec (8 * a) (8 * k) := by
  intro k
  induction k with
  | zero => intro _; rfl
  | succ k ih =>
    intro hk
    obtain ⟨β, hβ, e, hb⟩ := mByA_of h (i := a + k) (by omega)
    rw [mYyN, e, mTab_bv (tbl_0 hT) _ hβ, ih (by omega), show 8 * (k + 1) = 8 * k + 8 by omega, rg_add, rg_byte hβ (fun t ht => by rw [← Nat.mul_add]; exact hb t ht)]
theorem mWwN_bv {P : BitVec 64} {row sl : Nat → Int64} {f : Nat → Bool} (h : rowOK row f) (hT : tblOK P sl) (r : Int64) (a : Nat) : ∀ k, a + k ≤ 625 → (mWwN row sl r a k).toBitVec = rgN P f r.toBitVec (64 * a) (64 * k) := by
  intro k
  induction k with
  | zero => intro _; rfl
  | succ k ih =>
    intro hk
    rw [mWwN, nI_clamp (by omega), mWord_bv hT, ih (by omega), show 64 * (k + 1) = 64 * k + 64 by omega, rg_add]
    refine (rg_word (n := 64) (by decide) (fun j hj => ?_)).symm
    have e1 : decide (63 - j < 64) = true := by simp; omega
    rw [e1, Bool.true_and, ← h _ (by omega)]
    unfold wb
    rw [show (64 * a + 64 * k + (63 - j)) / 64 = a + k by omega, show 63 - (64 * a + 64 * k + (63 - j)) % 64 = j by omega]
theorem mYy_bv {P : BitVec 64} {row sl : Nat → Int64} {f : Nat → Bool} (h : rowOK row f) (hT : tblOK P sl) (r : Int64) {a b : Nat} (hab : a ≤ b) (hb : b ≤ 5000) : (mYy row sl r a b).toBitVec = rgN P f r.toBitVec (8 * a) (8 * (b - a)) := mYyN_bv h hT r a (b - a) (by omega)
theorem mEi_bv {P : BitVec 64} {row sl : Nat → Int64} {f : Nat → Bool} (h : rowOK row f) (hT : tblOK P sl) (r : Int64) {a b : Nat} (hab : a ≤ b) (hb : b ≤ 5000) : (mEi row sl r a b).toBitVec = rgN P f r.toBitVec (8 * a) (8 * (b - a)) := by
  unfold mEi
  split
  · exact mYy_bv h hT r hab hb
  · rename_i hc
    rw [mYy_bv h hT _ (by omega) hb, mWwN_bv h hT _ _ _ (by omega), mYy_bv h hT r (by omega) (by omega)]
    have e1 : 8 * (b - a) = 8 * ((a + 7) / 8 * 8 - a) + (64 * (b / 8 - (a + 7) / 8) + 8 * (b - b / 8 * 8)) := by omega
    rw [e1, rg_add, rg_add]
    rw [show 8 * a + 8 * ((a + 7) / 8 * 8 - a) = 64 * ((a + 7) / 8) by omega, show 64 * ((a + 7) / 8) + 64 * (b / 8 - (a + 7) / 8) = 8 * (b / 8 * 8) by omega]
/-! Dividing. -/
theorem wb_set (a : Nat → Int64) (k : Nat) (x : Int64) (p : Nat) : wb (vp_updL a k x) p = if p / 64 = k then x.toBitVec.getLsbD (63 - p % 64) else wb a p := by
  unfold wb
  by_cases h : p / 64 = k
  · rw [if_pos h, h, pk_uLs]
  · rw [if_neg h, pk_uLn h]
theorem bv_1shl {k : Nat} (hk : k < 64) (j : Nat) : (jshl 1 (nI k)).toBitVec.getLsbD j = decide (j = k) := by
  rw [bv_shl 1 hk, bv_1, BitVec.getLsbD_shiftLeft, BitVec.getLsbD_one]
  rcases Nat.lt_trichotomy j k with h | h | h
  · have e1 : decide (j < k) = true := by simpa using h
    have e2 : decide (j = k) = false := by simp; omega
    rw [e1, e2]; simp
  · subst h
    have e1 : decide (j < 64) = true := by simpa using hk
    rw [e1]; simp
  · have e1 : decide (j - k = 0) = false := by simp; omega
    have e2 : decide (j = k) = false := by simp; omega
    rw [e1, e2]; simp
theorem mAd1_wb (dv : Nat → Int64) {j : Nat} (hj : j < 40000) {p : Nat} (hp : p ≠ j) : wb (mAd1 dv j) p = wb dv p := by
  unfold mAd1
  rw [nI_clamp (by omega), show (63 : Int32) - nI (j % 64) = nI (63 - j % 64) from pk_sub (a := 63) (by omega), wb_set]
  split
  · rename_i h
    rw [bv_xor, BitVec.getLsbD_xor, bv_1shl (by omega)]
    have e1 : decide (63 - p % 64 = 63 - j % 64) = false := by simp; omega
    rw [e1, Bool.xor_false, ← h]; rfl
  · rfl
theorem mAd2_wb (dv : Nat → Int64) (tp : Int64) {j : Nat} (hj : j < 40000) {p : Nat} (hp : j < p) : wb (mAd2 dv tp j) p = (wb dv p ^^ (decide (p / 64 = (j + 1) / 64) && tp.toBitVec.getLsbD (63 - (p - (j + 1))))) := by
  unfold mAd2
  rw [nI_clamp (by omega), wb_set]
  split
  · rename_i h
    have e0 : decide (p / 64 = (j + 1) / 64) = true := by simpa using h
    rw [e0, bv_xor, BitVec.getLsbD_xor, bv_ushr _ (by omega), BitVec.getLsbD_ushiftRight, show (j + 1) % 64 + (63 - p % 64) = 63 - (p - (j + 1)) by omega, Bool.true_and]
    congr 1
    rw [← h]
    exact mAd1_wb dv hj (by omega)
  · rename_i h
    have e0 : decide (p / 64 = (j + 1) / 64) = false := by simpa using h
    rw [e0, mAd1_wb dv hj (by omega)]; simp
theorem mAdd_wb (dv : Nat → Int64) (tp : Int64) {j : Nat} (hj : j < 40000) {p : Nat} (hp : j < p) (hp2 : p < 40064) : wb (mAdd dv tp j) p = (wb dv p ^^ (decide (p - (j + 1) < 64) && tp.toBitVec.getLsbD (63 - (p - (j + 1))))) := by
  unfold mAdd
  by_cases hc : (j + 1) % 64 = 0
  · rw [if_pos (by rw [hc]; rfl), mAd2_wb dv tp hj hp]
    have : decide (p / 64 = (j + 1) / 64) = decide (p - (j + 1) < 64) := decide_eq_decide.mpr ⟨fun h => by omega, fun h => by omega⟩
    rw [this]
  · rw [if_neg (nI_ne0 (by omega) (by omega)), nI_1, nI_clamp (by omega), show (64 : Int32) - nI ((j + 1) % 64) = nI (64 - (j + 1) % 64) from pk_sub (a := 64) (by omega), wb_set]
    split
    · rename_i h
      rw [bv_xor, BitVec.getLsbD_xor, bv_shl _ (by omega), BitVec.getLsbD_shiftLeft]
      have e9 : (mAd2 dv tp j ((j + 1) / 64 + 1)).toBitVec.getLsbD (63 - p % 64) = wb (mAd2 dv tp j) p := by unfold wb; rw [h]
      rw [e9, mAd2_wb dv tp hj hp]
      have e0 : decide (p / 64 = (j + 1) / 64) = false := by simp; omega
      have e1 : decide (63 - p % 64 < 64) = true := by simp; omega
      rw [e0, e1, Bool.false_and, Bool.xor_false, Bool.true_and]
      congr 1
      rcases Nat.lt_or_ge (p - (j + 1)) 64 with q | q
      · have e2 : decide (p - (j + 1) < 64) = true := by simpa using q
        have e3 : decide (63 - p % 64 < 64 - (j + 1) % 64) = false := by simp; omega
        rw [e2, e3, show 63 - p % 64 - (64 - (j + 1) % 64) = 63 - (p - (j + 1)) by omega]; simp
      · have e2 : decide (p - (j + 1) < 64) = false := by simp; omega
        have e3 : decide (63 - p % 64 < 64 - (j + 1) % 64) = true := by simp; omega
        rw [e2, e3]; simp
    · rename_i h
      rw [mAd2_wb dv tp hj hp]
      rcases Nat.lt_or_ge (p - (j + 1)) 64 with q | q
      · have e2 : decide (p - (j + 1) < 64) = true := by simpa using q
        have e0 : decide (p / 64 = (j + 1) / 64) = true := by simp; omega
        rw [e0, e2]
      · have e2 : decide (p - (j + 1) < 64) = false := by simp; omega
        have e0 : decide (p / 64 = (j + 1) / 64) = false := by simp; omega
        rw [e0, e2]
theorem mDv0_wb {row dv : Nat → Int64} {f : Nat → Bool} (h : rowOK row f) (hf : ∀ p, 40000 ≤ p → f p = false) (x : Int64) {p : Nat} (hp : p < 40064) : wb (mDv0 row dv x) p = ((decide (p < 64) && x.toBitVec.getLsbD (63 - p)) ^^ f p) := by
  have hB : wb (mDvB row dv) p = f p := by
    unfold mDvB
    rw [show (625 : Int32).toNatClampNeg = 625 from rfl, wb_set]
    split
    · rw [hf p (by omega)]; show (0#64).getLsbD _ = _; simp
    · rw [← h p (by omega)]
      unfold wb mDvA
      rw [show (625 : Int32).toNatClampNeg = 625 from rfl, show (0 : Int32).toNatClampNeg = 0 from rfl, pk_cpy_in (by omega) (by omega), Nat.zero_add, Nat.sub_zero]
  unfold mDv0
  rw [show (0 : Int32).toNatClampNeg = 0 from rfl, wb_set]
  split
  · rename_i hz
    have e1 : decide (p < 64) = true := by simp; omega
    have e9 : (mDvB row dv 0).toBitVec.getLsbD (63 - p % 64) = wb (mDvB row dv) p := by unfold wb; rw [hz]
    rw [e1, bv_xor, BitVec.getLsbD_xor, e9, hB, show p % 64 = p by omega, Bool.xor_comm]; simp
  · rename_i hz
    have e1 : decide (p < 64) = false := by simp; omega
    rw [e1, hB]; simp
theorem lt0_msb (x : Int64) : x < 0 ↔ x.toBitVec.msb = true := by
  rw [Int64.lt_iff_toInt_lt]
  show x.toBitVec.toInt < _ ↔ _
  rw [BitVec.msb_eq_toInt]
  simp
theorem cz_bit (P r : BitVec 64) (j : Nat) (hj : j < 64) : (cz P r).getLsbD j = ((!decide (j < 1) && r.getLsbD (j - 1)) ^^ (r.msb && P.getLsbD j)) := by
  unfold cz
  have e : (r <<< 1).getLsbD j = (!decide (j < 1) && r.getLsbD (j - 1)) := by
    rw [BitVec.getLsbD_shiftLeft]
    have : decide (j < 64) = true := by simpa using hj
    rw [this]; simp
  cases r.msb with
  | false => rw [if_neg (by decide), e]; simp
  | true => rw [if_pos rfl, BitVec.getLsbD_xor, e]; simp
theorem mDvN_wb {row dv : Nat → Int64} {f : Nat → Bool} (h : rowOK row f) (hf : ∀ p, 40000 ≤ p → f p = false) (x tp : Int64) : ∀ i, i ≤ 40000 → ∀ p, i ≤ p → p < 40064 → wb (mDvN row dv x tp i) p = ((decide (p - i < 64) && (rgN tp.toBitVec f x.toBitVec 0 i).getLsbD (63 - (p - i))) ^^ f p) := by
  intro i
  induction i with
  | zero =>
    intro _ p _ hp
    rw [mDvN, mDv0_wb h hf x hp, Nat.sub_zero]; rfl
  | succ i ih =>
    intro hi p h1 h2
    have ih0 := ih (by omega) i (Nat.le_refl _) (by omega)
    have ihp := ih (by omega) p (by omega) h2
    show wb (mDvN row dv x tp (i + 1)) p = ((decide (p - (i + 1) < 64) && (cz tp.toBitVec (rgN tp.toBitVec f x.toBitVec 0 i ^^^ tb (f (0 + i)))).getLsbD (63 - (p - (i + 1)))) ^^ f p)
    rw [cz_bit _ _ _ (by omega), tb_msb, Nat.zero_add]
    generalize rgN tp.toBitVec f x.toBitVec 0 i = R at ih0 ihp ⊢
    -- the bit on top
    have ht : (R.msb ^^ f i) = wb (mDvN row dv x tp i) i := by
      rw [ih0, Nat.sub_self, BitVec.msb_eq_getLsbD_last]; simp
    have hc : (0 ≤ lg_cmp (jshl (mDvN row dv x tp i (nI (i / 64)).toNatClampNeg) (nI (i % 64))) 0) ↔ wb (mDvN row dv x tp i) i = false := by
      rw [lg_cmp_ge, nI_clamp (by omega), ← Int64.not_lt, lt0_msb, bv_shl _ (by omega), BitVec.msb_eq_getLsbD_last, BitVec.getLsbD_shiftLeft]
      have e1 : decide (64 - 1 < 64) = true := by decide
      have e2 : decide (64 - 1 < i % 64) = false := by simp; omega
      rw [e1, e2]
      unfold wb
      rw [show 64 - 1 - i % 64 = 63 - i % 64 by omega]; simp
    have hs : (decide (p - (i + 1) < 64) && (!decide (63 - (p - (i + 1)) < 1) && (R ^^^ tb (f i)).getLsbD (63 - (p - (i + 1)) - 1))) = (decide (p - i < 64) && R.getLsbD (63 - (p - i))) := by
      rcases Nat.lt_or_ge (p - i) 64 with q | q
      · have e1 : decide (p - i < 64) = true := by simpa using q
        have e2 : decide (p - (i + 1) < 64) = true := by simp; omega
        have e3 : decide (63 - (p - (i + 1)) < 1) = false := by simp; omega
        have e4 : (tb (f i)).getLsbD (63 - (p - i)) = false := lz_tb (Nat.le_refl 63) _ _ (by omega)
        rw [e1, e2, e3, show 63 - (p - (i + 1)) - 1 = 63 - (p - i) by omega, BitVec.getLsbD_xor, e4]; simp
      · have e1 : decide (p - i < 64) = false := by simp; omega
        have e3 : decide (63 - (p - (i + 1)) < 1) = true := by simp; omega
        rw [e1, e3]; simp
    rw [Bool.and_xor_distrib_left, hs, mDvN]
    by_cases hz : wb (mDvN row dv x tp i) i = false
    · rw [if_pos (hc.mpr hz), ihp, ht, hz]; simp
    · rw [if_neg (fun q => hz (hc.mp q)), mAdd_wb _ tp (by omega) (by omega) h2, ihp, ht]
      have hz1 : wb (mDvN row dv x tp i) i = true := by simpa using hz
      rw [hz1, Bool.true_and]
      generalize (decide (p - i < 64) && R.getLsbD (63 - (p - i))) = u
      generalize (decide (p - (i + 1) < 64) && tp.toBitVec.getLsbD (63 - (p - (i + 1)))) = v
      cases u <;> cases v <;> cases f p <;> rfl
theorem mDvF_bit (dv : Nat → Int64) {p : Nat} (hp : p ≤ 40000) {j : Nat} (hj : j < 64) : (mDvF dv p).toBitVec.getLsbD j = wb dv (p + (63 - j)) := by
  unfold mDvF
  by_cases hc : p % 64 = 0
  · rw [if_pos (by rw [hc]; rfl), nI_clamp (by omega)]
    unfold wb
    rw [show (p + (63 - j)) / 64 = p / 64 by omega, show 63 - (p + (63 - j)) % 64 = j by omega]
  · rw [if_neg (nI_ne0 (by omega) (by omega)), nI_1, nI_clamp (by omega), nI_clamp (by omega), show (64 : Int32) - nI (p % 64) = nI (64 - p % 64) from pk_sub (a := 64) (by omega)]
    rw [bv_or, BitVec.getLsbD_or, bv_shl _ (by omega), bv_ushr _ (by omega), BitVec.getLsbD_shiftLeft, BitVec.getLsbD_ushiftRight]
    unfold wb
    have e1 : decide (j < 64) = true := by simpa using hj
    rcases Nat.lt_or_ge j (p % 64) with q | q
    · have e2 : decide (j < p % 64) = true := by simpa using q
      rw [e1, e2, show (p + (63 - j)) / 64 = p / 64 + 1 by omega, show 63 - (p + (63 - j)) % 64 = 64 - p % 64 + j by omega]; simp
    · have e2 : decide (j < p % 64) = false := by simp; omega
      rw [e1, e2, show (p + (63 - j)) / 64 = p / 64 by omega, show 63 - (p + (63 - j)) % 64 = j - p % 64 by omega, BitVec.getLsbD_of_ge _ (64 - p % 64 + j) (by omega)]; simp
theorem mDv_bv {row dv : Nat → Int64} {f : Nat → Bool} (h : rowOK row f) {nb : Nat} (hn : nb ≤ 5000) (hf : ∀ p, nb * 8 ≤ p → f p = false) (x tp : Int64) : (mDvF (mDvN row dv x tp (nb * 8)) (nb * 8)).toBitVec = rgN tp.toBitVec f x.toBitVec 0 (8 * nb) := by
  apply BitVec.eq_of_getLsbD_eq
  intro j hj
  rw [mDvF_bit _ (by omega) hj, mDvN_wb h (fun p hp => hf p (by omega)) x tp (nb * 8) (by omega) _ (by omega) (by omega), hf _ (by omega)]
  have e1 : decide (nb * 8 + (63 - j) - nb * 8 < 64) = true := by simp; omega
  rw [e1, show 63 - (nb * 8 + (63 - j) - nb * 8) = j by omega, Nat.mul_comm nb 8]; simp
end
section
/-! The reference's registers stand at the bottom; moved to the top they are the class's. -/
def up (wd : Nat) (r : Int64) : BitVec 64 := r.toBitVec <<< (64 - wd)
def lo (wd : Nat) (r : Int64) : Prop := r.toBitVec.toNat < 2 ^ wd
theorem lo_bit {wd : Nat} {r : Int64} (h : lo wd r) {j : Nat} (hj : wd ≤ j) : r.toBitVec.getLsbD j = false := bb_hi h hj
theorem lo_of {wd : Nat} {r : Int64} (h : ∀ j, wd ≤ j → r.toBitVec.getLsbD j = false) : lo wd r := Nat.lt_pow_two_of_testBit _ (fun i hi => h i hi)
theorem lo_xor {wd : Nat} {r t : Int64} (h : lo wd r) (h2 : lo wd t) : lo wd (r ^^^ t) := lo_of (fun j hj => by rw [bv_xor, BitVec.getLsbD_xor, lo_bit h hj, lo_bit h2 hj]; rfl)
theorem lo_0 (wd : Nat) : lo wd 0 := lo_of (fun j _ => by show (0#64).getLsbD j = _; simp)
theorem lo_1 {wd : Nat} (h : 1 ≤ wd) : lo wd 1 := Nat.lt_of_lt_of_le (show 1 < 2 ^ 1 by decide) (Nat.pow_le_pow_right (by decide) h)
theorem up_xor (wd : Nat) (r t : Int64) : up wd (r ^^^ t) = up wd r ^^^ up wd t := by unfold up; rw [bv_xor, BitVec.shiftLeft_xor_distrib]
theorem up_lz (wd : Nat) (r : Int64) : lz (64 - wd) (up wd r) := lz_shl _ _
theorem up_0 (wd : Nat) : up wd 0 = 0#64 := by unfold up; rw [bv_0]; simp
theorem up_bit {wd : Nat} (hw1 : 1 ≤ wd) (hw : wd ≤ 64) (r : Int64) {j : Nat} (hj : j < wd) : (up wd r).getLsbD (64 - wd + j) = r.toBitVec.getLsbD j := by
  unfold up
  rw [BitVec.getLsbD_shiftLeft]
  have e1 : decide (64 - wd + j < 64) = true := by simp; omega
  have e2 : decide (64 - wd + j < 64 - wd) = false := by simp
  rw [e1, e2, show 64 - wd + j - (64 - wd) = j by omega]; simp
theorem up_inj {wd : Nat} (hw1 : 1 ≤ wd) (hw : wd ≤ 64) {r t : Int64} (h1 : lo wd r) (h2 : lo wd t) (e : up wd r = up wd t) : r = t := by
  apply bw_inj
  apply BitVec.eq_of_getLsbD_eq
  intro j hj
  rcases Nat.lt_or_ge j wd with q | q
  · rw [← up_bit hw1 hw r q, e, up_bit hw1 hw t q]
  · rw [lo_bit h1 q, lo_bit h2 q]
theorem rLow_bit {wd : Nat} (hw1 : 1 ≤ wd) (hw : wd ≤ 64) (v : Int64) (j : Nat) : (rLow v (nI wd)).toBitVec.getLsbD j = (decide (j < wd) && v.toBitVec.getLsbD j) := by
  unfold rLow
  by_cases h : wd = 64
  · subst h
    rw [if_pos (show nI 64 = 64 from rfl)]
    rcases Nat.lt_or_ge j 64 with q | q
    · have e : decide (j < 64) = true := by simpa using q
      rw [e]; simp
    · rw [BitVec.getLsbD_of_ge _ _ q]; simp
  · rw [if_neg (show ¬ nI wd = 64 from fun e => h ((nI_eq (b := 64) (by omega) (by decide)).mp e)), bv_and, BitVec.getLsbD_and, Bool.and_comm]
    congr 1
    have e1 : (jshl 1 (nI wd) - 1).toBitVec = BitVec.ofNat 64 (2 ^ wd - 1) := by
      rw [Int64.toBitVec_sub, bv_shl 1 (by omega), bv_1]
      apply BitVec.eq_of_toNat_eq
      have hq : 2 ^ wd < 2 ^ 64 := Nat.pow_lt_pow_right (by decide) (by omega)
      have hq0 : 0 < 2 ^ wd := Nat.pow_pos (by decide)
      rw [BitVec.toNat_sub, BitVec.toNat_shiftLeft, BitVec.toNat_ofNat, BitVec.toNat_ofNat, Nat.shiftLeft_eq]
      generalize 2 ^ wd = q at hq hq0 ⊢
      omega
    rw [e1, BitVec.getLsbD_ofNat, Nat.testBit_two_pow_sub_one]
    rcases Nat.lt_or_ge j wd with q | q
    · have e : decide (j < 64) = true := by simp; omega
      rw [e]; simp
    · have e : decide (j < wd) = false := by simp; omega
      rw [e]; simp
theorem rLow_lo {wd : Nat} (hw1 : 1 ≤ wd) (hw : wd ≤ 64) (v : Int64) : lo wd (rLow v (nI wd)) := lo_of (fun j hj => by
  rw [rLow_bit hw1 hw]
  have e : decide (j < wd) = false := by simp; omega
  rw [e]; rfl)
theorem rLow_up {wd : Nat} (hw1 : 1 ≤ wd) (hw : wd ≤ 64) (v : Int64) : up wd (rLow v (nI wd)) = v.toBitVec <<< (64 - wd) := by
  unfold up
  apply BitVec.eq_of_getLsbD_eq
  intro j hj
  rw [BitVec.getLsbD_shiftLeft, BitVec.getLsbD_shiftLeft, rLow_bit hw1 hw]
  have e : decide (j - (64 - wd) < wd) = true := by simp; omega
  rw [e, Bool.true_and]
theorem rLow_id {wd : Nat} (hw1 : 1 ≤ wd) (hw : wd ≤ 64) {v : Int64} (h : lo wd v) : rLow v (nI wd) = v := by
  apply bw_inj
  apply BitVec.eq_of_getLsbD_eq
  intro j hj
  rw [rLow_bit hw1 hw]
  rcases Nat.lt_or_ge j wd with q | q
  · have e : decide (j < wd) = true := by simpa using q
    rw [e, Bool.true_and]
  · rw [lo_bit h q]; simp
theorem mLow_eq {wd : Nat} (hw1 : 1 ≤ wd) (hw : wd ≤ 64) (v : Int64) : mLow (nI wd) v = rLow v (nI wd) := by
  apply bw_inj
  unfold mLow
  rw [bt_from hw1 hw, bt_top hw1 hw]
  apply BitVec.eq_of_getLsbD_eq
  intro j hj
  rw [BitVec.getLsbD_ushiftRight, BitVec.getLsbD_shiftLeft, rLow_bit hw1 hw]
  have e2 : decide (64 - wd + j < 64 - wd) = false := by simp
  have e1 : decide (64 - wd + j < 64) = decide (j < wd) := decide_eq_decide.mpr (by omega)
  rw [e1, e2, show 64 - wd + j - (64 - wd) = j by omega]; simp
theorem and_1 (z : Int64) {k : Nat} (hk : k < 64) : (jushr z (nI k) &&& 1) = if z.toBitVec.getLsbD k then 1 else 0 := by
  apply bw_inj
  rw [bv_and, bv_ushr z hk, bv_1]
  apply BitVec.eq_of_getLsbD_eq
  intro i hi
  rw [BitVec.getLsbD_and, BitVec.getLsbD_ushiftRight, BitVec.getLsbD_one]
  rcases Nat.eq_zero_or_pos i with h | h
  · subst h
    rw [Nat.add_zero]
    cases z.toBitVec.getLsbD k <;> rfl
  · have e : decide (i = 0) = false := by simp; omega
    rw [e]
    cases z.toBitVec.getLsbD k with
    | false => show _ = (0#64).getLsbD i; simp
    | true =>
      show _ = (1#64).getLsbD i
      rw [BitVec.getLsbD_one, e]; simp
theorem and_c (z : Int64) {k : Nat} (hk : k < 64) : lg_cmp (jushr z (nI k) &&& 1) 1 = 0 ↔ z.toBitVec.getLsbD k = true := by
  rw [lg_cmp_eq, and_1 z hk]
  cases z.toBitVec.getLsbD k
  · exact ⟨fun h => absurd h (by decide), fun h => absurd h (by decide)⟩
  · exact ⟨fun _ => rfl, fun _ => rfl⟩
theorem up_msb {wd : Nat} (hw1 : 1 ≤ wd) (hw : wd ≤ 64) (r : Int64) : (up wd r).msb = r.toBitVec.getLsbD (wd - 1) := by
  rw [BitVec.msb_eq_getLsbD_last, show 64 - 1 = 64 - wd + (wd - 1) by omega, up_bit hw1 hw r (by omega)]
theorem rBit_up {wd : Nat} (hw1 : 1 ≤ wd) (hw : wd ≤ 64) {po r : Int64} (hp : lo wd po) (b : Bool) : up wd (rBit (nI wd) po r (i01 b)) = cz (up wd po) (up wd r ^^^ tb b) ∧ lo wd (rBit (nI wd) po r (i01 b)) := by
  have h1 : nI wd - 1 = nI (wd - 1) := by
    obtain ⟨v, rfl⟩ : ∃ v, wd = v + 1 := ⟨wd - 1, by omega⟩
    rw [nI_pred]; rfl
  have hu : up wd (rLow (jshl r 1) (nI wd)) = up wd r <<< 1 := by
    rw [rLow_up hw1 hw, bv_shl1]
    unfold up
    rw [← BitVec.shiftLeft_add, ← BitVec.shiftLeft_add, Nat.add_comm]
  have hl := rLow_lo hw1 hw (jshl r 1)
  unfold rBit cz
  rw [tb_msb, tb_shl, h1, up_msb hw1 hw]
  have hc := and_c r (k := wd - 1) (by omega)
  cases hb : r.toBitVec.getLsbD (wd - 1) with
  | false =>
    rw [hb] at hc
    rw [if_neg (fun h => absurd (hc.mp h) (by decide))]
    cases b with
    | false => rw [if_pos (by decide), if_neg (by decide)]; exact ⟨hu, hl⟩
    | true => rw [if_neg (by decide), if_pos (by decide), up_xor, hu]; exact ⟨rfl, lo_xor hl hp⟩
  | true =>
    rw [hb] at hc
    rw [if_pos (hc.mpr rfl)]
    cases b with
    | false => rw [if_neg (by decide), if_pos (by decide), up_xor, hu]; exact ⟨rfl, lo_xor hl hp⟩
    | true => rw [if_pos (by decide), if_neg (by decide)]; exact ⟨hu, hl⟩
theorem rBit_0 {wd : Nat} (hw1 : 1 ≤ wd) (hw : wd ≤ 64) {po r : Int64} (hp : lo wd po) : up wd (rBit (nI wd) po r 0) = cz (up wd po) (up wd r) ∧ lo wd (rBit (nI wd) po r 0) := by
  have h := rBit_up hw1 hw (r := r) hp false
  rw [show up wd r ^^^ tb false = up wd r by show up wd r ^^^ 0#64 = _; simp] at h
  exact h
theorem rb_0 : ∀ β, β < 256 → ∀ k, k < 8 → ((nI β) >>> ((7 - nI k) &&& 31)) &&& 1 = i01 (β.testBit (7 - k)) := by decide +kernel
theorem rb_1 : ∀ β, β < 256 → ∀ k, k < 8 → ((nI β) >>> (nI k &&& 31)) &&& 1 = i01 (β.testBit k) := by decide +kernel
/-- bit t of a byte as it comes -/
def cb (bi : Int32) (β t : Nat) : Bool := if bi = 0 then β.testBit (7 - t) else β.testBit t
theorem rByN_up {wd : Nat} (hw1 : 1 ≤ wd) (hw : wd ≤ 64) {po r : Int64} (hp : lo wd po) (hr : lo wd r) (bi : Int32) {β : Nat} (hβ : β < 256) : ∀ k, k ≤ 8 → up wd (rByN (nI wd) po bi (nI β) r k) = rgN (up wd po) (cb bi β) (up wd r) 0 k ∧ lo wd (rByN (nI wd) po bi (nI β) r k) := by
  intro k
  induction k with
  | zero => intro _; exact ⟨rfl, hr⟩
  | succ k ih =>
    intro hk
    obtain ⟨e, l⟩ := ih (by omega)
    have hb : (if bi = 0 then ((nI β) >>> ((7 - nI k) &&& 31)) &&& 1 else ((nI β) >>> (nI k &&& 31)) &&& 1) = i01 (cb bi β k) := by
      unfold cb
      split
      · exact rb_0 β hβ k (by omega)
      · exact rb_1 β hβ k (by omega)
    obtain ⟨e2, l2⟩ := rBit_up hw1 hw (r := rByN (nI wd) po bi (nI β) r k) hp (cb bi β k)
    rw [rByN, hb]
    refine ⟨?_, l2⟩
    rw [e2, e]
    show _ = cz _ (_ ^^^ tb (cb bi β (0 + k)))
    rw [Nat.zero_add]
/-- the row's bits as they come; behind the row they are 0 -/
def fs (B : Nat → Nat) (bi : Int32) (nb p : Nat) : Bool := decide (p < 8 * nb) && cb bi (B (p / 8)) (p % 8)
theorem rOvN_up {wd : Nat} (hw1 : 1 ≤ wd) (hw : wd ≤ 64) {po r : Int64} (hp : lo wd po) (hr : lo wd r) {bi : Int32} {by8 : Nat → Int32} {B : Nat → Nat} {nb : Nat} (hn : nb ≤ 5000) (hB : ∀ i, i < nb → by8 i = nI (B i)) (hB2 : ∀ i, B i < 256) (a : Nat) : ∀ k, a + k ≤ nb → up wd (rOvN (nI wd) po bi by8 r a k) = rgN (up wd po) (fs B bi nb) (up wd r) (8 * a) (8 * k) ∧ lo wd (rOvN (nI wd) po bi by8 r a k) := by
  intro k
  induction k with
  | zero => intro _; exact ⟨rfl, hr⟩
  | succ k ih =>
    intro hk
    obtain ⟨e, l⟩ := ih (by omega)
    rw [rOvN, nI_clamp (by omega), hB (a + k) (by omega)]
    obtain ⟨e2, l2⟩ := rByN_up hw1 hw (po := po) hp l bi (hB2 (a + k)) 8 (by decide)
    refine ⟨?_, l2⟩
    rw [e2, e, show 8 * (k + 1) = 8 * k + 8 by omega, rg_add]
    refine rg_congr (fun t ht => ?_)
    unfold fs
    have e1 : decide (8 * a + 8 * k + t < 8 * nb) = true := by simp; omega
    rw [e1, Bool.true_and, Nat.zero_add, show (8 * a + 8 * k + t) / 8 = a + k by omega, show (8 * a + 8 * k + t) % 8 = t by omega]
theorem rTmN_up {wd : Nat} (hw1 : 1 ≤ wd) (hw : wd ≤ 64) {po x y : Int64} (hp : lo wd po) (hx : lo wd x) : ∀ n, n ≤ wd → up wd (rTmN wd po x y n) = px (up wd po) (up wd y) (up wd x) n ∧ lo wd (rTmN wd po x y n) := by
  intro n
  induction n with
  | zero => intro _; exact ⟨up_0 wd, lo_0 wd⟩
  | succ n ih =>
    intro hn
    obtain ⟨e, l⟩ := ih (by omega)
    obtain ⟨e2, l2⟩ := rBit_0 hw1 hw (r := rTmN wd po x y n) hp
    have hc := and_c y (k := wd - 1 - n) (by omega)
    have hb : (up wd y).getLsbD (63 - n) = y.toBitVec.getLsbD (wd - 1 - n) := by
      rw [show 63 - n = 64 - wd + (wd - 1 - n) by omega, up_bit hw1 hw y (by omega)]
    rw [rTmN, du_wp hw1 (by omega)]
    show up wd (_ ^^^ _) = cz _ (px _ _ _ n) ^^^ _ ∧ _
    rw [up_xor, e2, e, hb]
    cases hv : y.toBitVec.getLsbD (wd - 1 - n) with
    | false =>
      rw [hv] at hc
      rw [if_neg (fun h => absurd (hc.mp h) (by decide)), if_neg (by decide), up_0]
      exact ⟨rfl, lo_xor l2 (lo_0 wd)⟩
    | true =>
      rw [hv] at hc
      rw [if_pos (hc.mpr rfl), if_pos rfl]
      exact ⟨rfl, lo_xor l2 hx⟩
theorem up_1 (wd : Nat) : up wd 1 = 1#64 <<< (64 - wd) := rfl
theorem rPw_up {wd : Nat} (hw1 : 1 ≤ wd) (hw : wd ≤ 64) {po : Int64} (hp : lo wd po) : ∀ i, up wd (rPw wd po i) = czn (up wd po) (2 ^ i) (1#64 <<< (64 - wd)) ∧ lo wd (rPw wd po i) := by
  intro i
  induction i with
  | zero =>
    obtain ⟨e2, l2⟩ := rBit_0 hw1 hw (r := 1) hp
    exact ⟨e2, l2⟩
  | succ i ih =>
    obtain ⟨e, l⟩ := ih
    obtain ⟨e2, l2⟩ := rTmN_up hw1 hw (y := rPw wd po i) hp l wd (Nat.le_refl _)
    rw [rPw]
    refine ⟨?_, l2⟩
    rw [e2]
    conv => lhs; rw [e]
    rw [px_l hw (lz_czn (up_lz wd po) (lz_shl _ _) _), ← czn_add, Nat.pow_succ, Nat.mul_two]
theorem rBhN_up {wd : Nat} (hw1 : 1 ≤ wd) (hw : wd ≤ 64) {po r : Int64} (hp : lo wd po) (hr : lo wd r) (Z : Nat) : ∀ i, up wd (rBhN wd po r Z i) = czn (up wd po) (Z % 2 ^ i) (up wd r) ∧ lo wd (rBhN wd po r Z i) := by
  intro i
  induction i with
  | zero => rw [Nat.pow_zero, Nat.mod_one]; exact ⟨rfl, hr⟩
  | succ i ih =>
    obtain ⟨e, l⟩ := ih
    rw [rBhN, Nat.mod_pow_succ]
    by_cases hb : Z / 2 ^ i % 2 = 1
    · rw [if_pos hb, hb, Nat.mul_one]
      obtain ⟨e2, l2⟩ := rTmN_up hw1 hw (y := rPw wd po i) hp l wd (Nat.le_refl _)
      refine ⟨?_, l2⟩
      rw [e2, (rPw_up hw1 hw hp i).1, px_r hw (up_lz wd po) (up_lz wd _), e, ← czn_add, Nat.add_comm]
    · rw [if_neg hb, show Z / 2 ^ i % 2 = 0 by omega, Nat.mul_zero, Nat.add_zero]
      exact ⟨e, l⟩
theorem rBh_up {wd : Nat} (hw1 : 1 ≤ wd) (hw : wd ≤ 64) {po r : Int64} (hp : lo wd po) (hr : lo wd r) {Z : Nat} (hZ : Z < 2 ^ 35) : up wd (rBh wd po r Z) = czn (up wd po) Z (up wd r) ∧ lo wd (rBh wd po r Z) := by
  have h := rBhN_up hw1 hw hp hr Z 35
  rw [Nat.mod_eq_of_lt hZ] at h
  exact h
/-! The class's products and powers. -/
theorem mPrN_bv (tp a b : Int64) : ∀ n, n ≤ 64 → (mPrN tp a b n).toBitVec = px tp.toBitVec a.toBitVec b.toBitVec n := by
  intro n
  induction n with
  | zero => intro _; rfl
  | succ n ih =>
    intro hn
    have hc : (0 ≤ lg_cmp (jshl a (nI n)) 0) ↔ a.toBitVec.getLsbD (63 - n) = false := by
      rw [lg_cmp_ge, ← Int64.not_lt, lt0_msb, bv_shl _ (by omega), BitVec.msb_eq_getLsbD_last, BitVec.getLsbD_shiftLeft]
      have e1 : decide (64 - 1 < 64) = true := by decide
      have e2 : decide (64 - 1 < n) = false := by simp; omega
      rw [e1, e2, show 64 - 1 - n = 63 - n by omega]; simp
    rw [mPrN]
    show _ = cz _ (px _ _ _ n) ^^^ _
    cases hv : a.toBitVec.getLsbD (63 - n) with
    | false => rw [if_pos (hc.mpr hv), if_neg (by decide), mBit_0, ih (by omega)]; simp
    | true => rw [if_neg (fun h => by rw [hc.mp h] at hv; cases hv), if_pos rfl, bv_xor, mBit_0, ih (by omega)]
theorem mProd_bv {wd : Nat} (hw : wd ≤ 64) (tp a b : Int64) : (mProd (nI wd) tp a b).toBitVec = px tp.toBitVec a.toBitVec b.toBitVec wd := by
  unfold mProd
  rw [nI_clamp (by omega)]
  exact mPrN_bv tp a b wd hw
theorem mPw_bv {wd : Nat} (hw1 : 1 ≤ wd) (hw : wd ≤ 64) {tp : Int64} (ht : lz (64 - wd) tp.toBitVec) : ∀ i, (mPw (nI wd) tp i).toBitVec = czn tp.toBitVec (2 ^ i) (1#64 <<< (64 - wd)) := by
  intro i
  induction i with
  | zero => rw [mPw, mBit_0, bt_top hw1 hw]; rfl
  | succ i ih =>
    rw [mPw, mProd_bv hw, ih, px_l hw (lz_czn ht (lz_shl _ _) _), ← czn_add, Nat.pow_succ, Nat.mul_two]
theorem lN_bit {Z : Nat} (hZ : Z < 2 ^ 64) (i : Nat) : (lN Z).toBitVec.getLsbD i = Z.testBit i := by
  rw [bw_tb]
  show (BitVec.ofNat 64 Z).toNat.testBit i = _
  rw [BitVec.toNat_ofNat, Nat.mod_eq_of_lt hZ]
theorem mZaN_bv {wd : Nat} (hw1 : 1 ≤ wd) (hw : wd ≤ 64) {tp : Int64} (ht : lz (64 - wd) tp.toBitVec) {r : Int64} (hr : lz (64 - wd) r.toBitVec) {Z : Nat} (hZ : Z < 2 ^ 35) : ∀ i, i ≤ 34 → (mZaN (nI wd) tp r (lN Z) i).toBitVec = czn tp.toBitVec (Z % 2 ^ i) r.toBitVec := by
  intro i
  induction i with
  | zero => intro _; rw [Nat.pow_zero, Nat.mod_one]; rfl
  | succ i ih =>
    intro hi
    have hc := and_c (lN Z) (k := i) (by omega)
    rw [lN_bit (by omega), Nat.testBit_eq_decide_div_mod_eq] at hc
    rw [mZaN, Nat.mod_pow_succ]
    by_cases hb : Z / 2 ^ i % 2 = 1
    · rw [if_pos (hc.mpr (by simpa using hb)), hb, Nat.mul_one, mProd_bv hw, mPw_bv hw1 hw ht, ih (by omega), px_l hw (lz_czn ht hr _), ← czn_add, Nat.add_comm]
    · rw [if_neg (fun h => hb (by simpa using hc.mp h)), show Z / 2 ^ i % 2 = 0 by omega, Nat.mul_zero, Nat.add_zero, ih (by omega)]
theorem mZeros_bv {wd : Nat} (hw1 : 1 ≤ wd) (hw : wd ≤ 64) {tp : Int64} (ht : lz (64 - wd) tp.toBitVec) {r : Int64} (hr : lz (64 - wd) r.toBitVec) {Z : Nat} (hZ : Z < 2 ^ 34) : (mZeros (nI wd) tp r (lN Z)).toBitVec = czn tp.toBitVec Z r.toBitVec := by
  unfold mZeros
  rw [mZaN_bv hw1 hw ht hr (by omega) 34 (by decide), Nat.mod_eq_of_lt hZ]
/-! Checks out of registers, and back. -/
theorem from_up {wd : Nat} (hw1 : 1 ≤ wd) (hw : wd ≤ 64) {R r : Int64} (hr : lo wd r) (h : R.toBitVec = up wd r) : mFrom (nI wd) R = r := by
  apply bw_inj
  rw [bt_from hw1 hw, h]
  apply BitVec.eq_of_getLsbD_eq
  intro j hj
  rw [BitVec.getLsbD_ushiftRight]
  rcases Nat.lt_or_ge j wd with q | q
  · exact up_bit hw1 hw r q
  · rw [BitVec.getLsbD_of_ge _ _ (by omega), lo_bit hr q]
theorem check_eq {wd : Nat} (hw1 : 1 ≤ wd) (hw : wd ≤ 64) {R r : Int64} (bo : Int32) (la : Int64) (hr : lo wd r) (h : R.toBitVec = up wd r) : mCheck (nI wd) bo la R = rTold bo la wd r := by
  unfold mCheck rTold
  rw [from_up hw1 hw hr h]
  unfold mTurned
  rw [nI_clamp (by omega)]
theorem tu_low {wd : Nat} (hw : wd ≤ 64) {v v' : Int64} (h : ∀ j, j < wd → v.toBitVec.getLsbD j = v'.toBitVec.getLsbD j) : mTuN v wd = mTuN v' wd := by
  apply bw_inj
  apply BitVec.eq_of_getLsbD_eq
  intro j hj
  rw [tu_bit v wd hw, tu_bit v' wd hw]
  rcases Nat.lt_or_ge j wd with q | q
  · rw [h _ (by omega)]
  · have e : decide (j < wd) = false := by simp; omega
    rw [e]; rfl
theorem reg_eq {wd : Nat} (hw1 : 1 ≤ wd) (hw : wd ≤ 64) (bo : Int32) {la : Int64} (hl : lo wd la) (x : Int64) : (mReg (nI wd) bo la x).toBitVec = up wd (rReg bo la wd x) ∧ lo wd (rReg bo la wd x) := by
  unfold mReg rReg
  rw [bt_top hw1 hw]
  by_cases hb : bo = 0
  · rw [if_pos hb, if_pos hb, up_xor, rLow_up hw1 hw, bv_xor, BitVec.shiftLeft_xor_distrib]
    exact ⟨rfl, lo_xor (rLow_lo hw1 hw x) hl⟩
  · rw [if_neg hb, if_neg hb]
    unfold mTurned
    rw [nI_clamp (by omega)]
    refine ⟨?_, tu_lt _ hw⟩
    rw [tu_low hw (v := x ^^^ la) (v' := rLow x (nI wd) ^^^ la)]
    · rfl
    · intro j hj
      rw [bv_xor, bv_xor, BitVec.getLsbD_xor, BitVec.getLsbD_xor, rLow_bit hw1 hw]
      have e : decide (j < wd) = true := by simpa using hj
      rw [e, Bool.true_and]
theorem tu_tu {wd : Nat} (hw : wd ≤ 64) {r : Int64} (hr : lo wd r) : mTuN (mTuN r wd) wd = r := by
  apply bw_inj
  apply BitVec.eq_of_getLsbD_eq
  intro j hj
  rw [tu_bit _ wd hw]
  rcases Nat.lt_or_ge j wd with q | q
  · have e : decide (j < wd) = true := by simpa using q
    have e2 : decide (wd - 1 - j < wd) = true := by simp; omega
    rw [e, Bool.true_and, tu_bit r wd hw, e2, Bool.true_and, show wd - 1 - (wd - 1 - j) = j by omega]
  · have e : decide (j < wd) = false := by simp; omega
    rw [e, lo_bit hr q]; rfl
theorem xx_c (a b : Int64) : a ^^^ b ^^^ b = a := by
  apply bw_inj
  rw [bv_xor, bv_xor, BitVec.xor_assoc, BitVec.xor_self]; simp
theorem reg_told {wd : Nat} (hw1 : 1 ≤ wd) (hw : wd ≤ 64) (bo : Int32) {la r : Int64} (hl : lo wd la) (hr : lo wd r) : rReg bo la wd (rTold bo la wd r) = r := by
  unfold rReg rTold
  by_cases hb : bo = 0
  · rw [if_pos hb, if_pos hb, rLow_id hw1 hw (lo_xor hr hl), xx_c]
  · rw [if_neg hb, if_neg hb, rLow_id hw1 hw (lo_xor (tu_lt r hw) hl), xx_c, tu_tu hw hr]
theorem told_reg {wd : Nat} (hw1 : 1 ≤ wd) (hw : wd ≤ 64) (bo : Int32) {la : Int64} (hl : lo wd la) {R r : Int64} (hr : lo wd r) (h : R.toBitVec = up wd r) : (mReg (nI wd) bo la (mCheck (nI wd) bo la R)).toBitVec = R.toBitVec := by
  rw [check_eq hw1 hw bo la hr h, (reg_eq hw1 hw bo hl _).1, reg_told hw1 hw bo hl hr, h]
end
section
/-! The class's state beside the reference's; their answers are one. -/
def Rel (row sl : Nat → Int64) (by8 : Nat → Int32) (B : Nat → Nat) (nb wd : Nat) (po tp fi la : Int64) (bi bo : Int32) : Prop :=
  nb ≤ 5000 ∧ 1 ≤ wd ∧ wd ≤ 64 ∧ (bi = 0 ∨ bi = 1) ∧ (bo = 0 ∨ bo = 1) ∧ lo wd po ∧ lo wd fi ∧ lo wd la ∧ tp.toBitVec = up wd po ∧ tblOK tp.toBitVec sl ∧ (∀ i, i < nb → by8 i = nI (B i)) ∧ (∀ i, B i < 256) ∧ rowOK row (fs B bi nb)
section
variable {row sl dv : Nat → Int64} {by8 : Nat → Int32} {B : Nat → Nat} {nb wd : Nat} {po tp fi la : Int64} {bi bo : Int32}
theorem fs_end {p : Nat} (h : nb * 8 ≤ p) : fs B bi nb p = false := by
  unfold fs
  have e : decide (p < 8 * nb) = false := by simp; omega
  rw [e]; rfl
/-- the class's register over bytes a .. b - 1 is the reference's -/
theorem over_up (h : Rel row sl by8 B nb wd po tp fi la bi bo) {a b : Nat} (hab : a ≤ b) (hb : b ≤ nb) : rgN tp.toBitVec (fs B bi nb) (up wd fi) (8 * a) (8 * (b - a)) = up wd (rOvN (nI wd) po bi by8 fi a (b - a)) ∧ lo wd (rOvN (nI wd) po bi by8 fi a (b - a)) := by
  obtain ⟨hn, hw1, hw, -, -, hp, hf, -, ht, -, hB, hB2, -⟩ := h
  obtain ⟨e, l⟩ := rOvN_up hw1 hw hp hf (bi := bi) hn hB hB2 a (b - a) (by omega)
  rw [ht]
  exact ⟨e.symm, l⟩
theorem top_fi (h : Rel row sl by8 B nb wd po tp fi la bi bo) : (mTop (nI wd) fi).toBitVec = up wd fi := bt_top h.2.1 h.2.2.1 fi
theorem ei_over (h : Rel row sl by8 B nb wd po tp fi la bi bo) {a b : Nat} (hab : a ≤ b) (hb : b ≤ nb) : mCheck (nI wd) bo la (mEi row sl (mTop (nI wd) fi) a b) = rOver wd po fi la bi bo by8 a b := by
  obtain ⟨e, l⟩ := over_up h hab hb
  have hi := top_fi h
  obtain ⟨hn, hw1, hw, -, -, hp, hf, -, ht, hT, hB, hB2, hR⟩ := h
  exact check_eq hw1 hw bo la l (by rw [mEi_bv hR hT _ hab (by omega), hi, e])
theorem eq_ways (h : Rel row sl by8 B nb wd po tp fi la bi bo) : mCheck (nI wd) bo la (mBbN row tp (mTop (nI wd) fi) nb) = rOver wd po fi la bi bo by8 0 nb ∧ mCheck (nI wd) bo la (mYy row sl (mTop (nI wd) fi) 0 nb) = rOver wd po fi la bi bo by8 0 nb ∧ mCheck (nI wd) bo la (mEi row sl (mTop (nI wd) fi) 0 nb) = rOver wd po fi la bi bo by8 0 nb ∧ mChk3 row dv nb (nI wd) bo tp fi la = rOver wd po fi la bi bo by8 0 nb := by
  obtain ⟨e, l⟩ := over_up h (Nat.zero_le nb) (Nat.le_refl nb)
  have hi := top_fi h
  have h3 := ei_over h (Nat.zero_le nb) (Nat.le_refl nb)
  obtain ⟨hn, hw1, hw, -, -, hp, hf, -, ht, hT, hB, hB2, hR⟩ := h
  refine ⟨check_eq hw1 hw bo la l ?_, check_eq hw1 hw bo la l ?_, h3, check_eq hw1 hw bo la l ?_⟩
  · rw [mBbN_bv hR tp _ nb hn, hi]; exact e
  · rw [mYy_bv hR hT _ (Nat.zero_le _) hn, hi]; exact e
  · rw [mDv_bv hR hn (fun p hp => fs_end hp), hi]; exact e
theorem rChk_in {y : Int32} {v : Int64} (h0 : ¬ y < 0) (h3 : y ≤ 3) : rChk y v = v := by rw [rChk, if_neg h0, if_pos h3]
theorem eq_chk (h : Rel row sl by8 B nb wd po tp fi la bi bo) {y : Int32} (hy : ¬ y = 3) : mChk row sl nb (nI wd) bo tp fi la y = rChk y (rOver wd po fi la bi bo by8 0 nb) := by
  obtain ⟨w0, w1, w2, -⟩ := eq_ways (dv := row) h
  unfold mChk
  by_cases h0 : y = 0
  · rw [if_pos h0, w0, h0, rChk_in (by decide) (by decide)]
  · rw [if_neg h0]
    by_cases h1 : y = 1
    · rw [if_pos h1, w1, h1, rChk_in (by decide) (by decide)]
    · rw [if_neg h1]
      by_cases h2 : y = 2
      · rw [if_pos h2, w2, h2, rChk_in (by decide) (by decide)]
      · rw [if_neg h2, rChk]
        by_cases hn : y < 0
        · rw [if_pos hn]
        · rw [if_neg hn, if_neg]
          intro hle
          obtain ⟨j, hj, rfl⟩ := nI_of hn
          have h4 := (nI_leI (a := j) (b := 3) hj (by decide)).mp hle
          have : j = 0 ∨ j = 1 ∨ j = 2 ∨ j = 3 := by omega
          rcases this with e | e | e | e <;> subst e
          · exact h0 rfl
          · exact h1 rfl
          · exact h2 rfl
          · exact hy rfl
theorem eq_chk3 (h : Rel row sl by8 B nb wd po tp fi la bi bo) : mChk3 row dv nb (nI wd) bo tp fi la = rChk 3 (rOver wd po fi la bi bo by8 0 nb) := by
  rw [rChk_in (by decide) (by decide)]
  exact (eq_ways h).2.2.2
theorem eq_part (h : Rel row sl by8 B nb wd po tp fi la bi bo) (x y : Int32) : mPart row sl nb (nI wd) bo fi la x y = rPart nb wd po fi la bi bo by8 x y := by
  unfold mPart rPart
  by_cases h1 : x < 0
  · rw [if_pos h1, if_pos h1]
  · rw [if_neg h1, if_neg h1]
    by_cases h2 : y < x
    · rw [if_pos h2, if_pos h2]
    · rw [if_neg h2, if_neg h2]
      by_cases h3 : y ≤ nI nb
      · rw [if_pos h3, if_pos h3]
        exact ei_over h (du_cl2 h2) (du_cle (du_nn2 h1 h2) h3 (by have := h.1; omega))
      · rw [if_neg h3, if_neg h3]
theorem lz_tp (h : Rel row sl by8 B nb wd po tp fi la bi bo) : lz (64 - wd) tp.toBitVec := by rw [h.2.2.2.2.2.2.2.2.1]; exact up_lz wd po
theorem eq_join (h : Rel row sl by8 B nb wd po tp fi la bi bo) (x y : Int64) (n : Int32) : mJoin (nI wd) bo tp fi la x y n = rJoin wd po fi la bo x y n := by
  have hi := top_fi h
  have hz := lz_tp h
  obtain ⟨hn, hw1, hw, -, -, hp, hf, hl, ht, hT, hB, hB2, hR⟩ := h
  unfold mJoin rJoin
  by_cases h0 : 0 ≤ n
  · rw [if_pos h0, if_pos h0]
    obtain ⟨ex, lx⟩ := reg_eq hw1 hw bo hl x
    obtain ⟨ey, ly⟩ := reg_eq hw1 hw bo hl y
    have hZ : 8 * n.toNatClampNeg < 2 ^ 34 := by have := du_cl n; omega
    obtain ⟨eb, lb⟩ := rBh_up hw1 hw hp (lo_xor lx hf) (Z := 8 * n.toNatClampNeg) (by omega)
    have e8 : n.toInt64 * 8 = lN (8 * n.toNatClampNeg) := by rw [Int64.mul_comm]; exact du_8n h0
    refine check_eq hw1 hw bo la (lo_xor lb ly) ?_
    rw [e8, bv_xor, mZeros_bv hw1 hw hz _ hZ, bv_xor, ex, ey, hi, up_xor, eb, up_xor, ht, BitVec.xor_comm]
    rw [bv_xor, ex, hi]
    exact lz_xor (up_lz wd _) (up_lz wd _)
  · rw [if_neg h0, if_neg h0]
theorem come_bits (bi : Int32) {β : Nat} (hβ : β < 256) : ∃ z : Nat, z < 256 ∧ (mCome bi (nI β)).toBitVec = BitVec.ofNat 64 z ∧ ∀ t, t < 8 → cb bi β t = z.testBit (7 - t) := by
  unfold mCome cb
  by_cases hb : bi = 0
  · rw [if_pos hb, nI_l (by omega)]
    refine ⟨β, hβ, rfl, fun t _ => ?_⟩
    rw [if_pos hb]
  · rw [if_neg hb]
    refine ⟨(mTuN (nI β).toInt64 8).toBitVec.toNat, tu_lt _ (n := 8) (by decide), ?_, fun t ht => ?_⟩
    · show (mTuN (nI β).toInt64 8).toBitVec = _
      rw [BitVec.ofNat_toNat, BitVec.setWidth_eq]
    · rw [if_neg hb]
      show _ = (mTuN (nI β).toInt64 8).toBitVec.getLsbD (7 - t)
      have e : decide (7 - t < 8) = true := by simp; omega
      rw [tu_bit _ 8 (by decide), e, nI_l (by omega), lN_bit (by omega), show 8 - 1 - (7 - t) = t by omega]; simp
theorem eq_entry (h : Rel row sl by8 B nb wd po tp fi la bi bo) (k b : Int32) : mEntry sl (nI wd) bi k b = rEntry wd po bi k b := by
  obtain ⟨hn, hw1, hw, -, -, hp, hf, hl, ht, hT, hB, hB2, hR⟩ := h
  unfold mEntry rEntry
  by_cases h1 : k < 0
  · rw [if_pos h1, if_pos h1]
  · rw [if_neg h1, if_neg h1]
    obtain ⟨κ, hκ, rfl⟩ := nI_of h1
    by_cases h2 : κ < 8
    · rw [if_neg (show ¬ (8 : Int32) ≤ nI κ from nI_ge (b := 8) h2 (by decide)), if_neg (show ¬ (7 : Int32) < nI κ from nI_nlt (a := 7) (b := κ) (by omega) (by decide))]
      by_cases h3 : b < 0
      · rw [if_pos h3, if_pos (show mIsB b = 0 by rw [mIsB, if_pos h3])]
      · rw [if_neg h3]
        obtain ⟨β, hβ, rfl⟩ := nI_of h3
        by_cases h4 : β < 256
        · rw [if_neg (du_isb h4), if_pos (show nI β ≤ (255 : Int32) from nI_le (b := 255) (by omega) (by decide))]
          obtain ⟨z, hz, ez, hzb⟩ := come_bits bi h4
          have ezn : (mCome bi (nI β)).toBitVec.toNat = z := by rw [ez, BitVec.toNat_ofNat]; omega
          obtain ⟨e8, l8⟩ := rByN_up hw1 hw (po := po) hp (lo_0 wd) bi h4 8 (by decide)
          obtain ⟨eb, lb⟩ := rBh_up hw1 hw hp l8 (Z := 8 * (nI κ).toNatClampNeg) (by rw [nI_clamp hκ]; omega)
          refine from_up hw1 hw lb ?_
          rw [eb, e8, bw_i _ ezn, show (256 : Int32) = nI 256 from rfl, pk_mul, nI_add, nI_clamp (by omega), nI_clamp hκ, hT _ (by omega), show (κ * 256 + z) / 256 = κ by omega, show (κ * 256 + z) % 256 = z by omega, ht]
          rw [rg_byte hz (fun t htt => by rw [Nat.zero_add]; exact hzb t htt), up_0, BitVec.zero_xor, ← czn_add, Nat.mul_add]
        · rw [if_pos (show mIsB (nI β) = 0 by rw [mIsB, if_neg h3, if_pos (show (256 : Int32) ≤ nI β from nI_le (a := 256) (by omega) hβ)]), if_neg (show ¬ nI β ≤ (255 : Int32) from nI_ge (a := 255) (by omega) hβ)]
    · rw [if_pos (show (8 : Int32) ≤ nI κ from nI_le (a := 8) (by omega) hκ), if_pos (show (7 : Int32) < nI κ from nI_lt (a := 7) (by omega) hκ)]
theorem eq_zeros (h : Rel row sl by8 B nb wd po tp fi la bi bo) (x : Int64) (n : Int32) : mZer (nI wd) tp x n = rZeros wd po x n := by
  have hz := lz_tp h
  obtain ⟨hn, hw1, hw, -, -, hp, hf, hl, ht, hT, hB, hB2, hR⟩ := h
  unfold mZer rZeros
  by_cases h1 : n < 0
  · rw [if_pos h1, if_pos h1]
  · rw [if_neg h1, if_neg h1]
    by_cases h2 : n ≤ 1000000
    · rw [if_pos h2, if_pos h2]
      have hZ : n.toNatClampNeg < 2 ^ 34 := by have := du_cl n; omega
      obtain ⟨eb, lb⟩ := rBh_up hw1 hw hp (rLow_lo hw1 hw x) (Z := n.toNatClampNeg) (by omega)
      refine from_up hw1 hw lb ?_
      rw [du_ln h1, mZeros_bv hw1 hw hz _ hZ, bt_top hw1 hw, eb, rLow_up hw1 hw, ht]
      rw [bt_top hw1 hw]
      exact lz_shl _ _
    · rw [if_neg h2, if_neg h2]
theorem eq_round (h : Rel row sl by8 B nb wd po tp fi la bi bo) : mRound (nI wd) tp = rRound wd po := by
  obtain ⟨hn, hw1, hw, -, -, hp, hf, hl, ht, hT, hB, hB2, hR⟩ := h
  have key : ∀ i, (mRdN (nI wd) tp i).toBitVec = up wd (rRdN wd po i) ∧ lo wd (rRdN wd po i) := by
    intro i
    induction i with
    | zero => exact ⟨bt_top hw1 hw 1, lo_1 hw1⟩
    | succ i ih =>
      obtain ⟨e2, l2⟩ := rBit_0 hw1 hw (r := rRdN wd po i) hp
      exact ⟨by rw [mRdN, mBit_0, ih.1, ht, rRdN, e2], l2⟩
  unfold mRound rRound
  congr 1
  funext i
  apply decide_eq_decide.mpr
  constructor
  · intro e
    refine up_inj hw1 hw (key i).2 (lo_1 hw1) ?_
    rw [← (key i).1, e, bt_top hw1 hw]; rfl
  · intro e
    apply bw_inj
    rw [(key i).1, e, bt_top hw1 hw]; rfl
/-- two rows joined -/
theorem join_over (h : Rel row sl by8 B nb wd po tp fi la bi bo) {c : Nat} (hc : c ≤ nb) : rTold bo la wd (rBh wd po (rReg bo la wd (rOver wd po fi la bi bo by8 0 c) ^^^ fi) (8 * (nb - c)) ^^^ rReg bo la wd (rOver wd po fi la bi bo by8 c nb)) = rOver wd po fi la bi bo by8 0 nb := by
  obtain ⟨e1, l1⟩ := over_up h (Nat.zero_le c) hc
  obtain ⟨e2, l2⟩ := over_up h hc (Nat.le_refl nb)
  obtain ⟨e3, l3⟩ := over_up h (Nat.zero_le nb) (Nat.le_refl nb)
  obtain ⟨hn, hw1, hw, -, -, hp, hf, hl, ht, hT, hB, hB2, hR⟩ := h
  unfold rOver
  rw [reg_told hw1 hw bo hl l1, reg_told hw1 hw bo hl l2]
  obtain ⟨eb, lb⟩ := rBh_up hw1 hw hp (lo_xor l1 hf) (Z := 8 * (nb - c)) (by omega)
  congr 1
  refine up_inj hw1 hw (lo_xor lb l2) l3 ?_
  rw [up_xor, eb, ← e2, ← e3, up_xor, ← e1, ht, Nat.sub_zero, Nat.sub_zero, show 8 * nb = 8 * c + 8 * (nb - c) by omega, rg_add, Nat.mul_zero, Nat.zero_add]
  have hx := rg_xor (up wd po) (fs B bi nb) (up wd fi) (rgN (up wd po) (fs B bi nb) (up wd fi) 0 (8 * c) ^^^ up wd fi) (8 * c) (8 * (nb - c))
  have hy : up wd fi ^^^ (rgN (up wd po) (fs B bi nb) (up wd fi) 0 (8 * c) ^^^ up wd fi) = rgN (up wd po) (fs B bi nb) (up wd fi) 0 (8 * c) := by
    rw [BitVec.xor_comm, BitVec.xor_assoc, BitVec.xor_self]; simp
  rw [hy] at hx
  rw [hx, BitVec.xor_comm]
theorem holds_j (h : Rel row sl by8 B nb wd po tp fi la bi bo) (c : Nat) (hc : c ≤ nb) : mJoin (nI wd) bo tp fi la (mPart row sl nb (nI wd) bo fi la 0 (nI c)) (mPart row sl nb (nI wd) bo fi la (nI c) (nI nb)) (nI nb - nI c) = mChk row sl nb (nI wd) bo tp fi la 0 := by
  have hn := h.1
  rw [eq_join h, eq_part h, eq_part h, eq_chk h (by decide), rChk_in (by decide) (by decide), pk_sub hc]
  have p1 : rPart nb wd po fi la bi bo by8 0 (nI c) = rOver wd po fi la bi bo by8 0 c := by
    rw [rPart, if_neg (by decide), if_neg (show ¬ nI c < 0 from nI_pos (by omega)), if_pos (nI_le hc (by omega)), nI_clamp (by omega)]; rfl
  have p2 : rPart nb wd po fi la bi bo by8 (nI c) (nI nb) = rOver wd po fi la bi bo by8 c nb := by
    rw [rPart, if_neg (nI_pos (by omega)), if_neg (nI_nlt hc (by omega)), if_pos (nI_le (Nat.le_refl _) (by omega)), nI_clamp (by omega), nI_clamp (by omega)]
  rw [p1, p2, rJoin, if_pos (nI_pos' (by omega)), nI_clamp (by omega)]
  exact join_over h hc
theorem holds_1 (h : Rel row sl by8 B nb wd po tp fi la bi bo) : mChk row sl nb (nI wd) bo tp fi la 1 = mChk row sl nb (nI wd) bo tp fi la 0 := by
  rw [eq_chk h (by decide), eq_chk h (by decide), rChk_in (by decide) (by decide), rChk_in (by decide) (by decide)]
theorem holds_2 (h : Rel row sl by8 B nb wd po tp fi la bi bo) : mChk row sl nb (nI wd) bo tp fi la 2 = mChk row sl nb (nI wd) bo tp fi la 0 := by
  rw [eq_chk h (by decide), eq_chk h (by decide), rChk_in (by decide) (by decide), rChk_in (by decide) (by decide)]
theorem holds_3 (h : Rel row sl by8 B nb wd po tp fi la bi bo) : mChk3 row dv nb (nI wd) bo tp fi la = mChk row sl nb (nI wd) bo tp fi la 0 := by
  rw [eq_chk h (by decide), rChk_in (by decide) (by decide)]
  exact (eq_ways h).2.2.2
end
end
section
/-! What changes keep the two states beside each other. -/
/-- bit j beside bit j with place 2^k turned over -/
theorem bt_sw {M x : BitVec 64} {k : Nat} (hk : k < 3) (hM : ∀ j, j < 64 → M.getLsbD j = !j.testBit k) (j : Nat) (hj : j < 64) : (((x &&& M) <<< 2 ^ k) ||| ((x >>> 2 ^ k) &&& M)).getLsbD j = x.getLsbD (j ^^^ 2 ^ k) := by
  have key : ∀ j, j < 64 → ∀ k, k < 3 → ((j.testBit k = true → 2 ^ k ≤ j ∧ (j - 2 ^ k).testBit k = false ∧ j ^^^ 2 ^ k = j - 2 ^ k) ∧ (j.testBit k = false → j ^^^ 2 ^ k = 2 ^ k + j ∧ 2 ^ k + j < 64 ∧ (2 ^ k ≤ j → (j - 2 ^ k).testBit k = true))) := by decide +kernel
  obtain ⟨k1, k2⟩ := key j hj k hk
  rw [BitVec.getLsbD_or, BitVec.getLsbD_shiftLeft, BitVec.getLsbD_and, BitVec.getLsbD_and, BitVec.getLsbD_ushiftRight, hM j hj, hM (j - 2 ^ k) (Nat.lt_of_le_of_lt (Nat.sub_le _ _) hj)]
  have e1 : decide (j < 64) = true := by simpa using hj
  cases hb : j.testBit k with
  | true =>
    obtain ⟨a, b, c⟩ := k1 hb
    have e2 : decide (j < 2 ^ k) = false := by simp; omega
    rw [e1, e2, b, c]; simp
  | false =>
    obtain ⟨a, b, c⟩ := k2 hb
    rw [e1, a]
    rcases Nat.lt_or_ge j (2 ^ k) with q | q
    · have e2 : decide (j < 2 ^ k) = true := by simpa using q
      rw [e2]; simp
    · rw [c q]; simp
theorem mBT_bit (x : Int64) {j : Nat} (hj : j < 64) : (mBT x).toBitVec.getLsbD j = x.toBitVec.getLsbD (j ^^^ 7) := by
  have m1 : ∀ j, j < 64 → (1085102592571150095 : Int64).toBitVec.getLsbD j = !j.testBit 2 := by decide +kernel
  have m2 : ∀ j, j < 64 → (3689348814741910323 : Int64).toBitVec.getLsbD j = !j.testBit 1 := by decide +kernel
  have m3 : ∀ j, j < 64 → (6148914691236517205 : Int64).toBitVec.getLsbD j = !j.testBit 0 := by decide +kernel
  have s1 : ∀ (y : Int64) (j : Nat), j < 64 → (mBT1 y).toBitVec.getLsbD j = y.toBitVec.getLsbD (j ^^^ 4) := by
    intro y j hj
    unfold mBT1
    rw [bv_or, bv_and, show jshl (y &&& 1085102592571150095) 4 = jshl (y &&& 1085102592571150095) (nI 4) from rfl, show jushr y 4 = jushr y (nI 4) from rfl, bv_shl _ (by decide), bv_ushr _ (by decide), bv_and]
    exact bt_sw (k := 2) (by decide) m1 j hj
  have s2 : ∀ (y : Int64) (j : Nat), j < 64 → (mBT2 y).toBitVec.getLsbD j = y.toBitVec.getLsbD (j ^^^ 2) := by
    intro y j hj
    unfold mBT2
    rw [bv_or, bv_and, show jshl (y &&& 3689348814741910323) 2 = jshl (y &&& 3689348814741910323) (nI 2) from rfl, show jushr y 2 = jushr y (nI 2) from rfl, bv_shl _ (by decide), bv_ushr _ (by decide), bv_and]
    exact bt_sw (k := 1) (by decide) m2 j hj
  have s3 : ∀ (y : Int64) (j : Nat), j < 64 → (mBT3 y).toBitVec.getLsbD j = y.toBitVec.getLsbD (j ^^^ 1) := by
    intro y j hj
    unfold mBT3
    rw [bv_or, bv_and, show jshl (y &&& 6148914691236517205) 1 = jshl (y &&& 6148914691236517205) (nI 1) from rfl, show jushr y 1 = jushr y (nI 1) from rfl, bv_shl _ (by decide), bv_ushr _ (by decide), bv_and]
    exact bt_sw (k := 0) (by decide) m3 j hj
  have hx : ∀ j, j < 64 → (j ^^^ 1 < 64 ∧ j ^^^ 1 ^^^ 2 < 64 ∧ j ^^^ 1 ^^^ 2 ^^^ 4 = j ^^^ 7) := by decide +kernel
  obtain ⟨a, b, c⟩ := hx j hj
  unfold mBT
  rw [s3 _ j hj, s2 _ _ a, s1 _ _ b, c]
theorem mTrN_at (row : Nat → Int64) : ∀ k, k ≤ 625 → ∀ j, mTrN row k j = if j < k then mBT (row j) else row j := by
  intro k
  induction k with
  | zero => intro _ j; rfl
  | succ k ih =>
    intro hk j
    rw [mTrN, nI_clamp (by omega), ih (by omega) k, if_neg (Nat.lt_irrefl k)]
    rcases Nat.lt_trichotomy j k with h | h | h
    · rw [pk_uLn (by omega), ih (by omega), if_pos h, if_pos (by omega)]
    · subst h
      rw [pk_uLs, if_pos (by omega)]
    · rw [pk_uLn (by omega), ih (by omega), if_neg (by omega), if_neg (by omega)]
theorem x7 : ∀ u, u < 64 → (63 - u) ^^^ 7 = 63 - (8 * (u / 8) + (7 - u % 8)) := by decide +kernel
theorem row_turn {row : Nat → Int64} {B : Nat → Nat} {bi i0 : Int32} {nb : Nat} (hn : nb ≤ 5000) (hb : bi = 0 ∨ bi = 1) (hi : i0 = 0 ∨ i0 = 1) (hne : ¬ bi = i0) (h : rowOK row (fs B bi nb)) : rowOK (mTrN row ((nb + 7) / 8)) (fs B i0 nb) := by
  intro p hp
  unfold wb
  rw [mTrN_at row _ (by omega)]
  by_cases hc : p / 64 < (nb + 7) / 8
  · rw [if_pos hc, mBT_bit _ (by omega), x7 _ (Nat.mod_lt _ (by decide))]
    have h2 := h (8 * (p / 8) + (7 - p % 8)) (by omega)
    unfold wb at h2
    rw [show (8 * (p / 8) + (7 - p % 8)) / 64 = p / 64 by omega, show (8 * (p / 8) + (7 - p % 8)) % 64 = 8 * (p % 64 / 8) + (7 - p % 64 % 8) by omega] at h2
    rw [h2]
    unfold fs
    have e1 : decide (8 * (p / 8) + (7 - p % 8) < 8 * nb) = decide (p < 8 * nb) := decide_eq_decide.mpr (by omega)
    rw [e1, show (8 * (p / 8) + (7 - p % 8)) / 8 = p / 8 by omega, show (8 * (p / 8) + (7 - p % 8)) % 8 = 7 - p % 8 by omega]
    congr 1
    unfold cb
    rcases hb with rfl | rfl <;> rcases hi with rfl | rfl
    · exact absurd rfl hne
    · rw [if_pos rfl, if_neg (by decide), show 7 - (7 - p % 8) = p % 8 by omega]
    · rw [if_neg (by decide), if_pos rfl]
    · exact absurd rfl hne
  · rw [if_neg hc]
    have h2 := h p hp
    unfold wb at h2
    rw [h2, fs_end (by omega), fs_end (by omega)]
theorem rel_kind {row sl : Nat → Int64} {by8 : Nat → Int32} {B : Nat → Nat} {nb wd : Nat} {po tp fi la : Int64} {bi bo : Int32} (h : Rel row sl by8 B nb wd po tp fi la bi bo) {v : Nat} {p0 f0 l0 : Int64} {i0 o0 : Int32} (hv1 : 1 ≤ v) (hv : v ≤ 64) (hi : i0 = 0 ∨ i0 = 1) (ho : o0 = 0 ∨ o0 = 1) :
    Rel (if bi = i0 then row else mTrN row ((nb + 7) / 8)) (mFill (mTop (nI v) p0) sl) by8 B nb v (mLow (nI v) p0) (mTop (nI v) p0) (mLow (nI v) f0) (mLow (nI v) l0) i0 o0 := by
  obtain ⟨hn, hw1, hw, hbi, -, -, -, -, -, -, hB, hB2, hR⟩ := h
  refine ⟨hn, hv1, hv, hi, ho, ?_, ?_, ?_, ?_, mFill_ok _ _, hB, hB2, ?_⟩
  · rw [mLow_eq hv1 hv]; exact rLow_lo hv1 hv p0
  · rw [mLow_eq hv1 hv]; exact rLow_lo hv1 hv f0
  · rw [mLow_eq hv1 hv]; exact rLow_lo hv1 hv l0
  · rw [mLow_eq hv1 hv, rLow_up hv1 hv, bt_top hv1 hv]
  · split
    · rename_i e; rw [← e]; exact hR
    · rename_i e; exact row_turn hn hbi hi e hR
/-- the bytes behind a feed -/
def feB (B : Nat → Nat) (b nb t : Nat) (i : Nat) : Nat := if nb ≤ i ∧ i < nb + t then b else B i
theorem rel_feed_row {row : Nat → Int64} {B : Nat → Nat} {nb b : Nat} (bi : Int32) (hb : b < 256) (h : rowOK row (fs B bi nb)) : ∀ t, nb + t ≤ 5000 → rowOK (mFeN row (mCome bi (nI b)) nb t) (fs (feB B b nb t) bi (nb + t)) := by
  obtain ⟨z, hz, ez, hzb⟩ := come_bits bi hb
  intro t
  induction t with
  | zero =>
    intro _ p hp
    show wb row p = _
    rw [h p hp]
    unfold fs feB
    rw [if_neg (by omega)]; rfl
  | succ t ih =>
    intro ht p hp
    have ih := ih (by omega)
    rw [mFeN, nI_clamp (by omega), wb_set]
    have hB1 : ∀ i, i ≠ nb + t → feB B b nb (t + 1) i = feB B b nb t i := by
      intro i hi
      unfold feB
      by_cases q : nb ≤ i ∧ i < nb + t
      · rw [if_pos q, if_pos (by omega)]
      · rw [if_neg q, if_neg (by omega)]
    have hB3 : feB B b nb (t + 1) (nb + t) = b := by unfold feB; rw [if_pos (by omega)]
    -- what the new row must hold
    have hnew : fs (feB B b nb (t + 1)) bi (nb + (t + 1)) p = if p / 8 = nb + t then z.testBit (7 - p % 8) else fs (feB B b nb t) bi (nb + t) p := by
      by_cases q : p / 8 = nb + t
      · rw [if_pos q]
        unfold fs
        have e1 : decide (p < 8 * (nb + (t + 1))) = true := by simp; omega
        rw [e1, q, hB3, Bool.true_and]
        exact hzb _ (Nat.mod_lt _ (by decide))
      · rw [if_neg q]
        unfold fs
        have e1 : decide (p < 8 * (nb + (t + 1))) = decide (p < 8 * (nb + t)) := decide_eq_decide.mpr (by omega)
        rw [e1, hB1 _ q]
    rw [hnew]
    split
    · rename_i hw
      rw [bv_or, BitVec.getLsbD_or, mSh_eq (by omega), bv_shl _ (by omega), ez, BitVec.getLsbD_shiftLeft, BitVec.getLsbD_ofNat]
      have e9 : (mFeN row (mCome bi (nI b)) nb t ((nb + t) / 8)).toBitVec.getLsbD (63 - p % 64) = wb (mFeN row (mCome bi (nI b)) nb t) p := by unfold wb; rw [hw]
      rw [e9, ih p hp]
      have e1 : decide (63 - p % 64 < 64) = true := by simp; omega
      by_cases q : p / 8 = nb + t
      · rw [if_pos q, fs_end (by omega)]
        have e2 : decide (63 - p % 64 < 56 - 8 * ((nb + t) % 8)) = false := by simp; omega
        have e3 : decide (63 - p % 64 - (56 - 8 * ((nb + t) % 8)) < 64) = true := by simp; omega
        rw [e1, e2, e3, show 63 - p % 64 - (56 - 8 * ((nb + t) % 8)) = 7 - p % 8 by omega]; simp
      · rw [if_neg q]
        rcases Nat.lt_or_ge (63 - p % 64) (56 - 8 * ((nb + t) % 8)) with u | u
        · have e2 : decide (63 - p % 64 < 56 - 8 * ((nb + t) % 8)) = true := by simpa using u
          rw [e2]; simp
        · have e4 : z.testBit (63 - p % 64 - (56 - 8 * ((nb + t) % 8))) = false := Nat.testBit_lt_two_pow (Nat.lt_of_lt_of_le hz (Nat.pow_le_pow_right (n := 2) (i := 8) (by decide) (by omega)))
          rw [e4]; simp
    · rename_i hw
      rw [if_neg (by omega), ih p hp]
theorem rFeN_at (f : Nat → Int32) (b : Int32) (nb : Nat) : ∀ t, nb + t ≤ 5000 → ∀ i, rFeN f b nb t i = if nb ≤ i ∧ i < nb + t then b else f i := by
  intro t
  induction t with
  | zero => intro _ i; rw [if_neg (by omega)]; rfl
  | succ t ih =>
    intro ht i
    rw [rFeN, nI_clamp (by omega)]
    by_cases q : i = nb + t
    · subst q
      rw [pk_us, if_pos (by omega)]
    · rw [pk_un q, ih (by omega)]
      by_cases u : nb ≤ i ∧ i < nb + t
      · rw [if_pos u, if_pos (by omega)]
      · rw [if_neg u, if_neg (by omega)]
theorem rel_feed {row sl : Nat → Int64} {by8 : Nat → Int32} {B : Nat → Nat} {nb wd : Nat} {po tp fi la : Int64} {bi bo : Int32} (h : Rel row sl by8 B nb wd po tp fi la bi bo) {b t : Nat} (hb : b < 256) (ht : t ≤ 5000 - nb) :
    Rel (mFeN row (mCome bi (nI b)) nb t) sl (rFeN by8 (nI b) nb t) (feB B b nb t) (nb + t) wd po tp fi la bi bo := by
  obtain ⟨hn, hw1, hw, hbi, hbo, hp, hf, hl, htp, hT, hB, hB2, hR⟩ := h
  refine ⟨by omega, hw1, hw, hbi, hbo, hp, hf, hl, htp, hT, ?_, ?_, rel_feed_row bi hb hR t (by omega)⟩
  · intro i hi
    rw [rFeN_at by8 (nI b) nb t (by omega)]
    unfold feB
    by_cases u : nb ≤ i ∧ i < nb + t
    · rw [if_pos u, if_pos u]
    · rw [if_neg u, if_neg u, hB i (by omega)]
  · intro i
    unfold feB
    split
    · exact hb
    · exact hB2 i
theorem mAFN_at (f : Nat → Int64) (x : Int64) : ∀ k, k ≤ 625 → ∀ j, j < k → mAFN f x k j = x := by
  intro k
  induction k with
  | zero => intro _ j hj; omega
  | succ k ih =>
    intro hk j hj
    rw [mAFN, nI_clamp (by omega)]
    by_cases q : j = k
    · subst q; exact pk_uLs
    · rw [pk_uLn q]; exact ih (by omega) j (by omega)
theorem rel_clear {row sl : Nat → Int64} {by8 : Nat → Int32} {B : Nat → Nat} {nb wd : Nat} {po tp fi la : Int64} {bi bo : Int32} (h : Rel row sl by8 B nb wd po tp fi la bi bo) : Rel (mAFN row 0 625) sl by8 B 0 wd po tp fi la bi bo := by
  obtain ⟨hn, hw1, hw, hbi, hbo, hp, hf, hl, htp, hT, hB, hB2, hR⟩ := h
  refine ⟨by omega, hw1, hw, hbi, hbo, hp, hf, hl, htp, hT, fun i hi => by omega, hB2, fun p hp => ?_⟩
  rw [fs_end (by omega)]
  unfold wb
  rw [mAFN_at row 0 625 (by decide) _ (by omega)]
  show (0#64).getLsbD _ = _
  simp
theorem fl_0 : ∀ u, u < 8 → (128 : Int32) >>> (nI u &&& 31) = nI (2 ^ (7 - u)) := by decide +kernel
theorem fl_1 : ∀ u, u < 8 → (1 : Int32) <<< (nI u &&& 31) = nI (2 ^ u) := by decide +kernel
/-- the bytes behind a flip -/
def flB (B : Nat → Nat) (bi : Int32) (j : Nat) (i : Nat) : Nat := if i = j / 8 then B i ^^^ (if bi = 0 then 2 ^ (7 - j % 8) else 2 ^ (j % 8)) else B i
theorem rel_flip {row sl : Nat → Int64} {by8 : Nat → Int32} {B : Nat → Nat} {nb wd : Nat} {po tp fi la : Int64} {bi bo : Int32} (h : Rel row sl by8 B nb wd po tp fi la bi bo) {j : Nat} (hj : j < nb * 8) :
    Rel (mFlip row j) sl (rFlip by8 bi j) (flB B bi j) nb wd po tp fi la bi bo := by
  obtain ⟨hn, hw1, hw, hbi, hbo, hp, hf, hl, htp, hT, hB, hB2, hR⟩ := h
  have h7 : j % 8 < 8 := Nat.mod_lt _ (by decide)
  refine ⟨hn, hw1, hw, hbi, hbo, hp, hf, hl, htp, hT, ?_, ?_, ?_⟩
  · intro i hi
    unfold rFlip flB
    rw [fl_0 _ h7, fl_1 _ h7, nI_clamp (by omega), hB (j / 8) (by omega), bw_xor, bw_xor]
    by_cases q : i = j / 8
    · rw [if_pos q]
      split
      · rw [q, pk_us]
      · rw [q, pk_us]
    · rw [if_neg q]
      split
      · rw [pk_un q]; exact hB i hi
      · rw [pk_un q]; exact hB i hi
  · intro i
    unfold flB
    split
    · have a1 : 2 ^ (7 - j % 8) < 2 ^ 8 := Nat.pow_lt_pow_right (by decide) (by omega)
      have a2 : 2 ^ (j % 8) < 2 ^ 8 := Nat.pow_lt_pow_right (by decide) h7
      split
      · exact Nat.xor_lt_two_pow (n := 8) (hB2 i) a1
      · exact Nat.xor_lt_two_pow (n := 8) (hB2 i) a2
    · exact hB2 i
  · intro p hp
    have e0 : wb (mFlip row j) p = (wb row p ^^ decide (p = j)) := by
      unfold mFlip
      rw [nI_clamp (by omega), show (63 : Int32) - nI (j % 64) = nI (63 - j % 64) from pk_sub (a := 63) (by omega), wb_set]
      split
      · rename_i hq
        rw [bv_xor, BitVec.getLsbD_xor, bv_1shl (by omega)]
        have e1 : decide (63 - p % 64 = 63 - j % 64) = decide (p = j) := decide_eq_decide.mpr (by omega)
        rw [e1, ← hq]; rfl
      · have e1 : decide (p = j) = false := by simp; intro e; subst e; contradiction
        rw [e1]; simp
    rw [e0, hR p hp]
    unfold fs
    by_cases q : p < 8 * nb
    · have e1 : decide (p < 8 * nb) = true := by simpa using q
      rw [e1, Bool.true_and, Bool.true_and]
      unfold flB
      by_cases u : p / 8 = j / 8
      · rw [if_pos u]
        unfold cb
        rcases hbi with rfl | rfl
        · rw [if_pos rfl, if_pos rfl, if_pos rfl, Nat.testBit_xor, Nat.testBit_two_pow]
          congr 1
          exact decide_eq_decide.mpr (by omega)
        · rw [if_neg (by decide), if_neg (by decide), if_neg (by decide), Nat.testBit_xor, Nat.testBit_two_pow]
          congr 1
          exact decide_eq_decide.mpr (by omega)
      · rw [if_neg u]
        have e2 : decide (p = j) = false := by simp; omega
        rw [e2]; simp
    · have e1 : decide (p < 8 * nb) = false := by simpa using q
      have e2 : decide (p = j) = false := by simp; omega
      rw [e1, e2]; simp
theorem mLow32 : mLow (nI 32) (-1) = 4294967295 := by decide +kernel
theorem mLow32p : mLow (nI 32) 79764919 = 79764919 := by decide +kernel
theorem rel_init (sl : Nat → Int64) (by8 : Nat → Int32) : Rel (if (0 : Int32) = 1 then (fun _ => 0) else mTrN (fun _ => 0) ((0 + 7) / 8)) (mFill (mTop (nI 32) 79764919) sl) by8 (fun _ => 0) 0 32 79764919 (mTop (nI 32) 79764919) 4294967295 4294967295 1 1 := by
  refine ⟨by omega, by omega, by omega, Or.inr rfl, Or.inr rfl, ?_, ?_, ?_, bt_top (by decide) (by decide) _, mFill_ok _ _, fun i hi => by omega, fun _ => Nat.zero_lt_succ _, ?_⟩
  · rw [← mLow32p, mLow_eq (by decide) (by decide)]; exact rLow_lo (by decide) (by decide) _
  · rw [← mLow32, mLow_eq (by decide) (by decide)]; exact rLow_lo (by decide) (by decide) _
  · rw [← mLow32, mLow_eq (by decide) (by decide)]; exact rLow_lo (by decide) (by decide) _
  · intro p hp
    rw [if_neg (by decide), fs_end (by omega)]
    show (0#64).getLsbD _ = _
    simp
end
section
/-! THE CLAIM OUT OF ONE WALK OF THE LAW'S BODY. Your part is whole_start (and what it stands on); all else here is the same for every law, but numbers. -/
def R_law : String := "SliceChecksLaw"
def lw_P (b : Addr) (xs : List Int32) (args : Array Value) (s : State) : Prop := args = #[.ref b] ∧ s.IntsAt b xs ∧ xs.length ≤ 5120 ∧ (Jvm.Cond.and given_1 narrow_1).before args s = true
def lw_Q (_ : Array Value) (s : State) (o : Outcome) (t : State) : Prop := o = .returned (some (.int 1)) ∧ Framed s o t [] 6 8318
def lw_Z (below : List Frame) (a : Array Value) (s : State) : State → Prop := fun t => ∃ o, t.status = .running ∧ Ended t below o ∧ lw_Q a s o t
/-- the law's own end, with 1 on the stack, nothing written that was there before, its room as the claim has it -/
theorem lw_ret {p : Program} {l : Launch} {e : Env} {s : State} {m : MethodId} {below : List Frame} {meth : Method} {c : Code} {b : Nat} (hx : p.tables.exec = Jvm.exec) (hb : c.code = code) (hr : meth.sig.returnType = ret) (hlocks : meth.locks = false) {pc : Nat} {H : Heap} {ls : Array Slot} (hdg : decode code pc = .ok (.ireturn, 1)) : W p l e room_1 s m #[Value.ref b] below meth c H [] 6 8318 (lw_Z below #[Value.ref b] s) (F0 m pc ls [.int 1]) := by
  intro T hT X
  obtain ⟨fs, hret, hrun, hended, hW, hframe⟩ := X.leave (v := some (.int 1)) (hlocks := hlocks) (fun h => by rw [hr] at h; cases h)
  have hmeth' : T.vm.method? m = some meth := X.method'
  refine ⟨T.setFrames fs, ?_, .returned (some (.int 1)), hrun, hended, rfl, ⟨_, rfl⟩, hW, hframe⟩
  jvm_step X.here [X.here.top, hx, hb, hdg, hmeth', hr, ret, narrow_b1]
  (try refine ⟨rfl, ?_⟩); (try refine ⟨rfl, ?_⟩)
  first | (intro acts; rw [hret _ acts rfl rfl rfl]) | rw [hret _ _ rfl rfl rfl]
  exact Steps.refl _
/-- what holds at the law's entry: the machine, the code, the tables' words (any of lw_tbl by 'hts w (by decide +kernel)'), the script of L ints xs at the cell b, what the Statement gives of the start (any of its parts by flat_of_before) -/
def lw_At (p : Program) (s : State) (m : MethodId) (meth : Method) (c : Code) (b L : Nat) (xs : Nat → Int32) : Prop :=
  p.tables.exec = Jvm.exec ∧ c.code = code ∧ meth.sig.returnType = ret ∧ c.maxLocals = 4 ∧ s.vm.findClass R_law = some m.cls ∧ (∀ w ∈ lw_tbl, w.before #[Value.ref b] s = true) ∧ va_X b L xs s s.heap ∧ b < s.heap.size ∧ meth.locks = false ∧ (Jvm.Cond.and given_1 narrow_1).before #[Value.ref b] s = true
/-! For the law's walk. -/
def iz (x : Int32) : Int32 := if x = 0 then 0 else 1
theorem iz_01 (x : Int32) : iz x = 0 ∨ iz x = 1 := by
  unfold iz
  split
  · exact Or.inl rfl
  · exact Or.inr rfl
theorem du_sb {i L : Nat} (hiL : i + 10 ≤ L) (hLb : L ≤ 5120) (k : Nat) (hk : k < 10) : vp_in (nI i + nI k) L := by
  rw [nI_add]; exact vp_in_nI (by omega) (by omega)
theorem du_sb0 {i L : Nat} (hiL : i + 10 ≤ L) (hLb : L ≤ 5120) : vp_in (nI i) L := vp_in_nI (by omega) (by omega)
theorem du_kw (y : Int32) : (y < 1 ∨ 64 < y) ∨ ∃ v : Nat, 1 ≤ v ∧ v ≤ 64 ∧ y = nI v := by
  by_cases h1 : y < 1
  · exact Or.inl (Or.inl h1)
  · by_cases h2 : 64 < y
    · exact Or.inl (Or.inr h2)
    · have h0 : ¬ y < 0 := by
        rw [Int32.lt_iff_toInt_lt] at *
        have a : (0 : Int32).toInt = 0 := by decide
        have b : (1 : Int32).toInt = 1 := by decide
        omega
      obtain ⟨j, hj, rfl⟩ := nI_of h0
      refine Or.inr ⟨j, ?_, du_nlt (a := j) (b := 64) hj (by decide) h2, rfl⟩
      exact du_nlt (a := 1) (b := j) (by decide) hj h1
theorem du_fd {nb : Nat} (hn : nb ≤ 5000) (b t : Int32) : (mIsB b = 0 ∨ t < 1 ∨ nI (5000 - nb) < t) ∨ ∃ β τ : Nat, β < 256 ∧ 1 ≤ τ ∧ τ ≤ 5000 - nb ∧ b = nI β ∧ t = nI τ := by
  by_cases h1 : mIsB b = 0
  · exact Or.inl (Or.inl h1)
  · by_cases h2 : t < 1
    · exact Or.inl (Or.inr (Or.inl h2))
    · by_cases h3 : nI (5000 - nb) < t
      · exact Or.inl (Or.inr (Or.inr h3))
      · have h0 : ¬ t < 0 := by
          rw [Int32.lt_iff_toInt_lt] at *
          have a : (0 : Int32).toInt = 0 := by decide
          have b : (1 : Int32).toInt = 1 := by decide
          omega
        obtain ⟨τ, hτ, rfl⟩ := nI_of h0
        obtain ⟨β, hβ, rfl⟩ := isB_of h1
        exact Or.inr ⟨β, τ, hβ, du_nlt (a := 1) (b := τ) (by decide) hτ h2, du_nlt hτ (by omega) h3, rfl, rfl⟩
theorem du_fl (nb : Nat) (hn : nb ≤ 5000) (y : Int32) : (y < 0 ∨ nI (nb * 8) ≤ y) ∨ ∃ j : Nat, j < nb * 8 ∧ y = nI j := by
  by_cases h1 : y < 0
  · exact Or.inl (Or.inl h1)
  · by_cases h2 : nI (nb * 8) ≤ y
    · exact Or.inl (Or.inr h2)
    · obtain ⟨j, hj, rfl⟩ := nI_of h1
      refine Or.inr ⟨j, ?_, rfl⟩
      rcases Nat.lt_or_ge j (nb * 8) with h | h
      · exact h
      · exact absurd (nI_le h hj) h2
section
variable {p : Program} {l : Launch} {e : Env} {R : Room} {s : State} {m : MethodId} {args : Array Value} {below : List Frame} {meth : Method} {c : Code} {H : Heap} {locs : List Loc} {cells slots : Nat} {Q : State → Prop} {ls : Array Slot} {rest : List Value}
theorem du_tern {cc : ByteArray} {pc t0 tj : Nat} {off off2 : Int} {x : Int32} (hx : p.tables.exec = Jvm.exec) (hb : c.code = cc) (d0 : decode cc pc = .ok (.ifCond .eq off, 3)) (d1 : decode cc (pc + 3) = .ok (.iconst 1, 1)) (d2 : decode cc (pc + 3 + 1) = .ok (.goto off2, 3)) (d3 : decode cc t0 = .ok (.iconst 0, 1)) (h0 : (pc : Int) + off = (t0 : Int)) (h1 : ((pc + 3 + 1 : Nat) : Int) + off2 = (tj : Int)) (hj : t0 + 1 = tj) (k : W p l e R s m args below meth c H locs cells slots Q (F0 m tj ls (.int (iz x) :: rest))) : W p l e R s m args below meth c H locs cells slots Q (F0 m pc ls (.int x :: rest)) := by
  subst hj
  refine lv_if_eq hx hb d0 h0 (fun hc => ?_) (fun hc => ?_)
  · refine lv_iconst (v := 0) hx hb d3 (by decide) ?_
    have e1 : iz x = 0 := if_pos hc
    rw [e1] at k
    exact k
  · refine lv_iconst (v := 1) hx hb d1 (by decide) ?_
    have e1 : iz x = 1 := if_neg hc
    rw [e1] at k
    exact lv_goto hx hb d2 h1 k
end
/-- the law stands at pc with i ints read, and the two objects stand beside each other: it comes to its end -/
def lwG (p : Program) (l : Launch) (e : Env) (s : State) (m : MethodId) (below : List Frame) (meth : Method) (c : Code) (b : Nat) (D : va_G) (o a1 a2 a3 q b1 : Nat) (k1 k2 k3 k4 : ClassId) (i pc : Nat) : Prop :=
  ∀ (row dv sl : Nat → Int64) (by8 : Nat → Int32) (B : Nat → Nat) (nb wd : Nat) (po tp fi la : Int64) (bi bo : Int32), Rel row sl by8 B nb wd po tp fi la bi bo → ∀ (H : Heap) (locs : List Loc), va_P D vwCl (xw o a1 a2 a3 k1 k2 k3 row dv sl nb wd po tp fi la bi bo ++ mw q b1 k4 by8 wd po fi la bi bo nb) H → va_S (fun q9 : Nat => s.heap.size ≤ q9) s.heap H locs → ∀ ls : Array Slot, lv_has ls 4 [(0, .ref b), (1, .ref o), (2, .ref q), (3, .int (nI i))] → W p l e room_1 s m #[Value.ref b] below meth c H locs 6 8318 (lw_Z below #[Value.ref b] s) (F0 m pc ls [])
end
section
/-! The law, case by case; laid by wip/whole/gen_law.py. -/
set_option maxHeartbeats 4000000 in
set_option maxRecDepth 100000 in
theorem law_kind {p : Program} {l : Launch} {e : Env} {s : State} {m : MethodId} {below : List Frame} {meth : Method} {c : Code} {b L : Nat} {xs : Nat → Int32} {D : va_G} {o a1 a2 a3 q b1 : Nat} {k1 k2 k3 k4 : ClassId} {i : Nat} (C0 : lw_At p s m meth c b L xs) (hK : va_K D vwCl (xt k1 k2 k3 ++ mt k4) s) (hDa : ∀ ws : va_W, ws.map Prod.fst = [o, a1, a2, a3, q, b1] → va_D (fun q9 : Nat => s.heap.size ≤ q9) ws) (hLb : L ≤ 5120) (hiL : i + 10 ≤ L) (kk : lwG p l e s m below meth c b D o a1 a2 a3 q b1 k1 k2 k3 k4 i 703) : lwG p l e s m below meth c b D o a1 a2 a3 q b1 k1 k2 k3 k4 i 100 := by
  obtain ⟨hx, hb, hr, hml, hown, hts, hX, hbl, hlocks, hgv⟩ := C0
  have hown : s.vm.findClass RL = some m.cls := hown
  have hts := fun w h => hts w (wsL_law_in w h)
  have hA : ∀ q9 : Nat, s.heap.size ≤ q9 → (fun q9 : Nat => s.heap.size ≤ q9) q9 := fun _ h => h
  have hbA : ¬ (fun q9 : Nat => s.heap.size ≤ q9) b := Nat.not_le.mpr hbl
  intro row dv sl by8 B nb wd po tp fi la bi bo hR H locs hP hS ls hl
  have hn := hR.1
  have hw1 := hR.2.1
  have hw := hR.2.2.1
  have hD : va_D (fun q9 : Nat => s.heap.size ≤ q9) ((xw o a1 a2 a3 k1 k2 k3 row dv sl nb wd po tp fi la bi bo) ++ (mw q b1 k4 by8 wd po fi la bi bo nb)) := hDa _ rfl
  rcases du_kw (xs (nI i + 1).toNatClampNeg) with hno | ⟨v, hv1, hv, ev⟩
  ·
    refine lv_aload_n hx hb dL_law_100 rfl (lv_at hl 1 rfl) ?_
    refine lv_aload_n hx hb dL_law_101 rfl (lv_at hl 0 rfl) ?_
    refine lv_iload_n hx hb dL_law_102 rfl (lv_at hl 3 rfl) ?_
    refine lv_iconst (v := 1) hx hb dL_law_103 (by decide) ?_
    refine lv_iadd hx hb dL_law_104 ?_
    refine va_sld hx hb hX hbl hbA hS (i := (nI i) + 1) (du_sb hiL hLb 1 (by decide)) dL_law_105 ?_
    refine lv_aload_n hx hb dL_law_106 rfl (lv_at hl 0 rfl) ?_
    refine lv_iload_n hx hb dL_law_107 rfl (lv_at hl 3 rfl) ?_
    refine lv_iconst (v := 2) hx hb dL_law_108 (by decide) ?_
    refine lv_iadd hx hb dL_law_109 ?_
    refine va_sld hx hb hX hbl hbA hS (i := (nI i) + 2) (du_sb hiL hLb 2 (by decide)) dL_law_110 ?_
    refine lv_i2l (v := (xs ((nI i) + 2).toNatClampNeg).toInt64) hx hb dL_law_111 rfl ?_
    refine lv_bipush (v := 32) hx hb dL_law_112 (by decide) ?_
    refine lv_lshl (v := jshl ((xs ((nI i) + 2).toNatClampNeg).toInt64) 32) hx hb dL_law_114 rfl ?_
    refine lv_aload_n hx hb dL_law_115 rfl (lv_at hl 0 rfl) ?_
    refine lv_iload_n hx hb dL_law_116 rfl (lv_at hl 3 rfl) ?_
    refine lv_iconst (v := 3) hx hb dL_law_117 (by decide) ?_
    refine lv_iadd hx hb dL_law_118 ?_
    refine va_sld hx hb hX hbl hbA hS (i := (nI i) + 3) (du_sb hiL hLb 3 (by decide)) dL_law_119 ?_
    refine lv_i2l (v := (xs ((nI i) + 3).toNatClampNeg).toInt64) hx hb dL_law_120 rfl ?_
    refine lv_ldc2 hx hb hown (hts (.constantLong RL 13 4294967295) (by decide +kernel)) dL_law_121 ?_
    refine lv_land hx hb dL_law_124 ?_
    refine lv_lor hx hb dL_law_125 ?_
    refine lv_aload_n hx hb dL_law_126 rfl (lv_at hl 0 rfl) ?_
    refine lv_iload_n hx hb dL_law_127 rfl (lv_at hl 3 rfl) ?_
    refine lv_iconst (v := 4) hx hb dL_law_128 (by decide) ?_
    refine lv_iadd hx hb dL_law_129 ?_
    refine va_sld hx hb hX hbl hbA hS (i := (nI i) + 4) (du_sb hiL hLb 4 (by decide)) dL_law_130 ?_
    refine lv_i2l (v := (xs ((nI i) + 4).toNatClampNeg).toInt64) hx hb dL_law_131 rfl ?_
    refine lv_bipush (v := 32) hx hb dL_law_132 (by decide) ?_
    refine lv_lshl (v := jshl ((xs ((nI i) + 4).toNatClampNeg).toInt64) 32) hx hb dL_law_134 rfl ?_
    refine lv_aload_n hx hb dL_law_135 rfl (lv_at hl 0 rfl) ?_
    refine lv_iload_n hx hb dL_law_136 rfl (lv_at hl 3 rfl) ?_
    refine lv_iconst (v := 5) hx hb dL_law_137 (by decide) ?_
    refine lv_iadd hx hb dL_law_138 ?_
    refine va_sld hx hb hX hbl hbA hS (i := (nI i) + 5) (du_sb hiL hLb 5 (by decide)) dL_law_139 ?_
    refine lv_i2l (v := (xs ((nI i) + 5).toNatClampNeg).toInt64) hx hb dL_law_140 rfl ?_
    refine lv_ldc2 hx hb hown (hts (.constantLong RL 13 4294967295) (by decide +kernel)) dL_law_141 ?_
    refine lv_land hx hb dL_law_144 ?_
    refine lv_lor hx hb dL_law_145 ?_
    refine lv_aload_n hx hb dL_law_146 rfl (lv_at hl 0 rfl) ?_
    refine lv_iload_n hx hb dL_law_147 rfl (lv_at hl 3 rfl) ?_
    refine lv_bipush (v := 6) hx hb dL_law_148 (by decide) ?_
    refine lv_iadd hx hb dL_law_150 ?_
    refine va_sld hx hb hX hbl hbA hS (i := (nI i) + 6) (du_sb hiL hLb 6 (by decide)) dL_law_151 ?_
    refine du_tern (t0 := 159) (tj := 160) hx hb dL_law_152 dL_law_155 dL_law_156 dL_law_159 (by decide) (by decide) rfl ?_
    refine lv_aload_n hx hb dL_law_160 rfl (lv_at hl 0 rfl) ?_
    refine lv_iload_n hx hb dL_law_161 rfl (lv_at hl 3 rfl) ?_
    refine lv_bipush (v := 7) hx hb dL_law_162 (by decide) ?_
    refine lv_iadd hx hb dL_law_164 ?_
    refine va_sld hx hb hX hbl hbA hS (i := (nI i) + 7) (du_sb hiL hLb 7 (by decide)) dL_law_165 ?_
    refine du_tern (t0 := 173) (tj := 174) hx hb dL_law_166 dL_law_169 dL_law_170 dL_law_173 (by decide) (by decide) rfl ?_
    refine lv_aload_n hx hb dL_law_174 rfl (lv_at hl 0 rfl) ?_
    refine lv_iload_n hx hb dL_law_175 rfl (lv_at hl 3 rfl) ?_
    refine lv_bipush (v := 8) hx hb dL_law_176 (by decide) ?_
    refine lv_iadd hx hb dL_law_178 ?_
    refine va_sld hx hb hX hbl hbA hS (i := (nI i) + 8) (du_sb hiL hLb 8 (by decide)) dL_law_179 ?_
    refine lv_i2l (v := (xs ((nI i) + 8).toNatClampNeg).toInt64) hx hb dL_law_180 rfl ?_
    refine lv_bipush (v := 32) hx hb dL_law_181 (by decide) ?_
    refine lv_lshl (v := jshl ((xs ((nI i) + 8).toNatClampNeg).toInt64) 32) hx hb dL_law_183 rfl ?_
    refine lv_aload_n hx hb dL_law_184 rfl (lv_at hl 0 rfl) ?_
    refine lv_iload_n hx hb dL_law_185 rfl (lv_at hl 3 rfl) ?_
    refine lv_bipush (v := 9) hx hb dL_law_186 (by decide) ?_
    refine lv_iadd hx hb dL_law_188 ?_
    refine va_sld hx hb hX hbl hbA hS (i := (nI i) + 9) (du_sb hiL hLb 9 (by decide)) dL_law_189 ?_
    refine lv_i2l (v := (xs ((nI i) + 9).toNatClampNeg).toInt64) hx hb dL_law_190 rfl ?_
    refine lv_ldc2 hx hb hown (hts (.constantLong RL 13 4294967295) (by decide +kernel)) dL_law_191 ?_
    refine lv_land hx hb dL_law_194 ?_
    refine lv_lor hx hb dL_law_195 ?_
    refine ro_i (va_runV (As := [.int (xs ((nI i) + 1).toNatClampNeg), .long ((jshl ((xs ((nI i) + 2).toNatClampNeg).toInt64) 32) ||| (((xs ((nI i) + 3).toNatClampNeg).toInt64) &&& 4294967295)), .long ((jshl ((xs ((nI i) + 4).toNatClampNeg).toInt64) 32) ||| (((xs ((nI i) + 5).toNatClampNeg).toInt64) &&& 4294967295)), .int (iz (xs ((nI i) + 6).toNatClampNeg)), .int (iz (xs ((nI i) + 7).toNatClampNeg)), .long ((jshl ((xs ((nI i) + 8).toNatClampNeg).toInt64) 32) ||| (((xs ((nI i) + 9).toNatClampNeg).toInt64) &&& 4294967295))]) (rest := []) ⟨hx, hb, hml, hown, hts⟩ (c_kind_no (sz := H.size) (xs ((nI i) + 1).toNatClampNeg) ((jshl ((xs ((nI i) + 2).toNatClampNeg).toInt64) 32) ||| (((xs ((nI i) + 3).toNatClampNeg).toInt64) &&& 4294967295)) ((jshl ((xs ((nI i) + 4).toNatClampNeg).toInt64) 32) ||| (((xs ((nI i) + 5).toNatClampNeg).toInt64) &&& 4294967295)) (iz (xs ((nI i) + 6).toNatClampNeg)) (iz (xs ((nI i) + 7).toNatClampNeg)) ((jshl ((xs ((nI i) + 8).toNatClampNeg).toInt64) 32) ||| (((xs ((nI i) + 9).toNatClampNeg).toInt64) &&& 4294967295)) (hno)) (cwV 6 hts gL_law_X0_kind rfl rfl rfl (by decide +kernel) ⟨Nat.le_of_ble_eq_true rfl, Nat.le_of_ble_eq_true rfl⟩) (preV_RO (hP.sub (ws' := (xw o a1 a2 a3 k1 k2 k3 row dv sl nb wd po tp fi la bi bo)) [0, 1, 2, 3] rfl) (hK.sub (tys' := xt k1 k2 k3) [0, 1, 2] rfl) 0 (ci := 0) rfl rfl) rfl rfl hl.1 rfl (lv_room (Nat.le_of_ble_eq_true rfl)) dL_law_196 ⟨Nat.le_of_ble_eq_true rfl, Nat.le_of_ble_eq_true rfl⟩) hS hA hP (fun H locs hP hS => ?_)
    refine lv_aload_n hx hb dL_law_199 rfl (lv_at hl 2 rfl) ?_
    refine lv_aload_n hx hb dL_law_200 rfl (lv_at hl 0 rfl) ?_
    refine lv_iload_n hx hb dL_law_201 rfl (lv_at hl 3 rfl) ?_
    refine lv_iconst (v := 1) hx hb dL_law_202 (by decide) ?_
    refine lv_iadd hx hb dL_law_203 ?_
    refine va_sld hx hb hX hbl hbA hS (i := (nI i) + 1) (du_sb hiL hLb 1 (by decide)) dL_law_204 ?_
    refine lv_aload_n hx hb dL_law_205 rfl (lv_at hl 0 rfl) ?_
    refine lv_iload_n hx hb dL_law_206 rfl (lv_at hl 3 rfl) ?_
    refine lv_iconst (v := 2) hx hb dL_law_207 (by decide) ?_
    refine lv_iadd hx hb dL_law_208 ?_
    refine va_sld hx hb hX hbl hbA hS (i := (nI i) + 2) (du_sb hiL hLb 2 (by decide)) dL_law_209 ?_
    refine lv_i2l (v := (xs ((nI i) + 2).toNatClampNeg).toInt64) hx hb dL_law_210 rfl ?_
    refine lv_bipush (v := 32) hx hb dL_law_211 (by decide) ?_
    refine lv_lshl (v := jshl ((xs ((nI i) + 2).toNatClampNeg).toInt64) 32) hx hb dL_law_213 rfl ?_
    refine lv_aload_n hx hb dL_law_214 rfl (lv_at hl 0 rfl) ?_
    refine lv_iload_n hx hb dL_law_215 rfl (lv_at hl 3 rfl) ?_
    refine lv_iconst (v := 3) hx hb dL_law_216 (by decide) ?_
    refine lv_iadd hx hb dL_law_217 ?_
    refine va_sld hx hb hX hbl hbA hS (i := (nI i) + 3) (du_sb hiL hLb 3 (by decide)) dL_law_218 ?_
    refine lv_i2l (v := (xs ((nI i) + 3).toNatClampNeg).toInt64) hx hb dL_law_219 rfl ?_
    refine lv_ldc2 hx hb hown (hts (.constantLong RL 13 4294967295) (by decide +kernel)) dL_law_220 ?_
    refine lv_land hx hb dL_law_223 ?_
    refine lv_lor hx hb dL_law_224 ?_
    refine lv_aload_n hx hb dL_law_225 rfl (lv_at hl 0 rfl) ?_
    refine lv_iload_n hx hb dL_law_226 rfl (lv_at hl 3 rfl) ?_
    refine lv_iconst (v := 4) hx hb dL_law_227 (by decide) ?_
    refine lv_iadd hx hb dL_law_228 ?_
    refine va_sld hx hb hX hbl hbA hS (i := (nI i) + 4) (du_sb hiL hLb 4 (by decide)) dL_law_229 ?_
    refine lv_i2l (v := (xs ((nI i) + 4).toNatClampNeg).toInt64) hx hb dL_law_230 rfl ?_
    refine lv_bipush (v := 32) hx hb dL_law_231 (by decide) ?_
    refine lv_lshl (v := jshl ((xs ((nI i) + 4).toNatClampNeg).toInt64) 32) hx hb dL_law_233 rfl ?_
    refine lv_aload_n hx hb dL_law_234 rfl (lv_at hl 0 rfl) ?_
    refine lv_iload_n hx hb dL_law_235 rfl (lv_at hl 3 rfl) ?_
    refine lv_iconst (v := 5) hx hb dL_law_236 (by decide) ?_
    refine lv_iadd hx hb dL_law_237 ?_
    refine va_sld hx hb hX hbl hbA hS (i := (nI i) + 5) (du_sb hiL hLb 5 (by decide)) dL_law_238 ?_
    refine lv_i2l (v := (xs ((nI i) + 5).toNatClampNeg).toInt64) hx hb dL_law_239 rfl ?_
    refine lv_ldc2 hx hb hown (hts (.constantLong RL 13 4294967295) (by decide +kernel)) dL_law_240 ?_
    refine lv_land hx hb dL_law_243 ?_
    refine lv_lor hx hb dL_law_244 ?_
    refine lv_aload_n hx hb dL_law_245 rfl (lv_at hl 0 rfl) ?_
    refine lv_iload_n hx hb dL_law_246 rfl (lv_at hl 3 rfl) ?_
    refine lv_bipush (v := 6) hx hb dL_law_247 (by decide) ?_
    refine lv_iadd hx hb dL_law_249 ?_
    refine va_sld hx hb hX hbl hbA hS (i := (nI i) + 6) (du_sb hiL hLb 6 (by decide)) dL_law_250 ?_
    refine du_tern (t0 := 258) (tj := 259) hx hb dL_law_251 dL_law_254 dL_law_255 dL_law_258 (by decide) (by decide) rfl ?_
    refine lv_aload_n hx hb dL_law_259 rfl (lv_at hl 0 rfl) ?_
    refine lv_iload_n hx hb dL_law_260 rfl (lv_at hl 3 rfl) ?_
    refine lv_bipush (v := 7) hx hb dL_law_261 (by decide) ?_
    refine lv_iadd hx hb dL_law_263 ?_
    refine va_sld hx hb hX hbl hbA hS (i := (nI i) + 7) (du_sb hiL hLb 7 (by decide)) dL_law_264 ?_
    refine du_tern (t0 := 272) (tj := 273) hx hb dL_law_265 dL_law_268 dL_law_269 dL_law_272 (by decide) (by decide) rfl ?_
    refine lv_aload_n hx hb dL_law_273 rfl (lv_at hl 0 rfl) ?_
    refine lv_iload_n hx hb dL_law_274 rfl (lv_at hl 3 rfl) ?_
    refine lv_bipush (v := 8) hx hb dL_law_275 (by decide) ?_
    refine lv_iadd hx hb dL_law_277 ?_
    refine va_sld hx hb hX hbl hbA hS (i := (nI i) + 8) (du_sb hiL hLb 8 (by decide)) dL_law_278 ?_
    refine lv_i2l (v := (xs ((nI i) + 8).toNatClampNeg).toInt64) hx hb dL_law_279 rfl ?_
    refine lv_bipush (v := 32) hx hb dL_law_280 (by decide) ?_
    refine lv_lshl (v := jshl ((xs ((nI i) + 8).toNatClampNeg).toInt64) 32) hx hb dL_law_282 rfl ?_
    refine lv_aload_n hx hb dL_law_283 rfl (lv_at hl 0 rfl) ?_
    refine lv_iload_n hx hb dL_law_284 rfl (lv_at hl 3 rfl) ?_
    refine lv_bipush (v := 9) hx hb dL_law_285 (by decide) ?_
    refine lv_iadd hx hb dL_law_287 ?_
    refine va_sld hx hb hX hbl hbA hS (i := (nI i) + 9) (du_sb hiL hLb 9 (by decide)) dL_law_288 ?_
    refine lv_i2l (v := (xs ((nI i) + 9).toNatClampNeg).toInt64) hx hb dL_law_289 rfl ?_
    refine lv_ldc2 hx hb hown (hts (.constantLong RL 13 4294967295) (by decide +kernel)) dL_law_290 ?_
    refine lv_land hx hb dL_law_293 ?_
    refine lv_lor hx hb dL_law_294 ?_
    refine ro_i (va_runV (As := [.int (xs ((nI i) + 1).toNatClampNeg), .long ((jshl ((xs ((nI i) + 2).toNatClampNeg).toInt64) 32) ||| (((xs ((nI i) + 3).toNatClampNeg).toInt64) &&& 4294967295)), .long ((jshl ((xs ((nI i) + 4).toNatClampNeg).toInt64) 32) ||| (((xs ((nI i) + 5).toNatClampNeg).toInt64) &&& 4294967295)), .int (iz (xs ((nI i) + 6).toNatClampNeg)), .int (iz (xs ((nI i) + 7).toNatClampNeg)), .long ((jshl ((xs ((nI i) + 8).toNatClampNeg).toInt64) 32) ||| (((xs ((nI i) + 9).toNatClampNeg).toInt64) &&& 4294967295))]) (rest := [.int 0]) ⟨hx, hb, hml, hown, hts⟩ (r_kind_no (sz := H.size) (xs ((nI i) + 1).toNatClampNeg) ((jshl ((xs ((nI i) + 2).toNatClampNeg).toInt64) 32) ||| (((xs ((nI i) + 3).toNatClampNeg).toInt64) &&& 4294967295)) ((jshl ((xs ((nI i) + 4).toNatClampNeg).toInt64) 32) ||| (((xs ((nI i) + 5).toNatClampNeg).toInt64) &&& 4294967295)) (iz (xs ((nI i) + 6).toNatClampNeg)) (iz (xs ((nI i) + 7).toNatClampNeg)) ((jshl ((xs ((nI i) + 8).toNatClampNeg).toInt64) 32) ||| (((xs ((nI i) + 9).toNatClampNeg).toInt64) &&& 4294967295)) (hno)) (cwV 6 hts gL_law_X1_kind rfl rfl rfl (by decide +kernel) ⟨Nat.le_of_ble_eq_true rfl, Nat.le_of_ble_eq_true rfl⟩) (preV_RO (hP.sub (ws' := (mw q b1 k4 by8 wd po fi la bi bo nb)) [4, 5] rfl) (hK.sub (tys' := mt k4) [3] rfl) 0 (ci := 1) rfl rfl) rfl rfl hl.1 rfl (lv_room (Nat.le_of_ble_eq_true rfl)) dL_law_295 ⟨Nat.le_of_ble_eq_true rfl, Nat.le_of_ble_eq_true rfl⟩) hS hA hP (fun H locs hP hS => ?_)
    refine lv_icmp_eq (tgt := 703) hx hb dL_law_298 (by decide) (fun c_298 => ?_) (fun c_298 => ?_)
    ·
      exact kk row dv sl by8 B nb wd po tp fi la bi bo (hR) H locs hP hS ls (lv_sub hl [0, 1, 2, 3] rfl)
    ·
      exact absurd (rfl) c_298
  ·
    refine lv_aload_n hx hb dL_law_100 rfl (lv_at hl 1 rfl) ?_
    refine lv_aload_n hx hb dL_law_101 rfl (lv_at hl 0 rfl) ?_
    refine lv_iload_n hx hb dL_law_102 rfl (lv_at hl 3 rfl) ?_
    refine lv_iconst (v := 1) hx hb dL_law_103 (by decide) ?_
    refine lv_iadd hx hb dL_law_104 ?_
    refine va_sld hx hb hX hbl hbA hS (i := (nI i) + 1) (du_sb hiL hLb 1 (by decide)) dL_law_105 ?_
    refine du_rwi (y := nI v) (ev) ?_
    refine lv_aload_n hx hb dL_law_106 rfl (lv_at hl 0 rfl) ?_
    refine lv_iload_n hx hb dL_law_107 rfl (lv_at hl 3 rfl) ?_
    refine lv_iconst (v := 2) hx hb dL_law_108 (by decide) ?_
    refine lv_iadd hx hb dL_law_109 ?_
    refine va_sld hx hb hX hbl hbA hS (i := (nI i) + 2) (du_sb hiL hLb 2 (by decide)) dL_law_110 ?_
    refine lv_i2l (v := (xs ((nI i) + 2).toNatClampNeg).toInt64) hx hb dL_law_111 rfl ?_
    refine lv_bipush (v := 32) hx hb dL_law_112 (by decide) ?_
    refine lv_lshl (v := jshl ((xs ((nI i) + 2).toNatClampNeg).toInt64) 32) hx hb dL_law_114 rfl ?_
    refine lv_aload_n hx hb dL_law_115 rfl (lv_at hl 0 rfl) ?_
    refine lv_iload_n hx hb dL_law_116 rfl (lv_at hl 3 rfl) ?_
    refine lv_iconst (v := 3) hx hb dL_law_117 (by decide) ?_
    refine lv_iadd hx hb dL_law_118 ?_
    refine va_sld hx hb hX hbl hbA hS (i := (nI i) + 3) (du_sb hiL hLb 3 (by decide)) dL_law_119 ?_
    refine lv_i2l (v := (xs ((nI i) + 3).toNatClampNeg).toInt64) hx hb dL_law_120 rfl ?_
    refine lv_ldc2 hx hb hown (hts (.constantLong RL 13 4294967295) (by decide +kernel)) dL_law_121 ?_
    refine lv_land hx hb dL_law_124 ?_
    refine lv_lor hx hb dL_law_125 ?_
    refine lv_aload_n hx hb dL_law_126 rfl (lv_at hl 0 rfl) ?_
    refine lv_iload_n hx hb dL_law_127 rfl (lv_at hl 3 rfl) ?_
    refine lv_iconst (v := 4) hx hb dL_law_128 (by decide) ?_
    refine lv_iadd hx hb dL_law_129 ?_
    refine va_sld hx hb hX hbl hbA hS (i := (nI i) + 4) (du_sb hiL hLb 4 (by decide)) dL_law_130 ?_
    refine lv_i2l (v := (xs ((nI i) + 4).toNatClampNeg).toInt64) hx hb dL_law_131 rfl ?_
    refine lv_bipush (v := 32) hx hb dL_law_132 (by decide) ?_
    refine lv_lshl (v := jshl ((xs ((nI i) + 4).toNatClampNeg).toInt64) 32) hx hb dL_law_134 rfl ?_
    refine lv_aload_n hx hb dL_law_135 rfl (lv_at hl 0 rfl) ?_
    refine lv_iload_n hx hb dL_law_136 rfl (lv_at hl 3 rfl) ?_
    refine lv_iconst (v := 5) hx hb dL_law_137 (by decide) ?_
    refine lv_iadd hx hb dL_law_138 ?_
    refine va_sld hx hb hX hbl hbA hS (i := (nI i) + 5) (du_sb hiL hLb 5 (by decide)) dL_law_139 ?_
    refine lv_i2l (v := (xs ((nI i) + 5).toNatClampNeg).toInt64) hx hb dL_law_140 rfl ?_
    refine lv_ldc2 hx hb hown (hts (.constantLong RL 13 4294967295) (by decide +kernel)) dL_law_141 ?_
    refine lv_land hx hb dL_law_144 ?_
    refine lv_lor hx hb dL_law_145 ?_
    refine lv_aload_n hx hb dL_law_146 rfl (lv_at hl 0 rfl) ?_
    refine lv_iload_n hx hb dL_law_147 rfl (lv_at hl 3 rfl) ?_
    refine lv_bipush (v := 6) hx hb dL_law_148 (by decide) ?_
    refine lv_iadd hx hb dL_law_150 ?_
    refine va_sld hx hb hX hbl hbA hS (i := (nI i) + 6) (du_sb hiL hLb 6 (by decide)) dL_law_151 ?_
    refine du_tern (t0 := 159) (tj := 160) hx hb dL_law_152 dL_law_155 dL_law_156 dL_law_159 (by decide) (by decide) rfl ?_
    refine lv_aload_n hx hb dL_law_160 rfl (lv_at hl 0 rfl) ?_
    refine lv_iload_n hx hb dL_law_161 rfl (lv_at hl 3 rfl) ?_
    refine lv_bipush (v := 7) hx hb dL_law_162 (by decide) ?_
    refine lv_iadd hx hb dL_law_164 ?_
    refine va_sld hx hb hX hbl hbA hS (i := (nI i) + 7) (du_sb hiL hLb 7 (by decide)) dL_law_165 ?_
    refine du_tern (t0 := 173) (tj := 174) hx hb dL_law_166 dL_law_169 dL_law_170 dL_law_173 (by decide) (by decide) rfl ?_
    refine lv_aload_n hx hb dL_law_174 rfl (lv_at hl 0 rfl) ?_
    refine lv_iload_n hx hb dL_law_175 rfl (lv_at hl 3 rfl) ?_
    refine lv_bipush (v := 8) hx hb dL_law_176 (by decide) ?_
    refine lv_iadd hx hb dL_law_178 ?_
    refine va_sld hx hb hX hbl hbA hS (i := (nI i) + 8) (du_sb hiL hLb 8 (by decide)) dL_law_179 ?_
    refine lv_i2l (v := (xs ((nI i) + 8).toNatClampNeg).toInt64) hx hb dL_law_180 rfl ?_
    refine lv_bipush (v := 32) hx hb dL_law_181 (by decide) ?_
    refine lv_lshl (v := jshl ((xs ((nI i) + 8).toNatClampNeg).toInt64) 32) hx hb dL_law_183 rfl ?_
    refine lv_aload_n hx hb dL_law_184 rfl (lv_at hl 0 rfl) ?_
    refine lv_iload_n hx hb dL_law_185 rfl (lv_at hl 3 rfl) ?_
    refine lv_bipush (v := 9) hx hb dL_law_186 (by decide) ?_
    refine lv_iadd hx hb dL_law_188 ?_
    refine va_sld hx hb hX hbl hbA hS (i := (nI i) + 9) (du_sb hiL hLb 9 (by decide)) dL_law_189 ?_
    refine lv_i2l (v := (xs ((nI i) + 9).toNatClampNeg).toInt64) hx hb dL_law_190 rfl ?_
    refine lv_ldc2 hx hb hown (hts (.constantLong RL 13 4294967295) (by decide +kernel)) dL_law_191 ?_
    refine lv_land hx hb dL_law_194 ?_
    refine lv_lor hx hb dL_law_195 ?_
    refine mu_i (ws := (xw o a1 a2 a3 k1 k2 k3 row dv sl nb wd po tp fi la bi bo)) (ws' := (xw o a1 a2 a3 k1 k2 k3 (if bi = (iz (xs ((nI i) + 6).toNatClampNeg)) then row else mTrN row ((nb + 7) / 8)) dv (mFill (mTop (nI v) ((jshl ((xs ((nI i) + 2).toNatClampNeg).toInt64) 32) ||| (((xs ((nI i) + 3).toNatClampNeg).toInt64) &&& 4294967295))) sl) nb v (mLow (nI v) ((jshl ((xs ((nI i) + 2).toNatClampNeg).toInt64) 32) ||| (((xs ((nI i) + 3).toNatClampNeg).toInt64) &&& 4294967295))) (mTop (nI v) ((jshl ((xs ((nI i) + 2).toNatClampNeg).toInt64) 32) ||| (((xs ((nI i) + 3).toNatClampNeg).toInt64) &&& 4294967295))) (mLow (nI v) ((jshl ((xs ((nI i) + 4).toNatClampNeg).toInt64) 32) ||| (((xs ((nI i) + 5).toNatClampNeg).toInt64) &&& 4294967295))) (mLow (nI v) ((jshl ((xs ((nI i) + 8).toNatClampNeg).toInt64) 32) ||| (((xs ((nI i) + 9).toNatClampNeg).toInt64) &&& 4294967295))) (iz (xs ((nI i) + 6).toNatClampNeg)) (iz (xs ((nI i) + 7).toNatClampNeg)))) (wr := (mw q b1 k4 by8 wd po fi la bi bo nb)) (va_runV (As := [.int (nI v), .long ((jshl ((xs ((nI i) + 2).toNatClampNeg).toInt64) 32) ||| (((xs ((nI i) + 3).toNatClampNeg).toInt64) &&& 4294967295)), .long ((jshl ((xs ((nI i) + 4).toNatClampNeg).toInt64) 32) ||| (((xs ((nI i) + 5).toNatClampNeg).toInt64) &&& 4294967295)), .int (iz (xs ((nI i) + 6).toNatClampNeg)), .int (iz (xs ((nI i) + 7).toNatClampNeg)), .long ((jshl ((xs ((nI i) + 8).toNatClampNeg).toInt64) 32) ||| (((xs ((nI i) + 9).toNatClampNeg).toInt64) &&& 4294967295))]) (rest := []) ⟨hx, hb, hml, hown, hts⟩ (c_kind (sz := H.size) v ((jshl ((xs ((nI i) + 2).toNatClampNeg).toInt64) 32) ||| (((xs ((nI i) + 3).toNatClampNeg).toInt64) &&& 4294967295)) ((jshl ((xs ((nI i) + 4).toNatClampNeg).toInt64) 32) ||| (((xs ((nI i) + 5).toNatClampNeg).toInt64) &&& 4294967295)) (iz (xs ((nI i) + 6).toNatClampNeg)) (iz (xs ((nI i) + 7).toNatClampNeg)) ((jshl ((xs ((nI i) + 8).toNatClampNeg).toInt64) 32) ||| (((xs ((nI i) + 9).toNatClampNeg).toInt64) &&& 4294967295)) (hv1) (hv) (hn) (iz_01 _) (iz_01 _)) (cwV 6 hts gL_law_X0_kind rfl rfl rfl (by decide +kernel) ⟨Nat.le_of_ble_eq_true rfl, Nat.le_of_ble_eq_true rfl⟩) (preV_MU (hP.sub (ws' := (xw o a1 a2 a3 k1 k2 k3 row dv sl nb wd po tp fi la bi bo)) [0, 1, 2, 3] rfl) (hK.sub (tys' := xt k1 k2 k3) [0, 1, 2] rfl) (hD.sub (ws' := (xw o a1 a2 a3 k1 k2 k3 row dv sl nb wd po tp fi la bi bo)) [0, 1, 2, 3] (by decide) rfl) 0 (ci := 0) rfl rfl) rfl rfl hl.1 rfl (lv_room (Nat.le_of_ble_eq_true rfl)) dL_law_196 ⟨Nat.le_of_ble_eq_true rfl, Nat.le_of_ble_eq_true rfl⟩) hS hA hP hD rfl (fun H locs hP hD hS => ?_)
    refine lv_aload_n hx hb dL_law_199 rfl (lv_at hl 2 rfl) ?_
    refine lv_aload_n hx hb dL_law_200 rfl (lv_at hl 0 rfl) ?_
    refine lv_iload_n hx hb dL_law_201 rfl (lv_at hl 3 rfl) ?_
    refine lv_iconst (v := 1) hx hb dL_law_202 (by decide) ?_
    refine lv_iadd hx hb dL_law_203 ?_
    refine va_sld hx hb hX hbl hbA hS (i := (nI i) + 1) (du_sb hiL hLb 1 (by decide)) dL_law_204 ?_
    refine du_rwi (y := nI v) (ev) ?_
    refine lv_aload_n hx hb dL_law_205 rfl (lv_at hl 0 rfl) ?_
    refine lv_iload_n hx hb dL_law_206 rfl (lv_at hl 3 rfl) ?_
    refine lv_iconst (v := 2) hx hb dL_law_207 (by decide) ?_
    refine lv_iadd hx hb dL_law_208 ?_
    refine va_sld hx hb hX hbl hbA hS (i := (nI i) + 2) (du_sb hiL hLb 2 (by decide)) dL_law_209 ?_
    refine lv_i2l (v := (xs ((nI i) + 2).toNatClampNeg).toInt64) hx hb dL_law_210 rfl ?_
    refine lv_bipush (v := 32) hx hb dL_law_211 (by decide) ?_
    refine lv_lshl (v := jshl ((xs ((nI i) + 2).toNatClampNeg).toInt64) 32) hx hb dL_law_213 rfl ?_
    refine lv_aload_n hx hb dL_law_214 rfl (lv_at hl 0 rfl) ?_
    refine lv_iload_n hx hb dL_law_215 rfl (lv_at hl 3 rfl) ?_
    refine lv_iconst (v := 3) hx hb dL_law_216 (by decide) ?_
    refine lv_iadd hx hb dL_law_217 ?_
    refine va_sld hx hb hX hbl hbA hS (i := (nI i) + 3) (du_sb hiL hLb 3 (by decide)) dL_law_218 ?_
    refine lv_i2l (v := (xs ((nI i) + 3).toNatClampNeg).toInt64) hx hb dL_law_219 rfl ?_
    refine lv_ldc2 hx hb hown (hts (.constantLong RL 13 4294967295) (by decide +kernel)) dL_law_220 ?_
    refine lv_land hx hb dL_law_223 ?_
    refine lv_lor hx hb dL_law_224 ?_
    refine lv_aload_n hx hb dL_law_225 rfl (lv_at hl 0 rfl) ?_
    refine lv_iload_n hx hb dL_law_226 rfl (lv_at hl 3 rfl) ?_
    refine lv_iconst (v := 4) hx hb dL_law_227 (by decide) ?_
    refine lv_iadd hx hb dL_law_228 ?_
    refine va_sld hx hb hX hbl hbA hS (i := (nI i) + 4) (du_sb hiL hLb 4 (by decide)) dL_law_229 ?_
    refine lv_i2l (v := (xs ((nI i) + 4).toNatClampNeg).toInt64) hx hb dL_law_230 rfl ?_
    refine lv_bipush (v := 32) hx hb dL_law_231 (by decide) ?_
    refine lv_lshl (v := jshl ((xs ((nI i) + 4).toNatClampNeg).toInt64) 32) hx hb dL_law_233 rfl ?_
    refine lv_aload_n hx hb dL_law_234 rfl (lv_at hl 0 rfl) ?_
    refine lv_iload_n hx hb dL_law_235 rfl (lv_at hl 3 rfl) ?_
    refine lv_iconst (v := 5) hx hb dL_law_236 (by decide) ?_
    refine lv_iadd hx hb dL_law_237 ?_
    refine va_sld hx hb hX hbl hbA hS (i := (nI i) + 5) (du_sb hiL hLb 5 (by decide)) dL_law_238 ?_
    refine lv_i2l (v := (xs ((nI i) + 5).toNatClampNeg).toInt64) hx hb dL_law_239 rfl ?_
    refine lv_ldc2 hx hb hown (hts (.constantLong RL 13 4294967295) (by decide +kernel)) dL_law_240 ?_
    refine lv_land hx hb dL_law_243 ?_
    refine lv_lor hx hb dL_law_244 ?_
    refine lv_aload_n hx hb dL_law_245 rfl (lv_at hl 0 rfl) ?_
    refine lv_iload_n hx hb dL_law_246 rfl (lv_at hl 3 rfl) ?_
    refine lv_bipush (v := 6) hx hb dL_law_247 (by decide) ?_
    refine lv_iadd hx hb dL_law_249 ?_
    refine va_sld hx hb hX hbl hbA hS (i := (nI i) + 6) (du_sb hiL hLb 6 (by decide)) dL_law_250 ?_
    refine du_tern (t0 := 258) (tj := 259) hx hb dL_law_251 dL_law_254 dL_law_255 dL_law_258 (by decide) (by decide) rfl ?_
    refine lv_aload_n hx hb dL_law_259 rfl (lv_at hl 0 rfl) ?_
    refine lv_iload_n hx hb dL_law_260 rfl (lv_at hl 3 rfl) ?_
    refine lv_bipush (v := 7) hx hb dL_law_261 (by decide) ?_
    refine lv_iadd hx hb dL_law_263 ?_
    refine va_sld hx hb hX hbl hbA hS (i := (nI i) + 7) (du_sb hiL hLb 7 (by decide)) dL_law_264 ?_
    refine du_tern (t0 := 272) (tj := 273) hx hb dL_law_265 dL_law_268 dL_law_269 dL_law_272 (by decide) (by decide) rfl ?_
    refine lv_aload_n hx hb dL_law_273 rfl (lv_at hl 0 rfl) ?_
    refine lv_iload_n hx hb dL_law_274 rfl (lv_at hl 3 rfl) ?_
    refine lv_bipush (v := 8) hx hb dL_law_275 (by decide) ?_
    refine lv_iadd hx hb dL_law_277 ?_
    refine va_sld hx hb hX hbl hbA hS (i := (nI i) + 8) (du_sb hiL hLb 8 (by decide)) dL_law_278 ?_
    refine lv_i2l (v := (xs ((nI i) + 8).toNatClampNeg).toInt64) hx hb dL_law_279 rfl ?_
    refine lv_bipush (v := 32) hx hb dL_law_280 (by decide) ?_
    refine lv_lshl (v := jshl ((xs ((nI i) + 8).toNatClampNeg).toInt64) 32) hx hb dL_law_282 rfl ?_
    refine lv_aload_n hx hb dL_law_283 rfl (lv_at hl 0 rfl) ?_
    refine lv_iload_n hx hb dL_law_284 rfl (lv_at hl 3 rfl) ?_
    refine lv_bipush (v := 9) hx hb dL_law_285 (by decide) ?_
    refine lv_iadd hx hb dL_law_287 ?_
    refine va_sld hx hb hX hbl hbA hS (i := (nI i) + 9) (du_sb hiL hLb 9 (by decide)) dL_law_288 ?_
    refine lv_i2l (v := (xs ((nI i) + 9).toNatClampNeg).toInt64) hx hb dL_law_289 rfl ?_
    refine lv_ldc2 hx hb hown (hts (.constantLong RL 13 4294967295) (by decide +kernel)) dL_law_290 ?_
    refine lv_land hx hb dL_law_293 ?_
    refine lv_lor hx hb dL_law_294 ?_
    refine mu_i (ws := (mw q b1 k4 by8 wd po fi la bi bo nb)) (ws' := (mw q b1 k4 by8 v (rLow ((jshl ((xs ((nI i) + 2).toNatClampNeg).toInt64) 32) ||| (((xs ((nI i) + 3).toNatClampNeg).toInt64) &&& 4294967295)) (nI v)) (rLow ((jshl ((xs ((nI i) + 4).toNatClampNeg).toInt64) 32) ||| (((xs ((nI i) + 5).toNatClampNeg).toInt64) &&& 4294967295)) (nI v)) (rLow ((jshl ((xs ((nI i) + 8).toNatClampNeg).toInt64) 32) ||| (((xs ((nI i) + 9).toNatClampNeg).toInt64) &&& 4294967295)) (nI v)) (iz (xs ((nI i) + 6).toNatClampNeg)) (iz (xs ((nI i) + 7).toNatClampNeg)) nb)) (wr := (xw o a1 a2 a3 k1 k2 k3 (if bi = (iz (xs ((nI i) + 6).toNatClampNeg)) then row else mTrN row ((nb + 7) / 8)) dv (mFill (mTop (nI v) ((jshl ((xs ((nI i) + 2).toNatClampNeg).toInt64) 32) ||| (((xs ((nI i) + 3).toNatClampNeg).toInt64) &&& 4294967295))) sl) nb v (mLow (nI v) ((jshl ((xs ((nI i) + 2).toNatClampNeg).toInt64) 32) ||| (((xs ((nI i) + 3).toNatClampNeg).toInt64) &&& 4294967295))) (mTop (nI v) ((jshl ((xs ((nI i) + 2).toNatClampNeg).toInt64) 32) ||| (((xs ((nI i) + 3).toNatClampNeg).toInt64) &&& 4294967295))) (mLow (nI v) ((jshl ((xs ((nI i) + 4).toNatClampNeg).toInt64) 32) ||| (((xs ((nI i) + 5).toNatClampNeg).toInt64) &&& 4294967295))) (mLow (nI v) ((jshl ((xs ((nI i) + 8).toNatClampNeg).toInt64) 32) ||| (((xs ((nI i) + 9).toNatClampNeg).toInt64) &&& 4294967295))) (iz (xs ((nI i) + 6).toNatClampNeg)) (iz (xs ((nI i) + 7).toNatClampNeg)))) (va_runV (As := [.int (nI v), .long ((jshl ((xs ((nI i) + 2).toNatClampNeg).toInt64) 32) ||| (((xs ((nI i) + 3).toNatClampNeg).toInt64) &&& 4294967295)), .long ((jshl ((xs ((nI i) + 4).toNatClampNeg).toInt64) 32) ||| (((xs ((nI i) + 5).toNatClampNeg).toInt64) &&& 4294967295)), .int (iz (xs ((nI i) + 6).toNatClampNeg)), .int (iz (xs ((nI i) + 7).toNatClampNeg)), .long ((jshl ((xs ((nI i) + 8).toNatClampNeg).toInt64) 32) ||| (((xs ((nI i) + 9).toNatClampNeg).toInt64) &&& 4294967295))]) (rest := [.int 1]) ⟨hx, hb, hml, hown, hts⟩ (r_kind (sz := H.size) v ((jshl ((xs ((nI i) + 2).toNatClampNeg).toInt64) 32) ||| (((xs ((nI i) + 3).toNatClampNeg).toInt64) &&& 4294967295)) ((jshl ((xs ((nI i) + 4).toNatClampNeg).toInt64) 32) ||| (((xs ((nI i) + 5).toNatClampNeg).toInt64) &&& 4294967295)) (iz (xs ((nI i) + 6).toNatClampNeg)) (iz (xs ((nI i) + 7).toNatClampNeg)) ((jshl ((xs ((nI i) + 8).toNatClampNeg).toInt64) 32) ||| (((xs ((nI i) + 9).toNatClampNeg).toInt64) &&& 4294967295)) (hv1) (hv) (iz_01 _) (iz_01 _)) (cwV 6 hts gL_law_X1_kind rfl rfl rfl (by decide +kernel) ⟨Nat.le_of_ble_eq_true rfl, Nat.le_of_ble_eq_true rfl⟩) (preV_MU (hP.sub (ws' := (mw q b1 k4 by8 wd po fi la bi bo nb)) [4, 5] rfl) (hK.sub (tys' := mt k4) [3] rfl) (hD.sub (ws' := (mw q b1 k4 by8 wd po fi la bi bo nb)) [4, 5] (by decide) rfl) 0 (ci := 1) rfl rfl) rfl rfl hl.1 rfl (lv_room (Nat.le_of_ble_eq_true rfl)) dL_law_295 ⟨Nat.le_of_ble_eq_true rfl, Nat.le_of_ble_eq_true rfl⟩) hS hA (hP.sub [4, 5, 0, 1, 2, 3] rfl) (hD.sub [4, 5, 0, 1, 2, 3] (by decide) rfl) rfl (fun H locs hP hD hS => ?_)
    have hP : va_P D vwCl ((xw o a1 a2 a3 k1 k2 k3 (if bi = (iz (xs ((nI i) + 6).toNatClampNeg)) then row else mTrN row ((nb + 7) / 8)) dv (mFill (mTop (nI v) ((jshl ((xs ((nI i) + 2).toNatClampNeg).toInt64) 32) ||| (((xs ((nI i) + 3).toNatClampNeg).toInt64) &&& 4294967295))) sl) nb v (mLow (nI v) ((jshl ((xs ((nI i) + 2).toNatClampNeg).toInt64) 32) ||| (((xs ((nI i) + 3).toNatClampNeg).toInt64) &&& 4294967295))) (mTop (nI v) ((jshl ((xs ((nI i) + 2).toNatClampNeg).toInt64) 32) ||| (((xs ((nI i) + 3).toNatClampNeg).toInt64) &&& 4294967295))) (mLow (nI v) ((jshl ((xs ((nI i) + 4).toNatClampNeg).toInt64) 32) ||| (((xs ((nI i) + 5).toNatClampNeg).toInt64) &&& 4294967295))) (mLow (nI v) ((jshl ((xs ((nI i) + 8).toNatClampNeg).toInt64) 32) ||| (((xs ((nI i) + 9).toNatClampNeg).toInt64) &&& 4294967295))) (iz (xs ((nI i) + 6).toNatClampNeg)) (iz (xs ((nI i) + 7).toNatClampNeg))) ++ (mw q b1 k4 by8 v (rLow ((jshl ((xs ((nI i) + 2).toNatClampNeg).toInt64) 32) ||| (((xs ((nI i) + 3).toNatClampNeg).toInt64) &&& 4294967295)) (nI v)) (rLow ((jshl ((xs ((nI i) + 4).toNatClampNeg).toInt64) 32) ||| (((xs ((nI i) + 5).toNatClampNeg).toInt64) &&& 4294967295)) (nI v)) (rLow ((jshl ((xs ((nI i) + 8).toNatClampNeg).toInt64) 32) ||| (((xs ((nI i) + 9).toNatClampNeg).toInt64) &&& 4294967295)) (nI v)) (iz (xs ((nI i) + 6).toNatClampNeg)) (iz (xs ((nI i) + 7).toNatClampNeg)) nb)) H := hP.sub [2, 3, 4, 5, 0, 1] rfl
    have hD : va_D (fun q9 : Nat => s.heap.size ≤ q9) ((xw o a1 a2 a3 k1 k2 k3 (if bi = (iz (xs ((nI i) + 6).toNatClampNeg)) then row else mTrN row ((nb + 7) / 8)) dv (mFill (mTop (nI v) ((jshl ((xs ((nI i) + 2).toNatClampNeg).toInt64) 32) ||| (((xs ((nI i) + 3).toNatClampNeg).toInt64) &&& 4294967295))) sl) nb v (mLow (nI v) ((jshl ((xs ((nI i) + 2).toNatClampNeg).toInt64) 32) ||| (((xs ((nI i) + 3).toNatClampNeg).toInt64) &&& 4294967295))) (mTop (nI v) ((jshl ((xs ((nI i) + 2).toNatClampNeg).toInt64) 32) ||| (((xs ((nI i) + 3).toNatClampNeg).toInt64) &&& 4294967295))) (mLow (nI v) ((jshl ((xs ((nI i) + 4).toNatClampNeg).toInt64) 32) ||| (((xs ((nI i) + 5).toNatClampNeg).toInt64) &&& 4294967295))) (mLow (nI v) ((jshl ((xs ((nI i) + 8).toNatClampNeg).toInt64) 32) ||| (((xs ((nI i) + 9).toNatClampNeg).toInt64) &&& 4294967295))) (iz (xs ((nI i) + 6).toNatClampNeg)) (iz (xs ((nI i) + 7).toNatClampNeg))) ++ (mw q b1 k4 by8 v (rLow ((jshl ((xs ((nI i) + 2).toNatClampNeg).toInt64) 32) ||| (((xs ((nI i) + 3).toNatClampNeg).toInt64) &&& 4294967295)) (nI v)) (rLow ((jshl ((xs ((nI i) + 4).toNatClampNeg).toInt64) 32) ||| (((xs ((nI i) + 5).toNatClampNeg).toInt64) &&& 4294967295)) (nI v)) (rLow ((jshl ((xs ((nI i) + 8).toNatClampNeg).toInt64) 32) ||| (((xs ((nI i) + 9).toNatClampNeg).toInt64) &&& 4294967295)) (nI v)) (iz (xs ((nI i) + 6).toNatClampNeg)) (iz (xs ((nI i) + 7).toNatClampNeg)) nb)) := hD.sub [2, 3, 4, 5, 0, 1] (by decide) rfl
    refine lv_icmp_eq (tgt := 703) hx hb dL_law_298 (by decide) (fun c_298 => ?_) (fun c_298 => ?_)
    ·
      rw [← mLow_eq hv1 hv, ← mLow_eq hv1 hv, ← mLow_eq hv1 hv] at hP
      exact kk _ _ _ _ _ _ _ _ _ _ _ _ _ (rel_kind hR hv1 hv (iz_01 _) (iz_01 _)) H locs hP hS ls (lv_sub hl [0, 1, 2, 3] rfl)
    ·
      exact absurd (rfl) c_298
set_option maxHeartbeats 4000000 in
set_option maxRecDepth 100000 in
theorem law_feed {p : Program} {l : Launch} {e : Env} {s : State} {m : MethodId} {below : List Frame} {meth : Method} {c : Code} {b L : Nat} {xs : Nat → Int32} {D : va_G} {o a1 a2 a3 q b1 : Nat} {k1 k2 k3 k4 : ClassId} {i : Nat} (C0 : lw_At p s m meth c b L xs) (hK : va_K D vwCl (xt k1 k2 k3 ++ mt k4) s) (hDa : ∀ ws : va_W, ws.map Prod.fst = [o, a1, a2, a3, q, b1] → va_D (fun q9 : Nat => s.heap.size ≤ q9) ws) (hLb : L ≤ 5120) (hiL : i + 10 ≤ L) (kk : lwG p l e s m below meth c b D o a1 a2 a3 q b1 k1 k2 k3 k4 i 703) : lwG p l e s m below meth c b D o a1 a2 a3 q b1 k1 k2 k3 k4 i 303 := by
  obtain ⟨hx, hb, hr, hml, hown, hts, hX, hbl, hlocks, hgv⟩ := C0
  have hown : s.vm.findClass RL = some m.cls := hown
  have hts := fun w h => hts w (wsL_law_in w h)
  have hA : ∀ q9 : Nat, s.heap.size ≤ q9 → (fun q9 : Nat => s.heap.size ≤ q9) q9 := fun _ h => h
  have hbA : ¬ (fun q9 : Nat => s.heap.size ≤ q9) b := Nat.not_le.mpr hbl
  intro row dv sl by8 B nb wd po tp fi la bi bo hR H locs hP hS ls hl
  have hn := hR.1
  have hw1 := hR.2.1
  have hw := hR.2.2.1
  have hD : va_D (fun q9 : Nat => s.heap.size ≤ q9) ((xw o a1 a2 a3 k1 k2 k3 row dv sl nb wd po tp fi la bi bo) ++ (mw q b1 k4 by8 wd po fi la bi bo nb)) := hDa _ rfl
  rcases du_fd hn (xs (nI i + 1).toNatClampNeg) (xs (nI i + 2).toNatClampNeg) with hno | ⟨β, τ, hβ, hτ1, hτ, eβ, eτ⟩
  ·
    refine lv_aload_n hx hb dL_law_303 rfl (lv_at hl 1 rfl) ?_
    refine lv_aload_n hx hb dL_law_304 rfl (lv_at hl 0 rfl) ?_
    refine lv_iload_n hx hb dL_law_305 rfl (lv_at hl 3 rfl) ?_
    refine lv_iconst (v := 1) hx hb dL_law_306 (by decide) ?_
    refine lv_iadd hx hb dL_law_307 ?_
    refine va_sld hx hb hX hbl hbA hS (i := (nI i) + 1) (du_sb hiL hLb 1 (by decide)) dL_law_308 ?_
    refine lv_aload_n hx hb dL_law_309 rfl (lv_at hl 0 rfl) ?_
    refine lv_iload_n hx hb dL_law_310 rfl (lv_at hl 3 rfl) ?_
    refine lv_iconst (v := 2) hx hb dL_law_311 (by decide) ?_
    refine lv_iadd hx hb dL_law_312 ?_
    refine va_sld hx hb hX hbl hbA hS (i := (nI i) + 2) (du_sb hiL hLb 2 (by decide)) dL_law_313 ?_
    refine ro_i (va_runV (As := [.int (xs ((nI i) + 1).toNatClampNeg), .int (xs ((nI i) + 2).toNatClampNeg)]) (rest := []) ⟨hx, hb, hml, hown, hts⟩ (c_feed_no (sz := H.size) (xs ((nI i) + 1).toNatClampNeg) (xs ((nI i) + 2).toNatClampNeg) (hn) (hno)) (cwV 2 hts gL_law_X0_feed rfl rfl rfl (by decide +kernel) ⟨Nat.le_of_ble_eq_true rfl, Nat.le_of_ble_eq_true rfl⟩) (preV_RO (hP.sub (ws' := (xw o a1 a2 a3 k1 k2 k3 row dv sl nb wd po tp fi la bi bo)) [0, 1, 2, 3] rfl) (hK.sub (tys' := xt k1 k2 k3) [0, 1, 2] rfl) 0 (ci := 0) rfl rfl) rfl rfl hl.1 rfl (lv_room (Nat.le_of_ble_eq_true rfl)) dL_law_314 ⟨Nat.le_of_ble_eq_true rfl, Nat.le_of_ble_eq_true rfl⟩) hS hA hP (fun H locs hP hS => ?_)
    refine lv_aload_n hx hb dL_law_317 rfl (lv_at hl 2 rfl) ?_
    refine lv_aload_n hx hb dL_law_318 rfl (lv_at hl 0 rfl) ?_
    refine lv_iload_n hx hb dL_law_319 rfl (lv_at hl 3 rfl) ?_
    refine lv_iconst (v := 1) hx hb dL_law_320 (by decide) ?_
    refine lv_iadd hx hb dL_law_321 ?_
    refine va_sld hx hb hX hbl hbA hS (i := (nI i) + 1) (du_sb hiL hLb 1 (by decide)) dL_law_322 ?_
    refine lv_aload_n hx hb dL_law_323 rfl (lv_at hl 0 rfl) ?_
    refine lv_iload_n hx hb dL_law_324 rfl (lv_at hl 3 rfl) ?_
    refine lv_iconst (v := 2) hx hb dL_law_325 (by decide) ?_
    refine lv_iadd hx hb dL_law_326 ?_
    refine va_sld hx hb hX hbl hbA hS (i := (nI i) + 2) (du_sb hiL hLb 2 (by decide)) dL_law_327 ?_
    refine ro_i (va_runV (As := [.int (xs ((nI i) + 1).toNatClampNeg), .int (xs ((nI i) + 2).toNatClampNeg)]) (rest := [.int 0]) ⟨hx, hb, hml, hown, hts⟩ (r_feed_no (sz := H.size) (xs ((nI i) + 1).toNatClampNeg) (xs ((nI i) + 2).toNatClampNeg) (hn) (hno)) (cwV 2 hts gL_law_X1_feed rfl rfl rfl (by decide +kernel) ⟨Nat.le_of_ble_eq_true rfl, Nat.le_of_ble_eq_true rfl⟩) (preV_RO (hP.sub (ws' := (mw q b1 k4 by8 wd po fi la bi bo nb)) [4, 5] rfl) (hK.sub (tys' := mt k4) [3] rfl) 0 (ci := 1) rfl rfl) rfl rfl hl.1 rfl (lv_room (Nat.le_of_ble_eq_true rfl)) dL_law_328 ⟨Nat.le_of_ble_eq_true rfl, Nat.le_of_ble_eq_true rfl⟩) hS hA hP (fun H locs hP hS => ?_)
    refine lv_icmp_eq (tgt := 703) hx hb dL_law_331 (by decide) (fun c_331 => ?_) (fun c_331 => ?_)
    ·
      exact kk row dv sl by8 B nb wd po tp fi la bi bo (hR) H locs hP hS ls (lv_sub hl [0, 1, 2, 3] rfl)
    ·
      exact absurd (rfl) c_331
  ·
    refine lv_aload_n hx hb dL_law_303 rfl (lv_at hl 1 rfl) ?_
    refine lv_aload_n hx hb dL_law_304 rfl (lv_at hl 0 rfl) ?_
    refine lv_iload_n hx hb dL_law_305 rfl (lv_at hl 3 rfl) ?_
    refine lv_iconst (v := 1) hx hb dL_law_306 (by decide) ?_
    refine lv_iadd hx hb dL_law_307 ?_
    refine va_sld hx hb hX hbl hbA hS (i := (nI i) + 1) (du_sb hiL hLb 1 (by decide)) dL_law_308 ?_
    refine du_rwi (y := nI β) (eβ) ?_
    refine lv_aload_n hx hb dL_law_309 rfl (lv_at hl 0 rfl) ?_
    refine lv_iload_n hx hb dL_law_310 rfl (lv_at hl 3 rfl) ?_
    refine lv_iconst (v := 2) hx hb dL_law_311 (by decide) ?_
    refine lv_iadd hx hb dL_law_312 ?_
    refine va_sld hx hb hX hbl hbA hS (i := (nI i) + 2) (du_sb hiL hLb 2 (by decide)) dL_law_313 ?_
    refine du_rwi (y := nI τ) (eτ) ?_
    refine mu_i (ws := (xw o a1 a2 a3 k1 k2 k3 row dv sl nb wd po tp fi la bi bo)) (ws' := (xw o a1 a2 a3 k1 k2 k3 (mFeN row (mCome bi (nI β)) nb τ) dv sl (nb + τ) wd po tp fi la bi bo)) (wr := (mw q b1 k4 by8 wd po fi la bi bo nb)) (va_runV (As := [.int (nI β), .int (nI τ)]) (rest := []) ⟨hx, hb, hml, hown, hts⟩ (c_feed (sz := H.size) β τ (hn) (hβ) (hτ1) (hτ)) (cwV 2 hts gL_law_X0_feed rfl rfl rfl (by decide +kernel) ⟨Nat.le_of_ble_eq_true rfl, Nat.le_of_ble_eq_true rfl⟩) (preV_MU (hP.sub (ws' := (xw o a1 a2 a3 k1 k2 k3 row dv sl nb wd po tp fi la bi bo)) [0, 1, 2, 3] rfl) (hK.sub (tys' := xt k1 k2 k3) [0, 1, 2] rfl) (hD.sub (ws' := (xw o a1 a2 a3 k1 k2 k3 row dv sl nb wd po tp fi la bi bo)) [0, 1, 2, 3] (by decide) rfl) 0 (ci := 0) rfl rfl) rfl rfl hl.1 rfl (lv_room (Nat.le_of_ble_eq_true rfl)) dL_law_314 ⟨Nat.le_of_ble_eq_true rfl, Nat.le_of_ble_eq_true rfl⟩) hS hA hP hD rfl (fun H locs hP hD hS => ?_)
    refine lv_aload_n hx hb dL_law_317 rfl (lv_at hl 2 rfl) ?_
    refine lv_aload_n hx hb dL_law_318 rfl (lv_at hl 0 rfl) ?_
    refine lv_iload_n hx hb dL_law_319 rfl (lv_at hl 3 rfl) ?_
    refine lv_iconst (v := 1) hx hb dL_law_320 (by decide) ?_
    refine lv_iadd hx hb dL_law_321 ?_
    refine va_sld hx hb hX hbl hbA hS (i := (nI i) + 1) (du_sb hiL hLb 1 (by decide)) dL_law_322 ?_
    refine du_rwi (y := nI β) (eβ) ?_
    refine lv_aload_n hx hb dL_law_323 rfl (lv_at hl 0 rfl) ?_
    refine lv_iload_n hx hb dL_law_324 rfl (lv_at hl 3 rfl) ?_
    refine lv_iconst (v := 2) hx hb dL_law_325 (by decide) ?_
    refine lv_iadd hx hb dL_law_326 ?_
    refine va_sld hx hb hX hbl hbA hS (i := (nI i) + 2) (du_sb hiL hLb 2 (by decide)) dL_law_327 ?_
    refine du_rwi (y := nI τ) (eτ) ?_
    refine mu_i (ws := (mw q b1 k4 by8 wd po fi la bi bo nb)) (ws' := (mw q b1 k4 (rFeN by8 (nI β) nb τ) wd po fi la bi bo (nb + τ))) (wr := (xw o a1 a2 a3 k1 k2 k3 (mFeN row (mCome bi (nI β)) nb τ) dv sl (nb + τ) wd po tp fi la bi bo)) (va_runV (As := [.int (nI β), .int (nI τ)]) (rest := [.int 1]) ⟨hx, hb, hml, hown, hts⟩ (r_feed (sz := H.size) β τ (hn) (hβ) (hτ1) (hτ)) (cwV 2 hts gL_law_X1_feed rfl rfl rfl (by decide +kernel) ⟨Nat.le_of_ble_eq_true rfl, Nat.le_of_ble_eq_true rfl⟩) (preV_MU (hP.sub (ws' := (mw q b1 k4 by8 wd po fi la bi bo nb)) [4, 5] rfl) (hK.sub (tys' := mt k4) [3] rfl) (hD.sub (ws' := (mw q b1 k4 by8 wd po fi la bi bo nb)) [4, 5] (by decide) rfl) 0 (ci := 1) rfl rfl) rfl rfl hl.1 rfl (lv_room (Nat.le_of_ble_eq_true rfl)) dL_law_328 ⟨Nat.le_of_ble_eq_true rfl, Nat.le_of_ble_eq_true rfl⟩) hS hA (hP.sub [4, 5, 0, 1, 2, 3] rfl) (hD.sub [4, 5, 0, 1, 2, 3] (by decide) rfl) rfl (fun H locs hP hD hS => ?_)
    have hP : va_P D vwCl ((xw o a1 a2 a3 k1 k2 k3 (mFeN row (mCome bi (nI β)) nb τ) dv sl (nb + τ) wd po tp fi la bi bo) ++ (mw q b1 k4 (rFeN by8 (nI β) nb τ) wd po fi la bi bo (nb + τ))) H := hP.sub [2, 3, 4, 5, 0, 1] rfl
    have hD : va_D (fun q9 : Nat => s.heap.size ≤ q9) ((xw o a1 a2 a3 k1 k2 k3 (mFeN row (mCome bi (nI β)) nb τ) dv sl (nb + τ) wd po tp fi la bi bo) ++ (mw q b1 k4 (rFeN by8 (nI β) nb τ) wd po fi la bi bo (nb + τ))) := hD.sub [2, 3, 4, 5, 0, 1] (by decide) rfl
    refine lv_icmp_eq (tgt := 703) hx hb dL_law_331 (by decide) (fun c_331 => ?_) (fun c_331 => ?_)
    ·
      exact kk _ _ _ _ _ _ _ _ _ _ _ _ _ (rel_feed hR hβ hτ) H locs hP hS ls (lv_sub hl [0, 1, 2, 3] rfl)
    ·
      exact absurd (rfl) c_331
set_option maxHeartbeats 4000000 in
set_option maxRecDepth 100000 in
theorem law_clear {p : Program} {l : Launch} {e : Env} {s : State} {m : MethodId} {below : List Frame} {meth : Method} {c : Code} {b L : Nat} {xs : Nat → Int32} {D : va_G} {o a1 a2 a3 q b1 : Nat} {k1 k2 k3 k4 : ClassId} {i : Nat} (C0 : lw_At p s m meth c b L xs) (hK : va_K D vwCl (xt k1 k2 k3 ++ mt k4) s) (hDa : ∀ ws : va_W, ws.map Prod.fst = [o, a1, a2, a3, q, b1] → va_D (fun q9 : Nat => s.heap.size ≤ q9) ws) (hLb : L ≤ 5120) (hiL : i + 10 ≤ L) (kk : lwG p l e s m below meth c b D o a1 a2 a3 q b1 k1 k2 k3 k4 i 703) : lwG p l e s m below meth c b D o a1 a2 a3 q b1 k1 k2 k3 k4 i 336 := by
  obtain ⟨hx, hb, hr, hml, hown, hts, hX, hbl, hlocks, hgv⟩ := C0
  have hown : s.vm.findClass RL = some m.cls := hown
  have hts := fun w h => hts w (wsL_law_in w h)
  have hA : ∀ q9 : Nat, s.heap.size ≤ q9 → (fun q9 : Nat => s.heap.size ≤ q9) q9 := fun _ h => h
  have hbA : ¬ (fun q9 : Nat => s.heap.size ≤ q9) b := Nat.not_le.mpr hbl
  intro row dv sl by8 B nb wd po tp fi la bi bo hR H locs hP hS ls hl
  have hn := hR.1
  have hw1 := hR.2.1
  have hw := hR.2.2.1
  have hD : va_D (fun q9 : Nat => s.heap.size ≤ q9) ((xw o a1 a2 a3 k1 k2 k3 row dv sl nb wd po tp fi la bi bo) ++ (mw q b1 k4 by8 wd po fi la bi bo nb)) := hDa _ rfl
  refine lv_aload_n hx hb dL_law_336 rfl (lv_at hl 1 rfl) ?_
  refine mu_v (ws := (xw o a1 a2 a3 k1 k2 k3 row dv sl nb wd po tp fi la bi bo)) (ws' := (xw o a1 a2 a3 k1 k2 k3 (mAFN row 0 625) dv sl 0 wd po tp fi la bi bo)) (wr := (mw q b1 k4 by8 wd po fi la bi bo nb)) (va_runV (As := []) (rest := []) ⟨hx, hb, hml, hown, hts⟩ (c_clear (sz := H.size) ) (cwV 0 hts gL_law_X0_clear rfl rfl rfl (by decide +kernel) ⟨Nat.le_of_ble_eq_true rfl, Nat.le_of_ble_eq_true rfl⟩) (preV_MU (hP.sub (ws' := (xw o a1 a2 a3 k1 k2 k3 row dv sl nb wd po tp fi la bi bo)) [0, 1, 2, 3] rfl) (hK.sub (tys' := xt k1 k2 k3) [0, 1, 2] rfl) (hD.sub (ws' := (xw o a1 a2 a3 k1 k2 k3 row dv sl nb wd po tp fi la bi bo)) [0, 1, 2, 3] (by decide) rfl) 0 (ci := 0) rfl rfl) rfl rfl hl.1 rfl (lv_room (Nat.le_of_ble_eq_true rfl)) dL_law_337 ⟨Nat.le_of_ble_eq_true rfl, Nat.le_of_ble_eq_true rfl⟩) hS hA hP hD rfl (fun H locs hP hD hS => ?_)
  refine lv_aload_n hx hb dL_law_340 rfl (lv_at hl 2 rfl) ?_
  refine mu_v (ws := (mw q b1 k4 by8 wd po fi la bi bo nb)) (ws' := (mw q b1 k4 by8 wd po fi la bi bo 0)) (wr := (xw o a1 a2 a3 k1 k2 k3 (mAFN row 0 625) dv sl 0 wd po tp fi la bi bo)) (va_runV (As := []) (rest := []) ⟨hx, hb, hml, hown, hts⟩ (r_clear (sz := H.size) ) (cwV 0 hts gL_law_X1_clear rfl rfl rfl (by decide +kernel) ⟨Nat.le_of_ble_eq_true rfl, Nat.le_of_ble_eq_true rfl⟩) (preV_MU (hP.sub (ws' := (mw q b1 k4 by8 wd po fi la bi bo nb)) [4, 5] rfl) (hK.sub (tys' := mt k4) [3] rfl) (hD.sub (ws' := (mw q b1 k4 by8 wd po fi la bi bo nb)) [4, 5] (by decide) rfl) 0 (ci := 1) rfl rfl) rfl rfl hl.1 rfl (lv_room (Nat.le_of_ble_eq_true rfl)) dL_law_341 ⟨Nat.le_of_ble_eq_true rfl, Nat.le_of_ble_eq_true rfl⟩) hS hA (hP.sub [4, 5, 0, 1, 2, 3] rfl) (hD.sub [4, 5, 0, 1, 2, 3] (by decide) rfl) rfl (fun H locs hP hD hS => ?_)
  have hP : va_P D vwCl ((xw o a1 a2 a3 k1 k2 k3 (mAFN row 0 625) dv sl 0 wd po tp fi la bi bo) ++ (mw q b1 k4 by8 wd po fi la bi bo 0)) H := hP.sub [2, 3, 4, 5, 0, 1] rfl
  have hD : va_D (fun q9 : Nat => s.heap.size ≤ q9) ((xw o a1 a2 a3 k1 k2 k3 (mAFN row 0 625) dv sl 0 wd po tp fi la bi bo) ++ (mw q b1 k4 by8 wd po fi la bi bo 0)) := hD.sub [2, 3, 4, 5, 0, 1] (by decide) rfl
  refine lv_goto (tgt := 703) hx hb dL_law_344 (by decide) ?_
  exact kk _ _ _ _ _ _ _ _ _ _ _ _ _ (rel_clear hR) H locs hP hS ls (lv_sub hl [0, 1, 2, 3] rfl)
set_option maxHeartbeats 4000000 in
set_option maxRecDepth 100000 in
theorem law_flip {p : Program} {l : Launch} {e : Env} {s : State} {m : MethodId} {below : List Frame} {meth : Method} {c : Code} {b L : Nat} {xs : Nat → Int32} {D : va_G} {o a1 a2 a3 q b1 : Nat} {k1 k2 k3 k4 : ClassId} {i : Nat} (C0 : lw_At p s m meth c b L xs) (hK : va_K D vwCl (xt k1 k2 k3 ++ mt k4) s) (hDa : ∀ ws : va_W, ws.map Prod.fst = [o, a1, a2, a3, q, b1] → va_D (fun q9 : Nat => s.heap.size ≤ q9) ws) (hLb : L ≤ 5120) (hiL : i + 10 ≤ L) (kk : lwG p l e s m below meth c b D o a1 a2 a3 q b1 k1 k2 k3 k4 i 703) : lwG p l e s m below meth c b D o a1 a2 a3 q b1 k1 k2 k3 k4 i 347 := by
  obtain ⟨hx, hb, hr, hml, hown, hts, hX, hbl, hlocks, hgv⟩ := C0
  have hown : s.vm.findClass RL = some m.cls := hown
  have hts := fun w h => hts w (wsL_law_in w h)
  have hA : ∀ q9 : Nat, s.heap.size ≤ q9 → (fun q9 : Nat => s.heap.size ≤ q9) q9 := fun _ h => h
  have hbA : ¬ (fun q9 : Nat => s.heap.size ≤ q9) b := Nat.not_le.mpr hbl
  intro row dv sl by8 B nb wd po tp fi la bi bo hR H locs hP hS ls hl
  have hn := hR.1
  have hw1 := hR.2.1
  have hw := hR.2.2.1
  have hD : va_D (fun q9 : Nat => s.heap.size ≤ q9) ((xw o a1 a2 a3 k1 k2 k3 row dv sl nb wd po tp fi la bi bo) ++ (mw q b1 k4 by8 wd po fi la bi bo nb)) := hDa _ rfl
  rcases du_fl nb hn (xs (nI i + 1).toNatClampNeg) with hno | ⟨j, hj, ej⟩
  ·
    refine lv_aload_n hx hb dL_law_347 rfl (lv_at hl 1 rfl) ?_
    refine lv_aload_n hx hb dL_law_348 rfl (lv_at hl 0 rfl) ?_
    refine lv_iload_n hx hb dL_law_349 rfl (lv_at hl 3 rfl) ?_
    refine lv_iconst (v := 1) hx hb dL_law_350 (by decide) ?_
    refine lv_iadd hx hb dL_law_351 ?_
    refine va_sld hx hb hX hbl hbA hS (i := (nI i) + 1) (du_sb hiL hLb 1 (by decide)) dL_law_352 ?_
    refine ro_i (va_runV (As := [.int (xs ((nI i) + 1).toNatClampNeg)]) (rest := []) ⟨hx, hb, hml, hown, hts⟩ (c_flip_no (sz := H.size) (xs ((nI i) + 1).toNatClampNeg) (hno)) (cwV 1 hts gL_law_X0_flip rfl rfl rfl (by decide +kernel) ⟨Nat.le_of_ble_eq_true rfl, Nat.le_of_ble_eq_true rfl⟩) (preV_RO (hP.sub (ws' := (xw o a1 a2 a3 k1 k2 k3 row dv sl nb wd po tp fi la bi bo)) [0, 1, 2, 3] rfl) (hK.sub (tys' := xt k1 k2 k3) [0, 1, 2] rfl) 0 (ci := 0) rfl rfl) rfl rfl hl.1 rfl (lv_room (Nat.le_of_ble_eq_true rfl)) dL_law_353 ⟨Nat.le_of_ble_eq_true rfl, Nat.le_of_ble_eq_true rfl⟩) hS hA hP (fun H locs hP hS => ?_)
    refine lv_aload_n hx hb dL_law_356 rfl (lv_at hl 2 rfl) ?_
    refine lv_aload_n hx hb dL_law_357 rfl (lv_at hl 0 rfl) ?_
    refine lv_iload_n hx hb dL_law_358 rfl (lv_at hl 3 rfl) ?_
    refine lv_iconst (v := 1) hx hb dL_law_359 (by decide) ?_
    refine lv_iadd hx hb dL_law_360 ?_
    refine va_sld hx hb hX hbl hbA hS (i := (nI i) + 1) (du_sb hiL hLb 1 (by decide)) dL_law_361 ?_
    refine ro_i (va_runV (As := [.int (xs ((nI i) + 1).toNatClampNeg)]) (rest := [.int 0]) ⟨hx, hb, hml, hown, hts⟩ (r_flip_no (sz := H.size) (xs ((nI i) + 1).toNatClampNeg) (by rw [Nat.mul_comm]; exact hno)) (cwV 1 hts gL_law_X1_flip rfl rfl rfl (by decide +kernel) ⟨Nat.le_of_ble_eq_true rfl, Nat.le_of_ble_eq_true rfl⟩) (preV_RO (hP.sub (ws' := (mw q b1 k4 by8 wd po fi la bi bo nb)) [4, 5] rfl) (hK.sub (tys' := mt k4) [3] rfl) 0 (ci := 1) rfl rfl) rfl rfl hl.1 rfl (lv_room (Nat.le_of_ble_eq_true rfl)) dL_law_362 ⟨Nat.le_of_ble_eq_true rfl, Nat.le_of_ble_eq_true rfl⟩) hS hA hP (fun H locs hP hS => ?_)
    refine lv_icmp_eq (tgt := 703) hx hb dL_law_365 (by decide) (fun c_365 => ?_) (fun c_365 => ?_)
    ·
      exact kk row dv sl by8 B nb wd po tp fi la bi bo (hR) H locs hP hS ls (lv_sub hl [0, 1, 2, 3] rfl)
    ·
      exact absurd (rfl) c_365
  ·
    refine lv_aload_n hx hb dL_law_347 rfl (lv_at hl 1 rfl) ?_
    refine lv_aload_n hx hb dL_law_348 rfl (lv_at hl 0 rfl) ?_
    refine lv_iload_n hx hb dL_law_349 rfl (lv_at hl 3 rfl) ?_
    refine lv_iconst (v := 1) hx hb dL_law_350 (by decide) ?_
    refine lv_iadd hx hb dL_law_351 ?_
    refine va_sld hx hb hX hbl hbA hS (i := (nI i) + 1) (du_sb hiL hLb 1 (by decide)) dL_law_352 ?_
    refine du_rwi (y := nI j) (ej) ?_
    refine mu_i (ws := (xw o a1 a2 a3 k1 k2 k3 row dv sl nb wd po tp fi la bi bo)) (ws' := (xw o a1 a2 a3 k1 k2 k3 (mFlip row j) dv sl nb wd po tp fi la bi bo)) (wr := (mw q b1 k4 by8 wd po fi la bi bo nb)) (va_runV (As := [.int (nI j)]) (rest := []) ⟨hx, hb, hml, hown, hts⟩ (c_flip (sz := H.size) j (hn) (hj)) (cwV 1 hts gL_law_X0_flip rfl rfl rfl (by decide +kernel) ⟨Nat.le_of_ble_eq_true rfl, Nat.le_of_ble_eq_true rfl⟩) (preV_MU (hP.sub (ws' := (xw o a1 a2 a3 k1 k2 k3 row dv sl nb wd po tp fi la bi bo)) [0, 1, 2, 3] rfl) (hK.sub (tys' := xt k1 k2 k3) [0, 1, 2] rfl) (hD.sub (ws' := (xw o a1 a2 a3 k1 k2 k3 row dv sl nb wd po tp fi la bi bo)) [0, 1, 2, 3] (by decide) rfl) 0 (ci := 0) rfl rfl) rfl rfl hl.1 rfl (lv_room (Nat.le_of_ble_eq_true rfl)) dL_law_353 ⟨Nat.le_of_ble_eq_true rfl, Nat.le_of_ble_eq_true rfl⟩) hS hA hP hD rfl (fun H locs hP hD hS => ?_)
    refine lv_aload_n hx hb dL_law_356 rfl (lv_at hl 2 rfl) ?_
    refine lv_aload_n hx hb dL_law_357 rfl (lv_at hl 0 rfl) ?_
    refine lv_iload_n hx hb dL_law_358 rfl (lv_at hl 3 rfl) ?_
    refine lv_iconst (v := 1) hx hb dL_law_359 (by decide) ?_
    refine lv_iadd hx hb dL_law_360 ?_
    refine va_sld hx hb hX hbl hbA hS (i := (nI i) + 1) (du_sb hiL hLb 1 (by decide)) dL_law_361 ?_
    refine du_rwi (y := nI j) (ej) ?_
    refine mu_i (ws := (mw q b1 k4 by8 wd po fi la bi bo nb)) (ws' := (mw q b1 k4 (rFlip by8 bi j) wd po fi la bi bo nb)) (wr := (xw o a1 a2 a3 k1 k2 k3 (mFlip row j) dv sl nb wd po tp fi la bi bo)) (va_runV (As := [.int (nI j)]) (rest := [.int 1]) ⟨hx, hb, hml, hown, hts⟩ (r_flip (sz := H.size) j (hn) (by omega)) (cwV 1 hts gL_law_X1_flip rfl rfl rfl (by decide +kernel) ⟨Nat.le_of_ble_eq_true rfl, Nat.le_of_ble_eq_true rfl⟩) (preV_MU (hP.sub (ws' := (mw q b1 k4 by8 wd po fi la bi bo nb)) [4, 5] rfl) (hK.sub (tys' := mt k4) [3] rfl) (hD.sub (ws' := (mw q b1 k4 by8 wd po fi la bi bo nb)) [4, 5] (by decide) rfl) 0 (ci := 1) rfl rfl) rfl rfl hl.1 rfl (lv_room (Nat.le_of_ble_eq_true rfl)) dL_law_362 ⟨Nat.le_of_ble_eq_true rfl, Nat.le_of_ble_eq_true rfl⟩) hS hA (hP.sub [4, 5, 0, 1, 2, 3] rfl) (hD.sub [4, 5, 0, 1, 2, 3] (by decide) rfl) rfl (fun H locs hP hD hS => ?_)
    have hP : va_P D vwCl ((xw o a1 a2 a3 k1 k2 k3 (mFlip row j) dv sl nb wd po tp fi la bi bo) ++ (mw q b1 k4 (rFlip by8 bi j) wd po fi la bi bo nb)) H := hP.sub [2, 3, 4, 5, 0, 1] rfl
    have hD : va_D (fun q9 : Nat => s.heap.size ≤ q9) ((xw o a1 a2 a3 k1 k2 k3 (mFlip row j) dv sl nb wd po tp fi la bi bo) ++ (mw q b1 k4 (rFlip by8 bi j) wd po fi la bi bo nb)) := hD.sub [2, 3, 4, 5, 0, 1] (by decide) rfl
    refine lv_icmp_eq (tgt := 703) hx hb dL_law_365 (by decide) (fun c_365 => ?_) (fun c_365 => ?_)
    ·
      exact kk _ _ _ _ _ _ _ _ _ _ _ _ _ (rel_flip hR hj) H locs hP hS ls (lv_sub hl [0, 1, 2, 3] rfl)
    ·
      exact absurd (rfl) c_365
set_option maxHeartbeats 4000000 in
set_option maxRecDepth 100000 in
theorem law_check {p : Program} {l : Launch} {e : Env} {s : State} {m : MethodId} {below : List Frame} {meth : Method} {c : Code} {b L : Nat} {xs : Nat → Int32} {D : va_G} {o a1 a2 a3 q b1 : Nat} {k1 k2 k3 k4 : ClassId} {i : Nat} (C0 : lw_At p s m meth c b L xs) (hK : va_K D vwCl (xt k1 k2 k3 ++ mt k4) s) (hDa : ∀ ws : va_W, ws.map Prod.fst = [o, a1, a2, a3, q, b1] → va_D (fun q9 : Nat => s.heap.size ≤ q9) ws) (hLb : L ≤ 5120) (hiL : i + 10 ≤ L) (kk : lwG p l e s m below meth c b D o a1 a2 a3 q b1 k1 k2 k3 k4 i 703) : lwG p l e s m below meth c b D o a1 a2 a3 q b1 k1 k2 k3 k4 i 370 := by
  obtain ⟨hx, hb, hr, hml, hown, hts, hX, hbl, hlocks, hgv⟩ := C0
  have hown : s.vm.findClass RL = some m.cls := hown
  have hts := fun w h => hts w (wsL_law_in w h)
  have hA : ∀ q9 : Nat, s.heap.size ≤ q9 → (fun q9 : Nat => s.heap.size ≤ q9) q9 := fun _ h => h
  have hbA : ¬ (fun q9 : Nat => s.heap.size ≤ q9) b := Nat.not_le.mpr hbl
  intro row dv sl by8 B nb wd po tp fi la bi bo hR H locs hP hS ls hl
  have hn := hR.1
  have hw1 := hR.2.1
  have hw := hR.2.2.1
  have hD : va_D (fun q9 : Nat => s.heap.size ≤ q9) ((xw o a1 a2 a3 k1 k2 k3 row dv sl nb wd po tp fi la bi bo) ++ (mw q b1 k4 by8 wd po fi la bi bo nb)) := hDa _ rfl
  rcases du_sw (xs (nI i + 1).toNatClampNeg) 3 with hy | hy
  ·
    refine lv_aload_n hx hb dL_law_370 rfl (lv_at hl 1 rfl) ?_
    refine lv_aload_n hx hb dL_law_371 rfl (lv_at hl 0 rfl) ?_
    refine lv_iload_n hx hb dL_law_372 rfl (lv_at hl 3 rfl) ?_
    refine lv_iconst (v := 1) hx hb dL_law_373 (by decide) ?_
    refine lv_iadd hx hb dL_law_374 ?_
    refine va_sld hx hb hX hbl hbA hS (i := (nI i) + 1) (du_sb hiL hLb 1 (by decide)) dL_law_375 ?_
    refine mu_l (ws := (xw o a1 a2 a3 k1 k2 k3 row dv sl nb wd po tp fi la bi bo)) (ws' := (xw o a1 a2 a3 k1 k2 k3 row (mDvN row dv (mTop (nI wd) fi) tp (nb * 8)) sl nb wd po tp fi la bi bo)) (wr := (mw q b1 k4 by8 wd po fi la bi bo nb)) (va_runV (As := [.int (xs ((nI i) + 1).toNatClampNeg)]) (rest := []) ⟨hx, hb, hml, hown, hts⟩ (c_check3 (sz := H.size) (xs ((nI i) + 1).toNatClampNeg) (hn) (hy)) (cwV 1 hts gL_law_X0_check rfl rfl rfl (by decide +kernel) ⟨Nat.le_of_ble_eq_true rfl, Nat.le_of_ble_eq_true rfl⟩) (preV_MU (hP.sub (ws' := (xw o a1 a2 a3 k1 k2 k3 row dv sl nb wd po tp fi la bi bo)) [0, 1, 2, 3] rfl) (hK.sub (tys' := xt k1 k2 k3) [0, 1, 2] rfl) (hD.sub (ws' := (xw o a1 a2 a3 k1 k2 k3 row dv sl nb wd po tp fi la bi bo)) [0, 1, 2, 3] (by decide) rfl) 0 (ci := 0) rfl rfl) rfl rfl hl.1 rfl (lv_room (Nat.le_of_ble_eq_true rfl)) dL_law_376 ⟨Nat.le_of_ble_eq_true rfl, Nat.le_of_ble_eq_true rfl⟩) hS hA hP hD rfl (fun H locs hP hD hS => ?_)
    refine lv_aload_n hx hb dL_law_379 rfl (lv_at hl 2 rfl) ?_
    refine lv_aload_n hx hb dL_law_380 rfl (lv_at hl 0 rfl) ?_
    refine lv_iload_n hx hb dL_law_381 rfl (lv_at hl 3 rfl) ?_
    refine lv_iconst (v := 1) hx hb dL_law_382 (by decide) ?_
    refine lv_iadd hx hb dL_law_383 ?_
    refine va_sld hx hb hX hbl hbA hS (i := (nI i) + 1) (du_sb hiL hLb 1 (by decide)) dL_law_384 ?_
    refine ro_l (va_runV (As := [.int (xs ((nI i) + 1).toNatClampNeg)]) (rest := [.long (mChk3 row dv nb (nI wd) bo tp fi la)]) ⟨hx, hb, hml, hown, hts⟩ (r_check (sz := H.size) (xs ((nI i) + 1).toNatClampNeg) (hw) (hn)) (cwV 1 hts gL_law_X1_check rfl rfl rfl (by decide +kernel) ⟨Nat.le_of_ble_eq_true rfl, Nat.le_of_ble_eq_true rfl⟩) (preV_RO (hP.sub (ws' := (mw q b1 k4 by8 wd po fi la bi bo nb)) [4, 5] rfl) (hK.sub (tys' := mt k4) [3] rfl) 0 (ci := 1) rfl rfl) rfl rfl hl.1 rfl (lv_room (Nat.le_of_ble_eq_true rfl)) dL_law_385 ⟨Nat.le_of_ble_eq_true rfl, Nat.le_of_ble_eq_true rfl⟩) hS hA hP (fun H locs hP hS => ?_)
    refine W.lcmp hx hb dL_law_388 ?_
    refine lv_if_eq (tgt := 703) hx hb dL_law_389 (by decide) (fun c_389 => ?_) (fun c_389 => ?_)
    ·
      exact kk row _ sl by8 B nb wd po tp fi la bi bo (hR) H locs hP hS ls (lv_sub hl [0, 1, 2, 3] rfl)
    ·
      exact absurd ((lg_cmp_eq _ _).mpr (by rw [hy]; exact eq_chk3 hR)) c_389
  ·
    refine lv_aload_n hx hb dL_law_370 rfl (lv_at hl 1 rfl) ?_
    refine lv_aload_n hx hb dL_law_371 rfl (lv_at hl 0 rfl) ?_
    refine lv_iload_n hx hb dL_law_372 rfl (lv_at hl 3 rfl) ?_
    refine lv_iconst (v := 1) hx hb dL_law_373 (by decide) ?_
    refine lv_iadd hx hb dL_law_374 ?_
    refine va_sld hx hb hX hbl hbA hS (i := (nI i) + 1) (du_sb hiL hLb 1 (by decide)) dL_law_375 ?_
    refine ro_l (va_runV (As := [.int (xs ((nI i) + 1).toNatClampNeg)]) (rest := []) ⟨hx, hb, hml, hown, hts⟩ (c_check (sz := H.size) (xs ((nI i) + 1).toNatClampNeg) (hn) (hy)) (cwV 1 hts gL_law_X0_check rfl rfl rfl (by decide +kernel) ⟨Nat.le_of_ble_eq_true rfl, Nat.le_of_ble_eq_true rfl⟩) (preV_RO (hP.sub (ws' := (xw o a1 a2 a3 k1 k2 k3 row dv sl nb wd po tp fi la bi bo)) [0, 1, 2, 3] rfl) (hK.sub (tys' := xt k1 k2 k3) [0, 1, 2] rfl) 0 (ci := 0) rfl rfl) rfl rfl hl.1 rfl (lv_room (Nat.le_of_ble_eq_true rfl)) dL_law_376 ⟨Nat.le_of_ble_eq_true rfl, Nat.le_of_ble_eq_true rfl⟩) hS hA hP (fun H locs hP hS => ?_)
    refine lv_aload_n hx hb dL_law_379 rfl (lv_at hl 2 rfl) ?_
    refine lv_aload_n hx hb dL_law_380 rfl (lv_at hl 0 rfl) ?_
    refine lv_iload_n hx hb dL_law_381 rfl (lv_at hl 3 rfl) ?_
    refine lv_iconst (v := 1) hx hb dL_law_382 (by decide) ?_
    refine lv_iadd hx hb dL_law_383 ?_
    refine va_sld hx hb hX hbl hbA hS (i := (nI i) + 1) (du_sb hiL hLb 1 (by decide)) dL_law_384 ?_
    refine ro_l (va_runV (As := [.int (xs ((nI i) + 1).toNatClampNeg)]) (rest := [.long (mChk row sl nb (nI wd) bo tp fi la (xs ((nI i) + 1).toNatClampNeg))]) ⟨hx, hb, hml, hown, hts⟩ (r_check (sz := H.size) (xs ((nI i) + 1).toNatClampNeg) (hw) (hn)) (cwV 1 hts gL_law_X1_check rfl rfl rfl (by decide +kernel) ⟨Nat.le_of_ble_eq_true rfl, Nat.le_of_ble_eq_true rfl⟩) (preV_RO (hP.sub (ws' := (mw q b1 k4 by8 wd po fi la bi bo nb)) [4, 5] rfl) (hK.sub (tys' := mt k4) [3] rfl) 0 (ci := 1) rfl rfl) rfl rfl hl.1 rfl (lv_room (Nat.le_of_ble_eq_true rfl)) dL_law_385 ⟨Nat.le_of_ble_eq_true rfl, Nat.le_of_ble_eq_true rfl⟩) hS hA hP (fun H locs hP hS => ?_)
    refine W.lcmp hx hb dL_law_388 ?_
    refine lv_if_eq (tgt := 703) hx hb dL_law_389 (by decide) (fun c_389 => ?_) (fun c_389 => ?_)
    ·
      exact kk row dv sl by8 B nb wd po tp fi la bi bo (hR) H locs hP hS ls (lv_sub hl [0, 1, 2, 3] rfl)
    ·
      exact absurd ((lg_cmp_eq _ _).mpr (eq_chk hR hy)) c_389
set_option maxHeartbeats 4000000 in
set_option maxRecDepth 100000 in
theorem law_part {p : Program} {l : Launch} {e : Env} {s : State} {m : MethodId} {below : List Frame} {meth : Method} {c : Code} {b L : Nat} {xs : Nat → Int32} {D : va_G} {o a1 a2 a3 q b1 : Nat} {k1 k2 k3 k4 : ClassId} {i : Nat} (C0 : lw_At p s m meth c b L xs) (hK : va_K D vwCl (xt k1 k2 k3 ++ mt k4) s) (hDa : ∀ ws : va_W, ws.map Prod.fst = [o, a1, a2, a3, q, b1] → va_D (fun q9 : Nat => s.heap.size ≤ q9) ws) (hLb : L ≤ 5120) (hiL : i + 10 ≤ L) (kk : lwG p l e s m below meth c b D o a1 a2 a3 q b1 k1 k2 k3 k4 i 703) : lwG p l e s m below meth c b D o a1 a2 a3 q b1 k1 k2 k3 k4 i 394 := by
  obtain ⟨hx, hb, hr, hml, hown, hts, hX, hbl, hlocks, hgv⟩ := C0
  have hown : s.vm.findClass RL = some m.cls := hown
  have hts := fun w h => hts w (wsL_law_in w h)
  have hA : ∀ q9 : Nat, s.heap.size ≤ q9 → (fun q9 : Nat => s.heap.size ≤ q9) q9 := fun _ h => h
  have hbA : ¬ (fun q9 : Nat => s.heap.size ≤ q9) b := Nat.not_le.mpr hbl
  intro row dv sl by8 B nb wd po tp fi la bi bo hR H locs hP hS ls hl
  have hn := hR.1
  have hw1 := hR.2.1
  have hw := hR.2.2.1
  have hD : va_D (fun q9 : Nat => s.heap.size ≤ q9) ((xw o a1 a2 a3 k1 k2 k3 row dv sl nb wd po tp fi la bi bo) ++ (mw q b1 k4 by8 wd po fi la bi bo nb)) := hDa _ rfl
  refine lv_aload_n hx hb dL_law_394 rfl (lv_at hl 1 rfl) ?_
  refine lv_aload_n hx hb dL_law_395 rfl (lv_at hl 0 rfl) ?_
  refine lv_iload_n hx hb dL_law_396 rfl (lv_at hl 3 rfl) ?_
  refine lv_iconst (v := 1) hx hb dL_law_397 (by decide) ?_
  refine lv_iadd hx hb dL_law_398 ?_
  refine va_sld hx hb hX hbl hbA hS (i := (nI i) + 1) (du_sb hiL hLb 1 (by decide)) dL_law_399 ?_
  refine lv_aload_n hx hb dL_law_400 rfl (lv_at hl 0 rfl) ?_
  refine lv_iload_n hx hb dL_law_401 rfl (lv_at hl 3 rfl) ?_
  refine lv_iconst (v := 2) hx hb dL_law_402 (by decide) ?_
  refine lv_iadd hx hb dL_law_403 ?_
  refine va_sld hx hb hX hbl hbA hS (i := (nI i) + 2) (du_sb hiL hLb 2 (by decide)) dL_law_404 ?_
  refine ro_l (va_runV (As := [.int (xs ((nI i) + 1).toNatClampNeg), .int (xs ((nI i) + 2).toNatClampNeg)]) (rest := []) ⟨hx, hb, hml, hown, hts⟩ (c_part (sz := H.size) (xs ((nI i) + 1).toNatClampNeg) (xs ((nI i) + 2).toNatClampNeg) (hn)) (cwV 2 hts gL_law_X0_part rfl rfl rfl (by decide +kernel) ⟨Nat.le_of_ble_eq_true rfl, Nat.le_of_ble_eq_true rfl⟩) (preV_RO (hP.sub (ws' := (xw o a1 a2 a3 k1 k2 k3 row dv sl nb wd po tp fi la bi bo)) [0, 1, 2, 3] rfl) (hK.sub (tys' := xt k1 k2 k3) [0, 1, 2] rfl) 0 (ci := 0) rfl rfl) rfl rfl hl.1 rfl (lv_room (Nat.le_of_ble_eq_true rfl)) dL_law_405 ⟨Nat.le_of_ble_eq_true rfl, Nat.le_of_ble_eq_true rfl⟩) hS hA hP (fun H locs hP hS => ?_)
  refine lv_aload_n hx hb dL_law_408 rfl (lv_at hl 2 rfl) ?_
  refine lv_aload_n hx hb dL_law_409 rfl (lv_at hl 0 rfl) ?_
  refine lv_iload_n hx hb dL_law_410 rfl (lv_at hl 3 rfl) ?_
  refine lv_iconst (v := 1) hx hb dL_law_411 (by decide) ?_
  refine lv_iadd hx hb dL_law_412 ?_
  refine va_sld hx hb hX hbl hbA hS (i := (nI i) + 1) (du_sb hiL hLb 1 (by decide)) dL_law_413 ?_
  refine lv_aload_n hx hb dL_law_414 rfl (lv_at hl 0 rfl) ?_
  refine lv_iload_n hx hb dL_law_415 rfl (lv_at hl 3 rfl) ?_
  refine lv_iconst (v := 2) hx hb dL_law_416 (by decide) ?_
  refine lv_iadd hx hb dL_law_417 ?_
  refine va_sld hx hb hX hbl hbA hS (i := (nI i) + 2) (du_sb hiL hLb 2 (by decide)) dL_law_418 ?_
  refine ro_l (va_runV (As := [.int (xs ((nI i) + 1).toNatClampNeg), .int (xs ((nI i) + 2).toNatClampNeg)]) (rest := [.long (mPart row sl nb (nI wd) bo fi la (xs ((nI i) + 1).toNatClampNeg) (xs ((nI i) + 2).toNatClampNeg))]) ⟨hx, hb, hml, hown, hts⟩ (r_part (sz := H.size) (xs ((nI i) + 1).toNatClampNeg) (xs ((nI i) + 2).toNatClampNeg) (hw) (hn)) (cwV 2 hts gL_law_X1_part rfl rfl rfl (by decide +kernel) ⟨Nat.le_of_ble_eq_true rfl, Nat.le_of_ble_eq_true rfl⟩) (preV_RO (hP.sub (ws' := (mw q b1 k4 by8 wd po fi la bi bo nb)) [4, 5] rfl) (hK.sub (tys' := mt k4) [3] rfl) 0 (ci := 1) rfl rfl) rfl rfl hl.1 rfl (lv_room (Nat.le_of_ble_eq_true rfl)) dL_law_419 ⟨Nat.le_of_ble_eq_true rfl, Nat.le_of_ble_eq_true rfl⟩) hS hA hP (fun H locs hP hS => ?_)
  refine W.lcmp hx hb dL_law_422 ?_
  refine lv_if_eq (tgt := 703) hx hb dL_law_423 (by decide) (fun c_423 => ?_) (fun c_423 => ?_)
  ·
    exact kk row dv sl by8 B nb wd po tp fi la bi bo (hR) H locs hP hS ls (lv_sub hl [0, 1, 2, 3] rfl)
  ·
    exact absurd ((lg_cmp_eq _ _).mpr (eq_part hR _ _)) c_423
set_option maxHeartbeats 4000000 in
set_option maxRecDepth 100000 in
theorem law_joined {p : Program} {l : Launch} {e : Env} {s : State} {m : MethodId} {below : List Frame} {meth : Method} {c : Code} {b L : Nat} {xs : Nat → Int32} {D : va_G} {o a1 a2 a3 q b1 : Nat} {k1 k2 k3 k4 : ClassId} {i : Nat} (C0 : lw_At p s m meth c b L xs) (hK : va_K D vwCl (xt k1 k2 k3 ++ mt k4) s) (hDa : ∀ ws : va_W, ws.map Prod.fst = [o, a1, a2, a3, q, b1] → va_D (fun q9 : Nat => s.heap.size ≤ q9) ws) (hLb : L ≤ 5120) (hiL : i + 10 ≤ L) (kk : lwG p l e s m below meth c b D o a1 a2 a3 q b1 k1 k2 k3 k4 i 703) : lwG p l e s m below meth c b D o a1 a2 a3 q b1 k1 k2 k3 k4 i 428 := by
  obtain ⟨hx, hb, hr, hml, hown, hts, hX, hbl, hlocks, hgv⟩ := C0
  have hown : s.vm.findClass RL = some m.cls := hown
  have hts := fun w h => hts w (wsL_law_in w h)
  have hA : ∀ q9 : Nat, s.heap.size ≤ q9 → (fun q9 : Nat => s.heap.size ≤ q9) q9 := fun _ h => h
  have hbA : ¬ (fun q9 : Nat => s.heap.size ≤ q9) b := Nat.not_le.mpr hbl
  intro row dv sl by8 B nb wd po tp fi la bi bo hR H locs hP hS ls hl
  have hn := hR.1
  have hw1 := hR.2.1
  have hw := hR.2.2.1
  have hD : va_D (fun q9 : Nat => s.heap.size ≤ q9) ((xw o a1 a2 a3 k1 k2 k3 row dv sl nb wd po tp fi la bi bo) ++ (mw q b1 k4 by8 wd po fi la bi bo nb)) := hDa _ rfl
  refine lv_aload_n hx hb dL_law_428 rfl (lv_at hl 1 rfl) ?_
  refine lv_aload_n hx hb dL_law_429 rfl (lv_at hl 0 rfl) ?_
  refine lv_iload_n hx hb dL_law_430 rfl (lv_at hl 3 rfl) ?_
  refine lv_iconst (v := 1) hx hb dL_law_431 (by decide) ?_
  refine lv_iadd hx hb dL_law_432 ?_
  refine va_sld hx hb hX hbl hbA hS (i := (nI i) + 1) (du_sb hiL hLb 1 (by decide)) dL_law_433 ?_
  refine lv_i2l (v := (xs ((nI i) + 1).toNatClampNeg).toInt64) hx hb dL_law_434 rfl ?_
  refine lv_bipush (v := 32) hx hb dL_law_435 (by decide) ?_
  refine lv_lshl (v := jshl ((xs ((nI i) + 1).toNatClampNeg).toInt64) 32) hx hb dL_law_437 rfl ?_
  refine lv_aload_n hx hb dL_law_438 rfl (lv_at hl 0 rfl) ?_
  refine lv_iload_n hx hb dL_law_439 rfl (lv_at hl 3 rfl) ?_
  refine lv_iconst (v := 2) hx hb dL_law_440 (by decide) ?_
  refine lv_iadd hx hb dL_law_441 ?_
  refine va_sld hx hb hX hbl hbA hS (i := (nI i) + 2) (du_sb hiL hLb 2 (by decide)) dL_law_442 ?_
  refine lv_i2l (v := (xs ((nI i) + 2).toNatClampNeg).toInt64) hx hb dL_law_443 rfl ?_
  refine lv_ldc2 hx hb hown (hts (.constantLong RL 13 4294967295) (by decide +kernel)) dL_law_444 ?_
  refine lv_land hx hb dL_law_447 ?_
  refine lv_lor hx hb dL_law_448 ?_
  refine lv_aload_n hx hb dL_law_449 rfl (lv_at hl 0 rfl) ?_
  refine lv_iload_n hx hb dL_law_450 rfl (lv_at hl 3 rfl) ?_
  refine lv_iconst (v := 3) hx hb dL_law_451 (by decide) ?_
  refine lv_iadd hx hb dL_law_452 ?_
  refine va_sld hx hb hX hbl hbA hS (i := (nI i) + 3) (du_sb hiL hLb 3 (by decide)) dL_law_453 ?_
  refine lv_i2l (v := (xs ((nI i) + 3).toNatClampNeg).toInt64) hx hb dL_law_454 rfl ?_
  refine lv_bipush (v := 32) hx hb dL_law_455 (by decide) ?_
  refine lv_lshl (v := jshl ((xs ((nI i) + 3).toNatClampNeg).toInt64) 32) hx hb dL_law_457 rfl ?_
  refine lv_aload_n hx hb dL_law_458 rfl (lv_at hl 0 rfl) ?_
  refine lv_iload_n hx hb dL_law_459 rfl (lv_at hl 3 rfl) ?_
  refine lv_iconst (v := 4) hx hb dL_law_460 (by decide) ?_
  refine lv_iadd hx hb dL_law_461 ?_
  refine va_sld hx hb hX hbl hbA hS (i := (nI i) + 4) (du_sb hiL hLb 4 (by decide)) dL_law_462 ?_
  refine lv_i2l (v := (xs ((nI i) + 4).toNatClampNeg).toInt64) hx hb dL_law_463 rfl ?_
  refine lv_ldc2 hx hb hown (hts (.constantLong RL 13 4294967295) (by decide +kernel)) dL_law_464 ?_
  refine lv_land hx hb dL_law_467 ?_
  refine lv_lor hx hb dL_law_468 ?_
  refine lv_aload_n hx hb dL_law_469 rfl (lv_at hl 0 rfl) ?_
  refine lv_iload_n hx hb dL_law_470 rfl (lv_at hl 3 rfl) ?_
  refine lv_iconst (v := 5) hx hb dL_law_471 (by decide) ?_
  refine lv_iadd hx hb dL_law_472 ?_
  refine va_sld hx hb hX hbl hbA hS (i := (nI i) + 5) (du_sb hiL hLb 5 (by decide)) dL_law_473 ?_
  refine ro_l (va_runV (As := [.long ((jshl ((xs ((nI i) + 1).toNatClampNeg).toInt64) 32) ||| (((xs ((nI i) + 2).toNatClampNeg).toInt64) &&& 4294967295)), .long ((jshl ((xs ((nI i) + 3).toNatClampNeg).toInt64) 32) ||| (((xs ((nI i) + 4).toNatClampNeg).toInt64) &&& 4294967295)), .int (xs ((nI i) + 5).toNatClampNeg)]) (rest := []) ⟨hx, hb, hml, hown, hts⟩ (c_joined (sz := H.size) ((jshl ((xs ((nI i) + 1).toNatClampNeg).toInt64) 32) ||| (((xs ((nI i) + 2).toNatClampNeg).toInt64) &&& 4294967295)) ((jshl ((xs ((nI i) + 3).toNatClampNeg).toInt64) 32) ||| (((xs ((nI i) + 4).toNatClampNeg).toInt64) &&& 4294967295)) (xs ((nI i) + 5).toNatClampNeg) (hw)) (cwV 3 hts gL_law_X0_joined rfl rfl rfl (by decide +kernel) ⟨Nat.le_of_ble_eq_true rfl, Nat.le_of_ble_eq_true rfl⟩) (preV_RO (hP.sub (ws' := (xw o a1 a2 a3 k1 k2 k3 row dv sl nb wd po tp fi la bi bo)) [0, 1, 2, 3] rfl) (hK.sub (tys' := xt k1 k2 k3) [0, 1, 2] rfl) 0 (ci := 0) rfl rfl) rfl rfl hl.1 rfl (lv_room (Nat.le_of_ble_eq_true rfl)) dL_law_474 ⟨Nat.le_of_ble_eq_true rfl, Nat.le_of_ble_eq_true rfl⟩) hS hA hP (fun H locs hP hS => ?_)
  refine lv_aload_n hx hb dL_law_477 rfl (lv_at hl 2 rfl) ?_
  refine lv_aload_n hx hb dL_law_478 rfl (lv_at hl 0 rfl) ?_
  refine lv_iload_n hx hb dL_law_479 rfl (lv_at hl 3 rfl) ?_
  refine lv_iconst (v := 1) hx hb dL_law_480 (by decide) ?_
  refine lv_iadd hx hb dL_law_481 ?_
  refine va_sld hx hb hX hbl hbA hS (i := (nI i) + 1) (du_sb hiL hLb 1 (by decide)) dL_law_482 ?_
  refine lv_i2l (v := (xs ((nI i) + 1).toNatClampNeg).toInt64) hx hb dL_law_483 rfl ?_
  refine lv_bipush (v := 32) hx hb dL_law_484 (by decide) ?_
  refine lv_lshl (v := jshl ((xs ((nI i) + 1).toNatClampNeg).toInt64) 32) hx hb dL_law_486 rfl ?_
  refine lv_aload_n hx hb dL_law_487 rfl (lv_at hl 0 rfl) ?_
  refine lv_iload_n hx hb dL_law_488 rfl (lv_at hl 3 rfl) ?_
  refine lv_iconst (v := 2) hx hb dL_law_489 (by decide) ?_
  refine lv_iadd hx hb dL_law_490 ?_
  refine va_sld hx hb hX hbl hbA hS (i := (nI i) + 2) (du_sb hiL hLb 2 (by decide)) dL_law_491 ?_
  refine lv_i2l (v := (xs ((nI i) + 2).toNatClampNeg).toInt64) hx hb dL_law_492 rfl ?_
  refine lv_ldc2 hx hb hown (hts (.constantLong RL 13 4294967295) (by decide +kernel)) dL_law_493 ?_
  refine lv_land hx hb dL_law_496 ?_
  refine lv_lor hx hb dL_law_497 ?_
  refine lv_aload_n hx hb dL_law_498 rfl (lv_at hl 0 rfl) ?_
  refine lv_iload_n hx hb dL_law_499 rfl (lv_at hl 3 rfl) ?_
  refine lv_iconst (v := 3) hx hb dL_law_500 (by decide) ?_
  refine lv_iadd hx hb dL_law_501 ?_
  refine va_sld hx hb hX hbl hbA hS (i := (nI i) + 3) (du_sb hiL hLb 3 (by decide)) dL_law_502 ?_
  refine lv_i2l (v := (xs ((nI i) + 3).toNatClampNeg).toInt64) hx hb dL_law_503 rfl ?_
  refine lv_bipush (v := 32) hx hb dL_law_504 (by decide) ?_
  refine lv_lshl (v := jshl ((xs ((nI i) + 3).toNatClampNeg).toInt64) 32) hx hb dL_law_506 rfl ?_
  refine lv_aload_n hx hb dL_law_507 rfl (lv_at hl 0 rfl) ?_
  refine lv_iload_n hx hb dL_law_508 rfl (lv_at hl 3 rfl) ?_
  refine lv_iconst (v := 4) hx hb dL_law_509 (by decide) ?_
  refine lv_iadd hx hb dL_law_510 ?_
  refine va_sld hx hb hX hbl hbA hS (i := (nI i) + 4) (du_sb hiL hLb 4 (by decide)) dL_law_511 ?_
  refine lv_i2l (v := (xs ((nI i) + 4).toNatClampNeg).toInt64) hx hb dL_law_512 rfl ?_
  refine lv_ldc2 hx hb hown (hts (.constantLong RL 13 4294967295) (by decide +kernel)) dL_law_513 ?_
  refine lv_land hx hb dL_law_516 ?_
  refine lv_lor hx hb dL_law_517 ?_
  refine lv_aload_n hx hb dL_law_518 rfl (lv_at hl 0 rfl) ?_
  refine lv_iload_n hx hb dL_law_519 rfl (lv_at hl 3 rfl) ?_
  refine lv_iconst (v := 5) hx hb dL_law_520 (by decide) ?_
  refine lv_iadd hx hb dL_law_521 ?_
  refine va_sld hx hb hX hbl hbA hS (i := (nI i) + 5) (du_sb hiL hLb 5 (by decide)) dL_law_522 ?_
  refine ro_l (va_runV (As := [.long ((jshl ((xs ((nI i) + 1).toNatClampNeg).toInt64) 32) ||| (((xs ((nI i) + 2).toNatClampNeg).toInt64) &&& 4294967295)), .long ((jshl ((xs ((nI i) + 3).toNatClampNeg).toInt64) 32) ||| (((xs ((nI i) + 4).toNatClampNeg).toInt64) &&& 4294967295)), .int (xs ((nI i) + 5).toNatClampNeg)]) (rest := [.long (mJoin (nI wd) bo tp fi la ((jshl ((xs ((nI i) + 1).toNatClampNeg).toInt64) 32) ||| (((xs ((nI i) + 2).toNatClampNeg).toInt64) &&& 4294967295)) ((jshl ((xs ((nI i) + 3).toNatClampNeg).toInt64) 32) ||| (((xs ((nI i) + 4).toNatClampNeg).toInt64) &&& 4294967295)) (xs ((nI i) + 5).toNatClampNeg))]) ⟨hx, hb, hml, hown, hts⟩ (r_joined (sz := H.size) ((jshl ((xs ((nI i) + 1).toNatClampNeg).toInt64) 32) ||| (((xs ((nI i) + 2).toNatClampNeg).toInt64) &&& 4294967295)) ((jshl ((xs ((nI i) + 3).toNatClampNeg).toInt64) 32) ||| (((xs ((nI i) + 4).toNatClampNeg).toInt64) &&& 4294967295)) (xs ((nI i) + 5).toNatClampNeg) (hw1) (hw)) (cwV 3 hts gL_law_X1_joined rfl rfl rfl (by decide +kernel) ⟨Nat.le_of_ble_eq_true rfl, Nat.le_of_ble_eq_true rfl⟩) (preV_RO (hP.sub (ws' := (mw q b1 k4 by8 wd po fi la bi bo nb)) [4, 5] rfl) (hK.sub (tys' := mt k4) [3] rfl) 0 (ci := 1) rfl rfl) rfl rfl hl.1 rfl (lv_room (Nat.le_of_ble_eq_true rfl)) dL_law_523 ⟨Nat.le_of_ble_eq_true rfl, Nat.le_of_ble_eq_true rfl⟩) hS hA hP (fun H locs hP hS => ?_)
  refine W.lcmp hx hb dL_law_526 ?_
  refine lv_if_eq (tgt := 703) hx hb dL_law_527 (by decide) (fun c_527 => ?_) (fun c_527 => ?_)
  ·
    exact kk row dv sl by8 B nb wd po tp fi la bi bo (hR) H locs hP hS ls (lv_sub hl [0, 1, 2, 3] rfl)
  ·
    exact absurd ((lg_cmp_eq _ _).mpr (eq_join hR _ _ _)) c_527
set_option maxHeartbeats 4000000 in
set_option maxRecDepth 100000 in
theorem law_entry {p : Program} {l : Launch} {e : Env} {s : State} {m : MethodId} {below : List Frame} {meth : Method} {c : Code} {b L : Nat} {xs : Nat → Int32} {D : va_G} {o a1 a2 a3 q b1 : Nat} {k1 k2 k3 k4 : ClassId} {i : Nat} (C0 : lw_At p s m meth c b L xs) (hK : va_K D vwCl (xt k1 k2 k3 ++ mt k4) s) (hDa : ∀ ws : va_W, ws.map Prod.fst = [o, a1, a2, a3, q, b1] → va_D (fun q9 : Nat => s.heap.size ≤ q9) ws) (hLb : L ≤ 5120) (hiL : i + 10 ≤ L) (kk : lwG p l e s m below meth c b D o a1 a2 a3 q b1 k1 k2 k3 k4 i 703) : lwG p l e s m below meth c b D o a1 a2 a3 q b1 k1 k2 k3 k4 i 532 := by
  obtain ⟨hx, hb, hr, hml, hown, hts, hX, hbl, hlocks, hgv⟩ := C0
  have hown : s.vm.findClass RL = some m.cls := hown
  have hts := fun w h => hts w (wsL_law_in w h)
  have hA : ∀ q9 : Nat, s.heap.size ≤ q9 → (fun q9 : Nat => s.heap.size ≤ q9) q9 := fun _ h => h
  have hbA : ¬ (fun q9 : Nat => s.heap.size ≤ q9) b := Nat.not_le.mpr hbl
  intro row dv sl by8 B nb wd po tp fi la bi bo hR H locs hP hS ls hl
  have hn := hR.1
  have hw1 := hR.2.1
  have hw := hR.2.2.1
  have hD : va_D (fun q9 : Nat => s.heap.size ≤ q9) ((xw o a1 a2 a3 k1 k2 k3 row dv sl nb wd po tp fi la bi bo) ++ (mw q b1 k4 by8 wd po fi la bi bo nb)) := hDa _ rfl
  refine lv_aload_n hx hb dL_law_532 rfl (lv_at hl 1 rfl) ?_
  refine lv_aload_n hx hb dL_law_533 rfl (lv_at hl 0 rfl) ?_
  refine lv_iload_n hx hb dL_law_534 rfl (lv_at hl 3 rfl) ?_
  refine lv_iconst (v := 1) hx hb dL_law_535 (by decide) ?_
  refine lv_iadd hx hb dL_law_536 ?_
  refine va_sld hx hb hX hbl hbA hS (i := (nI i) + 1) (du_sb hiL hLb 1 (by decide)) dL_law_537 ?_
  refine lv_aload_n hx hb dL_law_538 rfl (lv_at hl 0 rfl) ?_
  refine lv_iload_n hx hb dL_law_539 rfl (lv_at hl 3 rfl) ?_
  refine lv_iconst (v := 2) hx hb dL_law_540 (by decide) ?_
  refine lv_iadd hx hb dL_law_541 ?_
  refine va_sld hx hb hX hbl hbA hS (i := (nI i) + 2) (du_sb hiL hLb 2 (by decide)) dL_law_542 ?_
  refine ro_l (va_runV (As := [.int (xs ((nI i) + 1).toNatClampNeg), .int (xs ((nI i) + 2).toNatClampNeg)]) (rest := []) ⟨hx, hb, hml, hown, hts⟩ (c_entry (sz := H.size) (xs ((nI i) + 1).toNatClampNeg) (xs ((nI i) + 2).toNatClampNeg)) (cwV 2 hts gL_law_X0_entry rfl rfl rfl (by decide +kernel) ⟨Nat.le_of_ble_eq_true rfl, Nat.le_of_ble_eq_true rfl⟩) (preV_RO (hP.sub (ws' := (xw o a1 a2 a3 k1 k2 k3 row dv sl nb wd po tp fi la bi bo)) [0, 1, 2, 3] rfl) (hK.sub (tys' := xt k1 k2 k3) [0, 1, 2] rfl) 0 (ci := 0) rfl rfl) rfl rfl hl.1 rfl (lv_room (Nat.le_of_ble_eq_true rfl)) dL_law_543 ⟨Nat.le_of_ble_eq_true rfl, Nat.le_of_ble_eq_true rfl⟩) hS hA hP (fun H locs hP hS => ?_)
  refine lv_aload_n hx hb dL_law_546 rfl (lv_at hl 2 rfl) ?_
  refine lv_aload_n hx hb dL_law_547 rfl (lv_at hl 0 rfl) ?_
  refine lv_iload_n hx hb dL_law_548 rfl (lv_at hl 3 rfl) ?_
  refine lv_iconst (v := 1) hx hb dL_law_549 (by decide) ?_
  refine lv_iadd hx hb dL_law_550 ?_
  refine va_sld hx hb hX hbl hbA hS (i := (nI i) + 1) (du_sb hiL hLb 1 (by decide)) dL_law_551 ?_
  refine lv_aload_n hx hb dL_law_552 rfl (lv_at hl 0 rfl) ?_
  refine lv_iload_n hx hb dL_law_553 rfl (lv_at hl 3 rfl) ?_
  refine lv_iconst (v := 2) hx hb dL_law_554 (by decide) ?_
  refine lv_iadd hx hb dL_law_555 ?_
  refine va_sld hx hb hX hbl hbA hS (i := (nI i) + 2) (du_sb hiL hLb 2 (by decide)) dL_law_556 ?_
  refine ro_l (va_runV (As := [.int (xs ((nI i) + 1).toNatClampNeg), .int (xs ((nI i) + 2).toNatClampNeg)]) (rest := [.long (mEntry sl (nI wd) bi (xs ((nI i) + 1).toNatClampNeg) (xs ((nI i) + 2).toNatClampNeg))]) ⟨hx, hb, hml, hown, hts⟩ (r_entry (sz := H.size) (xs ((nI i) + 1).toNatClampNeg) (xs ((nI i) + 2).toNatClampNeg) (hw1) (hw)) (cwV 2 hts gL_law_X1_entry rfl rfl rfl (by decide +kernel) ⟨Nat.le_of_ble_eq_true rfl, Nat.le_of_ble_eq_true rfl⟩) (preV_RO (hP.sub (ws' := (mw q b1 k4 by8 wd po fi la bi bo nb)) [4, 5] rfl) (hK.sub (tys' := mt k4) [3] rfl) 0 (ci := 1) rfl rfl) rfl rfl hl.1 rfl (lv_room (Nat.le_of_ble_eq_true rfl)) dL_law_557 ⟨Nat.le_of_ble_eq_true rfl, Nat.le_of_ble_eq_true rfl⟩) hS hA hP (fun H locs hP hS => ?_)
  refine W.lcmp hx hb dL_law_560 ?_
  refine lv_if_eq (tgt := 703) hx hb dL_law_561 (by decide) (fun c_561 => ?_) (fun c_561 => ?_)
  ·
    exact kk row dv sl by8 B nb wd po tp fi la bi bo (hR) H locs hP hS ls (lv_sub hl [0, 1, 2, 3] rfl)
  ·
    exact absurd ((lg_cmp_eq _ _).mpr (eq_entry hR _ _)) c_561
set_option maxHeartbeats 4000000 in
set_option maxRecDepth 100000 in
theorem law_zeros {p : Program} {l : Launch} {e : Env} {s : State} {m : MethodId} {below : List Frame} {meth : Method} {c : Code} {b L : Nat} {xs : Nat → Int32} {D : va_G} {o a1 a2 a3 q b1 : Nat} {k1 k2 k3 k4 : ClassId} {i : Nat} (C0 : lw_At p s m meth c b L xs) (hK : va_K D vwCl (xt k1 k2 k3 ++ mt k4) s) (hDa : ∀ ws : va_W, ws.map Prod.fst = [o, a1, a2, a3, q, b1] → va_D (fun q9 : Nat => s.heap.size ≤ q9) ws) (hLb : L ≤ 5120) (hiL : i + 10 ≤ L) (kk : lwG p l e s m below meth c b D o a1 a2 a3 q b1 k1 k2 k3 k4 i 703) : lwG p l e s m below meth c b D o a1 a2 a3 q b1 k1 k2 k3 k4 i 566 := by
  obtain ⟨hx, hb, hr, hml, hown, hts, hX, hbl, hlocks, hgv⟩ := C0
  have hown : s.vm.findClass RL = some m.cls := hown
  have hts := fun w h => hts w (wsL_law_in w h)
  have hA : ∀ q9 : Nat, s.heap.size ≤ q9 → (fun q9 : Nat => s.heap.size ≤ q9) q9 := fun _ h => h
  have hbA : ¬ (fun q9 : Nat => s.heap.size ≤ q9) b := Nat.not_le.mpr hbl
  intro row dv sl by8 B nb wd po tp fi la bi bo hR H locs hP hS ls hl
  have hn := hR.1
  have hw1 := hR.2.1
  have hw := hR.2.2.1
  have hD : va_D (fun q9 : Nat => s.heap.size ≤ q9) ((xw o a1 a2 a3 k1 k2 k3 row dv sl nb wd po tp fi la bi bo) ++ (mw q b1 k4 by8 wd po fi la bi bo nb)) := hDa _ rfl
  refine lv_aload_n hx hb dL_law_566 rfl (lv_at hl 1 rfl) ?_
  refine lv_aload_n hx hb dL_law_567 rfl (lv_at hl 0 rfl) ?_
  refine lv_iload_n hx hb dL_law_568 rfl (lv_at hl 3 rfl) ?_
  refine lv_iconst (v := 1) hx hb dL_law_569 (by decide) ?_
  refine lv_iadd hx hb dL_law_570 ?_
  refine va_sld hx hb hX hbl hbA hS (i := (nI i) + 1) (du_sb hiL hLb 1 (by decide)) dL_law_571 ?_
  refine lv_i2l (v := (xs ((nI i) + 1).toNatClampNeg).toInt64) hx hb dL_law_572 rfl ?_
  refine lv_bipush (v := 32) hx hb dL_law_573 (by decide) ?_
  refine lv_lshl (v := jshl ((xs ((nI i) + 1).toNatClampNeg).toInt64) 32) hx hb dL_law_575 rfl ?_
  refine lv_aload_n hx hb dL_law_576 rfl (lv_at hl 0 rfl) ?_
  refine lv_iload_n hx hb dL_law_577 rfl (lv_at hl 3 rfl) ?_
  refine lv_iconst (v := 2) hx hb dL_law_578 (by decide) ?_
  refine lv_iadd hx hb dL_law_579 ?_
  refine va_sld hx hb hX hbl hbA hS (i := (nI i) + 2) (du_sb hiL hLb 2 (by decide)) dL_law_580 ?_
  refine lv_i2l (v := (xs ((nI i) + 2).toNatClampNeg).toInt64) hx hb dL_law_581 rfl ?_
  refine lv_ldc2 hx hb hown (hts (.constantLong RL 13 4294967295) (by decide +kernel)) dL_law_582 ?_
  refine lv_land hx hb dL_law_585 ?_
  refine lv_lor hx hb dL_law_586 ?_
  refine lv_aload_n hx hb dL_law_587 rfl (lv_at hl 0 rfl) ?_
  refine lv_iload_n hx hb dL_law_588 rfl (lv_at hl 3 rfl) ?_
  refine lv_iconst (v := 3) hx hb dL_law_589 (by decide) ?_
  refine lv_iadd hx hb dL_law_590 ?_
  refine va_sld hx hb hX hbl hbA hS (i := (nI i) + 3) (du_sb hiL hLb 3 (by decide)) dL_law_591 ?_
  refine ro_l (va_runV (As := [.long ((jshl ((xs ((nI i) + 1).toNatClampNeg).toInt64) 32) ||| (((xs ((nI i) + 2).toNatClampNeg).toInt64) &&& 4294967295)), .int (xs ((nI i) + 3).toNatClampNeg)]) (rest := []) ⟨hx, hb, hml, hown, hts⟩ (c_zeros (sz := H.size) ((jshl ((xs ((nI i) + 1).toNatClampNeg).toInt64) 32) ||| (((xs ((nI i) + 2).toNatClampNeg).toInt64) &&& 4294967295)) (xs ((nI i) + 3).toNatClampNeg) (hw)) (cwV 2 hts gL_law_X0_zeros rfl rfl rfl (by decide +kernel) ⟨Nat.le_of_ble_eq_true rfl, Nat.le_of_ble_eq_true rfl⟩) (preV_RO (hP.sub (ws' := (xw o a1 a2 a3 k1 k2 k3 row dv sl nb wd po tp fi la bi bo)) [0, 1, 2, 3] rfl) (hK.sub (tys' := xt k1 k2 k3) [0, 1, 2] rfl) 0 (ci := 0) rfl rfl) rfl rfl hl.1 rfl (lv_room (Nat.le_of_ble_eq_true rfl)) dL_law_592 ⟨Nat.le_of_ble_eq_true rfl, Nat.le_of_ble_eq_true rfl⟩) hS hA hP (fun H locs hP hS => ?_)
  refine lv_aload_n hx hb dL_law_595 rfl (lv_at hl 2 rfl) ?_
  refine lv_aload_n hx hb dL_law_596 rfl (lv_at hl 0 rfl) ?_
  refine lv_iload_n hx hb dL_law_597 rfl (lv_at hl 3 rfl) ?_
  refine lv_iconst (v := 1) hx hb dL_law_598 (by decide) ?_
  refine lv_iadd hx hb dL_law_599 ?_
  refine va_sld hx hb hX hbl hbA hS (i := (nI i) + 1) (du_sb hiL hLb 1 (by decide)) dL_law_600 ?_
  refine lv_i2l (v := (xs ((nI i) + 1).toNatClampNeg).toInt64) hx hb dL_law_601 rfl ?_
  refine lv_bipush (v := 32) hx hb dL_law_602 (by decide) ?_
  refine lv_lshl (v := jshl ((xs ((nI i) + 1).toNatClampNeg).toInt64) 32) hx hb dL_law_604 rfl ?_
  refine lv_aload_n hx hb dL_law_605 rfl (lv_at hl 0 rfl) ?_
  refine lv_iload_n hx hb dL_law_606 rfl (lv_at hl 3 rfl) ?_
  refine lv_iconst (v := 2) hx hb dL_law_607 (by decide) ?_
  refine lv_iadd hx hb dL_law_608 ?_
  refine va_sld hx hb hX hbl hbA hS (i := (nI i) + 2) (du_sb hiL hLb 2 (by decide)) dL_law_609 ?_
  refine lv_i2l (v := (xs ((nI i) + 2).toNatClampNeg).toInt64) hx hb dL_law_610 rfl ?_
  refine lv_ldc2 hx hb hown (hts (.constantLong RL 13 4294967295) (by decide +kernel)) dL_law_611 ?_
  refine lv_land hx hb dL_law_614 ?_
  refine lv_lor hx hb dL_law_615 ?_
  refine lv_aload_n hx hb dL_law_616 rfl (lv_at hl 0 rfl) ?_
  refine lv_iload_n hx hb dL_law_617 rfl (lv_at hl 3 rfl) ?_
  refine lv_iconst (v := 3) hx hb dL_law_618 (by decide) ?_
  refine lv_iadd hx hb dL_law_619 ?_
  refine va_sld hx hb hX hbl hbA hS (i := (nI i) + 3) (du_sb hiL hLb 3 (by decide)) dL_law_620 ?_
  refine ro_l (va_runV (As := [.long ((jshl ((xs ((nI i) + 1).toNatClampNeg).toInt64) 32) ||| (((xs ((nI i) + 2).toNatClampNeg).toInt64) &&& 4294967295)), .int (xs ((nI i) + 3).toNatClampNeg)]) (rest := [.long (mZer (nI wd) tp ((jshl ((xs ((nI i) + 1).toNatClampNeg).toInt64) 32) ||| (((xs ((nI i) + 2).toNatClampNeg).toInt64) &&& 4294967295)) (xs ((nI i) + 3).toNatClampNeg))]) ⟨hx, hb, hml, hown, hts⟩ (r_zeros (sz := H.size) ((jshl ((xs ((nI i) + 1).toNatClampNeg).toInt64) 32) ||| (((xs ((nI i) + 2).toNatClampNeg).toInt64) &&& 4294967295)) (xs ((nI i) + 3).toNatClampNeg) (hw1) (hw)) (cwV 2 hts gL_law_X1_zeros rfl rfl rfl (by decide +kernel) ⟨Nat.le_of_ble_eq_true rfl, Nat.le_of_ble_eq_true rfl⟩) (preV_RO (hP.sub (ws' := (mw q b1 k4 by8 wd po fi la bi bo nb)) [4, 5] rfl) (hK.sub (tys' := mt k4) [3] rfl) 0 (ci := 1) rfl rfl) rfl rfl hl.1 rfl (lv_room (Nat.le_of_ble_eq_true rfl)) dL_law_621 ⟨Nat.le_of_ble_eq_true rfl, Nat.le_of_ble_eq_true rfl⟩) hS hA hP (fun H locs hP hS => ?_)
  refine W.lcmp hx hb dL_law_624 ?_
  refine lv_if_eq (tgt := 703) hx hb dL_law_625 (by decide) (fun c_625 => ?_) (fun c_625 => ?_)
  ·
    exact kk row dv sl by8 B nb wd po tp fi la bi bo (hR) H locs hP hS ls (lv_sub hl [0, 1, 2, 3] rfl)
  ·
    exact absurd ((lg_cmp_eq _ _).mpr (eq_zeros hR _ _)) c_625
set_option maxHeartbeats 4000000 in
set_option maxRecDepth 100000 in
theorem law_round {p : Program} {l : Launch} {e : Env} {s : State} {m : MethodId} {below : List Frame} {meth : Method} {c : Code} {b L : Nat} {xs : Nat → Int32} {D : va_G} {o a1 a2 a3 q b1 : Nat} {k1 k2 k3 k4 : ClassId} {i : Nat} (C0 : lw_At p s m meth c b L xs) (hK : va_K D vwCl (xt k1 k2 k3 ++ mt k4) s) (hDa : ∀ ws : va_W, ws.map Prod.fst = [o, a1, a2, a3, q, b1] → va_D (fun q9 : Nat => s.heap.size ≤ q9) ws) (hLb : L ≤ 5120) (hiL : i + 10 ≤ L) (kk : lwG p l e s m below meth c b D o a1 a2 a3 q b1 k1 k2 k3 k4 i 703) : lwG p l e s m below meth c b D o a1 a2 a3 q b1 k1 k2 k3 k4 i 630 := by
  obtain ⟨hx, hb, hr, hml, hown, hts, hX, hbl, hlocks, hgv⟩ := C0
  have hown : s.vm.findClass RL = some m.cls := hown
  have hts := fun w h => hts w (wsL_law_in w h)
  have hA : ∀ q9 : Nat, s.heap.size ≤ q9 → (fun q9 : Nat => s.heap.size ≤ q9) q9 := fun _ h => h
  have hbA : ¬ (fun q9 : Nat => s.heap.size ≤ q9) b := Nat.not_le.mpr hbl
  intro row dv sl by8 B nb wd po tp fi la bi bo hR H locs hP hS ls hl
  have hn := hR.1
  have hw1 := hR.2.1
  have hw := hR.2.2.1
  have hD : va_D (fun q9 : Nat => s.heap.size ≤ q9) ((xw o a1 a2 a3 k1 k2 k3 row dv sl nb wd po tp fi la bi bo) ++ (mw q b1 k4 by8 wd po fi la bi bo nb)) := hDa _ rfl
  refine lv_aload_n hx hb dL_law_630 rfl (lv_at hl 1 rfl) ?_
  refine ro_i (va_runV (As := []) (rest := []) ⟨hx, hb, hml, hown, hts⟩ (c_round (sz := H.size) ) (cwV 0 hts gL_law_X0_round rfl rfl rfl (by decide +kernel) ⟨Nat.le_of_ble_eq_true rfl, Nat.le_of_ble_eq_true rfl⟩) (preV_RO (hP.sub (ws' := (xw o a1 a2 a3 k1 k2 k3 row dv sl nb wd po tp fi la bi bo)) [0, 1, 2, 3] rfl) (hK.sub (tys' := xt k1 k2 k3) [0, 1, 2] rfl) 0 (ci := 0) rfl rfl) rfl rfl hl.1 rfl (lv_room (Nat.le_of_ble_eq_true rfl)) dL_law_631 ⟨Nat.le_of_ble_eq_true rfl, Nat.le_of_ble_eq_true rfl⟩) hS hA hP (fun H locs hP hS => ?_)
  refine lv_aload_n hx hb dL_law_634 rfl (lv_at hl 2 rfl) ?_
  refine ro_i (va_runV (As := []) (rest := [.int (mRound (nI wd) tp)]) ⟨hx, hb, hml, hown, hts⟩ (r_round (sz := H.size) ) (cwV 0 hts gL_law_X1_round rfl rfl rfl (by decide +kernel) ⟨Nat.le_of_ble_eq_true rfl, Nat.le_of_ble_eq_true rfl⟩) (preV_RO (hP.sub (ws' := (mw q b1 k4 by8 wd po fi la bi bo nb)) [4, 5] rfl) (hK.sub (tys' := mt k4) [3] rfl) 0 (ci := 1) rfl rfl) rfl rfl hl.1 rfl (lv_room (Nat.le_of_ble_eq_true rfl)) dL_law_635 ⟨Nat.le_of_ble_eq_true rfl, Nat.le_of_ble_eq_true rfl⟩) hS hA hP (fun H locs hP hS => ?_)
  refine lv_icmp_eq (tgt := 703) hx hb dL_law_638 (by decide) (fun c_638 => ?_) (fun c_638 => ?_)
  ·
    exact kk row dv sl by8 B nb wd po tp fi la bi bo (hR) H locs hP hS ls (lv_sub hl [0, 1, 2, 3] rfl)
  ·
    exact absurd (eq_round hR) c_638
set_option maxHeartbeats 4000000 in
set_option maxRecDepth 100000 in
theorem law_holds {p : Program} {l : Launch} {e : Env} {s : State} {m : MethodId} {below : List Frame} {meth : Method} {c : Code} {b L : Nat} {xs : Nat → Int32} {D : va_G} {o a1 a2 a3 q b1 : Nat} {k1 k2 k3 k4 : ClassId} {i : Nat} (C0 : lw_At p s m meth c b L xs) (hK : va_K D vwCl (xt k1 k2 k3 ++ mt k4) s) (hDa : ∀ ws : va_W, ws.map Prod.fst = [o, a1, a2, a3, q, b1] → va_D (fun q9 : Nat => s.heap.size ≤ q9) ws) (hLb : L ≤ 5120) (hiL : i + 10 ≤ L) (kk : lwG p l e s m below meth c b D o a1 a2 a3 q b1 k1 k2 k3 k4 i 703) : lwG p l e s m below meth c b D o a1 a2 a3 q b1 k1 k2 k3 k4 i 643 := by
  obtain ⟨hx, hb, hr, hml, hown, hts, hX, hbl, hlocks, hgv⟩ := C0
  have hown : s.vm.findClass RL = some m.cls := hown
  have hts := fun w h => hts w (wsL_law_in w h)
  have hA : ∀ q9 : Nat, s.heap.size ≤ q9 → (fun q9 : Nat => s.heap.size ≤ q9) q9 := fun _ h => h
  have hbA : ¬ (fun q9 : Nat => s.heap.size ≤ q9) b := Nat.not_le.mpr hbl
  intro row dv sl by8 B nb wd po tp fi la bi bo hR H locs hP hS ls hl
  have hn := hR.1
  have hw1 := hR.2.1
  have hw := hR.2.2.1
  have hD : va_D (fun q9 : Nat => s.heap.size ≤ q9) ((xw o a1 a2 a3 k1 k2 k3 row dv sl nb wd po tp fi la bi bo) ++ (mw q b1 k4 by8 wd po fi la bi bo nb)) := hDa _ rfl
  refine lv_aload_n hx hb dL_law_643 rfl (lv_at hl 1 rfl) ?_
  refine mu_i (ws := (xw o a1 a2 a3 k1 k2 k3 row dv sl nb wd po tp fi la bi bo)) (ws' := (xw o a1 a2 a3 k1 k2 k3 row (mDvN row dv (mTop (nI wd) fi) tp (nb * 8)) sl nb wd po tp fi la bi bo)) (wr := (mw q b1 k4 by8 wd po fi la bi bo nb)) (va_runV (As := []) (rest := []) ⟨hx, hb, hml, hown, hts⟩ (c_holds (sz := H.size) (hw) (hn) (holds_1 hR) (holds_2 hR) (holds_3 hR) (fun c _ h => holds_j hR c h)) (cwV 0 hts gL_law_X0_holds rfl rfl rfl (by decide +kernel) ⟨Nat.le_of_ble_eq_true rfl, Nat.le_of_ble_eq_true rfl⟩) (preV_MU (hP.sub (ws' := (xw o a1 a2 a3 k1 k2 k3 row dv sl nb wd po tp fi la bi bo)) [0, 1, 2, 3] rfl) (hK.sub (tys' := xt k1 k2 k3) [0, 1, 2] rfl) (hD.sub (ws' := (xw o a1 a2 a3 k1 k2 k3 row dv sl nb wd po tp fi la bi bo)) [0, 1, 2, 3] (by decide) rfl) 0 (ci := 0) rfl rfl) rfl rfl hl.1 rfl (lv_room (Nat.le_of_ble_eq_true rfl)) dL_law_644 ⟨Nat.le_of_ble_eq_true rfl, Nat.le_of_ble_eq_true rfl⟩) hS hA hP hD rfl (fun H locs hP hD hS => ?_)
  refine lv_aload_n hx hb dL_law_647 rfl (lv_at hl 2 rfl) ?_
  refine ro_i (va_runV (As := []) (rest := [.int 1]) ⟨hx, hb, hml, hown, hts⟩ (r_holds (sz := H.size) ) (cwV 0 hts gL_law_X1_holds rfl rfl rfl (by decide +kernel) ⟨Nat.le_of_ble_eq_true rfl, Nat.le_of_ble_eq_true rfl⟩) (preV_RO (hP.sub (ws' := (mw q b1 k4 by8 wd po fi la bi bo nb)) [4, 5] rfl) (hK.sub (tys' := mt k4) [3] rfl) 0 (ci := 1) rfl rfl) rfl rfl hl.1 rfl (lv_room (Nat.le_of_ble_eq_true rfl)) dL_law_648 ⟨Nat.le_of_ble_eq_true rfl, Nat.le_of_ble_eq_true rfl⟩) hS hA hP (fun H locs hP hS => ?_)
  refine lv_icmp_eq (tgt := 703) hx hb dL_law_651 (by decide) (fun c_651 => ?_) (fun c_651 => ?_)
  ·
    exact kk row _ sl by8 B nb wd po tp fi la bi bo (hR) H locs hP hS ls (lv_sub hl [0, 1, 2, 3] rfl)
  ·
    exact absurd (rfl) c_651
set_option maxHeartbeats 4000000 in
set_option maxRecDepth 100000 in
theorem law_count {p : Program} {l : Launch} {e : Env} {s : State} {m : MethodId} {below : List Frame} {meth : Method} {c : Code} {b L : Nat} {xs : Nat → Int32} {D : va_G} {o a1 a2 a3 q b1 : Nat} {k1 k2 k3 k4 : ClassId} {i : Nat} (C0 : lw_At p s m meth c b L xs) (hK : va_K D vwCl (xt k1 k2 k3 ++ mt k4) s) (hDa : ∀ ws : va_W, ws.map Prod.fst = [o, a1, a2, a3, q, b1] → va_D (fun q9 : Nat => s.heap.size ≤ q9) ws) (hLb : L ≤ 5120) (hiL : i + 10 ≤ L) (kk : lwG p l e s m below meth c b D o a1 a2 a3 q b1 k1 k2 k3 k4 i 703) : lwG p l e s m below meth c b D o a1 a2 a3 q b1 k1 k2 k3 k4 i 656 := by
  obtain ⟨hx, hb, hr, hml, hown, hts, hX, hbl, hlocks, hgv⟩ := C0
  have hown : s.vm.findClass RL = some m.cls := hown
  have hts := fun w h => hts w (wsL_law_in w h)
  have hA : ∀ q9 : Nat, s.heap.size ≤ q9 → (fun q9 : Nat => s.heap.size ≤ q9) q9 := fun _ h => h
  have hbA : ¬ (fun q9 : Nat => s.heap.size ≤ q9) b := Nat.not_le.mpr hbl
  intro row dv sl by8 B nb wd po tp fi la bi bo hR H locs hP hS ls hl
  have hn := hR.1
  have hw1 := hR.2.1
  have hw := hR.2.2.1
  have hD : va_D (fun q9 : Nat => s.heap.size ≤ q9) ((xw o a1 a2 a3 k1 k2 k3 row dv sl nb wd po tp fi la bi bo) ++ (mw q b1 k4 by8 wd po fi la bi bo nb)) := hDa _ rfl
  refine lv_aload_n hx hb dL_law_656 rfl (lv_at hl 1 rfl) ?_
  refine lv_aload_n hx hb dL_law_657 rfl (lv_at hl 0 rfl) ?_
  refine lv_iload_n hx hb dL_law_658 rfl (lv_at hl 3 rfl) ?_
  refine lv_iconst (v := 1) hx hb dL_law_659 (by decide) ?_
  refine lv_iadd hx hb dL_law_660 ?_
  refine va_sld hx hb hX hbl hbA hS (i := (nI i) + 1) (du_sb hiL hLb 1 (by decide)) dL_law_661 ?_
  refine ro_i (va_runV (As := [.int (xs ((nI i) + 1).toNatClampNeg)]) (rest := []) ⟨hx, hb, hml, hown, hts⟩ (c_count (sz := H.size) (xs ((nI i) + 1).toNatClampNeg)) (cwV 1 hts gL_law_X0_count rfl rfl rfl (by decide +kernel) ⟨Nat.le_of_ble_eq_true rfl, Nat.le_of_ble_eq_true rfl⟩) (preV_RO (hP.sub (ws' := (xw o a1 a2 a3 k1 k2 k3 row dv sl nb wd po tp fi la bi bo)) [0, 1, 2, 3] rfl) (hK.sub (tys' := xt k1 k2 k3) [0, 1, 2] rfl) 0 (ci := 0) rfl rfl) rfl rfl hl.1 rfl (lv_room (Nat.le_of_ble_eq_true rfl)) dL_law_662 ⟨Nat.le_of_ble_eq_true rfl, Nat.le_of_ble_eq_true rfl⟩) hS hA hP (fun H locs hP hS => ?_)
  refine lv_aload_n hx hb dL_law_665 rfl (lv_at hl 2 rfl) ?_
  refine lv_aload_n hx hb dL_law_666 rfl (lv_at hl 0 rfl) ?_
  refine lv_iload_n hx hb dL_law_667 rfl (lv_at hl 3 rfl) ?_
  refine lv_iconst (v := 1) hx hb dL_law_668 (by decide) ?_
  refine lv_iadd hx hb dL_law_669 ?_
  refine va_sld hx hb hX hbl hbA hS (i := (nI i) + 1) (du_sb hiL hLb 1 (by decide)) dL_law_670 ?_
  refine ro_i (va_runV (As := [.int (xs ((nI i) + 1).toNatClampNeg)]) (rest := [.int (cCount nb wd bi bo (xs ((nI i) + 1).toNatClampNeg))]) ⟨hx, hb, hml, hown, hts⟩ (r_count (sz := H.size) (xs ((nI i) + 1).toNatClampNeg)) (cwV 1 hts gL_law_X1_count rfl rfl rfl (by decide +kernel) ⟨Nat.le_of_ble_eq_true rfl, Nat.le_of_ble_eq_true rfl⟩) (preV_RO (hP.sub (ws' := (mw q b1 k4 by8 wd po fi la bi bo nb)) [4, 5] rfl) (hK.sub (tys' := mt k4) [3] rfl) 0 (ci := 1) rfl rfl) rfl rfl hl.1 rfl (lv_room (Nat.le_of_ble_eq_true rfl)) dL_law_671 ⟨Nat.le_of_ble_eq_true rfl, Nat.le_of_ble_eq_true rfl⟩) hS hA hP (fun H locs hP hS => ?_)
  refine lv_icmp_eq (tgt := 703) hx hb dL_law_674 (by decide) (fun c_674 => ?_) (fun c_674 => ?_)
  ·
    exact kk row dv sl by8 B nb wd po tp fi la bi bo (hR) H locs hP hS ls (lv_sub hl [0, 1, 2, 3] rfl)
  ·
    exact absurd (rfl) c_674
set_option maxHeartbeats 4000000 in
set_option maxRecDepth 100000 in
theorem law_told {p : Program} {l : Launch} {e : Env} {s : State} {m : MethodId} {below : List Frame} {meth : Method} {c : Code} {b L : Nat} {xs : Nat → Int32} {D : va_G} {o a1 a2 a3 q b1 : Nat} {k1 k2 k3 k4 : ClassId} {i : Nat} (C0 : lw_At p s m meth c b L xs) (hK : va_K D vwCl (xt k1 k2 k3 ++ mt k4) s) (hDa : ∀ ws : va_W, ws.map Prod.fst = [o, a1, a2, a3, q, b1] → va_D (fun q9 : Nat => s.heap.size ≤ q9) ws) (hLb : L ≤ 5120) (hiL : i + 10 ≤ L) (kk : lwG p l e s m below meth c b D o a1 a2 a3 q b1 k1 k2 k3 k4 i 703) : lwG p l e s m below meth c b D o a1 a2 a3 q b1 k1 k2 k3 k4 i 679 := by
  obtain ⟨hx, hb, hr, hml, hown, hts, hX, hbl, hlocks, hgv⟩ := C0
  have hown : s.vm.findClass RL = some m.cls := hown
  have hts := fun w h => hts w (wsL_law_in w h)
  have hA : ∀ q9 : Nat, s.heap.size ≤ q9 → (fun q9 : Nat => s.heap.size ≤ q9) q9 := fun _ h => h
  have hbA : ¬ (fun q9 : Nat => s.heap.size ≤ q9) b := Nat.not_le.mpr hbl
  intro row dv sl by8 B nb wd po tp fi la bi bo hR H locs hP hS ls hl
  have hn := hR.1
  have hw1 := hR.2.1
  have hw := hR.2.2.1
  have hD : va_D (fun q9 : Nat => s.heap.size ≤ q9) ((xw o a1 a2 a3 k1 k2 k3 row dv sl nb wd po tp fi la bi bo) ++ (mw q b1 k4 by8 wd po fi la bi bo nb)) := hDa _ rfl
  refine lv_aload_n hx hb dL_law_679 rfl (lv_at hl 1 rfl) ?_
  refine lv_aload_n hx hb dL_law_680 rfl (lv_at hl 0 rfl) ?_
  refine lv_iload_n hx hb dL_law_681 rfl (lv_at hl 3 rfl) ?_
  refine lv_iconst (v := 1) hx hb dL_law_682 (by decide) ?_
  refine lv_iadd hx hb dL_law_683 ?_
  refine va_sld hx hb hX hbl hbA hS (i := (nI i) + 1) (du_sb hiL hLb 1 (by decide)) dL_law_684 ?_
  refine ro_l (va_runV (As := [.int (xs ((nI i) + 1).toNatClampNeg)]) (rest := []) ⟨hx, hb, hml, hown, hts⟩ (c_told (sz := H.size) (xs ((nI i) + 1).toNatClampNeg)) (cwV 1 hts gL_law_X0_told rfl rfl rfl (by decide +kernel) ⟨Nat.le_of_ble_eq_true rfl, Nat.le_of_ble_eq_true rfl⟩) (preV_RO (hP.sub (ws' := (xw o a1 a2 a3 k1 k2 k3 row dv sl nb wd po tp fi la bi bo)) [0, 1, 2, 3] rfl) (hK.sub (tys' := xt k1 k2 k3) [0, 1, 2] rfl) 0 (ci := 0) rfl rfl) rfl rfl hl.1 rfl (lv_room (Nat.le_of_ble_eq_true rfl)) dL_law_685 ⟨Nat.le_of_ble_eq_true rfl, Nat.le_of_ble_eq_true rfl⟩) hS hA hP (fun H locs hP hS => ?_)
  refine lv_aload_n hx hb dL_law_688 rfl (lv_at hl 2 rfl) ?_
  refine lv_aload_n hx hb dL_law_689 rfl (lv_at hl 0 rfl) ?_
  refine lv_iload_n hx hb dL_law_690 rfl (lv_at hl 3 rfl) ?_
  refine lv_iconst (v := 1) hx hb dL_law_691 (by decide) ?_
  refine lv_iadd hx hb dL_law_692 ?_
  refine va_sld hx hb hX hbl hbA hS (i := (nI i) + 1) (du_sb hiL hLb 1 (by decide)) dL_law_693 ?_
  refine ro_l (va_runV (As := [.int (xs ((nI i) + 1).toNatClampNeg)]) (rest := [.long (cTold po fi la (xs ((nI i) + 1).toNatClampNeg))]) ⟨hx, hb, hml, hown, hts⟩ (r_told2 (sz := H.size) (xs ((nI i) + 1).toNatClampNeg)) (cwV 1 hts gL_law_X1_told_ rfl rfl rfl (by decide +kernel) ⟨Nat.le_of_ble_eq_true rfl, Nat.le_of_ble_eq_true rfl⟩) (preV_RO (hP.sub (ws' := (mw q b1 k4 by8 wd po fi la bi bo nb)) [4, 5] rfl) (hK.sub (tys' := mt k4) [3] rfl) 0 (ci := 1) rfl rfl) rfl rfl hl.1 rfl (lv_room (Nat.le_of_ble_eq_true rfl)) dL_law_694 ⟨Nat.le_of_ble_eq_true rfl, Nat.le_of_ble_eq_true rfl⟩) hS hA hP (fun H locs hP hS => ?_)
  refine W.lcmp hx hb dL_law_697 ?_
  refine lv_if_eq (tgt := 703) hx hb dL_law_698 (by decide) (fun c_698 => ?_) (fun c_698 => ?_)
  ·
    exact kk row dv sl by8 B nb wd po tp fi la bi bo (hR) H locs hP hS ls (lv_sub hl [0, 1, 2, 3] rfl)
  ·
    exact absurd ((lg_cmp_eq _ _).mpr rfl) c_698
end
