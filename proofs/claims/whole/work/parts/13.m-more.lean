/-! Contracts, laid by wip/whole/gen.py. -/
theorem in_r_times : ∀ w ∈ wsX10, w ∈ wsX1_times := fun _ h => List.mem_cons_of_mem _ (List.mem_append_right _ h)
set_option maxHeartbeats 4000000 in
set_option maxRecDepth 100000 in
theorem r_times {l : Launch} {D : va_G} {q b1 : Nat} {k4 : ClassId} {by8 : Nat → Int32} {wd : Nat} {po : Int64} {fi : Int64} {la : Int64} {bi : Int32} {bo : Int32} {nb : Nat} {sz : Nat} (x : Int64) (y : Int64) (hw1 : 1 ≤ wd) (hw : wd ≤ 64) : Met l yX1_times wsX1_times ({ frames := 3, cells := 0, slots := 0, locals := 70 }) (va_Pc [.ref q, .long x, .long y] (pRO D vwCl (mt k4) (mw q b1 k4 by8 wd po fi la bi bo nb) sz)) (roL sz (rTmN wd po x y wd)) 0 0 (fun q : Nat => sz ≤ q) := by
  refine Met.ofW (cc := cX1_times) (maxL := 8) (ret := (some .long)) (by decide) rfl ?_
  intro p e s m args below meth c s₁ B hml hv
  obtain ⟨rfl, hsz, hP, hK⟩ := hv
  have hsz : s.heap.size = sz := hsz
  have hx := B.exec
  have hb := B.bytes
  have hr := B.returns
  have hts := atoms_spec (ws := wsX1_times) B.pre
  have hown : s.vm.findClass RX1 = some m.cls := findClass_of_methodNamed B.named
  have hlocks := B.notSynchronized
  subst hsz
  have hA : ∀ q : Nat, s.heap.size ≤ q → (fun q : Nat => s.heap.size ≤ q) q := fun _ h => h
  have hS : va_S (fun q : Nat => s.heap.size ≤ q) s.heap s.heap [] := va_S.rf
  have hl := lv_entry ([.ref q, .long x, .long y]) (n := 8) (Nat.le_of_ble_eq_true rfl)
  rw [lg_entry_eq]
  generalize (lg_sl ([.ref q, .long x, .long y]) ++ List.replicate (8 - (lg_sl ([.ref q, .long x, .long y])).length) Slot.unset).toArray = ls at hl ⊢
  have hl : lv_has ls 8 [(0, .ref q), (1, .long x), (3, .long y)] := hl
  suffices key : ∀ (H : Heap) (locs : List Loc), va_P D vwCl (mw q b1 k4 by8 wd po fi la bi bo nb) H → va_S (fun q : Nat => s.heap.size ≤ q) s.heap H locs → W p l e (headSpec wsX1_times { frames := 3, cells := 0, slots := 0, locals := 70 }).room s m ([.ref q, .long x, .long y] : List Value).toArray below meth c H locs 0 0 (MQ below (roL s.heap.size (rTmN wd po x y wd)) ([.ref q, .long x, .long y] : List Value).toArray s 0 0 (fun q : Nat => s.heap.size ≤ q)) (F0 m 0 ls []) from key s.heap [] hP hS
  intro H locs hP hS
  refine lv_lconst (v := 0) hx hb dX1_times_0 (by decide) ?_
  refine lv_lstore (lv' := [(5, .long 0), (0, .ref q), (1, .long x), (3, .long y)]) hx hb dX1_times_1 hl (by decide) rfl (fun ls hl => ?_)
  refine lv_aload_n hx hb dX1_times_3 rfl (lv_at hl 1 rfl) ?_
  refine va_get (D := D) (ci := 1) (v := .int (nI wd)) (C := RX1) (T := TX1) (N := 8) hx hb hts in_r_times hown hK hP 0 rfl rfl 0 (by decide) (hts (.fieldLink RX1 7 "SliceChecksModel" "width" "I") (by decide +kernel)) (fun _ h9 => h9) rfl dX1_times_4 ?_
  refine lv_iconst (v := 1) hx hb dX1_times_7 (by decide) ?_
  refine lv_isub hx hb dX1_times_8 ?_
  refine lv_istore (lv' := [(7, .int ((nI wd) - 1)), (5, .long 0), (0, .ref q), (1, .long x), (3, .long y)]) hx hb dX1_times_9 hl (by decide) rfl (fun ls hl => ?_)
  have lp_11 : ∀ (k i : Nat), i ≤ wd → wd < i + k → ∀ (H : Heap) (locs : List Loc), va_P D vwCl (mw q b1 k4 by8 wd po fi la bi bo nb) H → va_S (fun q : Nat => s.heap.size ≤ q) s.heap H locs → ∀ ls : Array Slot, lv_has ls 8 [(7, .int (nI wd - 1 - nI i)), (5, .long (rTmN wd po x y i)), (0, .ref q), (1, .long x), (3, .long y)] → W p l e (headSpec wsX1_times { frames := 3, cells := 0, slots := 0, locals := 70 }).room s m ([.ref q, .long x, .long y] : List Value).toArray below meth c H locs 0 0 (MQ below (roL s.heap.size (rTmN wd po x y wd)) ([.ref q, .long x, .long y] : List Value).toArray s 0 0 (fun q : Nat => s.heap.size ≤ q)) (F0 m 11 ls []) := by
    intro k
    induction k with
    | zero =>
      intro i h1 h2
      exact absurd h2 (by omega)
    | succ k ih =>
      intro i hi hk H locs hP hS ls hl
      refine lv_iload hx hb dX1_times_11 (lv_at hl 0 rfl) ?_
      refine lv_if_lt (tgt := 52) hx hb dX1_times_13 (by decide) (fun c_13 => ?_) (fun c_13 => ?_)
      ·
        have hiN := du_wa hw1 hw hi c_13
        refine lv_lload hx hb dX1_times_52 (lv_at hl 1 rfl) ?_
        exact W.lret (v := (rTmN wd po x y i)) hx hb hr (fun t ht hW => ⟨⟨(rTmN wd po x y i), (), rfl, by subst hiN; rfl, trivial⟩, hS.F ht⟩) hS.2.2 dX1_times_54
      ·
        have hlt := du_wb hw1 hw hi c_13
        refine lv_aload_n hx hb dX1_times_16 rfl (lv_at hl 2 rfl) ?_
        refine lv_lload hx hb dX1_times_17 (lv_at hl 1 rfl) ?_
        refine lv_iconst (v := 0) hx hb dX1_times_19 (by decide) ?_
        refine ro_l (va_runV (As := [.long (rTmN wd po x y i), .int 0]) (rest := []) ⟨hx, hb, hml, hown, hts⟩ (r_bit (sz := H.size) (rTmN wd po x y i) 0) (cwV 2 hts gX1_times_X1_bit rfl rfl rfl (by decide +kernel) ⟨Nat.le_of_ble_eq_true rfl, Nat.le_of_ble_eq_true rfl⟩) (preV_RO hP hK 0 (ci := 1) rfl rfl) rfl rfl hl.1 rfl (lv_room (Nat.le_of_ble_eq_true rfl)) dX1_times_20 ⟨Nat.le_of_ble_eq_true rfl, Nat.le_of_ble_eq_true rfl⟩) hS hA hP (fun H locs hP hS => ?_)
        refine lv_lstore (lv' := [(5, .long (rBit (nI wd) po (rTmN wd po x y i) 0)), (7, .int (nI wd - 1 - nI i)), (0, .ref q), (1, .long x), (3, .long y)]) hx hb dX1_times_23 hl (by decide) rfl (fun ls hl => ?_)
        refine lv_lload hx hb dX1_times_25 (lv_at hl 0 rfl) ?_
        refine lv_lload_n hx hb dX1_times_27 rfl (lv_at hl 4 rfl) ?_
        refine lv_iload hx hb dX1_times_28 (lv_at hl 1 rfl) ?_
        refine lv_lushr (v := jushr y (nI wd - 1 - nI i)) hx hb dX1_times_30 rfl ?_
        refine lv_lconst (v := 1) hx hb dX1_times_31 (by decide) ?_
        refine lv_land hx hb dX1_times_32 ?_
        refine lv_lconst (v := 1) hx hb dX1_times_33 (by decide) ?_
        refine W.lcmp hx hb dX1_times_34 ?_
        refine lv_if_ne (tgt := 42) hx hb dX1_times_35 (by decide) (fun c_35 => ?_) (fun c_35 => ?_)
        ·
          refine lv_lconst (v := 0) hx hb dX1_times_42 (by decide) ?_
          refine lv_lxor hx hb dX1_times_43 ?_
          refine du_rwl (y := rTmN wd po x y (i + 1)) (by first | rw [rTmN, if_pos c_35] | rw [rTmN, if_neg c_35]) ?_
          refine lv_lstore (lv' := [(5, .long (rTmN wd po x y (i + 1))), (7, .int (nI wd - 1 - nI i)), (0, .ref q), (1, .long x), (3, .long y)]) hx hb dX1_times_44 hl (by decide) rfl (fun ls hl => ?_)
          refine lv_iinc (v := nI wd - 1 - nI (i + 1)) (lv' := [(7, .int (nI wd - 1 - nI (i + 1))), (5, .long (rTmN wd po x y (i + 1))), (0, .ref q), (1, .long x), (3, .long y)]) hx hb dX1_times_46 hl (k := 1) rfl (du_wc wd i) (by decide) rfl (fun ls hl => ?_)
          refine lv_goto (tgt := 11) hx hb dX1_times_49 (by decide) ?_
          exact ih (i + 1) (by omega) (by omega) H locs (hP) hS ls (lv_sub hl [0, 1, 2, 3, 4] rfl)
        ·
          refine lv_lload_n hx hb dX1_times_38 rfl (lv_at hl 3 rfl) ?_
          refine lv_goto (tgt := 43) hx hb dX1_times_39 (by decide) ?_
          refine lv_lxor hx hb dX1_times_43 ?_
          refine du_rwl (y := rTmN wd po x y (i + 1)) (by first | rw [rTmN, if_pos c_35] | rw [rTmN, if_neg c_35]) ?_
          refine lv_lstore (lv' := [(5, .long (rTmN wd po x y (i + 1))), (7, .int (nI wd - 1 - nI i)), (0, .ref q), (1, .long x), (3, .long y)]) hx hb dX1_times_44 hl (by decide) rfl (fun ls hl => ?_)
          refine lv_iinc (v := nI wd - 1 - nI (i + 1)) (lv' := [(7, .int (nI wd - 1 - nI (i + 1))), (5, .long (rTmN wd po x y (i + 1))), (0, .ref q), (1, .long x), (3, .long y)]) hx hb dX1_times_46 hl (k := 1) rfl (du_wc wd i) (by decide) rfl (fun ls hl => ?_)
          refine lv_goto (tgt := 11) hx hb dX1_times_49 (by decide) ?_
          exact ih (i + 1) (by omega) (by omega) H locs (hP) hS ls (lv_sub hl [0, 1, 2, 3, 4] rfl)
  exact lp_11 (wd + 1 - 0) 0 (by omega) (by omega) H locs (hP) hS ls (by rw [du_s0]; exact lv_sub hl [0, 1, 2, 3, 4] rfl)
theorem in_r_behind : ∀ w ∈ wsX10, w ∈ wsX1_behind := fun _ h => List.mem_cons_of_mem _ (List.mem_append_right _ h)
set_option maxHeartbeats 4000000 in
set_option maxRecDepth 100000 in
theorem r_behind {l : Launch} {D : va_G} {q b1 : Nat} {k4 : ClassId} {by8 : Nat → Int32} {wd : Nat} {po : Int64} {fi : Int64} {la : Int64} {bi : Int32} {bo : Int32} {nb : Nat} {sz : Nat} (x : Int64) (Z : Nat) (hw1 : 1 ≤ wd) (hw : wd ≤ 64) (hZ : Z < 2 ^ 35) : Met l yX1_behind wsX1_behind ({ frames := 4, cells := 0, slots := 0, locals := 97 }) (va_Pc [.ref q, .long x, .long (lN Z)] (pRO D vwCl (mt k4) (mw q b1 k4 by8 wd po fi la bi bo nb) sz)) (roL sz (rBh wd po x Z)) 0 0 (fun q : Nat => sz ≤ q) := by
  refine Met.ofW (cc := cX1_behind) (maxL := 11) (ret := (some .long)) (by decide) rfl ?_
  intro p e s m args below meth c s₁ B hml hv
  obtain ⟨rfl, hsz, hP, hK⟩ := hv
  have hsz : s.heap.size = sz := hsz
  have hx := B.exec
  have hb := B.bytes
  have hr := B.returns
  have hts := atoms_spec (ws := wsX1_behind) B.pre
  have hown : s.vm.findClass RX1 = some m.cls := findClass_of_methodNamed B.named
  have hlocks := B.notSynchronized
  subst hsz
  have hA : ∀ q : Nat, s.heap.size ≤ q → (fun q : Nat => s.heap.size ≤ q) q := fun _ h => h
  have hS : va_S (fun q : Nat => s.heap.size ≤ q) s.heap s.heap [] := va_S.rf
  have hl := lv_entry ([.ref q, .long x, .long (lN Z)]) (n := 11) (Nat.le_of_ble_eq_true rfl)
  rw [lg_entry_eq]
  generalize (lg_sl ([.ref q, .long x, .long (lN Z)]) ++ List.replicate (11 - (lg_sl ([.ref q, .long x, .long (lN Z)])).length) Slot.unset).toArray = ls at hl ⊢
  have hl : lv_has ls 11 [(0, .ref q), (1, .long x), (3, .long (lN Z))] := hl
  suffices key : ∀ (H : Heap) (locs : List Loc), va_P D vwCl (mw q b1 k4 by8 wd po fi la bi bo nb) H → va_S (fun q : Nat => s.heap.size ≤ q) s.heap H locs → W p l e (headSpec wsX1_behind { frames := 4, cells := 0, slots := 0, locals := 97 }).room s m ([.ref q, .long x, .long (lN Z)] : List Value).toArray below meth c H locs 0 0 (MQ below (roL s.heap.size (rBh wd po x Z)) ([.ref q, .long x, .long (lN Z)] : List Value).toArray s 0 0 (fun q : Nat => s.heap.size ≤ q)) (F0 m 0 ls []) from key s.heap [] hP hS
  intro H locs hP hS
  refine lv_lload_n hx hb dX1_behind_0 rfl (lv_at hl 1 rfl) ?_
  refine lv_lstore (lv' := [(5, .long x), (0, .ref q), (1, .long x), (3, .long (lN Z))]) hx hb dX1_behind_1 hl (by decide) rfl (fun ls hl => ?_)
  refine lv_aload_n hx hb dX1_behind_3 rfl (lv_at hl 1 rfl) ?_
  refine lv_lconst (v := 1) hx hb dX1_behind_4 (by decide) ?_
  refine lv_iconst (v := 0) hx hb dX1_behind_5 (by decide) ?_
  refine ro_l (va_runV (As := [.long 1, .int 0]) (rest := []) ⟨hx, hb, hml, hown, hts⟩ (r_bit (sz := H.size) 1 0) (cwV 2 hts gX1_behind_X1_bit rfl rfl rfl (by decide +kernel) ⟨Nat.le_of_ble_eq_true rfl, Nat.le_of_ble_eq_true rfl⟩) (preV_RO hP hK 0 (ci := 1) rfl rfl) rfl rfl hl.1 rfl (lv_room (Nat.le_of_ble_eq_true rfl)) dX1_behind_6 ⟨Nat.le_of_ble_eq_true rfl, Nat.le_of_ble_eq_true rfl⟩) hS hA hP (fun H locs hP hS => ?_)
  refine lv_lstore (lv' := [(7, .long (rBit (nI wd) po 1 0)), (5, .long x), (0, .ref q), (1, .long x), (3, .long (lN Z))]) hx hb dX1_behind_9 hl (by decide) rfl (fun ls hl => ?_)
  refine lv_lload_n hx hb dX1_behind_11 rfl (lv_at hl 4 rfl) ?_
  refine lv_lstore (lv' := [(9, .long (lN Z)), (7, .long (rBit (nI wd) po 1 0)), (5, .long x), (0, .ref q), (1, .long x), (3, .long (lN Z))]) hx hb dX1_behind_12 hl (by decide) rfl (fun ls hl => ?_)
  have lp_14 : ∀ (k i : Nat), i ≤ 35 → 35 < i + k → ∀ (H : Heap) (locs : List Loc), va_P D vwCl (mw q b1 k4 by8 wd po fi la bi bo nb) H → va_S (fun q : Nat => s.heap.size ≤ q) s.heap H locs → ∀ ls : Array Slot, lv_has ls 11 [(9, .long (lN (Z / 2 ^ i))), (7, .long (rPw wd po i)), (5, .long (rBhN wd po x Z i)), (0, .ref q), (1, .long x), (3, .long (lN Z))] → W p l e (headSpec wsX1_behind { frames := 4, cells := 0, slots := 0, locals := 97 }).room s m ([.ref q, .long x, .long (lN Z)] : List Value).toArray below meth c H locs 0 0 (MQ below (roL s.heap.size (rBh wd po x Z)) ([.ref q, .long x, .long (lN Z)] : List Value).toArray s 0 0 (fun q : Nat => s.heap.size ≤ q)) (F0 m 14 ls []) := by
    intro k
    induction k with
    | zero =>
      intro i h1 h2
      exact absurd h2 (by omega)
    | succ k ih =>
      intro i hi hk H locs hP hS ls hl
      have hZi : Z / 2 ^ i < 2 ^ 35 := Nat.lt_of_le_of_lt (Nat.div_le_self _ _) hZ
      refine lv_lload hx hb dX1_behind_14 (lv_at hl 0 rfl) ?_
      refine lv_lconst (v := 0) hx hb dX1_behind_16 (by decide) ?_
      refine W.lcmp hx hb dX1_behind_17 ?_
      refine lv_if_le (tgt := 68) hx hb dX1_behind_18 (by decide) (fun c_18 => ?_) (fun c_18 => ?_)
      ·
        have hz0 : Z / 2 ^ i = 0 := du_l0 hZi ((lg_cmp_le _ _).mp c_18)
        have hrz : rBhN wd po x Z i = rBh wd po x Z := du_bst hi hz0
        refine lv_lload hx hb dX1_behind_68 (lv_at hl 2 rfl) ?_
        exact W.lret (v := (rBhN wd po x Z i)) hx hb hr (fun t ht hW => ⟨⟨(rBhN wd po x Z i), (), rfl, hrz, trivial⟩, hS.F ht⟩) hS.2.2 dX1_behind_70
      ·
        have hz1 : Z / 2 ^ i ≠ 0 := du_l1 (fun h => c_18 ((lg_cmp_le _ _).mpr h))
        have hlt : i < 35 := du_l2 hZ hi hz1
        refine lv_lload hx hb dX1_behind_21 (lv_at hl 0 rfl) ?_
        refine lv_ldc2 hx hb hown (hts (.constantLong RX1 65 2) (by decide +kernel)) dX1_behind_23 ?_
        refine lv_lrem hx hb dX1_behind_26 (by decide) ?_
        refine lv_lconst (v := 1) hx hb dX1_behind_27 (by decide) ?_
        refine W.lcmp hx hb dX1_behind_28 ?_
        refine lv_if_ne (tgt := 43) hx hb dX1_behind_29 (by decide) (fun c_29 => ?_) (fun c_29 => ?_)
        ·
          refine lv_lload hx hb dX1_behind_43 (lv_at hl 2 rfl) ?_
          refine du_rwl (y := rBhN wd po x Z (i + 1)) (by first | rw [rBhN, if_pos (du_m1 hZi c_29)] | rw [rBhN, if_neg (du_m0 hZi c_29)]) ?_
          refine lv_lstore (lv' := [(5, .long (rBhN wd po x Z (i + 1))), (9, .long (lN (Z / 2 ^ i))), (7, .long (rPw wd po i)), (0, .ref q), (1, .long x), (3, .long (lN Z))]) hx hb dX1_behind_45 hl (by decide) rfl (fun ls hl => ?_)
          refine lv_aload_n hx hb dX1_behind_47 rfl (lv_at hl 3 rfl) ?_
          refine lv_lload hx hb dX1_behind_48 (lv_at hl 2 rfl) ?_
          refine lv_lload hx hb dX1_behind_50 (lv_at hl 2 rfl) ?_
          refine ro_l (va_runV (As := [.long (rPw wd po i), .long (rPw wd po i)]) (rest := []) ⟨hx, hb, hml, hown, hts⟩ (r_times (sz := H.size) (rPw wd po i) (rPw wd po i) (hw1) (hw)) (cwV 2 hts gX1_behind_X1_times rfl rfl rfl (by decide +kernel) ⟨Nat.le_of_ble_eq_true rfl, Nat.le_of_ble_eq_true rfl⟩) (preV_RO hP hK 0 (ci := 1) rfl rfl) rfl rfl hl.1 rfl (lv_room (Nat.le_of_ble_eq_true rfl)) dX1_behind_52 ⟨Nat.le_of_ble_eq_true rfl, Nat.le_of_ble_eq_true rfl⟩) hS hA hP (fun H locs hP hS => ?_)
          refine du_rwl (y := rPw wd po (i + 1)) (rfl) ?_
          refine lv_lstore (lv' := [(7, .long (rPw wd po (i + 1))), (5, .long (rBhN wd po x Z (i + 1))), (9, .long (lN (Z / 2 ^ i))), (0, .ref q), (1, .long x), (3, .long (lN Z))]) hx hb dX1_behind_55 hl (by decide) rfl (fun ls hl => ?_)
          refine lv_lload hx hb dX1_behind_57 (lv_at hl 2 rfl) ?_
          refine lv_ldc2 hx hb hown (hts (.constantLong RX1 65 2) (by decide +kernel)) dX1_behind_59 ?_
          refine lv_ldiv hx hb dX1_behind_62 (by decide) ?_
          refine du_rwl (y := lN (Z / 2 ^ (i + 1))) (du_half hZi) ?_
          refine lv_lstore (lv' := [(9, .long (lN (Z / 2 ^ (i + 1)))), (7, .long (rPw wd po (i + 1))), (5, .long (rBhN wd po x Z (i + 1))), (0, .ref q), (1, .long x), (3, .long (lN Z))]) hx hb dX1_behind_63 hl (by decide) rfl (fun ls hl => ?_)
          refine lv_goto (tgt := 14) hx hb dX1_behind_65 (by decide) ?_
          exact ih (i + 1) (by omega) (by omega) H locs (hP) hS ls (lv_sub hl [0, 1, 2, 3, 4, 5] rfl)
        ·
          refine lv_aload_n hx hb dX1_behind_32 rfl (lv_at hl 3 rfl) ?_
          refine lv_lload hx hb dX1_behind_33 (lv_at hl 2 rfl) ?_
          refine lv_lload hx hb dX1_behind_35 (lv_at hl 1 rfl) ?_
          refine ro_l (va_runV (As := [.long (rBhN wd po x Z i), .long (rPw wd po i)]) (rest := []) ⟨hx, hb, hml, hown, hts⟩ (r_times (sz := H.size) (rBhN wd po x Z i) (rPw wd po i) (hw1) (hw)) (cwV 2 hts gX1_behind_X1_times rfl rfl rfl (by decide +kernel) ⟨Nat.le_of_ble_eq_true rfl, Nat.le_of_ble_eq_true rfl⟩) (preV_RO hP hK 0 (ci := 1) rfl rfl) rfl rfl hl.1 rfl (lv_room (Nat.le_of_ble_eq_true rfl)) dX1_behind_37 ⟨Nat.le_of_ble_eq_true rfl, Nat.le_of_ble_eq_true rfl⟩) hS hA hP (fun H locs hP hS => ?_)
          refine lv_goto (tgt := 45) hx hb dX1_behind_40 (by decide) ?_
          refine du_rwl (y := rBhN wd po x Z (i + 1)) (by first | rw [rBhN, if_pos (du_m1 hZi c_29)] | rw [rBhN, if_neg (du_m0 hZi c_29)]) ?_
          refine lv_lstore (lv' := [(5, .long (rBhN wd po x Z (i + 1))), (9, .long (lN (Z / 2 ^ i))), (7, .long (rPw wd po i)), (0, .ref q), (1, .long x), (3, .long (lN Z))]) hx hb dX1_behind_45 hl (by decide) rfl (fun ls hl => ?_)
          refine lv_aload_n hx hb dX1_behind_47 rfl (lv_at hl 3 rfl) ?_
          refine lv_lload hx hb dX1_behind_48 (lv_at hl 2 rfl) ?_
          refine lv_lload hx hb dX1_behind_50 (lv_at hl 2 rfl) ?_
          refine ro_l (va_runV (As := [.long (rPw wd po i), .long (rPw wd po i)]) (rest := []) ⟨hx, hb, hml, hown, hts⟩ (r_times (sz := H.size) (rPw wd po i) (rPw wd po i) (hw1) (hw)) (cwV 2 hts gX1_behind_X1_times rfl rfl rfl (by decide +kernel) ⟨Nat.le_of_ble_eq_true rfl, Nat.le_of_ble_eq_true rfl⟩) (preV_RO hP hK 0 (ci := 1) rfl rfl) rfl rfl hl.1 rfl (lv_room (Nat.le_of_ble_eq_true rfl)) dX1_behind_52 ⟨Nat.le_of_ble_eq_true rfl, Nat.le_of_ble_eq_true rfl⟩) hS hA hP (fun H locs hP hS => ?_)
          refine du_rwl (y := rPw wd po (i + 1)) (rfl) ?_
          refine lv_lstore (lv' := [(7, .long (rPw wd po (i + 1))), (5, .long (rBhN wd po x Z (i + 1))), (9, .long (lN (Z / 2 ^ i))), (0, .ref q), (1, .long x), (3, .long (lN Z))]) hx hb dX1_behind_55 hl (by decide) rfl (fun ls hl => ?_)
          refine lv_lload hx hb dX1_behind_57 (lv_at hl 2 rfl) ?_
          refine lv_ldc2 hx hb hown (hts (.constantLong RX1 65 2) (by decide +kernel)) dX1_behind_59 ?_
          refine lv_ldiv hx hb dX1_behind_62 (by decide) ?_
          refine du_rwl (y := lN (Z / 2 ^ (i + 1))) (du_half hZi) ?_
          refine lv_lstore (lv' := [(9, .long (lN (Z / 2 ^ (i + 1)))), (7, .long (rPw wd po (i + 1))), (5, .long (rBhN wd po x Z (i + 1))), (0, .ref q), (1, .long x), (3, .long (lN Z))]) hx hb dX1_behind_63 hl (by decide) rfl (fun ls hl => ?_)
          refine lv_goto (tgt := 14) hx hb dX1_behind_65 (by decide) ?_
          exact ih (i + 1) (by omega) (by omega) H locs (hP) hS ls (lv_sub hl [0, 1, 2, 3, 4, 5] rfl)
  exact lp_14 (35 + 1 - 0) 0 (by omega) (by omega) H locs (hP) hS ls (by rw [show lN (Z / 2 ^ 0) = lN Z by rw [Nat.pow_zero, Nat.div_one]]; exact lv_sub hl [0, 1, 2, 3, 4, 5] rfl)
theorem in_r_joined : ∀ w ∈ wsX10, w ∈ wsX1_joined := fun _ h => List.mem_cons_of_mem _ (List.mem_append_right _ h)
set_option maxHeartbeats 4000000 in
set_option maxRecDepth 100000 in
theorem r_joined {l : Launch} {D : va_G} {q b1 : Nat} {k4 : ClassId} {by8 : Nat → Int32} {wd : Nat} {po : Int64} {fi : Int64} {la : Int64} {bi : Int32} {bo : Int32} {nb : Nat} {sz : Nat} (x : Int64) (y : Int64) (n : Int32) (hw1 : 1 ≤ wd) (hw : wd ≤ 64) : Met l yX1_joined wsX1_joined ({ frames := 5, cells := 0, slots := 0, locals := 127 }) (va_Pc [.ref q, .long x, .long y, .int n] (pRO D vwCl (mt k4) (mw q b1 k4 by8 wd po fi la bi bo nb) sz)) (roL sz (rJoin wd po fi la bo x y n)) 0 0 (fun q : Nat => sz ≤ q) := by
  refine Met.ofW (cc := cX1_joined) (maxL := 6) (ret := (some .long)) (by decide) rfl ?_
  intro p e s m args below meth c s₁ B hml hv
  obtain ⟨rfl, hsz, hP, hK⟩ := hv
  have hsz : s.heap.size = sz := hsz
  have hx := B.exec
  have hb := B.bytes
  have hr := B.returns
  have hts := atoms_spec (ws := wsX1_joined) B.pre
  have hown : s.vm.findClass RX1 = some m.cls := findClass_of_methodNamed B.named
  have hlocks := B.notSynchronized
  subst hsz
  have hA : ∀ q : Nat, s.heap.size ≤ q → (fun q : Nat => s.heap.size ≤ q) q := fun _ h => h
  have hS : va_S (fun q : Nat => s.heap.size ≤ q) s.heap s.heap [] := va_S.rf
  have hl := lv_entry ([.ref q, .long x, .long y, .int n]) (n := 6) (Nat.le_of_ble_eq_true rfl)
  rw [lg_entry_eq]
  generalize (lg_sl ([.ref q, .long x, .long y, .int n]) ++ List.replicate (6 - (lg_sl ([.ref q, .long x, .long y, .int n])).length) Slot.unset).toArray = ls at hl ⊢
  have hl : lv_has ls 6 [(0, .ref q), (1, .long x), (3, .long y), (5, .int n)] := hl
  suffices key : ∀ (H : Heap) (locs : List Loc), va_P D vwCl (mw q b1 k4 by8 wd po fi la bi bo nb) H → va_S (fun q : Nat => s.heap.size ≤ q) s.heap H locs → W p l e (headSpec wsX1_joined { frames := 5, cells := 0, slots := 0, locals := 127 }).room s m ([.ref q, .long x, .long y, .int n] : List Value).toArray below meth c H locs 0 0 (MQ below (roL s.heap.size (rJoin wd po fi la bo x y n)) ([.ref q, .long x, .long y, .int n] : List Value).toArray s 0 0 (fun q : Nat => s.heap.size ≤ q)) (F0 m 0 ls []) from key s.heap [] hP hS
  intro H locs hP hS
  refine lv_iload hx hb dX1_joined_0 (lv_at hl 3 rfl) ?_
  refine lv_if_ge (tgt := 7) hx hb dX1_joined_2 (by decide) (fun c_2 => ?_) (fun c_2 => ?_)
  ·
    refine lv_aload_n hx hb dX1_joined_7 rfl (lv_at hl 0 rfl) ?_
    refine lv_aload_n hx hb dX1_joined_8 rfl (lv_at hl 0 rfl) ?_
    refine lv_aload_n hx hb dX1_joined_9 rfl (lv_at hl 0 rfl) ?_
    refine lv_lload_n hx hb dX1_joined_10 rfl (lv_at hl 1 rfl) ?_
    refine ro_l (va_runV (As := [.long x]) (rest := [.ref q, .ref q]) ⟨hx, hb, hml, hown, hts⟩ (r_register (sz := H.size) x (hw)) (cwV 1 hts gX1_joined_X1_register rfl rfl rfl (by decide +kernel) ⟨Nat.le_of_ble_eq_true rfl, Nat.le_of_ble_eq_true rfl⟩) (preV_RO hP hK 0 (ci := 1) rfl rfl) rfl rfl hl.1 rfl (lv_room (Nat.le_of_ble_eq_true rfl)) dX1_joined_11 ⟨Nat.le_of_ble_eq_true rfl, Nat.le_of_ble_eq_true rfl⟩) hS hA hP (fun H locs hP hS => ?_)
    refine lv_aload_n hx hb dX1_joined_14 rfl (lv_at hl 0 rfl) ?_
    refine va_get (D := D) (ci := 1) (v := .long fi) (C := RX1) (T := TX1) (N := 8) hx hb hts in_r_joined hown hK hP 0 rfl rfl 2 (by decide) (hts (.fieldLink RX1 21 "SliceChecksModel" "first" "J") (by decide +kernel)) (fun _ h9 => h9) rfl dX1_joined_15 ?_
    refine lv_lxor hx hb dX1_joined_18 ?_
    refine lv_ldc2 hx hb hown (hts (.constantLong RX1 74 8) (by decide +kernel)) dX1_joined_19 ?_
    refine lv_iload hx hb dX1_joined_22 (lv_at hl 3 rfl) ?_
    refine lv_i2l (v := n.toInt64) hx hb dX1_joined_24 rfl ?_
    refine lv_lmul hx hb dX1_joined_25 ?_
    refine du_rwl (y := lN (8 * n.toNatClampNeg)) (du_8n c_2) ?_
    refine ro_l (va_runV (As := [.long ((rReg bo la wd x) ^^^ fi), .long (lN (8 * n.toNatClampNeg))]) (rest := [.ref q]) ⟨hx, hb, hml, hown, hts⟩ (r_behind (sz := H.size) ((rReg bo la wd x) ^^^ fi) (8 * n.toNatClampNeg) (hw1) (hw) (du_8l n)) (cwV 2 hts gX1_joined_X1_behind rfl rfl rfl (by decide +kernel) ⟨Nat.le_of_ble_eq_true rfl, Nat.le_of_ble_eq_true rfl⟩) (preV_RO hP hK 0 (ci := 1) rfl rfl) rfl rfl hl.1 rfl (lv_room (Nat.le_of_ble_eq_true rfl)) dX1_joined_26 ⟨Nat.le_of_ble_eq_true rfl, Nat.le_of_ble_eq_true rfl⟩) hS hA hP (fun H locs hP hS => ?_)
    refine lv_aload_n hx hb dX1_joined_29 rfl (lv_at hl 0 rfl) ?_
    refine lv_lload_n hx hb dX1_joined_30 rfl (lv_at hl 2 rfl) ?_
    refine ro_l (va_runV (As := [.long y]) (rest := [.long (rBh wd po ((rReg bo la wd x) ^^^ fi) (8 * n.toNatClampNeg)), .ref q]) ⟨hx, hb, hml, hown, hts⟩ (r_register (sz := H.size) y (hw)) (cwV 1 hts gX1_joined_X1_register rfl rfl rfl (by decide +kernel) ⟨Nat.le_of_ble_eq_true rfl, Nat.le_of_ble_eq_true rfl⟩) (preV_RO hP hK 0 (ci := 1) rfl rfl) rfl rfl hl.1 rfl (lv_room (Nat.le_of_ble_eq_true rfl)) dX1_joined_31 ⟨Nat.le_of_ble_eq_true rfl, Nat.le_of_ble_eq_true rfl⟩) hS hA hP (fun H locs hP hS => ?_)
    refine lv_lxor hx hb dX1_joined_34 ?_
    refine ro_l (va_runV (As := [.long ((rBh wd po ((rReg bo la wd x) ^^^ fi) (8 * n.toNatClampNeg)) ^^^ (rReg bo la wd y))]) (rest := []) ⟨hx, hb, hml, hown, hts⟩ (r_told (sz := H.size) ((rBh wd po ((rReg bo la wd x) ^^^ fi) (8 * n.toNatClampNeg)) ^^^ (rReg bo la wd y)) (hw)) (cwV 1 hts gX1_joined_X1_told rfl rfl rfl (by decide +kernel) ⟨Nat.le_of_ble_eq_true rfl, Nat.le_of_ble_eq_true rfl⟩) (preV_RO hP hK 0 (ci := 1) rfl rfl) rfl rfl hl.1 rfl (lv_room (Nat.le_of_ble_eq_true rfl)) dX1_joined_35 ⟨Nat.le_of_ble_eq_true rfl, Nat.le_of_ble_eq_true rfl⟩) hS hA hP (fun H locs hP hS => ?_)
    exact W.lret (v := (rTold bo la wd ((rBh wd po ((rReg bo la wd x) ^^^ fi) (8 * n.toNatClampNeg)) ^^^ (rReg bo la wd y)))) hx hb hr (fun t ht hW => ⟨⟨(rTold bo la wd ((rBh wd po ((rReg bo la wd x) ^^^ fi) (8 * n.toNatClampNeg)) ^^^ (rReg bo la wd y))), (), rfl, by first | rw [rJoin, if_pos c_2] | rw [rJoin, if_neg c_2], trivial⟩, hS.F ht⟩) hS.2.2 dX1_joined_38
  ·
    refine lv_lconst (v := 0) hx hb dX1_joined_5 (by decide) ?_
    exact W.lret (v := 0) hx hb hr (fun t ht hW => ⟨⟨0, (), rfl, by first | rw [rJoin, if_pos c_2] | rw [rJoin, if_neg c_2], trivial⟩, hS.F ht⟩) hS.2.2 dX1_joined_6
theorem in_r_entry : ∀ w ∈ wsX10, w ∈ wsX1_entry := fun _ h => List.mem_cons_of_mem _ (List.mem_append_right _ h)
set_option maxHeartbeats 4000000 in
set_option maxRecDepth 100000 in
theorem r_entry {l : Launch} {D : va_G} {q b1 : Nat} {k4 : ClassId} {by8 : Nat → Int32} {wd : Nat} {po : Int64} {fi : Int64} {la : Int64} {bi : Int32} {bo : Int32} {nb : Nat} {sz : Nat} (k : Int32) (b : Int32) (hw1 : 1 ≤ wd) (hw : wd ≤ 64) : Met l yX1_entry wsX1_entry ({ frames := 5, cells := 0, slots := 0, locals := 127 }) (va_Pc [.ref q, .int k, .int b] (pRO D vwCl (mt k4) (mw q b1 k4 by8 wd po fi la bi bo nb) sz)) (roL sz (rEntry wd po bi k b)) 0 0 (fun q : Nat => sz ≤ q) := by
  refine Met.ofW (cc := cX1_entry) (maxL := 3) (ret := (some .long)) (by decide) rfl ?_
  intro p e s m args below meth c s₁ B hml hv
  obtain ⟨rfl, hsz, hP, hK⟩ := hv
  have hsz : s.heap.size = sz := hsz
  have hx := B.exec
  have hb := B.bytes
  have hr := B.returns
  have hts := atoms_spec (ws := wsX1_entry) B.pre
  have hown : s.vm.findClass RX1 = some m.cls := findClass_of_methodNamed B.named
  have hlocks := B.notSynchronized
  subst hsz
  have hA : ∀ q : Nat, s.heap.size ≤ q → (fun q : Nat => s.heap.size ≤ q) q := fun _ h => h
  have hS : va_S (fun q : Nat => s.heap.size ≤ q) s.heap s.heap [] := va_S.rf
  have hl := lv_entry ([.ref q, .int k, .int b]) (n := 3) (Nat.le_of_ble_eq_true rfl)
  rw [lg_entry_eq]
  generalize (lg_sl ([.ref q, .int k, .int b]) ++ List.replicate (3 - (lg_sl ([.ref q, .int k, .int b])).length) Slot.unset).toArray = ls at hl ⊢
  have hl : lv_has ls 3 [(0, .ref q), (1, .int k), (2, .int b)] := hl
  suffices key : ∀ (H : Heap) (locs : List Loc), va_P D vwCl (mw q b1 k4 by8 wd po fi la bi bo nb) H → va_S (fun q : Nat => s.heap.size ≤ q) s.heap H locs → W p l e (headSpec wsX1_entry { frames := 5, cells := 0, slots := 0, locals := 127 }).room s m ([.ref q, .int k, .int b] : List Value).toArray below meth c H locs 0 0 (MQ below (roL s.heap.size (rEntry wd po bi k b)) ([.ref q, .int k, .int b] : List Value).toArray s 0 0 (fun q : Nat => s.heap.size ≤ q)) (F0 m 0 ls []) from key s.heap [] hP hS
  intro H locs hP hS
  refine lv_iload_n hx hb dX1_entry_0 rfl (lv_at hl 1 rfl) ?_
  refine lv_if_lt (tgt := 21) hx hb dX1_entry_1 (by decide) (fun c_1 => ?_) (fun c_1 => ?_)
  ·
    refine lv_lconst (v := 0) hx hb dX1_entry_21 (by decide) ?_
    exact W.lret (v := 0) hx hb hr (fun t ht hW => ⟨⟨0, (), rfl, by first | rw [rEntry, if_pos c_1] | rw [rEntry, if_neg c_1, if_pos c_7] | rw [rEntry, if_neg c_1, if_neg c_7, if_pos c_11] | rw [rEntry, if_neg c_1, if_neg c_7, if_neg c_11, if_pos c_18] | rw [rEntry, if_neg c_1, if_neg c_7, if_neg c_11, if_neg c_18], trivial⟩, hS.F ht⟩) hS.2.2 dX1_entry_22
  ·
    refine lv_iload_n hx hb dX1_entry_4 rfl (lv_at hl 1 rfl) ?_
    refine lv_bipush (v := 7) hx hb dX1_entry_5 (by decide) ?_
    refine lv_icmp_gt (tgt := 21) hx hb dX1_entry_7 (by decide) (fun c_7 => ?_) (fun c_7 => ?_)
    ·
      refine lv_lconst (v := 0) hx hb dX1_entry_21 (by decide) ?_
      exact W.lret (v := 0) hx hb hr (fun t ht hW => ⟨⟨0, (), rfl, by first | rw [rEntry, if_pos c_1] | rw [rEntry, if_neg c_1, if_pos c_7] | rw [rEntry, if_neg c_1, if_neg c_7, if_pos c_11] | rw [rEntry, if_neg c_1, if_neg c_7, if_neg c_11, if_pos c_18] | rw [rEntry, if_neg c_1, if_neg c_7, if_neg c_11, if_neg c_18], trivial⟩, hS.F ht⟩) hS.2.2 dX1_entry_22
    ·
      refine lv_iload_n hx hb dX1_entry_10 rfl (lv_at hl 2 rfl) ?_
      refine lv_if_lt (tgt := 21) hx hb dX1_entry_11 (by decide) (fun c_11 => ?_) (fun c_11 => ?_)
      ·
        refine lv_lconst (v := 0) hx hb dX1_entry_21 (by decide) ?_
        exact W.lret (v := 0) hx hb hr (fun t ht hW => ⟨⟨0, (), rfl, by first | rw [rEntry, if_pos c_1] | rw [rEntry, if_neg c_1, if_pos c_7] | rw [rEntry, if_neg c_1, if_neg c_7, if_pos c_11] | rw [rEntry, if_neg c_1, if_neg c_7, if_neg c_11, if_pos c_18] | rw [rEntry, if_neg c_1, if_neg c_7, if_neg c_11, if_neg c_18], trivial⟩, hS.F ht⟩) hS.2.2 dX1_entry_22
      ·
        refine lv_iload_n hx hb dX1_entry_14 rfl (lv_at hl 2 rfl) ?_
        refine lv_sipush (v := 255) hx hb dX1_entry_15 (by decide) ?_
        refine lv_icmp_le (tgt := 23) hx hb dX1_entry_18 (by decide) (fun c_18 => ?_) (fun c_18 => ?_)
        ·
          refine lv_aload_n hx hb dX1_entry_23 rfl (lv_at hl 0 rfl) ?_
          refine lv_aload_n hx hb dX1_entry_24 rfl (lv_at hl 0 rfl) ?_
          refine lv_lconst (v := 0) hx hb dX1_entry_25 (by decide) ?_
          refine lv_iload_n hx hb dX1_entry_26 rfl (lv_at hl 2 rfl) ?_
          refine ro_l (va_runV (As := [.long 0, .int b]) (rest := [.ref q]) ⟨hx, hb, hml, hown, hts⟩ (r_oneByte (sz := H.size) 0 b) (cwV 2 hts gX1_entry_X1_oneByte rfl rfl rfl (by decide +kernel) ⟨Nat.le_of_ble_eq_true rfl, Nat.le_of_ble_eq_true rfl⟩) (preV_RO hP hK 0 (ci := 1) rfl rfl) rfl rfl hl.1 rfl (lv_room (Nat.le_of_ble_eq_true rfl)) dX1_entry_27 ⟨Nat.le_of_ble_eq_true rfl, Nat.le_of_ble_eq_true rfl⟩) hS hA hP (fun H locs hP hS => ?_)
          refine lv_ldc2 hx hb hown (hts (.constantLong RX1 74 8) (by decide +kernel)) dX1_entry_30 ?_
          refine lv_iload_n hx hb dX1_entry_33 rfl (lv_at hl 1 rfl) ?_
          refine lv_i2l (v := k.toInt64) hx hb dX1_entry_34 rfl ?_
          refine lv_lmul hx hb dX1_entry_35 ?_
          refine du_rwl (y := lN (8 * k.toNatClampNeg)) (du_8n (du_pos c_1)) ?_
          refine ro_l (va_runV (As := [.long (rByN (nI wd) po bi b 0 8), .long (lN (8 * k.toNatClampNeg))]) (rest := []) ⟨hx, hb, hml, hown, hts⟩ (r_behind (sz := H.size) (rByN (nI wd) po bi b 0 8) (8 * k.toNatClampNeg) (hw1) (hw) (du_8l k)) (cwV 2 hts gX1_entry_X1_behind rfl rfl rfl (by decide +kernel) ⟨Nat.le_of_ble_eq_true rfl, Nat.le_of_ble_eq_true rfl⟩) (preV_RO hP hK 0 (ci := 1) rfl rfl) rfl rfl hl.1 rfl (lv_room (Nat.le_of_ble_eq_true rfl)) dX1_entry_36 ⟨Nat.le_of_ble_eq_true rfl, Nat.le_of_ble_eq_true rfl⟩) hS hA hP (fun H locs hP hS => ?_)
          exact W.lret (v := (rBh wd po (rByN (nI wd) po bi b 0 8) (8 * k.toNatClampNeg))) hx hb hr (fun t ht hW => ⟨⟨(rBh wd po (rByN (nI wd) po bi b 0 8) (8 * k.toNatClampNeg)), (), rfl, by first | rw [rEntry, if_pos c_1] | rw [rEntry, if_neg c_1, if_pos c_7] | rw [rEntry, if_neg c_1, if_neg c_7, if_pos c_11] | rw [rEntry, if_neg c_1, if_neg c_7, if_neg c_11, if_pos c_18] | rw [rEntry, if_neg c_1, if_neg c_7, if_neg c_11, if_neg c_18], trivial⟩, hS.F ht⟩) hS.2.2 dX1_entry_39
        ·
          refine lv_lconst (v := 0) hx hb dX1_entry_21 (by decide) ?_
          exact W.lret (v := 0) hx hb hr (fun t ht hW => ⟨⟨0, (), rfl, by first | rw [rEntry, if_pos c_1] | rw [rEntry, if_neg c_1, if_pos c_7] | rw [rEntry, if_neg c_1, if_neg c_7, if_pos c_11] | rw [rEntry, if_neg c_1, if_neg c_7, if_neg c_11, if_pos c_18] | rw [rEntry, if_neg c_1, if_neg c_7, if_neg c_11, if_neg c_18], trivial⟩, hS.F ht⟩) hS.2.2 dX1_entry_22
theorem in_r_zeros : ∀ w ∈ wsX10, w ∈ wsX1_zeros := fun _ h => List.mem_cons_of_mem _ (List.mem_append_right _ h)
set_option maxHeartbeats 4000000 in
set_option maxRecDepth 100000 in
theorem r_zeros {l : Launch} {D : va_G} {q b1 : Nat} {k4 : ClassId} {by8 : Nat → Int32} {wd : Nat} {po : Int64} {fi : Int64} {la : Int64} {bi : Int32} {bo : Int32} {nb : Nat} {sz : Nat} (x : Int64) (n : Int32) (hw1 : 1 ≤ wd) (hw : wd ≤ 64) : Met l yX1_zeros wsX1_zeros ({ frames := 5, cells := 0, slots := 0, locals := 127 }) (va_Pc [.ref q, .long x, .int n] (pRO D vwCl (mt k4) (mw q b1 k4 by8 wd po fi la bi bo nb) sz)) (roL sz (rZeros wd po x n)) 0 0 (fun q : Nat => sz ≤ q) := by
  refine Met.ofW (cc := cX1_zeros) (maxL := 4) (ret := (some .long)) (by decide) rfl ?_
  intro p e s m args below meth c s₁ B hml hv
  obtain ⟨rfl, hsz, hP, hK⟩ := hv
  have hsz : s.heap.size = sz := hsz
  have hx := B.exec
  have hb := B.bytes
  have hr := B.returns
  have hts := atoms_spec (ws := wsX1_zeros) B.pre
  have hown : s.vm.findClass RX1 = some m.cls := findClass_of_methodNamed B.named
  have hlocks := B.notSynchronized
  subst hsz
  have hA : ∀ q : Nat, s.heap.size ≤ q → (fun q : Nat => s.heap.size ≤ q) q := fun _ h => h
  have hS : va_S (fun q : Nat => s.heap.size ≤ q) s.heap s.heap [] := va_S.rf
  have hl := lv_entry ([.ref q, .long x, .int n]) (n := 4) (Nat.le_of_ble_eq_true rfl)
  rw [lg_entry_eq]
  generalize (lg_sl ([.ref q, .long x, .int n]) ++ List.replicate (4 - (lg_sl ([.ref q, .long x, .int n])).length) Slot.unset).toArray = ls at hl ⊢
  have hl : lv_has ls 4 [(0, .ref q), (1, .long x), (3, .int n)] := hl
  suffices key : ∀ (H : Heap) (locs : List Loc), va_P D vwCl (mw q b1 k4 by8 wd po fi la bi bo nb) H → va_S (fun q : Nat => s.heap.size ≤ q) s.heap H locs → W p l e (headSpec wsX1_zeros { frames := 5, cells := 0, slots := 0, locals := 127 }).room s m ([.ref q, .long x, .int n] : List Value).toArray below meth c H locs 0 0 (MQ below (roL s.heap.size (rZeros wd po x n)) ([.ref q, .long x, .int n] : List Value).toArray s 0 0 (fun q : Nat => s.heap.size ≤ q)) (F0 m 0 ls []) from key s.heap [] hP hS
  intro H locs hP hS
  refine lv_iload_n hx hb dX1_zeros_0 rfl (lv_at hl 2 rfl) ?_
  refine lv_if_lt (tgt := 10) hx hb dX1_zeros_1 (by decide) (fun c_1 => ?_) (fun c_1 => ?_)
  ·
    refine lv_lconst (v := 0) hx hb dX1_zeros_10 (by decide) ?_
    refine lv_goto (tgt := 25) hx hb dX1_zeros_11 (by decide) ?_
    exact W.lret (v := 0) hx hb hr (fun t ht hW => ⟨⟨0, (), rfl, by first | rw [rZeros, if_pos c_1] | rw [rZeros, if_neg c_1, if_pos c_7] | rw [rZeros, if_neg c_1, if_neg c_7], trivial⟩, hS.F ht⟩) hS.2.2 dX1_zeros_25
  ·
    refine lv_iload_n hx hb dX1_zeros_4 rfl (lv_at hl 2 rfl) ?_
    refine lv_ldc hx hb hown (hts (.constant RX1 79 1000000) (by decide +kernel)) dX1_zeros_5 ?_
    refine lv_icmp_le (tgt := 14) hx hb dX1_zeros_7 (by decide) (fun c_7 => ?_) (fun c_7 => ?_)
    ·
      refine lv_aload_n hx hb dX1_zeros_14 rfl (lv_at hl 0 rfl) ?_
      refine lv_aload_n hx hb dX1_zeros_15 rfl (lv_at hl 0 rfl) ?_
      refine lv_lload_n hx hb dX1_zeros_16 rfl (lv_at hl 1 rfl) ?_
      refine ro_l (va_runV (As := [.long x]) (rest := [.ref q]) ⟨hx, hb, hml, hown, hts⟩ (r_cut (sz := H.size) x) (cwV 1 hts gX1_zeros_X1_cut rfl rfl rfl (by decide +kernel) ⟨Nat.le_of_ble_eq_true rfl, Nat.le_of_ble_eq_true rfl⟩) (preV_RO hP hK 0 (ci := 1) rfl rfl) rfl rfl hl.1 rfl (lv_room (Nat.le_of_ble_eq_true rfl)) dX1_zeros_17 ⟨Nat.le_of_ble_eq_true rfl, Nat.le_of_ble_eq_true rfl⟩) hS hA hP (fun H locs hP hS => ?_)
      refine lv_iload_n hx hb dX1_zeros_20 rfl (lv_at hl 2 rfl) ?_
      refine lv_i2l (v := n.toInt64) hx hb dX1_zeros_21 rfl ?_
      refine du_rwl (y := lN n.toNatClampNeg) (du_ln c_1) ?_
      refine ro_l (va_runV (As := [.long (rLow x (nI wd)), .long (lN n.toNatClampNeg)]) (rest := []) ⟨hx, hb, hml, hown, hts⟩ (r_behind (sz := H.size) (rLow x (nI wd)) n.toNatClampNeg (hw1) (hw) (du_ll n)) (cwV 2 hts gX1_zeros_X1_behind rfl rfl rfl (by decide +kernel) ⟨Nat.le_of_ble_eq_true rfl, Nat.le_of_ble_eq_true rfl⟩) (preV_RO hP hK 0 (ci := 1) rfl rfl) rfl rfl hl.1 rfl (lv_room (Nat.le_of_ble_eq_true rfl)) dX1_zeros_22 ⟨Nat.le_of_ble_eq_true rfl, Nat.le_of_ble_eq_true rfl⟩) hS hA hP (fun H locs hP hS => ?_)
      exact W.lret (v := (rBh wd po (rLow x (nI wd)) n.toNatClampNeg)) hx hb hr (fun t ht hW => ⟨⟨(rBh wd po (rLow x (nI wd)) n.toNatClampNeg), (), rfl, by first | rw [rZeros, if_pos c_1] | rw [rZeros, if_neg c_1, if_pos c_7] | rw [rZeros, if_neg c_1, if_neg c_7], trivial⟩, hS.F ht⟩) hS.2.2 dX1_zeros_25
    ·
      refine lv_lconst (v := 0) hx hb dX1_zeros_10 (by decide) ?_
      refine lv_goto (tgt := 25) hx hb dX1_zeros_11 (by decide) ?_
      exact W.lret (v := 0) hx hb hr (fun t ht hW => ⟨⟨0, (), rfl, by first | rw [rZeros, if_pos c_1] | rw [rZeros, if_neg c_1, if_pos c_7] | rw [rZeros, if_neg c_1, if_neg c_7], trivial⟩, hS.F ht⟩) hS.2.2 dX1_zeros_25
theorem in_r_round : ∀ w ∈ wsX10, w ∈ wsX1_round := fun _ h => List.mem_cons_of_mem _ (List.mem_append_right _ h)
set_option maxHeartbeats 4000000 in
set_option maxRecDepth 100000 in
theorem r_round {l : Launch} {D : va_G} {q b1 : Nat} {k4 : ClassId} {by8 : Nat → Int32} {wd : Nat} {po : Int64} {fi : Int64} {la : Int64} {bi : Int32} {bo : Int32} {nb : Nat} {sz : Nat}   : Met l yX1_round wsX1_round ({ frames := 3, cells := 0, slots := 0, locals := 70 }) (va_Pc [.ref q] (pRO D vwCl (mt k4) (mw q b1 k4 by8 wd po fi la bi bo nb) sz)) (roI sz (rRound wd po)) 0 0 (fun q : Nat => sz ≤ q) := by
  refine Met.ofW (cc := cX1_round) (maxL := 4) (ret := (some .int)) (by decide) rfl ?_
  intro p e s m args below meth c s₁ B hml hv
  obtain ⟨rfl, hsz, hP, hK⟩ := hv
  have hsz : s.heap.size = sz := hsz
  have hx := B.exec
  have hb := B.bytes
  have hr := B.returns
  have hts := atoms_spec (ws := wsX1_round) B.pre
  have hown : s.vm.findClass RX1 = some m.cls := findClass_of_methodNamed B.named
  have hlocks := B.notSynchronized
  subst hsz
  have hA : ∀ q : Nat, s.heap.size ≤ q → (fun q : Nat => s.heap.size ≤ q) q := fun _ h => h
  have hS : va_S (fun q : Nat => s.heap.size ≤ q) s.heap s.heap [] := va_S.rf
  have hl := lv_entry ([.ref q]) (n := 4) (Nat.le_of_ble_eq_true rfl)
  rw [lg_entry_eq]
  generalize (lg_sl ([.ref q]) ++ List.replicate (4 - (lg_sl ([.ref q])).length) Slot.unset).toArray = ls at hl ⊢
  have hl : lv_has ls 4 [(0, .ref q)] := hl
  suffices key : ∀ (H : Heap) (locs : List Loc), va_P D vwCl (mw q b1 k4 by8 wd po fi la bi bo nb) H → va_S (fun q : Nat => s.heap.size ≤ q) s.heap H locs → W p l e (headSpec wsX1_round { frames := 3, cells := 0, slots := 0, locals := 70 }).room s m ([.ref q] : List Value).toArray below meth c H locs 0 0 (MQ below (roI s.heap.size (rRound wd po)) ([.ref q] : List Value).toArray s 0 0 (fun q : Nat => s.heap.size ≤ q)) (F0 m 0 ls []) from key s.heap [] hP hS
  intro H locs hP hS
  refine lv_lconst (v := 1) hx hb dX1_round_0 (by decide) ?_
  refine lv_lstore_n (lv' := [(1, .long 1), (0, .ref q)]) hx hb dX1_round_1 rfl hl (by decide) rfl (fun ls hl => ?_)
  refine lv_iconst (v := 1) hx hb dX1_round_2 (by decide) ?_
  refine lv_istore_n (lv' := [(3, .int 1), (1, .long 1), (0, .ref q)]) hx hb dX1_round_3 rfl hl (by decide) rfl (fun ls hl => ?_)
  have lp_4 : ∀ (k i : Nat), i ≤ 4096 → 4096 < i + k → firstAt (fun i => decide (rRdN wd po i = 1)) i (4096 - i) = rRound wd po → ∀ (H : Heap) (locs : List Loc), va_P D vwCl (mw q b1 k4 by8 wd po fi la bi bo nb) H → va_S (fun q : Nat => s.heap.size ≤ q) s.heap H locs → ∀ ls : Array Slot, lv_has ls 4 [(3, .int (nI (i + 1))), (1, .long (rRdN wd po i)), (0, .ref q)] → W p l e (headSpec wsX1_round { frames := 3, cells := 0, slots := 0, locals := 70 }).room s m ([.ref q] : List Value).toArray below meth c H locs 0 0 (MQ below (roI s.heap.size (rRound wd po)) ([.ref q] : List Value).toArray s 0 0 (fun q : Nat => s.heap.size ≤ q)) (F0 m 4 ls []) := by
    intro k
    induction k with
    | zero =>
      intro i h1 h2
      exact absurd h2 (by omega)
    | succ k ih =>
      intro i hi hk hfr H locs hP hS ls hl
      refine lv_iload_n hx hb dX1_round_4 rfl (lv_at hl 0 rfl) ?_
      refine lv_sipush (v := 4096) hx hb dX1_round_5 (by decide) ?_
      refine lv_icmp_gt (tgt := 32) hx hb dX1_round_8 (by decide) (fun c_8 => ?_) (fun c_8 => ?_)
      ·
        have hiN : i = 4096 := du_rd1 hi c_8
        refine lv_iconst (v := (-1)) hx hb dX1_round_32 (by decide) ?_
        exact W.iret (v := (-1)) hx hb hr (fun t ht hW => ⟨⟨(-1), (), rfl, by rw [← hfr, hiN]; rfl, trivial⟩, hS.F ht⟩) hS.2.2 dX1_round_33
      ·
        have hlt : i < 4096 := du_rd2 hi c_8
        refine lv_aload_n hx hb dX1_round_11 rfl (lv_at hl 2 rfl) ?_
        refine lv_lload_n hx hb dX1_round_12 rfl (lv_at hl 1 rfl) ?_
        refine lv_iconst (v := 0) hx hb dX1_round_13 (by decide) ?_
        refine ro_l (va_runV (As := [.long (rRdN wd po i), .int 0]) (rest := []) ⟨hx, hb, hml, hown, hts⟩ (r_bit (sz := H.size) (rRdN wd po i) 0) (cwV 2 hts gX1_round_X1_bit rfl rfl rfl (by decide +kernel) ⟨Nat.le_of_ble_eq_true rfl, Nat.le_of_ble_eq_true rfl⟩) (preV_RO hP hK 0 (ci := 1) rfl rfl) rfl rfl hl.1 rfl (lv_room (Nat.le_of_ble_eq_true rfl)) dX1_round_14 ⟨Nat.le_of_ble_eq_true rfl, Nat.le_of_ble_eq_true rfl⟩) hS hA hP (fun H locs hP hS => ?_)
        refine du_rwl (y := rRdN wd po (i + 1)) (rfl) ?_
        refine lv_lstore_n (lv' := [(1, .long (rRdN wd po (i + 1))), (3, .int (nI (i + 1))), (0, .ref q)]) hx hb dX1_round_17 rfl hl (by decide) rfl (fun ls hl => ?_)
        refine lv_lload_n hx hb dX1_round_18 rfl (lv_at hl 0 rfl) ?_
        refine lv_lconst (v := 1) hx hb dX1_round_19 (by decide) ?_
        refine W.lcmp hx hb dX1_round_20 ?_
        refine lv_if_ne (tgt := 26) hx hb dX1_round_21 (by decide) (fun c_21 => ?_) (fun c_21 => ?_)
        ·
          have hfr2 : firstAt (fun i => decide (rRdN wd po i = 1)) (i + 1) (4096 - (i + 1)) = rRound wd po := by rw [← hfr, du_fn hlt]; exact (if_neg (by simpa using fun h => c_21 ((lg_cmp_eq _ _).mpr h))).symm
          refine lv_iinc (v := nI (i + 1 + 1)) (lv' := [(3, .int (nI (i + 1 + 1))), (1, .long (rRdN wd po (i + 1))), (0, .ref q)]) hx hb dX1_round_26 hl (k := 1) rfl (nI_1 _) (by decide) rfl (fun ls hl => ?_)
          refine lv_goto (tgt := 4) hx hb dX1_round_29 (by decide) ?_
          exact ih (i + 1) (by omega) (by omega) (hfr2) H locs (hP) hS ls (lv_sub hl [0, 1, 2] rfl)
        ·
          have hfr2 : nI (i + 1) = rRound wd po := by rw [← hfr, du_fn hlt]; exact (if_pos (by simpa using (lg_cmp_eq _ _).mp c_21)).symm
          refine lv_iload_n hx hb dX1_round_24 rfl (lv_at hl 1 rfl) ?_
          exact W.iret (v := (nI (i + 1))) hx hb hr (fun t ht hW => ⟨⟨(nI (i + 1)), (), rfl, hfr2, trivial⟩, hS.F ht⟩) hS.2.2 dX1_round_25
  exact lp_4 (4096 + 1 - 0) 0 (by omega) (by omega) (rfl) H locs (hP) hS ls (lv_sub hl [0, 1, 2] rfl)
set_option maxHeartbeats 4000000 in
set_option maxRecDepth 100000 in
theorem r_holds {l : Launch} {D : va_G} {q b1 : Nat} {k4 : ClassId} {by8 : Nat → Int32} {wd : Nat} {po : Int64} {fi : Int64} {la : Int64} {bi : Int32} {bo : Int32} {nb : Nat} {sz : Nat}   : Met l yX1_holds wsX1_holds ({ frames := 0, cells := 0, slots := 0, locals := 0 }) (va_Pc [.ref q] (pRO D vwCl (mt k4) (mw q b1 k4 by8 wd po fi la bi bo nb) sz)) (roI sz 1) 0 0 (fun q : Nat => sz ≤ q) := by
  refine Met.ofW (cc := cX1_holds) (maxL := 1) (ret := (some .boolean)) (by decide) rfl ?_
  intro p e s m args below meth c s₁ B hml hv
  obtain ⟨rfl, hsz, hP, hK⟩ := hv
  have hsz : s.heap.size = sz := hsz
  have hx := B.exec
  have hb := B.bytes
  have hr := B.returns
  have hts := atoms_spec (ws := wsX1_holds) B.pre
  have hown : s.vm.findClass RX1 = some m.cls := findClass_of_methodNamed B.named
  have hlocks := B.notSynchronized
  subst hsz
  have hA : ∀ q : Nat, s.heap.size ≤ q → (fun q : Nat => s.heap.size ≤ q) q := fun _ h => h
  have hS : va_S (fun q : Nat => s.heap.size ≤ q) s.heap s.heap [] := va_S.rf
  have hl := lv_entry ([.ref q]) (n := 1) (Nat.le_of_ble_eq_true rfl)
  rw [lg_entry_eq]
  generalize (lg_sl ([.ref q]) ++ List.replicate (1 - (lg_sl ([.ref q])).length) Slot.unset).toArray = ls at hl ⊢
  have hl : lv_has ls 1 [(0, .ref q)] := hl
  suffices key : ∀ (H : Heap) (locs : List Loc), va_P D vwCl (mw q b1 k4 by8 wd po fi la bi bo nb) H → va_S (fun q : Nat => s.heap.size ≤ q) s.heap H locs → W p l e (headSpec wsX1_holds { frames := 0, cells := 0, slots := 0, locals := 0 }).room s m ([.ref q] : List Value).toArray below meth c H locs 0 0 (MQ below (roI s.heap.size 1) ([.ref q] : List Value).toArray s 0 0 (fun q : Nat => s.heap.size ≤ q)) (F0 m 0 ls []) from key s.heap [] hP hS
  intro H locs hP hS
  refine lv_iconst (v := 1) hx hb dX1_holds_0 (by decide) ?_
  exact W.zret (v := 1) hx hb hr (by decide) (fun t ht hW => ⟨⟨1, (), rfl, rfl, trivial⟩, hS.F ht⟩) hS.2.2 dX1_holds_1
theorem in_r_count : ∀ w ∈ wsX10, w ∈ wsX1_count := fun _ h => List.mem_cons_of_mem _ (List.mem_append_right _ h)
set_option maxHeartbeats 4000000 in
set_option maxRecDepth 100000 in
theorem r_count {l : Launch} {D : va_G} {q b1 : Nat} {k4 : ClassId} {by8 : Nat → Int32} {wd : Nat} {po : Int64} {fi : Int64} {la : Int64} {bi : Int32} {bo : Int32} {nb : Nat} {sz : Nat} (x : Int32)  : Met l yX1_count wsX1_count ({ frames := 0, cells := 0, slots := 0, locals := 0 }) (va_Pc [.ref q, .int x] (pRO D vwCl (mt k4) (mw q b1 k4 by8 wd po fi la bi bo nb) sz)) (roI sz (cCount nb wd bi bo x)) 0 0 (fun q : Nat => sz ≤ q) := by
  refine Met.ofW (cc := cX1_count) (maxL := 2) (ret := (some .int)) (by decide) rfl ?_
  intro p e s m args below meth c s₁ B hml hv
  obtain ⟨rfl, hsz, hP, hK⟩ := hv
  have hsz : s.heap.size = sz := hsz
  have hx := B.exec
  have hb := B.bytes
  have hr := B.returns
  have hts := atoms_spec (ws := wsX1_count) B.pre
  have hown : s.vm.findClass RX1 = some m.cls := findClass_of_methodNamed B.named
  have hlocks := B.notSynchronized
  subst hsz
  have hA : ∀ q : Nat, s.heap.size ≤ q → (fun q : Nat => s.heap.size ≤ q) q := fun _ h => h
  have hS : va_S (fun q : Nat => s.heap.size ≤ q) s.heap s.heap [] := va_S.rf
  have hl := lv_entry ([.ref q, .int x]) (n := 2) (Nat.le_of_ble_eq_true rfl)
  rw [lg_entry_eq]
  generalize (lg_sl ([.ref q, .int x]) ++ List.replicate (2 - (lg_sl ([.ref q, .int x])).length) Slot.unset).toArray = ls at hl ⊢
  have hl : lv_has ls 2 [(0, .ref q), (1, .int x)] := hl
  suffices key : ∀ (H : Heap) (locs : List Loc), va_P D vwCl (mw q b1 k4 by8 wd po fi la bi bo nb) H → va_S (fun q : Nat => s.heap.size ≤ q) s.heap H locs → W p l e (headSpec wsX1_count { frames := 0, cells := 0, slots := 0, locals := 0 }).room s m ([.ref q, .int x] : List Value).toArray below meth c H locs 0 0 (MQ below (roI s.heap.size (cCount nb wd bi bo x)) ([.ref q, .int x] : List Value).toArray s 0 0 (fun q : Nat => s.heap.size ≤ q)) (F0 m 0 ls []) from key s.heap [] hP hS
  intro H locs hP hS
  refine lv_iload_n hx hb dX1_count_0 rfl (lv_at hl 1 rfl) ?_
  rcases du_sw x (0) with s_0 | s_0
  ·
    refine lv_tableIn (tgt := 32) hx hb dX1_count_1 (by rw [s_0]; decide) (by rw [s_0]; decide) (by rw [s_0]; rfl) (by decide) ?_
    refine lv_aload_n hx hb dX1_count_32 rfl (lv_at hl 0 rfl) ?_
    refine va_get (D := D) (ci := 1) (v := .int (nI nb)) (C := RX1) (T := TX1) (N := 8) hx hb hts in_r_count hown hK hP 0 rfl rfl 7 (by decide) (hts (.fieldLink RX1 46 "SliceChecksModel" "count" "I") (by decide +kernel)) (fun _ h9 => h9) rfl dX1_count_33 ?_
    exact W.iret (v := (nI nb)) hx hb hr (fun t ht hW => ⟨⟨(nI nb), (), rfl, by first | rw [cCount, if_pos s_0] | rw [cCount, if_neg s_0, if_pos s_1] | rw [cCount, if_neg s_0, if_neg s_1, if_pos s_2, if_pos c_46] | rw [cCount, if_neg s_0, if_neg s_1, if_pos s_2, if_neg c_46] | rw [cCount, if_neg s_0, if_neg s_1, if_neg s_2, if_pos s_3, if_pos c_59] | rw [cCount, if_neg s_0, if_neg s_1, if_neg s_2, if_pos s_3, if_neg c_59] | rw [cCount, if_neg s_0, if_neg s_1, if_neg s_2, if_neg s_3], trivial⟩, hS.F ht⟩) hS.2.2 dX1_count_36
  rcases du_sw x (1) with s_1 | s_1
  ·
    refine lv_tableIn (tgt := 37) hx hb dX1_count_1 (by rw [s_1]; decide) (by rw [s_1]; decide) (by rw [s_1]; rfl) (by decide) ?_
    refine lv_aload_n hx hb dX1_count_37 rfl (lv_at hl 0 rfl) ?_
    refine va_get (D := D) (ci := 1) (v := .int (nI wd)) (C := RX1) (T := TX1) (N := 8) hx hb hts in_r_count hown hK hP 0 rfl rfl 0 (by decide) (hts (.fieldLink RX1 7 "SliceChecksModel" "width" "I") (by decide +kernel)) (fun _ h9 => h9) rfl dX1_count_38 ?_
    exact W.iret (v := (nI wd)) hx hb hr (fun t ht hW => ⟨⟨(nI wd), (), rfl, by first | rw [cCount, if_pos s_0] | rw [cCount, if_neg s_0, if_pos s_1] | rw [cCount, if_neg s_0, if_neg s_1, if_pos s_2, if_pos c_46] | rw [cCount, if_neg s_0, if_neg s_1, if_pos s_2, if_neg c_46] | rw [cCount, if_neg s_0, if_neg s_1, if_neg s_2, if_pos s_3, if_pos c_59] | rw [cCount, if_neg s_0, if_neg s_1, if_neg s_2, if_pos s_3, if_neg c_59] | rw [cCount, if_neg s_0, if_neg s_1, if_neg s_2, if_neg s_3], trivial⟩, hS.F ht⟩) hS.2.2 dX1_count_41
  rcases du_sw x (2) with s_2 | s_2
  ·
    refine lv_tableIn (tgt := 42) hx hb dX1_count_1 (by rw [s_2]; decide) (by rw [s_2]; decide) (by rw [s_2]; rfl) (by decide) ?_
    refine lv_aload_n hx hb dX1_count_42 rfl (lv_at hl 0 rfl) ?_
    refine va_get (D := D) (ci := 1) (v := .int bi) (C := RX1) (T := TX1) (N := 8) hx hb hts in_r_count hown hK hP 0 rfl rfl 4 (by decide) (hts (.fieldLink RX1 27 "SliceChecksModel" "in" "Z") (by decide +kernel)) (fun _ h9 => h9) rfl dX1_count_43 ?_
    refine lv_if_eq (tgt := 53) hx hb dX1_count_46 (by decide) (fun c_46 => ?_) (fun c_46 => ?_)
    ·
      refine lv_iconst (v := 0) hx hb dX1_count_53 (by decide) ?_
      exact W.iret (v := 0) hx hb hr (fun t ht hW => ⟨⟨0, (), rfl, by first | rw [cCount, if_pos s_0] | rw [cCount, if_neg s_0, if_pos s_1] | rw [cCount, if_neg s_0, if_neg s_1, if_pos s_2, if_pos c_46] | rw [cCount, if_neg s_0, if_neg s_1, if_pos s_2, if_neg c_46] | rw [cCount, if_neg s_0, if_neg s_1, if_neg s_2, if_pos s_3, if_pos c_59] | rw [cCount, if_neg s_0, if_neg s_1, if_neg s_2, if_pos s_3, if_neg c_59] | rw [cCount, if_neg s_0, if_neg s_1, if_neg s_2, if_neg s_3], trivial⟩, hS.F ht⟩) hS.2.2 dX1_count_54
    ·
      refine lv_iconst (v := 1) hx hb dX1_count_49 (by decide) ?_
      refine lv_goto (tgt := 54) hx hb dX1_count_50 (by decide) ?_
      exact W.iret (v := 1) hx hb hr (fun t ht hW => ⟨⟨1, (), rfl, by first | rw [cCount, if_pos s_0] | rw [cCount, if_neg s_0, if_pos s_1] | rw [cCount, if_neg s_0, if_neg s_1, if_pos s_2, if_pos c_46] | rw [cCount, if_neg s_0, if_neg s_1, if_pos s_2, if_neg c_46] | rw [cCount, if_neg s_0, if_neg s_1, if_neg s_2, if_pos s_3, if_pos c_59] | rw [cCount, if_neg s_0, if_neg s_1, if_neg s_2, if_pos s_3, if_neg c_59] | rw [cCount, if_neg s_0, if_neg s_1, if_neg s_2, if_neg s_3], trivial⟩, hS.F ht⟩) hS.2.2 dX1_count_54
  rcases du_sw x (3) with s_3 | s_3
  ·
    refine lv_tableIn (tgt := 55) hx hb dX1_count_1 (by rw [s_3]; decide) (by rw [s_3]; decide) (by rw [s_3]; rfl) (by decide) ?_
    refine lv_aload_n hx hb dX1_count_55 rfl (lv_at hl 0 rfl) ?_
    refine va_get (D := D) (ci := 1) (v := .int bo) (C := RX1) (T := TX1) (N := 8) hx hb hts in_r_count hown hK hP 0 rfl rfl 5 (by decide) (hts (.fieldLink RX1 31 "SliceChecksModel" "out" "Z") (by decide +kernel)) (fun _ h9 => h9) rfl dX1_count_56 ?_
    refine lv_if_eq (tgt := 66) hx hb dX1_count_59 (by decide) (fun c_59 => ?_) (fun c_59 => ?_)
    ·
      refine lv_iconst (v := 0) hx hb dX1_count_66 (by decide) ?_
      exact W.iret (v := 0) hx hb hr (fun t ht hW => ⟨⟨0, (), rfl, by first | rw [cCount, if_pos s_0] | rw [cCount, if_neg s_0, if_pos s_1] | rw [cCount, if_neg s_0, if_neg s_1, if_pos s_2, if_pos c_46] | rw [cCount, if_neg s_0, if_neg s_1, if_pos s_2, if_neg c_46] | rw [cCount, if_neg s_0, if_neg s_1, if_neg s_2, if_pos s_3, if_pos c_59] | rw [cCount, if_neg s_0, if_neg s_1, if_neg s_2, if_pos s_3, if_neg c_59] | rw [cCount, if_neg s_0, if_neg s_1, if_neg s_2, if_neg s_3], trivial⟩, hS.F ht⟩) hS.2.2 dX1_count_67
    ·
      refine lv_iconst (v := 1) hx hb dX1_count_62 (by decide) ?_
      refine lv_goto (tgt := 67) hx hb dX1_count_63 (by decide) ?_
      exact W.iret (v := 1) hx hb hr (fun t ht hW => ⟨⟨1, (), rfl, by first | rw [cCount, if_pos s_0] | rw [cCount, if_neg s_0, if_pos s_1] | rw [cCount, if_neg s_0, if_neg s_1, if_pos s_2, if_pos c_46] | rw [cCount, if_neg s_0, if_neg s_1, if_pos s_2, if_neg c_46] | rw [cCount, if_neg s_0, if_neg s_1, if_neg s_2, if_pos s_3, if_pos c_59] | rw [cCount, if_neg s_0, if_neg s_1, if_neg s_2, if_pos s_3, if_neg c_59] | rw [cCount, if_neg s_0, if_neg s_1, if_neg s_2, if_neg s_3], trivial⟩, hS.F ht⟩) hS.2.2 dX1_count_67
  refine lv_tableOut (tgt := 68) hx hb dX1_count_1 (by have n_0 := du_ne (n := 0) (by decide) s_0; have n_1 := du_ne (n := 1) (by decide) s_1; have n_2 := du_ne (n := 2) (by decide) s_2; have n_3 := du_ne (n := 3) (by decide) s_3; omega) (by decide) ?_
  refine lv_iconst (v := (-1)) hx hb dX1_count_68 (by decide) ?_
  exact W.iret (v := (-1)) hx hb hr (fun t ht hW => ⟨⟨(-1), (), rfl, by first | rw [cCount, if_pos s_0] | rw [cCount, if_neg s_0, if_pos s_1] | rw [cCount, if_neg s_0, if_neg s_1, if_pos s_2, if_pos c_46] | rw [cCount, if_neg s_0, if_neg s_1, if_pos s_2, if_neg c_46] | rw [cCount, if_neg s_0, if_neg s_1, if_neg s_2, if_pos s_3, if_pos c_59] | rw [cCount, if_neg s_0, if_neg s_1, if_neg s_2, if_pos s_3, if_neg c_59] | rw [cCount, if_neg s_0, if_neg s_1, if_neg s_2, if_neg s_3], trivial⟩, hS.F ht⟩) hS.2.2 dX1_count_69
theorem in_r_told2 : ∀ w ∈ wsX10, w ∈ wsX1_told_ := fun _ h => List.mem_cons_of_mem _ (List.mem_append_right _ h)
set_option maxHeartbeats 4000000 in
set_option maxRecDepth 100000 in
theorem r_told2 {l : Launch} {D : va_G} {q b1 : Nat} {k4 : ClassId} {by8 : Nat → Int32} {wd : Nat} {po : Int64} {fi : Int64} {la : Int64} {bi : Int32} {bo : Int32} {nb : Nat} {sz : Nat} (x : Int32)  : Met l yX1_told_ wsX1_told_ ({ frames := 0, cells := 0, slots := 0, locals := 0 }) (va_Pc [.ref q, .int x] (pRO D vwCl (mt k4) (mw q b1 k4 by8 wd po fi la bi bo nb) sz)) (roL sz (cTold po fi la x)) 0 0 (fun q : Nat => sz ≤ q) := by
  refine Met.ofW (cc := cX1_told_) (maxL := 2) (ret := (some .long)) (by decide) rfl ?_
  intro p e s m args below meth c s₁ B hml hv
  obtain ⟨rfl, hsz, hP, hK⟩ := hv
  have hsz : s.heap.size = sz := hsz
  have hx := B.exec
  have hb := B.bytes
  have hr := B.returns
  have hts := atoms_spec (ws := wsX1_told_) B.pre
  have hown : s.vm.findClass RX1 = some m.cls := findClass_of_methodNamed B.named
  have hlocks := B.notSynchronized
  subst hsz
  have hA : ∀ q : Nat, s.heap.size ≤ q → (fun q : Nat => s.heap.size ≤ q) q := fun _ h => h
  have hS : va_S (fun q : Nat => s.heap.size ≤ q) s.heap s.heap [] := va_S.rf
  have hl := lv_entry ([.ref q, .int x]) (n := 2) (Nat.le_of_ble_eq_true rfl)
  rw [lg_entry_eq]
  generalize (lg_sl ([.ref q, .int x]) ++ List.replicate (2 - (lg_sl ([.ref q, .int x])).length) Slot.unset).toArray = ls at hl ⊢
  have hl : lv_has ls 2 [(0, .ref q), (1, .int x)] := hl
  suffices key : ∀ (H : Heap) (locs : List Loc), va_P D vwCl (mw q b1 k4 by8 wd po fi la bi bo nb) H → va_S (fun q : Nat => s.heap.size ≤ q) s.heap H locs → W p l e (headSpec wsX1_told_ { frames := 0, cells := 0, slots := 0, locals := 0 }).room s m ([.ref q, .int x] : List Value).toArray below meth c H locs 0 0 (MQ below (roL s.heap.size (cTold po fi la x)) ([.ref q, .int x] : List Value).toArray s 0 0 (fun q : Nat => s.heap.size ≤ q)) (F0 m 0 ls []) from key s.heap [] hP hS
  intro H locs hP hS
  refine lv_iload_n hx hb dX1_told__0 rfl (lv_at hl 1 rfl) ?_
  refine lv_if_ne (tgt := 11) hx hb dX1_told__1 (by decide) (fun c_1 => ?_) (fun c_1 => ?_)
  ·
    refine lv_iload_n hx hb dX1_told__11 rfl (lv_at hl 1 rfl) ?_
    refine lv_iconst (v := 1) hx hb dX1_told__12 (by decide) ?_
    refine lv_icmp_ne (tgt := 23) hx hb dX1_told__13 (by decide) (fun c_13 => ?_) (fun c_13 => ?_)
    ·
      refine lv_iload_n hx hb dX1_told__23 rfl (lv_at hl 1 rfl) ?_
      refine lv_iconst (v := 2) hx hb dX1_told__24 (by decide) ?_
      refine lv_icmp_ne (tgt := 35) hx hb dX1_told__25 (by decide) (fun c_25 => ?_) (fun c_25 => ?_)
      ·
        refine lv_lconst (v := 0) hx hb dX1_told__35 (by decide) ?_
        exact W.lret (v := 0) hx hb hr (fun t ht hW => ⟨⟨0, (), rfl, by first | rw [cTold, if_pos c_1] | rw [cTold, if_neg c_1, if_pos c_13] | rw [cTold, if_neg c_1, if_neg c_13, if_pos c_25] | rw [cTold, if_neg c_1, if_neg c_13, if_neg c_25], trivial⟩, hS.F ht⟩) hS.2.2 dX1_told__36
      ·
        refine lv_aload_n hx hb dX1_told__28 rfl (lv_at hl 0 rfl) ?_
        refine va_get (D := D) (ci := 1) (v := .long la) (C := RX1) (T := TX1) (N := 8) hx hb hts in_r_told2 hown hK hP 0 rfl rfl 3 (by decide) (hts (.fieldLink RX1 24 "SliceChecksModel" "last" "J") (by decide +kernel)) (fun _ h9 => h9) rfl dX1_told__29 ?_
        refine lv_goto (tgt := 36) hx hb dX1_told__32 (by decide) ?_
        exact W.lret (v := la) hx hb hr (fun t ht hW => ⟨⟨la, (), rfl, by first | rw [cTold, if_pos c_1] | rw [cTold, if_neg c_1, if_pos c_13] | rw [cTold, if_neg c_1, if_neg c_13, if_pos c_25] | rw [cTold, if_neg c_1, if_neg c_13, if_neg c_25], trivial⟩, hS.F ht⟩) hS.2.2 dX1_told__36
    ·
      refine lv_aload_n hx hb dX1_told__16 rfl (lv_at hl 0 rfl) ?_
      refine va_get (D := D) (ci := 1) (v := .long fi) (C := RX1) (T := TX1) (N := 8) hx hb hts in_r_told2 hown hK hP 0 rfl rfl 2 (by decide) (hts (.fieldLink RX1 21 "SliceChecksModel" "first" "J") (by decide +kernel)) (fun _ h9 => h9) rfl dX1_told__17 ?_
      refine lv_goto (tgt := 36) hx hb dX1_told__20 (by decide) ?_
      exact W.lret (v := fi) hx hb hr (fun t ht hW => ⟨⟨fi, (), rfl, by first | rw [cTold, if_pos c_1] | rw [cTold, if_neg c_1, if_pos c_13] | rw [cTold, if_neg c_1, if_neg c_13, if_pos c_25] | rw [cTold, if_neg c_1, if_neg c_13, if_neg c_25], trivial⟩, hS.F ht⟩) hS.2.2 dX1_told__36
  ·
    refine lv_aload_n hx hb dX1_told__4 rfl (lv_at hl 0 rfl) ?_
    refine va_get (D := D) (ci := 1) (v := .long po) (C := RX1) (T := TX1) (N := 8) hx hb hts in_r_told2 hown hK hP 0 rfl rfl 1 (by decide) (hts (.fieldLink RX1 15 "SliceChecksModel" "polynomial" "J") (by decide +kernel)) (fun _ h9 => h9) rfl dX1_told__5 ?_
    refine lv_goto (tgt := 36) hx hb dX1_told__8 (by decide) ?_
    exact W.lret (v := po) hx hb hr (fun t ht hW => ⟨⟨po, (), rfl, by first | rw [cTold, if_pos c_1] | rw [cTold, if_neg c_1, if_pos c_13] | rw [cTold, if_neg c_1, if_neg c_13, if_pos c_25] | rw [cTold, if_neg c_1, if_neg c_13, if_neg c_25], trivial⟩, hS.F ht⟩) hS.2.2 dX1_told__36
theorem in_r_kind_no : ∀ w ∈ wsX10, w ∈ wsX1_kind := fun _ h => List.mem_cons_of_mem _ (List.mem_append_right _ h)
set_option maxHeartbeats 4000000 in
set_option maxRecDepth 100000 in
theorem r_kind_no {l : Launch} {D : va_G} {q b1 : Nat} {k4 : ClassId} {by8 : Nat → Int32} {wd : Nat} {po : Int64} {fi : Int64} {la : Int64} {bi : Int32} {bo : Int32} {nb : Nat} {sz : Nat} (y : Int32) (p0 : Int64) (f0 : Int64) (i0 : Int32) (o0 : Int32) (l0 : Int64) (hno : y < 1 ∨ 64 < y) : Met l yX1_kind wsX1_kind ({ frames := 0, cells := 0, slots := 0, locals := 0 }) (va_Pc [.ref q, .int y, .long p0, .long f0, .int i0, .int o0, .long l0] (pRO D vwCl (mt k4) (mw q b1 k4 by8 wd po fi la bi bo nb) sz)) (roI sz 0) 0 0 (fun q : Nat => sz ≤ q) := by
  refine Met.ofW (cc := cX1_kind) (maxL := 10) (ret := (some .boolean)) (by decide) rfl ?_
  intro p e s m args below meth c s₁ B hml hv
  obtain ⟨rfl, hsz, hP, hK⟩ := hv
  have hsz : s.heap.size = sz := hsz
  have hx := B.exec
  have hb := B.bytes
  have hr := B.returns
  have hts := atoms_spec (ws := wsX1_kind) B.pre
  have hown : s.vm.findClass RX1 = some m.cls := findClass_of_methodNamed B.named
  have hlocks := B.notSynchronized
  subst hsz
  have hA : ∀ q : Nat, s.heap.size ≤ q → (fun q : Nat => s.heap.size ≤ q) q := fun _ h => h
  have hS : va_S (fun q : Nat => s.heap.size ≤ q) s.heap s.heap [] := va_S.rf
  have hl := lv_entry ([.ref q, .int y, .long p0, .long f0, .int i0, .int o0, .long l0]) (n := 10) (Nat.le_of_ble_eq_true rfl)
  rw [lg_entry_eq]
  generalize (lg_sl ([.ref q, .int y, .long p0, .long f0, .int i0, .int o0, .long l0]) ++ List.replicate (10 - (lg_sl ([.ref q, .int y, .long p0, .long f0, .int i0, .int o0, .long l0])).length) Slot.unset).toArray = ls at hl ⊢
  have hl : lv_has ls 10 [(0, .ref q), (1, .int y), (2, .long p0), (4, .long f0), (6, .int i0), (7, .int o0), (8, .long l0)] := hl
  suffices key : ∀ (H : Heap) (locs : List Loc), va_P D vwCl (mw q b1 k4 by8 wd po fi la bi bo nb) H → va_S (fun q : Nat => s.heap.size ≤ q) s.heap H locs → W p l e (headSpec wsX1_kind { frames := 0, cells := 0, slots := 0, locals := 0 }).room s m ([.ref q, .int y, .long p0, .long f0, .int i0, .int o0, .long l0] : List Value).toArray below meth c H locs 0 0 (MQ below (roI s.heap.size 0) ([.ref q, .int y, .long p0, .long f0, .int i0, .int o0, .long l0] : List Value).toArray s 0 0 (fun q : Nat => s.heap.size ≤ q)) (F0 m 0 ls []) from key s.heap [] hP hS
  intro H locs hP hS
  refine lv_iload_n hx hb dX1_kind_0 rfl (lv_at hl 1 rfl) ?_
  refine lv_iconst (v := 1) hx hb dX1_kind_1 (by decide) ?_
  refine lv_icmp_lt (tgt := 11) hx hb dX1_kind_2 (by decide) (fun c_2 => ?_) (fun c_2 => ?_)
  ·
    refine lv_iconst (v := 0) hx hb dX1_kind_11 (by decide) ?_
    exact W.zret (v := 0) hx hb hr (by decide) (fun t ht hW => ⟨⟨0, (), rfl, rfl, trivial⟩, hS.F ht⟩) hS.2.2 dX1_kind_12
  ·
    refine lv_iload_n hx hb dX1_kind_5 rfl (lv_at hl 1 rfl) ?_
    refine lv_bipush (v := 64) hx hb dX1_kind_6 (by decide) ?_
    refine lv_icmp_le (tgt := 13) hx hb dX1_kind_8 (by decide) (fun c_8 => ?_) (fun c_8 => ?_)
    ·
      exact hno.elim (fun h => absurd h c_2) (fun h => absurd h (Int32.not_lt.mpr c_8))
    ·
      refine lv_iconst (v := 0) hx hb dX1_kind_11 (by decide) ?_
      exact W.zret (v := 0) hx hb hr (by decide) (fun t ht hW => ⟨⟨0, (), rfl, rfl, trivial⟩, hS.F ht⟩) hS.2.2 dX1_kind_12
theorem in_r_kind : ∀ w ∈ wsX10, w ∈ wsX1_kind := fun _ h => List.mem_cons_of_mem _ (List.mem_append_right _ h)
set_option maxHeartbeats 4000000 in
set_option maxRecDepth 100000 in
theorem r_kind {l : Launch} {D : va_G} {q b1 : Nat} {k4 : ClassId} {by8 : Nat → Int32} {wd : Nat} {po : Int64} {fi : Int64} {la : Int64} {bi : Int32} {bo : Int32} {nb : Nat} {sz : Nat} (v : Nat) (p0 : Int64) (f0 : Int64) (i0 : Int32) (o0 : Int32) (l0 : Int64) (hv1 : 1 ≤ v) (hv : v ≤ 64) (hi0 : i0 = 0 ∨ i0 = 1) (ho0 : o0 = 0 ∨ o0 = 1) : Met l yX1_kind wsX1_kind ({ frames := 2, cells := 0, slots := 0, locals := 44 }) (va_Pc [.ref q, .int (nI v), .long p0, .long f0, .int i0, .int o0, .long l0] (pMU D vwCl (mt k4) (mw q b1 k4 by8 wd po fi la bi bo nb) sz)) (muI D vwCl (mw q b1 k4 by8 wd po fi la bi bo nb) (mw q b1 k4 by8 v (rLow p0 (nI v)) (rLow f0 (nI v)) (rLow l0 (nI v)) i0 o0 nb) sz 1) 0 0 (va_A (mw q b1 k4 by8 wd po fi la bi bo nb) sz) := by
  refine Met.ofW (cc := cX1_kind) (maxL := 10) (ret := (some .boolean)) (by decide) rfl ?_
  intro p e s m args below meth c s₁ B hml hv
  obtain ⟨rfl, hsz, hP, hK, hD0⟩ := hv
  have hsz : s.heap.size = sz := hsz
  have hx := B.exec
  have hb := B.bytes
  have hr := B.returns
  have hts := atoms_spec (ws := wsX1_kind) B.pre
  have hown : s.vm.findClass RX1 = some m.cls := findClass_of_methodNamed B.named
  have hlocks := B.notSynchronized
  subst hsz
  have hD0 := hD0.self (sz := s.heap.size)
  have hA : ∀ q9 : Nat, s.heap.size ≤ q9 → va_A (mw q b1 k4 by8 wd po fi la bi bo nb) s.heap.size q9 := fun q9 h => Or.inr h
  unfold muI
  generalize va_A (mw q b1 k4 by8 wd po fi la bi bo nb) s.heap.size = A at hD0 hA ⊢
  have hD := hD0
  have hS : va_S A s.heap s.heap [] := va_S.rf
  have hl := lv_entry ([.ref q, .int (nI v), .long p0, .long f0, .int i0, .int o0, .long l0]) (n := 10) (Nat.le_of_ble_eq_true rfl)
  rw [lg_entry_eq]
  generalize (lg_sl ([.ref q, .int (nI v), .long p0, .long f0, .int i0, .int o0, .long l0]) ++ List.replicate (10 - (lg_sl ([.ref q, .int (nI v), .long p0, .long f0, .int i0, .int o0, .long l0])).length) Slot.unset).toArray = ls at hl ⊢
  have hl : lv_has ls 10 [(0, .ref q), (1, .int (nI v)), (2, .long p0), (4, .long f0), (6, .int i0), (7, .int o0), (8, .long l0)] := hl
  suffices key : ∀ (H : Heap) (locs : List Loc), va_P D vwCl (mw q b1 k4 by8 wd po fi la bi bo nb) H → va_S A s.heap H locs → W p l e (headSpec wsX1_kind { frames := 2, cells := 0, slots := 0, locals := 44 }).room s m ([.ref q, .int (nI v), .long p0, .long f0, .int i0, .int o0, .long l0] : List Value).toArray below meth c H locs 0 0 (MQ below (va_Qi (fun r (_ : Unit) => r = 1) (fun _ t9 => va_P D vwCl (mw q b1 k4 by8 v (rLow p0 (nI v)) (rLow f0 (nI v)) (rLow l0 (nI v)) i0 o0 nb) t9.heap) A) ([.ref q, .int (nI v), .long p0, .long f0, .int i0, .int o0, .long l0] : List Value).toArray s 0 0 A) (F0 m 0 ls []) from key s.heap [] hP hS
  intro H locs hP hS
  refine lv_iload_n hx hb dX1_kind_0 rfl (lv_at hl 1 rfl) ?_
  refine lv_iconst (v := 1) hx hb dX1_kind_1 (by decide) ?_
  refine lv_icmp_lt (tgt := 11) hx hb dX1_kind_2 (by decide) (fun c_2 => ?_) (fun c_2 => ?_)
  ·
    exact absurd c_2 (du_n1 hv1 (by omega))
  ·
    refine lv_iload_n hx hb dX1_kind_5 rfl (lv_at hl 1 rfl) ?_
    refine lv_bipush (v := 64) hx hb dX1_kind_6 (by decide) ?_
    refine lv_icmp_le (tgt := 13) hx hb dX1_kind_8 (by decide) (fun c_8 => ?_) (fun c_8 => ?_)
    ·
      refine lv_aload_n hx hb dX1_kind_13 rfl (lv_at hl 0 rfl) ?_
      refine lv_iload_n hx hb dX1_kind_14 rfl (lv_at hl 1 rfl) ?_
      refine va_put (D := D) (ci := 1) (v := .int (nI v)) (ty := .int) (C := RX1) (T := TX1) (N := 8) hx hb hts in_r_kind tyX1 tyX1_ok nmX1 hown hK hP hD hS 0 rfl rfl 0 (by decide) (hts (.fieldLink RX1 7 "SliceChecksModel" "width" "I") (by decide +kernel)) (fun _ h9 => h9) rfl (by decide +kernel) rfl rfl (Nat.le_of_ble_eq_true rfl) dX1_kind_15 (fun H locs hP hD hS => ?_)
      have hP : va_P D vwCl (mw q b1 k4 by8 v po fi la bi bo nb) H := hP
      have hD : va_D A (mw q b1 k4 by8 v po fi la bi bo nb) := hD
      refine lv_aload_n hx hb dX1_kind_18 rfl (lv_at hl 0 rfl) ?_
      refine lv_aload_n hx hb dX1_kind_19 rfl (lv_at hl 0 rfl) ?_
      refine lv_lload_n hx hb dX1_kind_20 rfl (lv_at hl 2 rfl) ?_
      refine ro_l (va_runV (As := [.long p0]) (rest := [.ref q]) ⟨hx, hb, hml, hown, hts⟩ (r_cut (sz := H.size) p0) (cwV 1 hts gX1_kind_X1_cut rfl rfl rfl (by decide +kernel) ⟨Nat.le_of_ble_eq_true rfl, Nat.le_of_ble_eq_true rfl⟩) (preV_RO hP hK 0 (ci := 1) rfl rfl) rfl rfl hl.1 rfl (lv_room (Nat.le_of_ble_eq_true rfl)) dX1_kind_21 ⟨Nat.le_of_ble_eq_true rfl, Nat.le_of_ble_eq_true rfl⟩) hS hA hP (fun H locs hP hS => ?_)
      refine va_put (D := D) (ci := 1) (v := .long (rLow p0 (nI v))) (ty := .long) (C := RX1) (T := TX1) (N := 8) hx hb hts in_r_kind tyX1 tyX1_ok nmX1 hown hK hP hD hS 0 rfl rfl 1 (by decide) (hts (.fieldLink RX1 15 "SliceChecksModel" "polynomial" "J") (by decide +kernel)) (fun _ h9 => h9) rfl (by decide +kernel) rfl rfl (Nat.le_of_ble_eq_true rfl) dX1_kind_24 (fun H locs hP hD hS => ?_)
      have hP : va_P D vwCl (mw q b1 k4 by8 v (rLow p0 (nI v)) fi la bi bo nb) H := hP
      have hD : va_D A (mw q b1 k4 by8 v (rLow p0 (nI v)) fi la bi bo nb) := hD
      refine lv_aload_n hx hb dX1_kind_27 rfl (lv_at hl 0 rfl) ?_
      refine lv_aload_n hx hb dX1_kind_28 rfl (lv_at hl 0 rfl) ?_
      refine lv_lload hx hb dX1_kind_29 (lv_at hl 3 rfl) ?_
      refine ro_l (va_runV (As := [.long f0]) (rest := [.ref q]) ⟨hx, hb, hml, hown, hts⟩ (r_cut (sz := H.size) f0) (cwV 1 hts gX1_kind_X1_cut rfl rfl rfl (by decide +kernel) ⟨Nat.le_of_ble_eq_true rfl, Nat.le_of_ble_eq_true rfl⟩) (preV_RO hP hK 0 (ci := 1) rfl rfl) rfl rfl hl.1 rfl (lv_room (Nat.le_of_ble_eq_true rfl)) dX1_kind_31 ⟨Nat.le_of_ble_eq_true rfl, Nat.le_of_ble_eq_true rfl⟩) hS hA hP (fun H locs hP hS => ?_)
      refine va_put (D := D) (ci := 1) (v := .long (rLow f0 (nI v))) (ty := .long) (C := RX1) (T := TX1) (N := 8) hx hb hts in_r_kind tyX1 tyX1_ok nmX1 hown hK hP hD hS 0 rfl rfl 2 (by decide) (hts (.fieldLink RX1 21 "SliceChecksModel" "first" "J") (by decide +kernel)) (fun _ h9 => h9) rfl (by decide +kernel) rfl rfl (Nat.le_of_ble_eq_true rfl) dX1_kind_34 (fun H locs hP hD hS => ?_)
      have hP : va_P D vwCl (mw q b1 k4 by8 v (rLow p0 (nI v)) (rLow f0 (nI v)) la bi bo nb) H := hP
      have hD : va_D A (mw q b1 k4 by8 v (rLow p0 (nI v)) (rLow f0 (nI v)) la bi bo nb) := hD
      refine lv_aload_n hx hb dX1_kind_37 rfl (lv_at hl 0 rfl) ?_
      refine lv_aload_n hx hb dX1_kind_38 rfl (lv_at hl 0 rfl) ?_
      refine lv_lload hx hb dX1_kind_39 (lv_at hl 6 rfl) ?_
      refine ro_l (va_runV (As := [.long l0]) (rest := [.ref q]) ⟨hx, hb, hml, hown, hts⟩ (r_cut (sz := H.size) l0) (cwV 1 hts gX1_kind_X1_cut rfl rfl rfl (by decide +kernel) ⟨Nat.le_of_ble_eq_true rfl, Nat.le_of_ble_eq_true rfl⟩) (preV_RO hP hK 0 (ci := 1) rfl rfl) rfl rfl hl.1 rfl (lv_room (Nat.le_of_ble_eq_true rfl)) dX1_kind_41 ⟨Nat.le_of_ble_eq_true rfl, Nat.le_of_ble_eq_true rfl⟩) hS hA hP (fun H locs hP hS => ?_)
      refine va_put (D := D) (ci := 1) (v := .long (rLow l0 (nI v))) (ty := .long) (C := RX1) (T := TX1) (N := 8) hx hb hts in_r_kind tyX1 tyX1_ok nmX1 hown hK hP hD hS 0 rfl rfl 3 (by decide) (hts (.fieldLink RX1 24 "SliceChecksModel" "last" "J") (by decide +kernel)) (fun _ h9 => h9) rfl (by decide +kernel) rfl rfl (Nat.le_of_ble_eq_true rfl) dX1_kind_44 (fun H locs hP hD hS => ?_)
      have hP : va_P D vwCl (mw q b1 k4 by8 v (rLow p0 (nI v)) (rLow f0 (nI v)) (rLow l0 (nI v)) bi bo nb) H := hP
      have hD : va_D A (mw q b1 k4 by8 v (rLow p0 (nI v)) (rLow f0 (nI v)) (rLow l0 (nI v)) bi bo nb) := hD
      refine lv_aload_n hx hb dX1_kind_47 rfl (lv_at hl 0 rfl) ?_
      refine lv_iload hx hb dX1_kind_48 (lv_at hl 4 rfl) ?_
      refine va_put (D := D) (ci := 1) (v := .int i0) (ty := .boolean) (C := RX1) (T := TX1) (N := 8) hx hb hts in_r_kind tyX1 tyX1_ok nmX1 hown hK hP hD hS 0 rfl rfl 4 (by decide) (hts (.fieldLink RX1 27 "SliceChecksModel" "in" "Z") (by decide +kernel)) (fun _ h9 => h9) rfl (by decide +kernel) (du_nz hi0) (du_fz hi0) (Nat.le_of_ble_eq_true rfl) dX1_kind_50 (fun H locs hP hD hS => ?_)
      have hP : va_P D vwCl (mw q b1 k4 by8 v (rLow p0 (nI v)) (rLow f0 (nI v)) (rLow l0 (nI v)) i0 bo nb) H := hP
      have hD : va_D A (mw q b1 k4 by8 v (rLow p0 (nI v)) (rLow f0 (nI v)) (rLow l0 (nI v)) i0 bo nb) := hD
      refine lv_aload_n hx hb dX1_kind_53 rfl (lv_at hl 0 rfl) ?_
      refine lv_iload hx hb dX1_kind_54 (lv_at hl 5 rfl) ?_
      refine va_put (D := D) (ci := 1) (v := .int o0) (ty := .boolean) (C := RX1) (T := TX1) (N := 8) hx hb hts in_r_kind tyX1 tyX1_ok nmX1 hown hK hP hD hS 0 rfl rfl 5 (by decide) (hts (.fieldLink RX1 31 "SliceChecksModel" "out" "Z") (by decide +kernel)) (fun _ h9 => h9) rfl (by decide +kernel) (du_nz ho0) (du_fz ho0) (Nat.le_of_ble_eq_true rfl) dX1_kind_56 (fun H locs hP hD hS => ?_)
      have hP : va_P D vwCl (mw q b1 k4 by8 v (rLow p0 (nI v)) (rLow f0 (nI v)) (rLow l0 (nI v)) i0 o0 nb) H := hP
      have hD : va_D A (mw q b1 k4 by8 v (rLow p0 (nI v)) (rLow f0 (nI v)) (rLow l0 (nI v)) i0 o0 nb) := hD
      refine lv_iconst (v := 1) hx hb dX1_kind_59 (by decide) ?_
      have hPf : va_P D vwCl (mw q b1 k4 by8 v (rLow p0 (nI v)) (rLow f0 (nI v)) (rLow l0 (nI v)) i0 o0 nb) H := by exact hP
      exact W.zret (v := 1) hx hb hr (by decide) (fun t ht hW => ⟨⟨1, (), rfl, rfl, by show va_P _ _ _ t.heap; rw [ht]; exact hPf⟩, hS.F ht⟩) hS.2.2 dX1_kind_60
    ·
      exact absurd (nI_le (b := 64) hv (by decide)) c_8
theorem in_r_feed_no : ∀ w ∈ wsX10, w ∈ wsX1_feed := fun _ h => List.mem_cons_of_mem _ (List.mem_append_right _ h)
set_option maxHeartbeats 4000000 in
set_option maxRecDepth 100000 in
theorem r_feed_no {l : Launch} {D : va_G} {q b1 : Nat} {k4 : ClassId} {by8 : Nat → Int32} {wd : Nat} {po : Int64} {fi : Int64} {la : Int64} {bi : Int32} {bo : Int32} {nb : Nat} {sz : Nat} (b : Int32) (t : Int32) (hn : nb ≤ 5000) (hno : mIsB b = 0 ∨ t < 1 ∨ nI (5000 - nb) < t) : Met l yX1_feed wsX1_feed ({ frames := 0, cells := 0, slots := 0, locals := 0 }) (va_Pc [.ref q, .int b, .int t] (pRO D vwCl (mt k4) (mw q b1 k4 by8 wd po fi la bi bo nb) sz)) (roI sz 0) 0 0 (fun q : Nat => sz ≤ q) := by
  refine Met.ofW (cc := cX1_feed) (maxL := 4) (ret := (some .boolean)) (by decide) rfl ?_
  intro p e s m args below meth c s₁ B hml hv
  obtain ⟨rfl, hsz, hP, hK⟩ := hv
  have hsz : s.heap.size = sz := hsz
  have hx := B.exec
  have hb := B.bytes
  have hr := B.returns
  have hts := atoms_spec (ws := wsX1_feed) B.pre
  have hown : s.vm.findClass RX1 = some m.cls := findClass_of_methodNamed B.named
  have hlocks := B.notSynchronized
  subst hsz
  have hA : ∀ q : Nat, s.heap.size ≤ q → (fun q : Nat => s.heap.size ≤ q) q := fun _ h => h
  have hS : va_S (fun q : Nat => s.heap.size ≤ q) s.heap s.heap [] := va_S.rf
  have hl := lv_entry ([.ref q, .int b, .int t]) (n := 4) (Nat.le_of_ble_eq_true rfl)
  rw [lg_entry_eq]
  generalize (lg_sl ([.ref q, .int b, .int t]) ++ List.replicate (4 - (lg_sl ([.ref q, .int b, .int t])).length) Slot.unset).toArray = ls at hl ⊢
  have hl : lv_has ls 4 [(0, .ref q), (1, .int b), (2, .int t)] := hl
  suffices key : ∀ (H : Heap) (locs : List Loc), va_P D vwCl (mw q b1 k4 by8 wd po fi la bi bo nb) H → va_S (fun q : Nat => s.heap.size ≤ q) s.heap H locs → W p l e (headSpec wsX1_feed { frames := 0, cells := 0, slots := 0, locals := 0 }).room s m ([.ref q, .int b, .int t] : List Value).toArray below meth c H locs 0 0 (MQ below (roI s.heap.size 0) ([.ref q, .int b, .int t] : List Value).toArray s 0 0 (fun q : Nat => s.heap.size ≤ q)) (F0 m 0 ls []) from key s.heap [] hP hS
  intro H locs hP hS
  refine lv_iload_n hx hb dX1_feed_0 rfl (lv_at hl 1 rfl) ?_
  refine lv_if_lt (tgt := 28) hx hb dX1_feed_1 (by decide) (fun c_1 => ?_) (fun c_1 => ?_)
  ·
    refine lv_iconst (v := 0) hx hb dX1_feed_28 (by decide) ?_
    exact W.zret (v := 0) hx hb hr (by decide) (fun t ht hW => ⟨⟨0, (), rfl, rfl, trivial⟩, hS.F ht⟩) hS.2.2 dX1_feed_29
  ·
    refine lv_iload_n hx hb dX1_feed_4 rfl (lv_at hl 1 rfl) ?_
    refine lv_sipush (v := 255) hx hb dX1_feed_5 (by decide) ?_
    refine lv_icmp_gt (tgt := 28) hx hb dX1_feed_8 (by decide) (fun c_8 => ?_) (fun c_8 => ?_)
    ·
      refine lv_iconst (v := 0) hx hb dX1_feed_28 (by decide) ?_
      exact W.zret (v := 0) hx hb hr (by decide) (fun t ht hW => ⟨⟨0, (), rfl, rfl, trivial⟩, hS.F ht⟩) hS.2.2 dX1_feed_29
    ·
      refine lv_iload_n hx hb dX1_feed_11 rfl (lv_at hl 2 rfl) ?_
      refine lv_iconst (v := 1) hx hb dX1_feed_12 (by decide) ?_
      refine lv_icmp_lt (tgt := 28) hx hb dX1_feed_13 (by decide) (fun c_13 => ?_) (fun c_13 => ?_)
      ·
        refine lv_iconst (v := 0) hx hb dX1_feed_28 (by decide) ?_
        exact W.zret (v := 0) hx hb hr (by decide) (fun t ht hW => ⟨⟨0, (), rfl, rfl, trivial⟩, hS.F ht⟩) hS.2.2 dX1_feed_29
      ·
        refine lv_iload_n hx hb dX1_feed_16 rfl (lv_at hl 2 rfl) ?_
        refine lv_sipush (v := 5000) hx hb dX1_feed_17 (by decide) ?_
        refine lv_aload_n hx hb dX1_feed_20 rfl (lv_at hl 0 rfl) ?_
        refine va_get (D := D) (ci := 1) (v := .int (nI nb)) (C := RX1) (T := TX1) (N := 8) hx hb hts in_r_feed_no hown hK hP 0 rfl rfl 7 (by decide) (hts (.fieldLink RX1 46 "SliceChecksModel" "count" "I") (by decide +kernel)) (fun _ h9 => h9) rfl dX1_feed_21 ?_
        refine lv_isub hx hb dX1_feed_24 ?_
        refine du_rwi (y := nI (5000 - nb)) (pk_sub (a := 5000) hn) ?_
        refine lv_icmp_le (tgt := 30) hx hb dX1_feed_25 (by decide) (fun c_25 => ?_) (fun c_25 => ?_)
        ·
          exact hno.elim (fun h => absurd h (du_isb2 c_1 c_8)) (fun h => h.elim (fun h => absurd h c_13) (fun h => absurd h (Int32.not_lt.mpr c_25)))
        ·
          refine lv_iconst (v := 0) hx hb dX1_feed_28 (by decide) ?_
          exact W.zret (v := 0) hx hb hr (by decide) (fun t ht hW => ⟨⟨0, (), rfl, rfl, trivial⟩, hS.F ht⟩) hS.2.2 dX1_feed_29
theorem in_r_feed : ∀ w ∈ wsX10, w ∈ wsX1_feed := fun _ h => List.mem_cons_of_mem _ (List.mem_append_right _ h)
set_option maxHeartbeats 4000000 in
set_option maxRecDepth 100000 in
theorem r_feed {l : Launch} {D : va_G} {q b1 : Nat} {k4 : ClassId} {by8 : Nat → Int32} {wd : Nat} {po : Int64} {fi : Int64} {la : Int64} {bi : Int32} {bo : Int32} {nb : Nat} {sz : Nat} (b : Nat) (t : Nat) (hn : nb ≤ 5000) (hb8 : b < 256) (ht1 : 1 ≤ t) (ht : t ≤ 5000 - nb) : Met l yX1_feed wsX1_feed ({ frames := 0, cells := 0, slots := 0, locals := 0 }) (va_Pc [.ref q, .int (nI b), .int (nI t)] (pMU D vwCl (mt k4) (mw q b1 k4 by8 wd po fi la bi bo nb) sz)) (muI D vwCl (mw q b1 k4 by8 wd po fi la bi bo nb) (mw q b1 k4 (rFeN by8 (nI b) nb t) wd po fi la bi bo (nb + t)) sz 1) 0 0 (va_A (mw q b1 k4 by8 wd po fi la bi bo nb) sz) := by
  refine Met.ofW (cc := cX1_feed) (maxL := 4) (ret := (some .boolean)) (by decide) rfl ?_
  intro p e s m args below meth c s₁ B hml hv
  obtain ⟨rfl, hsz, hP, hK, hD0⟩ := hv
  have hsz : s.heap.size = sz := hsz
  have hx := B.exec
  have hb := B.bytes
  have hr := B.returns
  have hts := atoms_spec (ws := wsX1_feed) B.pre
  have hown : s.vm.findClass RX1 = some m.cls := findClass_of_methodNamed B.named
  have hlocks := B.notSynchronized
  subst hsz
  have hD0 := hD0.self (sz := s.heap.size)
  have hA : ∀ q9 : Nat, s.heap.size ≤ q9 → va_A (mw q b1 k4 by8 wd po fi la bi bo nb) s.heap.size q9 := fun q9 h => Or.inr h
  unfold muI
  generalize va_A (mw q b1 k4 by8 wd po fi la bi bo nb) s.heap.size = A at hD0 hA ⊢
  have hD := hD0
  have hS : va_S A s.heap s.heap [] := va_S.rf
  have hl := lv_entry ([.ref q, .int (nI b), .int (nI t)]) (n := 4) (Nat.le_of_ble_eq_true rfl)
  rw [lg_entry_eq]
  generalize (lg_sl ([.ref q, .int (nI b), .int (nI t)]) ++ List.replicate (4 - (lg_sl ([.ref q, .int (nI b), .int (nI t)])).length) Slot.unset).toArray = ls at hl ⊢
  have hl : lv_has ls 4 [(0, .ref q), (1, .int (nI b)), (2, .int (nI t))] := hl
  suffices key : ∀ (H : Heap) (locs : List Loc), va_P D vwCl (mw q b1 k4 by8 wd po fi la bi bo nb) H → va_S A s.heap H locs → W p l e (headSpec wsX1_feed { frames := 0, cells := 0, slots := 0, locals := 0 }).room s m ([.ref q, .int (nI b), .int (nI t)] : List Value).toArray below meth c H locs 0 0 (MQ below (va_Qi (fun r (_ : Unit) => r = 1) (fun _ t9 => va_P D vwCl (mw q b1 k4 (rFeN by8 (nI b) nb t) wd po fi la bi bo (nb + t)) t9.heap) A) ([.ref q, .int (nI b), .int (nI t)] : List Value).toArray s 0 0 A) (F0 m 0 ls []) from key s.heap [] hP hS
  intro H locs hP hS
  refine lv_iload_n hx hb dX1_feed_0 rfl (lv_at hl 1 rfl) ?_
  refine lv_if_lt (tgt := 28) hx hb dX1_feed_1 (by decide) (fun c_1 => ?_) (fun c_1 => ?_)
  ·
    exact absurd c_1 (nI_pos (by omega))
  ·
    refine lv_iload_n hx hb dX1_feed_4 rfl (lv_at hl 1 rfl) ?_
    refine lv_sipush (v := 255) hx hb dX1_feed_5 (by decide) ?_
    refine lv_icmp_gt (tgt := 28) hx hb dX1_feed_8 (by decide) (fun c_8 => ?_) (fun c_8 => ?_)
    ·
      exact absurd c_8 (nI_nlt (b := b) (a := 255) (by omega) (by omega))
    ·
      refine lv_iload_n hx hb dX1_feed_11 rfl (lv_at hl 2 rfl) ?_
      refine lv_iconst (v := 1) hx hb dX1_feed_12 (by decide) ?_
      refine lv_icmp_lt (tgt := 28) hx hb dX1_feed_13 (by decide) (fun c_13 => ?_) (fun c_13 => ?_)
      ·
        exact absurd c_13 (du_n1 ht1 (by omega))
      ·
        refine lv_iload_n hx hb dX1_feed_16 rfl (lv_at hl 2 rfl) ?_
        refine lv_sipush (v := 5000) hx hb dX1_feed_17 (by decide) ?_
        refine lv_aload_n hx hb dX1_feed_20 rfl (lv_at hl 0 rfl) ?_
        refine va_get (D := D) (ci := 1) (v := .int (nI nb)) (C := RX1) (T := TX1) (N := 8) hx hb hts in_r_feed hown hK hP 0 rfl rfl 7 (by decide) (hts (.fieldLink RX1 46 "SliceChecksModel" "count" "I") (by decide +kernel)) (fun _ h9 => h9) rfl dX1_feed_21 ?_
        refine lv_isub hx hb dX1_feed_24 ?_
        refine du_rwi (y := nI (5000 - nb)) (pk_sub (a := 5000) hn) ?_
        refine lv_icmp_le (tgt := 30) hx hb dX1_feed_25 (by decide) (fun c_25 => ?_) (fun c_25 => ?_)
        ·
          refine lv_iconst (v := 0) hx hb dX1_feed_30 (by decide) ?_
          refine lv_istore_n (lv' := [(3, .int 0), (0, .ref q), (1, .int (nI b)), (2, .int (nI t))]) hx hb dX1_feed_31 rfl hl (by decide) rfl (fun ls hl => ?_)
          have lp_32 : ∀ (k i : Nat), i ≤ t → t < i + k → ∀ (H : Heap) (locs : List Loc), va_P D vwCl (mw q b1 k4 (rFeN by8 (nI b) nb i) wd po fi la bi bo (nb + i)) H → va_S A s.heap H locs → ∀ ls : Array Slot, lv_has ls 4 [(3, .int (nI i)), (0, .ref q), (1, .int (nI b)), (2, .int (nI t))] → W p l e (headSpec wsX1_feed { frames := 0, cells := 0, slots := 0, locals := 0 }).room s m ([.ref q, .int (nI b), .int (nI t)] : List Value).toArray below meth c H locs 0 0 (MQ below (va_Qi (fun r (_ : Unit) => r = 1) (fun _ t9 => va_P D vwCl (mw q b1 k4 (rFeN by8 (nI b) nb t) wd po fi la bi bo (nb + t)) t9.heap) A) ([.ref q, .int (nI b), .int (nI t)] : List Value).toArray s 0 0 A) (F0 m 32 ls []) := by
            intro k
            induction k with
            | zero =>
              intro i h1 h2
              exact absurd h2 (by omega)
            | succ k ih =>
              intro i hi hk H locs hP hS ls hl
              have hD : va_D A (mw q b1 k4 (rFeN by8 (nI b) nb i) wd po fi la bi bo (nb + i)) := du_same hD0 rfl
              refine lv_iload_n hx hb dX1_feed_32 rfl (lv_at hl 0 rfl) ?_
              refine lv_iload_n hx hb dX1_feed_33 rfl (lv_at hl 3 rfl) ?_
              refine lv_icmp_ge (tgt := 63) hx hb dX1_feed_34 (by decide) (fun c_34 => ?_) (fun c_34 => ?_)
              ·
                have hiN := du_ge (by omega) hi c_34
                refine lv_iconst (v := 1) hx hb dX1_feed_63 (by decide) ?_
                have hPf : va_P D vwCl (mw q b1 k4 (rFeN by8 (nI b) nb t) wd po fi la bi bo (nb + t)) H := by rw [← hiN]; exact hP
                exact W.zret (v := 1) hx hb hr (by decide) (fun t ht hW => ⟨⟨1, (), rfl, rfl, by show va_P _ _ _ t.heap; rw [ht]; exact hPf⟩, hS.F ht⟩) hS.2.2 dX1_feed_64
              ·
                have hlt := du_lt (by omega) hi c_34
                refine lv_aload_n hx hb dX1_feed_37 rfl (lv_at hl 1 rfl) ?_
                refine va_get (D := D) (ci := 1) (v := .ref b1) (C := RX1) (T := TX1) (N := 8) hx hb hts in_r_feed hown hK hP 0 rfl rfl 6 (by decide) (hts (.fieldLink RX1 34 "SliceChecksModel" "bytes" "[I") (by decide +kernel)) (fun _ h9 => h9) rfl dX1_feed_38 ?_
                refine lv_aload_n hx hb dX1_feed_41 rfl (lv_at hl 1 rfl) ?_
                refine va_get (D := D) (ci := 1) (v := .int (nI (nb + i))) (C := RX1) (T := TX1) (N := 8) hx hb hts in_r_feed hown hK hP 0 rfl rfl 7 (by decide) (hts (.fieldLink RX1 46 "SliceChecksModel" "count" "I") (by decide +kernel)) (fun _ h9 => h9) rfl dX1_feed_42 ?_
                refine lv_iload_n hx hb dX1_feed_45 rfl (lv_at hl 2 rfl) ?_
                refine va_iast hx hb hK hP hD hS 1 0 rfl rfl (i := nI (nb + i)) (x := nI b) (vp_in_nI (by omega) (by omega)) dX1_feed_46 (fun H locs hP hD hS => ?_)
                have hP : va_P D vwCl (mw q b1 k4 (rFeN by8 (nI b) nb (i + 1)) wd po fi la bi bo (nb + i)) H := hP
                have hD : va_D A (mw q b1 k4 (rFeN by8 (nI b) nb (i + 1)) wd po fi la bi bo (nb + i)) := hD
                refine lv_aload_n hx hb dX1_feed_47 rfl (lv_at hl 1 rfl) ?_
                refine lv_dup hx hb dX1_feed_48 rfl ?_
                refine va_get (D := D) (ci := 1) (v := .int (nI (nb + i))) (C := RX1) (T := TX1) (N := 8) hx hb hts in_r_feed hown hK hP 0 rfl rfl 7 (by decide) (hts (.fieldLink RX1 46 "SliceChecksModel" "count" "I") (by decide +kernel)) (fun _ h9 => h9) rfl dX1_feed_49 ?_
                refine lv_iconst (v := 1) hx hb dX1_feed_52 (by decide) ?_
                refine lv_iadd hx hb dX1_feed_53 ?_
                refine du_rwi (y := nI (nb + (i + 1))) (nI_1 (nb + i)) ?_
                refine va_put (D := D) (ci := 1) (v := .int (nI (nb + (i + 1)))) (ty := .int) (C := RX1) (T := TX1) (N := 8) hx hb hts in_r_feed tyX1 tyX1_ok nmX1 hown hK hP hD hS 0 rfl rfl 7 (by decide) (hts (.fieldLink RX1 46 "SliceChecksModel" "count" "I") (by decide +kernel)) (fun _ h9 => h9) rfl (by decide +kernel) rfl rfl (Nat.le_of_ble_eq_true rfl) dX1_feed_54 (fun H locs hP hD hS => ?_)
                have hP : va_P D vwCl (mw q b1 k4 (rFeN by8 (nI b) nb (i + 1)) wd po fi la bi bo (nb + (i + 1))) H := hP
                have hD : va_D A (mw q b1 k4 (rFeN by8 (nI b) nb (i + 1)) wd po fi la bi bo (nb + (i + 1))) := hD
                refine lv_iinc (v := nI (i + 1)) (lv' := [(3, .int (nI (i + 1))), (0, .ref q), (1, .int (nI b)), (2, .int (nI t))]) hx hb dX1_feed_57 hl (k := 0) rfl (nI_1 i) (by decide) rfl (fun ls hl => ?_)
                refine lv_goto (tgt := 32) hx hb dX1_feed_60 (by decide) ?_
                exact ih (i + 1) (by omega) (by omega) H locs (hP) hS ls (lv_sub hl [0, 1, 2, 3] rfl)
          exact lp_32 (t + 1 - 0) 0 (by omega) (by omega) H locs (hP) hS ls (lv_sub hl [0, 1, 2, 3] rfl)
        ·
          exact absurd (nI_le ht (by omega)) c_25
theorem in_r_clear : ∀ w ∈ wsX10, w ∈ wsX1_clear := fun _ h => List.mem_cons_of_mem _ (List.mem_append_right _ h)
set_option maxHeartbeats 4000000 in
set_option maxRecDepth 100000 in
theorem r_clear {l : Launch} {D : va_G} {q b1 : Nat} {k4 : ClassId} {by8 : Nat → Int32} {wd : Nat} {po : Int64} {fi : Int64} {la : Int64} {bi : Int32} {bo : Int32} {nb : Nat} {sz : Nat}   : Met l yX1_clear wsX1_clear ({ frames := 0, cells := 0, slots := 0, locals := 0 }) (va_Pc [.ref q] (pMU D vwCl (mt k4) (mw q b1 k4 by8 wd po fi la bi bo nb) sz)) (muV D vwCl (mw q b1 k4 by8 wd po fi la bi bo nb) (mw q b1 k4 by8 wd po fi la bi bo 0) sz) 0 0 (va_A (mw q b1 k4 by8 wd po fi la bi bo nb) sz) := by
  refine Met.ofW (cc := cX1_clear) (maxL := 1) (ret := none) (by decide) rfl ?_
  intro p e s m args below meth c s₁ B hml hv
  obtain ⟨rfl, hsz, hP, hK, hD0⟩ := hv
  have hsz : s.heap.size = sz := hsz
  have hx := B.exec
  have hb := B.bytes
  have hr := B.returns
  have hts := atoms_spec (ws := wsX1_clear) B.pre
  have hown : s.vm.findClass RX1 = some m.cls := findClass_of_methodNamed B.named
  have hlocks := B.notSynchronized
  subst hsz
  have hD0 := hD0.self (sz := s.heap.size)
  have hA : ∀ q9 : Nat, s.heap.size ≤ q9 → va_A (mw q b1 k4 by8 wd po fi la bi bo nb) s.heap.size q9 := fun q9 h => Or.inr h
  unfold muV
  generalize va_A (mw q b1 k4 by8 wd po fi la bi bo nb) s.heap.size = A at hD0 hA ⊢
  have hD := hD0
  have hS : va_S A s.heap s.heap [] := va_S.rf
  have hl := lv_entry ([.ref q]) (n := 1) (Nat.le_of_ble_eq_true rfl)
  rw [lg_entry_eq]
  generalize (lg_sl ([.ref q]) ++ List.replicate (1 - (lg_sl ([.ref q])).length) Slot.unset).toArray = ls at hl ⊢
  have hl : lv_has ls 1 [(0, .ref q)] := hl
  suffices key : ∀ (H : Heap) (locs : List Loc), va_P D vwCl (mw q b1 k4 by8 wd po fi la bi bo nb) H → va_S A s.heap H locs → W p l e (headSpec wsX1_clear { frames := 0, cells := 0, slots := 0, locals := 0 }).room s m ([.ref q] : List Value).toArray below meth c H locs 0 0 (MQ below (va_Qv (fun (_ : Unit) => True) (fun _ t9 => va_P D vwCl (mw q b1 k4 by8 wd po fi la bi bo 0) t9.heap) A) ([.ref q] : List Value).toArray s 0 0 A) (F0 m 0 ls []) from key s.heap [] hP hS
  intro H locs hP hS
  refine lv_aload_n hx hb dX1_clear_0 rfl (lv_at hl 0 rfl) ?_
  refine lv_iconst (v := 0) hx hb dX1_clear_1 (by decide) ?_
  refine du_rwi (y := nI 0) (rfl) ?_
  refine va_put (D := D) (ci := 1) (v := .int (nI 0)) (ty := .int) (C := RX1) (T := TX1) (N := 8) hx hb hts in_r_clear tyX1 tyX1_ok nmX1 hown hK hP hD hS 0 rfl rfl 7 (by decide) (hts (.fieldLink RX1 46 "SliceChecksModel" "count" "I") (by decide +kernel)) (fun _ h9 => h9) rfl (by decide +kernel) rfl rfl (Nat.le_of_ble_eq_true rfl) dX1_clear_2 (fun H locs hP hD hS => ?_)
  have hP : va_P D vwCl (mw q b1 k4 by8 wd po fi la bi bo 0) H := hP
  have hD : va_D A (mw q b1 k4 by8 wd po fi la bi bo 0) := hD
  have hPf : va_P D vwCl (mw q b1 k4 by8 wd po fi la bi bo 0) H := by exact hP
  exact W.vret hx hb hr (fun t ht hW => ⟨⟨(), rfl, trivial, by show va_P _ _ _ t.heap; rw [ht]; exact hPf⟩, hS.F ht⟩) hS.2.2 dX1_clear_5
theorem in_r_flip_no : ∀ w ∈ wsX10, w ∈ wsX1_flip := fun _ h => List.mem_cons_of_mem _ (List.mem_append_right _ h)
set_option maxHeartbeats 4000000 in
set_option maxRecDepth 100000 in
theorem r_flip_no {l : Launch} {D : va_G} {q b1 : Nat} {k4 : ClassId} {by8 : Nat → Int32} {wd : Nat} {po : Int64} {fi : Int64} {la : Int64} {bi : Int32} {bo : Int32} {nb : Nat} {sz : Nat} (y : Int32) (hno : y < 0 ∨ nI (8 * nb) ≤ y) : Met l yX1_flip wsX1_flip ({ frames := 0, cells := 0, slots := 0, locals := 0 }) (va_Pc [.ref q, .int y] (pRO D vwCl (mt k4) (mw q b1 k4 by8 wd po fi la bi bo nb) sz)) (roI sz 0) 0 0 (fun q : Nat => sz ≤ q) := by
  refine Met.ofW (cc := cX1_flip) (maxL := 2) (ret := (some .boolean)) (by decide) rfl ?_
  intro p e s m args below meth c s₁ B hml hv
  obtain ⟨rfl, hsz, hP, hK⟩ := hv
  have hsz : s.heap.size = sz := hsz
  have hx := B.exec
  have hb := B.bytes
  have hr := B.returns
  have hts := atoms_spec (ws := wsX1_flip) B.pre
  have hown : s.vm.findClass RX1 = some m.cls := findClass_of_methodNamed B.named
  have hlocks := B.notSynchronized
  subst hsz
  have hA : ∀ q : Nat, s.heap.size ≤ q → (fun q : Nat => s.heap.size ≤ q) q := fun _ h => h
  have hS : va_S (fun q : Nat => s.heap.size ≤ q) s.heap s.heap [] := va_S.rf
  have hl := lv_entry ([.ref q, .int y]) (n := 2) (Nat.le_of_ble_eq_true rfl)
  rw [lg_entry_eq]
  generalize (lg_sl ([.ref q, .int y]) ++ List.replicate (2 - (lg_sl ([.ref q, .int y])).length) Slot.unset).toArray = ls at hl ⊢
  have hl : lv_has ls 2 [(0, .ref q), (1, .int y)] := hl
  suffices key : ∀ (H : Heap) (locs : List Loc), va_P D vwCl (mw q b1 k4 by8 wd po fi la bi bo nb) H → va_S (fun q : Nat => s.heap.size ≤ q) s.heap H locs → W p l e (headSpec wsX1_flip { frames := 0, cells := 0, slots := 0, locals := 0 }).room s m ([.ref q, .int y] : List Value).toArray below meth c H locs 0 0 (MQ below (roI s.heap.size 0) ([.ref q, .int y] : List Value).toArray s 0 0 (fun q : Nat => s.heap.size ≤ q)) (F0 m 0 ls []) from key s.heap [] hP hS
  intro H locs hP hS
  refine lv_iload_n hx hb dX1_flip_0 rfl (lv_at hl 1 rfl) ?_
  refine lv_if_lt (tgt := 15) hx hb dX1_flip_1 (by decide) (fun c_1 => ?_) (fun c_1 => ?_)
  ·
    refine lv_iconst (v := 0) hx hb dX1_flip_15 (by decide) ?_
    exact W.zret (v := 0) hx hb hr (by decide) (fun t ht hW => ⟨⟨0, (), rfl, rfl, trivial⟩, hS.F ht⟩) hS.2.2 dX1_flip_16
  ·
    refine lv_iload_n hx hb dX1_flip_4 rfl (lv_at hl 1 rfl) ?_
    refine lv_bipush (v := 8) hx hb dX1_flip_5 (by decide) ?_
    refine lv_aload_n hx hb dX1_flip_7 rfl (lv_at hl 0 rfl) ?_
    refine va_get (D := D) (ci := 1) (v := .int (nI nb)) (C := RX1) (T := TX1) (N := 8) hx hb hts in_r_flip_no hown hK hP 0 rfl rfl 7 (by decide) (hts (.fieldLink RX1 46 "SliceChecksModel" "count" "I") (by decide +kernel)) (fun _ h9 => h9) rfl dX1_flip_8 ?_
    refine lv_imul hx hb dX1_flip_11 ?_
    refine du_rwi (y := nI (8 * nb)) (pk_mul 8 nb) ?_
    refine lv_icmp_lt (tgt := 17) hx hb dX1_flip_12 (by decide) (fun c_12 => ?_) (fun c_12 => ?_)
    ·
      exact hno.elim (fun h => absurd h c_1) (fun h => absurd c_12 (Int32.not_lt.mpr h))
    ·
      refine lv_iconst (v := 0) hx hb dX1_flip_15 (by decide) ?_
      exact W.zret (v := 0) hx hb hr (by decide) (fun t ht hW => ⟨⟨0, (), rfl, rfl, trivial⟩, hS.F ht⟩) hS.2.2 dX1_flip_16
theorem in_r_flip : ∀ w ∈ wsX10, w ∈ wsX1_flip := fun _ h => List.mem_cons_of_mem _ (List.mem_append_right _ h)
set_option maxHeartbeats 4000000 in
set_option maxRecDepth 100000 in
theorem r_flip {l : Launch} {D : va_G} {q b1 : Nat} {k4 : ClassId} {by8 : Nat → Int32} {wd : Nat} {po : Int64} {fi : Int64} {la : Int64} {bi : Int32} {bo : Int32} {nb : Nat} {sz : Nat} (j : Nat) (hn : nb ≤ 5000) (hj : j < 8 * nb) : Met l yX1_flip wsX1_flip ({ frames := 0, cells := 0, slots := 0, locals := 0 }) (va_Pc [.ref q, .int (nI j)] (pMU D vwCl (mt k4) (mw q b1 k4 by8 wd po fi la bi bo nb) sz)) (muI D vwCl (mw q b1 k4 by8 wd po fi la bi bo nb) (mw q b1 k4 (rFlip by8 bi j) wd po fi la bi bo nb) sz 1) 0 0 (va_A (mw q b1 k4 by8 wd po fi la bi bo nb) sz) := by
  refine Met.ofW (cc := cX1_flip) (maxL := 2) (ret := (some .boolean)) (by decide) rfl ?_
  intro p e s m args below meth c s₁ B hml hv
  obtain ⟨rfl, hsz, hP, hK, hD0⟩ := hv
  have hsz : s.heap.size = sz := hsz
  have hx := B.exec
  have hb := B.bytes
  have hr := B.returns
  have hts := atoms_spec (ws := wsX1_flip) B.pre
  have hown : s.vm.findClass RX1 = some m.cls := findClass_of_methodNamed B.named
  have hlocks := B.notSynchronized
  subst hsz
  have hD0 := hD0.self (sz := s.heap.size)
  have hA : ∀ q9 : Nat, s.heap.size ≤ q9 → va_A (mw q b1 k4 by8 wd po fi la bi bo nb) s.heap.size q9 := fun q9 h => Or.inr h
  unfold muI
  generalize va_A (mw q b1 k4 by8 wd po fi la bi bo nb) s.heap.size = A at hD0 hA ⊢
  have hD := hD0
  have hS : va_S A s.heap s.heap [] := va_S.rf
  have hl := lv_entry ([.ref q, .int (nI j)]) (n := 2) (Nat.le_of_ble_eq_true rfl)
  rw [lg_entry_eq]
  generalize (lg_sl ([.ref q, .int (nI j)]) ++ List.replicate (2 - (lg_sl ([.ref q, .int (nI j)])).length) Slot.unset).toArray = ls at hl ⊢
  have hl : lv_has ls 2 [(0, .ref q), (1, .int (nI j))] := hl
  suffices key : ∀ (H : Heap) (locs : List Loc), va_P D vwCl (mw q b1 k4 by8 wd po fi la bi bo nb) H → va_S A s.heap H locs → W p l e (headSpec wsX1_flip { frames := 0, cells := 0, slots := 0, locals := 0 }).room s m ([.ref q, .int (nI j)] : List Value).toArray below meth c H locs 0 0 (MQ below (va_Qi (fun r (_ : Unit) => r = 1) (fun _ t9 => va_P D vwCl (mw q b1 k4 (rFlip by8 bi j) wd po fi la bi bo nb) t9.heap) A) ([.ref q, .int (nI j)] : List Value).toArray s 0 0 A) (F0 m 0 ls []) from key s.heap [] hP hS
  intro H locs hP hS
  refine lv_iload_n hx hb dX1_flip_0 rfl (lv_at hl 1 rfl) ?_
  refine lv_if_lt (tgt := 15) hx hb dX1_flip_1 (by decide) (fun c_1 => ?_) (fun c_1 => ?_)
  ·
    exact absurd c_1 (nI_pos (by omega))
  ·
    refine lv_iload_n hx hb dX1_flip_4 rfl (lv_at hl 1 rfl) ?_
    refine lv_bipush (v := 8) hx hb dX1_flip_5 (by decide) ?_
    refine lv_aload_n hx hb dX1_flip_7 rfl (lv_at hl 0 rfl) ?_
    refine va_get (D := D) (ci := 1) (v := .int (nI nb)) (C := RX1) (T := TX1) (N := 8) hx hb hts in_r_flip hown hK hP 0 rfl rfl 7 (by decide) (hts (.fieldLink RX1 46 "SliceChecksModel" "count" "I") (by decide +kernel)) (fun _ h9 => h9) rfl dX1_flip_8 ?_
    refine lv_imul hx hb dX1_flip_11 ?_
    refine du_rwi (y := nI (8 * nb)) (pk_mul 8 nb) ?_
    refine lv_icmp_lt (tgt := 17) hx hb dX1_flip_12 (by decide) (fun c_12 => ?_) (fun c_12 => ?_)
    ·
      refine lv_aload_n hx hb dX1_flip_17 rfl (lv_at hl 0 rfl) ?_
      refine va_get (D := D) (ci := 1) (v := .ref b1) (C := RX1) (T := TX1) (N := 8) hx hb hts in_r_flip hown hK hP 0 rfl rfl 6 (by decide) (hts (.fieldLink RX1 34 "SliceChecksModel" "bytes" "[I") (by decide +kernel)) (fun _ h9 => h9) rfl dX1_flip_18 ?_
      refine lv_iload_n hx hb dX1_flip_21 rfl (lv_at hl 1 rfl) ?_
      refine lv_bipush (v := 8) hx hb dX1_flip_22 (by decide) ?_
      refine lv_idiv hx hb dX1_flip_24 (by decide) ?_
      refine du_rwi (y := nI (j / 8)) (du_div8 (by omega)) ?_
      refine lv_dup2_11 hx hb dX1_flip_25 rfl rfl ?_
      refine va_iald hx hb hK hP 1 0 rfl rfl (i := nI (j / 8)) (vp_in_nI (by omega) (by omega)) dX1_flip_26 ?_
      refine lv_aload_n hx hb dX1_flip_27 rfl (lv_at hl 0 rfl) ?_
      refine va_get (D := D) (ci := 1) (v := .int bi) (C := RX1) (T := TX1) (N := 8) hx hb hts in_r_flip hown hK hP 0 rfl rfl 4 (by decide) (hts (.fieldLink RX1 27 "SliceChecksModel" "in" "Z") (by decide +kernel)) (fun _ h9 => h9) rfl dX1_flip_28 ?_
      refine lv_if_eq (tgt := 43) hx hb dX1_flip_31 (by decide) (fun c_31 => ?_) (fun c_31 => ?_)
      ·
        refine lv_sipush (v := 128) hx hb dX1_flip_43 (by decide) ?_
        refine lv_iload_n hx hb dX1_flip_46 rfl (lv_at hl 1 rfl) ?_
        refine lv_bipush (v := 8) hx hb dX1_flip_47 (by decide) ?_
        refine lv_irem hx hb dX1_flip_49 (by decide) ?_
        refine du_rwi (y := nI (j % 8)) (du_rem8 (by omega)) ?_
        refine lv_ishr hx hb dX1_flip_50 ?_
        refine lv_ixor hx hb dX1_flip_51 ?_
        refine va_iast hx hb hK hP hD hS 1 0 rfl rfl (i := nI (j / 8)) (x := (by8 (nI (j / 8)).toNatClampNeg) ^^^ (128 >>> ((nI (j % 8)) &&& 31))) (vp_in_nI (by omega) (by omega)) dX1_flip_52 (fun H locs hP hD hS => ?_)
        have hP : va_P D vwCl (mw q b1 k4 (upd by8 (nI (j / 8)).toNatClampNeg ((by8 (nI (j / 8)).toNatClampNeg) ^^^ (128 >>> ((nI (j % 8)) &&& 31)))) wd po fi la bi bo nb) H := hP
        have hD : va_D A (mw q b1 k4 (upd by8 (nI (j / 8)).toNatClampNeg ((by8 (nI (j / 8)).toNatClampNeg) ^^^ (128 >>> ((nI (j % 8)) &&& 31)))) wd po fi la bi bo nb) := hD
        refine lv_iconst (v := 1) hx hb dX1_flip_53 (by decide) ?_
        have hPf : va_P D vwCl (mw q b1 k4 (rFlip by8 bi j) wd po fi la bi bo nb) H := by first | (rw [rFlip, if_pos c_31]; exact hP) | (rw [rFlip, if_neg c_31]; exact hP)
        exact W.zret (v := 1) hx hb hr (by decide) (fun t ht hW => ⟨⟨1, (), rfl, rfl, by show va_P _ _ _ t.heap; rw [ht]; exact hPf⟩, hS.F ht⟩) hS.2.2 dX1_flip_54
      ·
        refine lv_iconst (v := 1) hx hb dX1_flip_34 (by decide) ?_
        refine lv_iload_n hx hb dX1_flip_35 rfl (lv_at hl 1 rfl) ?_
        refine lv_bipush (v := 8) hx hb dX1_flip_36 (by decide) ?_
        refine lv_irem hx hb dX1_flip_38 (by decide) ?_
        refine du_rwi (y := nI (j % 8)) (du_rem8 (by omega)) ?_
        refine lv_ishl hx hb dX1_flip_39 ?_
        refine lv_goto (tgt := 51) hx hb dX1_flip_40 (by decide) ?_
        refine lv_ixor hx hb dX1_flip_51 ?_
        refine va_iast hx hb hK hP hD hS 1 0 rfl rfl (i := nI (j / 8)) (x := (by8 (nI (j / 8)).toNatClampNeg) ^^^ (1 <<< ((nI (j % 8)) &&& 31))) (vp_in_nI (by omega) (by omega)) dX1_flip_52 (fun H locs hP hD hS => ?_)
        have hP : va_P D vwCl (mw q b1 k4 (upd by8 (nI (j / 8)).toNatClampNeg ((by8 (nI (j / 8)).toNatClampNeg) ^^^ (1 <<< ((nI (j % 8)) &&& 31)))) wd po fi la bi bo nb) H := hP
        have hD : va_D A (mw q b1 k4 (upd by8 (nI (j / 8)).toNatClampNeg ((by8 (nI (j / 8)).toNatClampNeg) ^^^ (1 <<< ((nI (j % 8)) &&& 31)))) wd po fi la bi bo nb) := hD
        refine lv_iconst (v := 1) hx hb dX1_flip_53 (by decide) ?_
        have hPf : va_P D vwCl (mw q b1 k4 (rFlip by8 bi j) wd po fi la bi bo nb) H := by first | (rw [rFlip, if_pos c_31]; exact hP) | (rw [rFlip, if_neg c_31]; exact hP)
        exact W.zret (v := 1) hx hb hr (by decide) (fun t ht hW => ⟨⟨1, (), rfl, rfl, by show va_P _ _ _ t.heap; rw [ht]; exact hPf⟩, hS.F ht⟩) hS.2.2 dX1_flip_54
    ·
      exact absurd (nI_lt hj (by omega)) c_12
