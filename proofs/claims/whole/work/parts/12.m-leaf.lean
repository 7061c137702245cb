/-! Contracts, laid by wip/whole/gen.py. -/
set_option maxHeartbeats 4000000 in
set_option maxRecDepth 100000 in
theorem r_low {l : Launch} {sz : Nat} (x : Int64) (w : Int32)  : Met l yX1_low wsX1_low ({ frames := 0, cells := 0, slots := 0, locals := 0 }) (va_Pc [.long x, .int w] (pST sz)) (roL sz (rLow x w)) 0 0 (fun q : Nat => sz ≤ q) := by
  refine Met.ofW (cc := cX1_low) (maxL := 3) (ret := (some .long)) (by decide) rfl ?_
  intro p e s m args below meth c s₁ B hml hv
  obtain ⟨rfl, hsz⟩ := hv
  have hsz : s.heap.size = sz := hsz
  have hx := B.exec
  have hb := B.bytes
  have hr := B.returns
  have hts := atoms_spec (ws := wsX1_low) B.pre
  have hown : s.vm.findClass RX1 = some m.cls := findClass_of_methodNamed B.named
  have hlocks := B.notSynchronized
  subst hsz
  have hA : ∀ q : Nat, s.heap.size ≤ q → (fun q : Nat => s.heap.size ≤ q) q := fun _ h => h
  have hS : va_S (fun q : Nat => s.heap.size ≤ q) s.heap s.heap [] := va_S.rf
  have hl := lv_entry ([.long x, .int w]) (n := 3) (Nat.le_of_ble_eq_true rfl)
  rw [lg_entry_eq]
  generalize (lg_sl ([.long x, .int w]) ++ List.replicate (3 - (lg_sl ([.long x, .int w])).length) Slot.unset).toArray = ls at hl ⊢
  have hl : lv_has ls 3 [(0, .long x), (2, .int w)] := hl
  suffices key : ∀ (H : Heap) (locs : List Loc), va_S (fun q : Nat => s.heap.size ≤ q) s.heap H locs → W p l e (headSpec wsX1_low { frames := 0, cells := 0, slots := 0, locals := 0 }).room s m ([.long x, .int w] : List Value).toArray below meth c H locs 0 0 (MQ below (roL s.heap.size (rLow x w)) ([.long x, .int w] : List Value).toArray s 0 0 (fun q : Nat => s.heap.size ≤ q)) (F0 m 0 ls []) from key s.heap [] hS
  intro H locs hS
  refine lv_iload_n hx hb dX1_low_0 rfl (lv_at hl 1 rfl) ?_
  refine lv_bipush (v := 64) hx hb dX1_low_1 (by decide) ?_
  refine lv_icmp_ne (tgt := 10) hx hb dX1_low_3 (by decide) (fun c_3 => ?_) (fun c_3 => ?_)
  ·
    refine lv_lload_n hx hb dX1_low_10 rfl (lv_at hl 0 rfl) ?_
    refine lv_lconst (v := 1) hx hb dX1_low_11 (by decide) ?_
    refine lv_iload_n hx hb dX1_low_12 rfl (lv_at hl 1 rfl) ?_
    refine lv_lshl (v := jshl 1 w) hx hb dX1_low_13 rfl ?_
    refine lv_lconst (v := 1) hx hb dX1_low_14 (by decide) ?_
    refine lv_lsub hx hb dX1_low_15 ?_
    refine lv_land hx hb dX1_low_16 ?_
    exact W.lret (v := (x &&& ((jshl 1 w) - 1))) hx hb hr (fun t ht hW => ⟨⟨(x &&& ((jshl 1 w) - 1)), (), rfl, by first | rw [rLow, if_neg c_3] | rw [rLow, if_pos c_3], trivial⟩, hS.F ht⟩) hS.2.2 dX1_low_17
  ·
    refine lv_lload_n hx hb dX1_low_6 rfl (lv_at hl 0 rfl) ?_
    refine lv_goto (tgt := 17) hx hb dX1_low_7 (by decide) ?_
    exact W.lret (v := x) hx hb hr (fun t ht hW => ⟨⟨x, (), rfl, by first | rw [rLow, if_neg c_3] | rw [rLow, if_pos c_3], trivial⟩, hS.F ht⟩) hS.2.2 dX1_low_17
theorem in_r_cut : ∀ w ∈ wsX10, w ∈ wsX1_cut := fun _ h => List.mem_cons_of_mem _ (List.mem_append_right _ h)
set_option maxHeartbeats 4000000 in
set_option maxRecDepth 100000 in
theorem r_cut {l : Launch} {D : va_G} {q b1 : Nat} {k4 : ClassId} {by8 : Nat → Int32} {wd : Nat} {po : Int64} {fi : Int64} {la : Int64} {bi : Int32} {bo : Int32} {nb : Nat} {sz : Nat} (x : Int64)  : Met l yX1_cut wsX1_cut ({ frames := 1, cells := 0, slots := 0, locals := 22 }) (va_Pc [.ref q, .long x] (pRO D vwCl (mt k4) (mw q b1 k4 by8 wd po fi la bi bo nb) sz)) (roL sz (rLow x (nI wd))) 0 0 (fun q : Nat => sz ≤ q) := by
  refine Met.ofW (cc := cX1_cut) (maxL := 3) (ret := (some .long)) (by decide) rfl ?_
  intro p e s m args below meth c s₁ B hml hv
  obtain ⟨rfl, hsz, hP, hK⟩ := hv
  have hsz : s.heap.size = sz := hsz
  have hx := B.exec
  have hb := B.bytes
  have hr := B.returns
  have hts := atoms_spec (ws := wsX1_cut) B.pre
  have hown : s.vm.findClass RX1 = some m.cls := findClass_of_methodNamed B.named
  have hlocks := B.notSynchronized
  subst hsz
  have hA : ∀ q : Nat, s.heap.size ≤ q → (fun q : Nat => s.heap.size ≤ q) q := fun _ h => h
  have hS : va_S (fun q : Nat => s.heap.size ≤ q) s.heap s.heap [] := va_S.rf
  have hl := lv_entry ([.ref q, .long x]) (n := 3) (Nat.le_of_ble_eq_true rfl)
  rw [lg_entry_eq]
  generalize (lg_sl ([.ref q, .long x]) ++ List.replicate (3 - (lg_sl ([.ref q, .long x])).length) Slot.unset).toArray = ls at hl ⊢
  have hl : lv_has ls 3 [(0, .ref q), (1, .long x)] := hl
  suffices key : ∀ (H : Heap) (locs : List Loc), va_P D vwCl (mw q b1 k4 by8 wd po fi la bi bo nb) H → va_S (fun q : Nat => s.heap.size ≤ q) s.heap H locs → W p l e (headSpec wsX1_cut { frames := 1, cells := 0, slots := 0, locals := 22 }).room s m ([.ref q, .long x] : List Value).toArray below meth c H locs 0 0 (MQ below (roL s.heap.size (rLow x (nI wd))) ([.ref q, .long x] : List Value).toArray s 0 0 (fun q : Nat => s.heap.size ≤ q)) (F0 m 0 ls []) from key s.heap [] hP hS
  intro H locs hP hS
  refine lv_lload_n hx hb dX1_cut_0 rfl (lv_at hl 1 rfl) ?_
  refine lv_aload_n hx hb dX1_cut_1 rfl (lv_at hl 0 rfl) ?_
  refine va_get (D := D) (ci := 1) (v := .int (nI wd)) (C := RX1) (T := TX1) (N := 8) hx hb hts in_r_cut hown hK hP 0 rfl rfl 0 (by decide) (hts (.fieldLink RX1 7 "SliceChecksModel" "width" "I") (by decide +kernel)) (fun _ h9 => h9) rfl dX1_cut_2 ?_
  refine ro_l (va_runS (As := [.long x, .int (nI wd)]) (rest := []) ⟨hx, hb, hml, hown, hts⟩ (r_low (sz := H.size) x (nI wd)) (va_cwS 2 hts gX1_cut_X1_low rfl rfl rfl (by decide +kernel) ⟨Nat.le_of_ble_eq_true rfl, Nat.le_of_ble_eq_true rfl⟩) preS_ST rfl rfl hl.1 rfl (lv_room (Nat.le_of_ble_eq_true rfl)) dX1_cut_5 ⟨Nat.le_of_ble_eq_true rfl, Nat.le_of_ble_eq_true rfl⟩) hS hA hP (fun H locs hP hS => ?_)
  exact W.lret (v := (rLow x (nI wd))) hx hb hr (fun t ht hW => ⟨⟨(rLow x (nI wd)), (), rfl, rfl, trivial⟩, hS.F ht⟩) hS.2.2 dX1_cut_8
theorem in_r_bit : ∀ w ∈ wsX10, w ∈ wsX1_bit := fun _ h => List.mem_cons_of_mem _ (List.mem_append_right _ h)
set_option maxHeartbeats 4000000 in
set_option maxRecDepth 100000 in
theorem r_bit {l : Launch} {D : va_G} {q b1 : Nat} {k4 : ClassId} {by8 : Nat → Int32} {wd : Nat} {po : Int64} {fi : Int64} {la : Int64} {bi : Int32} {bo : Int32} {nb : Nat} {sz : Nat} (x : Int64) (b : Int32)  : Met l yX1_bit wsX1_bit ({ frames := 2, cells := 0, slots := 0, locals := 44 }) (va_Pc [.ref q, .long x, .int b] (pRO D vwCl (mt k4) (mw q b1 k4 by8 wd po fi la bi bo nb) sz)) (roL sz (rBit (nI wd) po x b)) 0 0 (fun q : Nat => sz ≤ q) := by
  refine Met.ofW (cc := cX1_bit) (maxL := 7) (ret := (some .long)) (by decide) rfl ?_
  intro p e s m args below meth c s₁ B hml hv
  obtain ⟨rfl, hsz, hP, hK⟩ := hv
  have hsz : s.heap.size = sz := hsz
  have hx := B.exec
  have hb := B.bytes
  have hr := B.returns
  have hts := atoms_spec (ws := wsX1_bit) B.pre
  have hown : s.vm.findClass RX1 = some m.cls := findClass_of_methodNamed B.named
  have hlocks := B.notSynchronized
  subst hsz
  have hA : ∀ q : Nat, s.heap.size ≤ q → (fun q : Nat => s.heap.size ≤ q) q := fun _ h => h
  have hS : va_S (fun q : Nat => s.heap.size ≤ q) s.heap s.heap [] := va_S.rf
  have hl := lv_entry ([.ref q, .long x, .int b]) (n := 7) (Nat.le_of_ble_eq_true rfl)
  rw [lg_entry_eq]
  generalize (lg_sl ([.ref q, .long x, .int b]) ++ List.replicate (7 - (lg_sl ([.ref q, .long x, .int b])).length) Slot.unset).toArray = ls at hl ⊢
  have hl : lv_has ls 7 [(0, .ref q), (1, .long x), (3, .int b)] := hl
  suffices key : ∀ (H : Heap) (locs : List Loc), va_P D vwCl (mw q b1 k4 by8 wd po fi la bi bo nb) H → va_S (fun q : Nat => s.heap.size ≤ q) s.heap H locs → W p l e (headSpec wsX1_bit { frames := 2, cells := 0, slots := 0, locals := 44 }).room s m ([.ref q, .long x, .int b] : List Value).toArray below meth c H locs 0 0 (MQ below (roL s.heap.size (rBit (nI wd) po x b)) ([.ref q, .long x, .int b] : List Value).toArray s 0 0 (fun q : Nat => s.heap.size ≤ q)) (F0 m 0 ls []) from key s.heap [] hP hS
  intro H locs hP hS
  refine lv_lload_n hx hb dX1_bit_0 rfl (lv_at hl 1 rfl) ?_
  refine lv_aload_n hx hb dX1_bit_1 rfl (lv_at hl 0 rfl) ?_
  refine va_get (D := D) (ci := 1) (v := .int (nI wd)) (C := RX1) (T := TX1) (N := 8) hx hb hts in_r_bit hown hK hP 0 rfl rfl 0 (by decide) (hts (.fieldLink RX1 7 "SliceChecksModel" "width" "I") (by decide +kernel)) (fun _ h9 => h9) rfl dX1_bit_2 ?_
  refine lv_iconst (v := 1) hx hb dX1_bit_5 (by decide) ?_
  refine lv_isub hx hb dX1_bit_6 ?_
  refine lv_lushr (v := jushr x ((nI wd) - 1)) hx hb dX1_bit_7 rfl ?_
  refine lv_lconst (v := 1) hx hb dX1_bit_8 (by decide) ?_
  refine lv_land hx hb dX1_bit_9 ?_
  refine lv_lconst (v := 1) hx hb dX1_bit_10 (by decide) ?_
  refine W.lcmp hx hb dX1_bit_11 ?_
  refine lv_if_ne (tgt := 19) hx hb dX1_bit_12 (by decide) (fun c_12 => ?_) (fun c_12 => ?_)
  ·
    refine lv_iconst (v := 0) hx hb dX1_bit_19 (by decide) ?_
    refine lv_istore (lv' := [(4, .int 0), (0, .ref q), (1, .long x), (3, .int b)]) hx hb dX1_bit_20 hl (by decide) rfl (fun ls hl => ?_)
    refine lv_aload_n hx hb dX1_bit_22 rfl (lv_at hl 1 rfl) ?_
    refine lv_lload_n hx hb dX1_bit_23 rfl (lv_at hl 2 rfl) ?_
    refine lv_iconst (v := 1) hx hb dX1_bit_24 (by decide) ?_
    refine lv_lshl (v := jshl x 1) hx hb dX1_bit_25 rfl ?_
    refine ro_l (va_runV (As := [.long (jshl x 1)]) (rest := []) ⟨hx, hb, hml, hown, hts⟩ (r_cut (sz := H.size) (jshl x 1)) (cwV 1 hts gX1_bit_X1_cut rfl rfl rfl (by decide +kernel) ⟨Nat.le_of_ble_eq_true rfl, Nat.le_of_ble_eq_true rfl⟩) (preV_RO hP hK 0 (ci := 1) rfl rfl) rfl rfl hl.1 rfl (lv_room (Nat.le_of_ble_eq_true rfl)) dX1_bit_26 ⟨Nat.le_of_ble_eq_true rfl, Nat.le_of_ble_eq_true rfl⟩) hS hA hP (fun H locs hP hS => ?_)
    refine lv_lstore (lv' := [(5, .long (rLow (jshl x 1) (nI wd))), (4, .int 0), (0, .ref q), (1, .long x), (3, .int b)]) hx hb dX1_bit_29 hl (by decide) rfl (fun ls hl => ?_)
    refine lv_iload hx hb dX1_bit_31 (lv_at hl 1 rfl) ?_
    refine lv_iload_n hx hb dX1_bit_33 rfl (lv_at hl 4 rfl) ?_
    refine lv_iconst (v := 1) hx hb dX1_bit_34 (by decide) ?_
    refine lv_icmp_ne (tgt := 42) hx hb dX1_bit_35 (by decide) (fun c_35 => ?_) (fun c_35 => ?_)
    ·
      refine lv_iconst (v := 0) hx hb dX1_bit_42 (by decide) ?_
      refine lv_icmp_eq (tgt := 56) hx hb dX1_bit_43 (by decide) (fun c_43 => ?_) (fun c_43 => ?_)
      ·
        refine lv_lload hx hb dX1_bit_56 (lv_at hl 0 rfl) ?_
        exact W.lret (v := (rLow (jshl x 1) (nI wd))) hx hb hr (fun t ht hW => ⟨⟨(rLow (jshl x 1) (nI wd)), (), rfl, by first | exact absurd c_43 (by decide) | exact absurd rfl c_43 | (rw [rBit]; simp [c_12, c_35]), trivial⟩, hS.F ht⟩) hS.2.2 dX1_bit_58
      ·
        refine lv_lload hx hb dX1_bit_46 (lv_at hl 0 rfl) ?_
        refine lv_aload_n hx hb dX1_bit_48 rfl (lv_at hl 2 rfl) ?_
        refine va_get (D := D) (ci := 1) (v := .long po) (C := RX1) (T := TX1) (N := 8) hx hb hts in_r_bit hown hK hP 0 rfl rfl 1 (by decide) (hts (.fieldLink RX1 15 "SliceChecksModel" "polynomial" "J") (by decide +kernel)) (fun _ h9 => h9) rfl dX1_bit_49 ?_
        refine lv_lxor hx hb dX1_bit_52 ?_
        refine lv_goto (tgt := 58) hx hb dX1_bit_53 (by decide) ?_
        exact W.lret (v := ((rLow (jshl x 1) (nI wd)) ^^^ po)) hx hb hr (fun t ht hW => ⟨⟨((rLow (jshl x 1) (nI wd)) ^^^ po), (), rfl, by first | exact absurd c_43 (by decide) | exact absurd rfl c_43 | (rw [rBit]; simp [c_12, c_35]), trivial⟩, hS.F ht⟩) hS.2.2 dX1_bit_58
    ·
      refine lv_iconst (v := 1) hx hb dX1_bit_38 (by decide) ?_
      refine lv_goto (tgt := 43) hx hb dX1_bit_39 (by decide) ?_
      refine lv_icmp_eq (tgt := 56) hx hb dX1_bit_43 (by decide) (fun c_43 => ?_) (fun c_43 => ?_)
      ·
        refine lv_lload hx hb dX1_bit_56 (lv_at hl 0 rfl) ?_
        exact W.lret (v := (rLow (jshl x 1) (nI wd))) hx hb hr (fun t ht hW => ⟨⟨(rLow (jshl x 1) (nI wd)), (), rfl, by first | exact absurd c_43 (by decide) | exact absurd rfl c_43 | (rw [rBit]; simp [c_12, c_35]), trivial⟩, hS.F ht⟩) hS.2.2 dX1_bit_58
      ·
        refine lv_lload hx hb dX1_bit_46 (lv_at hl 0 rfl) ?_
        refine lv_aload_n hx hb dX1_bit_48 rfl (lv_at hl 2 rfl) ?_
        refine va_get (D := D) (ci := 1) (v := .long po) (C := RX1) (T := TX1) (N := 8) hx hb hts in_r_bit hown hK hP 0 rfl rfl 1 (by decide) (hts (.fieldLink RX1 15 "SliceChecksModel" "polynomial" "J") (by decide +kernel)) (fun _ h9 => h9) rfl dX1_bit_49 ?_
        refine lv_lxor hx hb dX1_bit_52 ?_
        refine lv_goto (tgt := 58) hx hb dX1_bit_53 (by decide) ?_
        exact W.lret (v := ((rLow (jshl x 1) (nI wd)) ^^^ po)) hx hb hr (fun t ht hW => ⟨⟨((rLow (jshl x 1) (nI wd)) ^^^ po), (), rfl, by first | exact absurd c_43 (by decide) | exact absurd rfl c_43 | (rw [rBit]; simp [c_12, c_35]), trivial⟩, hS.F ht⟩) hS.2.2 dX1_bit_58
  ·
    refine lv_iconst (v := 1) hx hb dX1_bit_15 (by decide) ?_
    refine lv_goto (tgt := 20) hx hb dX1_bit_16 (by decide) ?_
    refine lv_istore (lv' := [(4, .int 1), (0, .ref q), (1, .long x), (3, .int b)]) hx hb dX1_bit_20 hl (by decide) rfl (fun ls hl => ?_)
    refine lv_aload_n hx hb dX1_bit_22 rfl (lv_at hl 1 rfl) ?_
    refine lv_lload_n hx hb dX1_bit_23 rfl (lv_at hl 2 rfl) ?_
    refine lv_iconst (v := 1) hx hb dX1_bit_24 (by decide) ?_
    refine lv_lshl (v := jshl x 1) hx hb dX1_bit_25 rfl ?_
    refine ro_l (va_runV (As := [.long (jshl x 1)]) (rest := []) ⟨hx, hb, hml, hown, hts⟩ (r_cut (sz := H.size) (jshl x 1)) (cwV 1 hts gX1_bit_X1_cut rfl rfl rfl (by decide +kernel) ⟨Nat.le_of_ble_eq_true rfl, Nat.le_of_ble_eq_true rfl⟩) (preV_RO hP hK 0 (ci := 1) rfl rfl) rfl rfl hl.1 rfl (lv_room (Nat.le_of_ble_eq_true rfl)) dX1_bit_26 ⟨Nat.le_of_ble_eq_true rfl, Nat.le_of_ble_eq_true rfl⟩) hS hA hP (fun H locs hP hS => ?_)
    refine lv_lstore (lv' := [(5, .long (rLow (jshl x 1) (nI wd))), (4, .int 1), (0, .ref q), (1, .long x), (3, .int b)]) hx hb dX1_bit_29 hl (by decide) rfl (fun ls hl => ?_)
    refine lv_iload hx hb dX1_bit_31 (lv_at hl 1 rfl) ?_
    refine lv_iload_n hx hb dX1_bit_33 rfl (lv_at hl 4 rfl) ?_
    refine lv_iconst (v := 1) hx hb dX1_bit_34 (by decide) ?_
    refine lv_icmp_ne (tgt := 42) hx hb dX1_bit_35 (by decide) (fun c_35 => ?_) (fun c_35 => ?_)
    ·
      refine lv_iconst (v := 0) hx hb dX1_bit_42 (by decide) ?_
      refine lv_icmp_eq (tgt := 56) hx hb dX1_bit_43 (by decide) (fun c_43 => ?_) (fun c_43 => ?_)
      ·
        refine lv_lload hx hb dX1_bit_56 (lv_at hl 0 rfl) ?_
        exact W.lret (v := (rLow (jshl x 1) (nI wd))) hx hb hr (fun t ht hW => ⟨⟨(rLow (jshl x 1) (nI wd)), (), rfl, by first | exact absurd c_43 (by decide) | exact absurd rfl c_43 | (rw [rBit]; simp [c_12, c_35]), trivial⟩, hS.F ht⟩) hS.2.2 dX1_bit_58
      ·
        refine lv_lload hx hb dX1_bit_46 (lv_at hl 0 rfl) ?_
        refine lv_aload_n hx hb dX1_bit_48 rfl (lv_at hl 2 rfl) ?_
        refine va_get (D := D) (ci := 1) (v := .long po) (C := RX1) (T := TX1) (N := 8) hx hb hts in_r_bit hown hK hP 0 rfl rfl 1 (by decide) (hts (.fieldLink RX1 15 "SliceChecksModel" "polynomial" "J") (by decide +kernel)) (fun _ h9 => h9) rfl dX1_bit_49 ?_
        refine lv_lxor hx hb dX1_bit_52 ?_
        refine lv_goto (tgt := 58) hx hb dX1_bit_53 (by decide) ?_
        exact W.lret (v := ((rLow (jshl x 1) (nI wd)) ^^^ po)) hx hb hr (fun t ht hW => ⟨⟨((rLow (jshl x 1) (nI wd)) ^^^ po), (), rfl, by first | exact absurd c_43 (by decide) | exact absurd rfl c_43 | (rw [rBit]; simp [c_12, c_35]), trivial⟩, hS.F ht⟩) hS.2.2 dX1_bit_58
    ·
      refine lv_iconst (v := 1) hx hb dX1_bit_38 (by decide) ?_
      refine lv_goto (tgt := 43) hx hb dX1_bit_39 (by decide) ?_
      refine lv_icmp_eq (tgt := 56) hx hb dX1_bit_43 (by decide) (fun c_43 => ?_) (fun c_43 => ?_)
      ·
        refine lv_lload hx hb dX1_bit_56 (lv_at hl 0 rfl) ?_
        exact W.lret (v := (rLow (jshl x 1) (nI wd))) hx hb hr (fun t ht hW => ⟨⟨(rLow (jshl x 1) (nI wd)), (), rfl, by first | exact absurd c_43 (by decide) | exact absurd rfl c_43 | (rw [rBit]; simp [c_12, c_35]), trivial⟩, hS.F ht⟩) hS.2.2 dX1_bit_58
      ·
        refine lv_lload hx hb dX1_bit_46 (lv_at hl 0 rfl) ?_
        refine lv_aload_n hx hb dX1_bit_48 rfl (lv_at hl 2 rfl) ?_
        refine va_get (D := D) (ci := 1) (v := .long po) (C := RX1) (T := TX1) (N := 8) hx hb hts in_r_bit hown hK hP 0 rfl rfl 1 (by decide) (hts (.fieldLink RX1 15 "SliceChecksModel" "polynomial" "J") (by decide +kernel)) (fun _ h9 => h9) rfl dX1_bit_49 ?_
        refine lv_lxor hx hb dX1_bit_52 ?_
        refine lv_goto (tgt := 58) hx hb dX1_bit_53 (by decide) ?_
        exact W.lret (v := ((rLow (jshl x 1) (nI wd)) ^^^ po)) hx hb hr (fun t ht hW => ⟨⟨((rLow (jshl x 1) (nI wd)) ^^^ po), (), rfl, by first | exact absurd c_43 (by decide) | exact absurd rfl c_43 | (rw [rBit]; simp [c_12, c_35]), trivial⟩, hS.F ht⟩) hS.2.2 dX1_bit_58
theorem in_r_oneByte : ∀ w ∈ wsX10, w ∈ wsX1_oneByte := fun _ h => List.mem_cons_of_mem _ (List.mem_append_right _ h)
set_option maxHeartbeats 4000000 in
set_option maxRecDepth 100000 in
theorem r_oneByte {l : Launch} {D : va_G} {q b1 : Nat} {k4 : ClassId} {by8 : Nat → Int32} {wd : Nat} {po : Int64} {fi : Int64} {la : Int64} {bi : Int32} {bo : Int32} {nb : Nat} {sz : Nat} (x : Int64) (b : Int32)  : Met l yX1_oneByte wsX1_oneByte ({ frames := 3, cells := 0, slots := 0, locals := 70 }) (va_Pc [.ref q, .long x, .int b] (pRO D vwCl (mt k4) (mw q b1 k4 by8 wd po fi la bi bo nb) sz)) (roL sz (rByN (nI wd) po bi b x 8)) 0 0 (fun q : Nat => sz ≤ q) := by
  refine Met.ofW (cc := cX1_oneByte) (maxL := 7) (ret := (some .long)) (by decide) rfl ?_
  intro p e s m args below meth c s₁ B hml hv
  obtain ⟨rfl, hsz, hP, hK⟩ := hv
  have hsz : s.heap.size = sz := hsz
  have hx := B.exec
  have hb := B.bytes
  have hr := B.returns
  have hts := atoms_spec (ws := wsX1_oneByte) B.pre
  have hown : s.vm.findClass RX1 = some m.cls := findClass_of_methodNamed B.named
  have hlocks := B.notSynchronized
  subst hsz
  have hA : ∀ q : Nat, s.heap.size ≤ q → (fun q : Nat => s.heap.size ≤ q) q := fun _ h => h
  have hS : va_S (fun q : Nat => s.heap.size ≤ q) s.heap s.heap [] := va_S.rf
  have hl := lv_entry ([.ref q, .long x, .int b]) (n := 7) (Nat.le_of_ble_eq_true rfl)
  rw [lg_entry_eq]
  generalize (lg_sl ([.ref q, .long x, .int b]) ++ List.replicate (7 - (lg_sl ([.ref q, .long x, .int b])).length) Slot.unset).toArray = ls at hl ⊢
  have hl : lv_has ls 7 [(0, .ref q), (1, .long x), (3, .int b)] := hl
  suffices key : ∀ (H : Heap) (locs : List Loc), va_P D vwCl (mw q b1 k4 by8 wd po fi la bi bo nb) H → va_S (fun q : Nat => s.heap.size ≤ q) s.heap H locs → W p l e (headSpec wsX1_oneByte { frames := 3, cells := 0, slots := 0, locals := 70 }).room s m ([.ref q, .long x, .int b] : List Value).toArray below meth c H locs 0 0 (MQ below (roL s.heap.size (rByN (nI wd) po bi b x 8)) ([.ref q, .long x, .int b] : List Value).toArray s 0 0 (fun q : Nat => s.heap.size ≤ q)) (F0 m 0 ls []) from key s.heap [] hP hS
  intro H locs hP hS
  refine lv_lload_n hx hb dX1_oneByte_0 rfl (lv_at hl 1 rfl) ?_
  refine lv_lstore (lv' := [(4, .long x), (0, .ref q), (1, .long x), (3, .int b)]) hx hb dX1_oneByte_1 hl (by decide) rfl (fun ls hl => ?_)
  refine lv_iconst (v := 0) hx hb dX1_oneByte_3 (by decide) ?_
  refine lv_istore (lv' := [(6, .int 0), (4, .long x), (0, .ref q), (1, .long x), (3, .int b)]) hx hb dX1_oneByte_4 hl (by decide) rfl (fun ls hl => ?_)
  have lp_6 : ∀ (k i : Nat), i ≤ 8 → 8 < i + k → ∀ (H : Heap) (locs : List Loc), va_P D vwCl (mw q b1 k4 by8 wd po fi la bi bo nb) H → va_S (fun q : Nat => s.heap.size ≤ q) s.heap H locs → ∀ ls : Array Slot, lv_has ls 7 [(6, .int (nI i)), (4, .long (rByN (nI wd) po bi b x i)), (0, .ref q), (1, .long x), (3, .int b)] → W p l e (headSpec wsX1_oneByte { frames := 3, cells := 0, slots := 0, locals := 70 }).room s m ([.ref q, .long x, .int b] : List Value).toArray below meth c H locs 0 0 (MQ below (roL s.heap.size (rByN (nI wd) po bi b x 8)) ([.ref q, .long x, .int b] : List Value).toArray s 0 0 (fun q : Nat => s.heap.size ≤ q)) (F0 m 6 ls []) := by
    intro k
    induction k with
    | zero =>
      intro i h1 h2
      exact absurd h2 (by omega)
    | succ k ih =>
      intro i hi hk H locs hP hS ls hl
      refine lv_iload hx hb dX1_oneByte_6 (lv_at hl 0 rfl) ?_
      refine lv_bipush (v := 8) hx hb dX1_oneByte_8 (by decide) ?_
      refine lv_icmp_ge (tgt := 52) hx hb dX1_oneByte_10 (by decide) (fun c_10 => ?_) (fun c_10 => ?_)
      ·
        have hiN := du_ge (N := 8) (by omega) hi c_10
        refine lv_lload hx hb dX1_oneByte_52 (lv_at hl 1 rfl) ?_
        exact W.lret (v := (rByN (nI wd) po bi b x i)) hx hb hr (fun t ht hW => ⟨⟨(rByN (nI wd) po bi b x i), (), rfl, by subst hiN; rfl, trivial⟩, hS.F ht⟩) hS.2.2 dX1_oneByte_54
      ·
        have hlt := du_lt (N := 8) (by omega) hi c_10
        refine lv_aload_n hx hb dX1_oneByte_13 rfl (lv_at hl 2 rfl) ?_
        refine lv_lload hx hb dX1_oneByte_14 (lv_at hl 1 rfl) ?_
        refine lv_aload_n hx hb dX1_oneByte_16 rfl (lv_at hl 2 rfl) ?_
        refine va_get (D := D) (ci := 1) (v := .int bi) (C := RX1) (T := TX1) (N := 8) hx hb hts in_r_oneByte hown hK hP 0 rfl rfl 4 (by decide) (hts (.fieldLink RX1 27 "SliceChecksModel" "in" "Z") (by decide +kernel)) (fun _ h9 => h9) rfl dX1_oneByte_17 ?_
        refine lv_if_eq (tgt := 32) hx hb dX1_oneByte_20 (by decide) (fun c_20 => ?_) (fun c_20 => ?_)
        ·
          refine lv_iload_n hx hb dX1_oneByte_32 rfl (lv_at hl 4 rfl) ?_
          refine lv_bipush (v := 7) hx hb dX1_oneByte_33 (by decide) ?_
          refine lv_iload hx hb dX1_oneByte_35 (lv_at hl 0 rfl) ?_
          refine lv_isub hx hb dX1_oneByte_37 ?_
          refine lv_ishr hx hb dX1_oneByte_38 ?_
          refine lv_iconst (v := 1) hx hb dX1_oneByte_39 (by decide) ?_
          refine lv_iand hx hb dX1_oneByte_40 ?_
          refine ro_l (va_runV (As := [.long (rByN (nI wd) po bi b x i), .int ((b >>> ((7 - (nI i)) &&& 31)) &&& 1)]) (rest := []) ⟨hx, hb, hml, hown, hts⟩ (r_bit (sz := H.size) (rByN (nI wd) po bi b x i) ((b >>> ((7 - (nI i)) &&& 31)) &&& 1)) (cwV 2 hts gX1_oneByte_X1_bit rfl rfl rfl (by decide +kernel) ⟨Nat.le_of_ble_eq_true rfl, Nat.le_of_ble_eq_true rfl⟩) (preV_RO hP hK 0 (ci := 1) rfl rfl) rfl rfl hl.1 rfl (lv_room (Nat.le_of_ble_eq_true rfl)) dX1_oneByte_41 ⟨Nat.le_of_ble_eq_true rfl, Nat.le_of_ble_eq_true rfl⟩) hS hA hP (fun H locs hP hS => ?_)
          refine du_rwl (y := rByN (nI wd) po bi b x (i + 1)) (by first | rw [rByN, if_pos c_20] | rw [rByN, if_neg c_20]) ?_
          refine lv_lstore (lv' := [(4, .long (rByN (nI wd) po bi b x (i + 1))), (6, .int (nI i)), (0, .ref q), (1, .long x), (3, .int b)]) hx hb dX1_oneByte_44 hl (by decide) rfl (fun ls hl => ?_)
          refine lv_iinc (v := nI (i + 1)) (lv' := [(6, .int (nI (i + 1))), (4, .long (rByN (nI wd) po bi b x (i + 1))), (0, .ref q), (1, .long x), (3, .int b)]) hx hb dX1_oneByte_46 hl (k := 1) rfl (nI_1 i) (by decide) rfl (fun ls hl => ?_)
          refine lv_goto (tgt := 6) hx hb dX1_oneByte_49 (by decide) ?_
          exact ih (i + 1) (by omega) (by omega) H locs (hP) hS ls (lv_sub hl [0, 1, 2, 3, 4] rfl)
        ·
          refine lv_iload_n hx hb dX1_oneByte_23 rfl (lv_at hl 4 rfl) ?_
          refine lv_iload hx hb dX1_oneByte_24 (lv_at hl 0 rfl) ?_
          refine lv_ishr hx hb dX1_oneByte_26 ?_
          refine lv_iconst (v := 1) hx hb dX1_oneByte_27 (by decide) ?_
          refine lv_iand hx hb dX1_oneByte_28 ?_
          refine lv_goto (tgt := 41) hx hb dX1_oneByte_29 (by decide) ?_
          refine ro_l (va_runV (As := [.long (rByN (nI wd) po bi b x i), .int ((b >>> ((nI i) &&& 31)) &&& 1)]) (rest := []) ⟨hx, hb, hml, hown, hts⟩ (r_bit (sz := H.size) (rByN (nI wd) po bi b x i) ((b >>> ((nI i) &&& 31)) &&& 1)) (cwV 2 hts gX1_oneByte_X1_bit rfl rfl rfl (by decide +kernel) ⟨Nat.le_of_ble_eq_true rfl, Nat.le_of_ble_eq_true rfl⟩) (preV_RO hP hK 0 (ci := 1) rfl rfl) rfl rfl hl.1 rfl (lv_room (Nat.le_of_ble_eq_true rfl)) dX1_oneByte_41 ⟨Nat.le_of_ble_eq_true rfl, Nat.le_of_ble_eq_true rfl⟩) hS hA hP (fun H locs hP hS => ?_)
          refine du_rwl (y := rByN (nI wd) po bi b x (i + 1)) (by first | rw [rByN, if_pos c_20] | rw [rByN, if_neg c_20]) ?_
          refine lv_lstore (lv' := [(4, .long (rByN (nI wd) po bi b x (i + 1))), (6, .int (nI i)), (0, .ref q), (1, .long x), (3, .int b)]) hx hb dX1_oneByte_44 hl (by decide) rfl (fun ls hl => ?_)
          refine lv_iinc (v := nI (i + 1)) (lv' := [(6, .int (nI (i + 1))), (4, .long (rByN (nI wd) po bi b x (i + 1))), (0, .ref q), (1, .long x), (3, .int b)]) hx hb dX1_oneByte_46 hl (k := 1) rfl (nI_1 i) (by decide) rfl (fun ls hl => ?_)
          refine lv_goto (tgt := 6) hx hb dX1_oneByte_49 (by decide) ?_
          exact ih (i + 1) (by omega) (by omega) H locs (hP) hS ls (lv_sub hl [0, 1, 2, 3, 4] rfl)
  exact lp_6 (8 + 1 - 0) 0 (by omega) (by omega) H locs (hP) hS ls (lv_sub hl [0, 1, 2, 3, 4] rfl)
theorem in_r_turned : ∀ w ∈ wsX10, w ∈ wsX1_turned := fun _ h => List.mem_cons_of_mem _ (List.mem_append_right _ h)
set_option maxHeartbeats 4000000 in
set_option maxRecDepth 100000 in
theorem r_turned {l : Launch} {D : va_G} {q b1 : Nat} {k4 : ClassId} {by8 : Nat → Int32} {wd : Nat} {po : Int64} {fi : Int64} {la : Int64} {bi : Int32} {bo : Int32} {nb : Nat} {sz : Nat} (x : Int64) (hw : wd ≤ 64) : Met l yX1_turned wsX1_turned ({ frames := 0, cells := 0, slots := 0, locals := 0 }) (va_Pc [.ref q, .long x] (pRO D vwCl (mt k4) (mw q b1 k4 by8 wd po fi la bi bo nb) sz)) (roL sz (mTuN x wd)) 0 0 (fun q : Nat => sz ≤ q) := by
  refine Met.ofW (cc := cX1_turned) (maxL := 6) (ret := (some .long)) (by decide) rfl ?_
  intro p e s m args below meth c s₁ B hml hv
  obtain ⟨rfl, hsz, hP, hK⟩ := hv
  have hsz : s.heap.size = sz := hsz
  have hx := B.exec
  have hb := B.bytes
  have hr := B.returns
  have hts := atoms_spec (ws := wsX1_turned) B.pre
  have hown : s.vm.findClass RX1 = some m.cls := findClass_of_methodNamed B.named
  have hlocks := B.notSynchronized
  subst hsz
  have hA : ∀ q : Nat, s.heap.size ≤ q → (fun q : Nat => s.heap.size ≤ q) q := fun _ h => h
  have hS : va_S (fun q : Nat => s.heap.size ≤ q) s.heap s.heap [] := va_S.rf
  have hl := lv_entry ([.ref q, .long x]) (n := 6) (Nat.le_of_ble_eq_true rfl)
  rw [lg_entry_eq]
  generalize (lg_sl ([.ref q, .long x]) ++ List.replicate (6 - (lg_sl ([.ref q, .long x])).length) Slot.unset).toArray = ls at hl ⊢
  have hl : lv_has ls 6 [(0, .ref q), (1, .long x)] := hl
  suffices key : ∀ (H : Heap) (locs : List Loc), va_P D vwCl (mw q b1 k4 by8 wd po fi la bi bo nb) H → va_S (fun q : Nat => s.heap.size ≤ q) s.heap H locs → W p l e (headSpec wsX1_turned { frames := 0, cells := 0, slots := 0, locals := 0 }).room s m ([.ref q, .long x] : List Value).toArray below meth c H locs 0 0 (MQ below (roL s.heap.size (mTuN x wd)) ([.ref q, .long x] : List Value).toArray s 0 0 (fun q : Nat => s.heap.size ≤ q)) (F0 m 0 ls []) from key s.heap [] hP hS
  intro H locs hP hS
  refine lv_lconst (v := 0) hx hb dX1_turned_0 (by decide) ?_
  refine lv_lstore_n (lv' := [(3, .long 0), (0, .ref q), (1, .long x)]) hx hb dX1_turned_1 rfl hl (by decide) rfl (fun ls hl => ?_)
  refine lv_iconst (v := 0) hx hb dX1_turned_2 (by decide) ?_
  refine lv_istore (lv' := [(5, .int 0), (3, .long 0), (0, .ref q), (1, .long x)]) hx hb dX1_turned_3 hl (by decide) rfl (fun ls hl => ?_)
  have lp_5 : ∀ (k i : Nat), i ≤ wd → wd < i + k → ∀ (H : Heap) (locs : List Loc), va_P D vwCl (mw q b1 k4 by8 wd po fi la bi bo nb) H → va_S (fun q : Nat => s.heap.size ≤ q) s.heap H locs → ∀ ls : Array Slot, lv_has ls 6 [(5, .int (nI i)), (3, .long (mTuN x i)), (0, .ref q), (1, .long x)] → W p l e (headSpec wsX1_turned { frames := 0, cells := 0, slots := 0, locals := 0 }).room s m ([.ref q, .long x] : List Value).toArray below meth c H locs 0 0 (MQ below (roL s.heap.size (mTuN x wd)) ([.ref q, .long x] : List Value).toArray s 0 0 (fun q : Nat => s.heap.size ≤ q)) (F0 m 5 ls []) := by
    intro k
    induction k with
    | zero =>
      intro i h1 h2
      exact absurd h2 (by omega)
    | succ k ih =>
      intro i hi hk H locs hP hS ls hl
      refine lv_iload hx hb dX1_turned_5 (lv_at hl 0 rfl) ?_
      refine lv_aload_n hx hb dX1_turned_7 rfl (lv_at hl 2 rfl) ?_
      refine va_get (D := D) (ci := 1) (v := .int (nI wd)) (C := RX1) (T := TX1) (N := 8) hx hb hts in_r_turned hown hK hP 0 rfl rfl 0 (by decide) (hts (.fieldLink RX1 7 "SliceChecksModel" "width" "I") (by decide +kernel)) (fun _ h9 => h9) rfl dX1_turned_8 ?_
      refine lv_icmp_ge (tgt := 31) hx hb dX1_turned_11 (by decide) (fun c_11 => ?_) (fun c_11 => ?_)
      ·
        have hiN := du_ge (by omega) hi c_11
        refine lv_lload_n hx hb dX1_turned_31 rfl (lv_at hl 1 rfl) ?_
        exact W.lret (v := (mTuN x i)) hx hb hr (fun t ht hW => ⟨⟨(mTuN x i), (), rfl, by subst hiN; rfl, trivial⟩, hS.F ht⟩) hS.2.2 dX1_turned_32
      ·
        have hlt := du_lt (by omega) hi c_11
        refine lv_lload_n hx hb dX1_turned_14 rfl (lv_at hl 1 rfl) ?_
        refine lv_iconst (v := 1) hx hb dX1_turned_15 (by decide) ?_
        refine lv_lshl (v := jshl (mTuN x i) 1) hx hb dX1_turned_16 rfl ?_
        refine lv_lload_n hx hb dX1_turned_17 rfl (lv_at hl 3 rfl) ?_
        refine lv_iload hx hb dX1_turned_18 (lv_at hl 0 rfl) ?_
        refine lv_lushr (v := jushr x (nI i)) hx hb dX1_turned_20 rfl ?_
        refine lv_lconst (v := 1) hx hb dX1_turned_21 (by decide) ?_
        refine lv_land hx hb dX1_turned_22 ?_
        refine lv_lor hx hb dX1_turned_23 ?_
        refine du_rwl (y := mTuN x (i + 1)) (rfl) ?_
        refine lv_lstore_n (lv' := [(3, .long (mTuN x (i + 1))), (5, .int (nI i)), (0, .ref q), (1, .long x)]) hx hb dX1_turned_24 rfl hl (by decide) rfl (fun ls hl => ?_)
        refine lv_iinc (v := nI (i + 1)) (lv' := [(5, .int (nI (i + 1))), (3, .long (mTuN x (i + 1))), (0, .ref q), (1, .long x)]) hx hb dX1_turned_25 hl (k := 1) rfl (nI_1 i) (by decide) rfl (fun ls hl => ?_)
        refine lv_goto (tgt := 5) hx hb dX1_turned_28 (by decide) ?_
        exact ih (i + 1) (by omega) (by omega) H locs (hP) hS ls (lv_sub hl [0, 1, 2, 3] rfl)
  exact lp_5 (wd + 1 - 0) 0 (by omega) (by omega) H locs (hP) hS ls (lv_sub hl [0, 1, 2, 3] rfl)
theorem in_r_told : ∀ w ∈ wsX10, w ∈ wsX1_told := fun _ h => List.mem_cons_of_mem _ (List.mem_append_right _ h)
set_option maxHeartbeats 4000000 in
set_option maxRecDepth 100000 in
theorem r_told {l : Launch} {D : va_G} {q b1 : Nat} {k4 : ClassId} {by8 : Nat → Int32} {wd : Nat} {po : Int64} {fi : Int64} {la : Int64} {bi : Int32} {bo : Int32} {nb : Nat} {sz : Nat} (x : Int64) (hw : wd ≤ 64) : Met l yX1_told wsX1_told ({ frames := 1, cells := 0, slots := 0, locals := 25 }) (va_Pc [.ref q, .long x] (pRO D vwCl (mt k4) (mw q b1 k4 by8 wd po fi la bi bo nb) sz)) (roL sz (rTold bo la wd x)) 0 0 (fun q : Nat => sz ≤ q) := by
  refine Met.ofW (cc := cX1_told) (maxL := 3) (ret := (some .long)) (by decide) rfl ?_
  intro p e s m args below meth c s₁ B hml hv
  obtain ⟨rfl, hsz, hP, hK⟩ := hv
  have hsz : s.heap.size = sz := hsz
  have hx := B.exec
  have hb := B.bytes
  have hr := B.returns
  have hts := atoms_spec (ws := wsX1_told) B.pre
  have hown : s.vm.findClass RX1 = some m.cls := findClass_of_methodNamed B.named
  have hlocks := B.notSynchronized
  subst hsz
  have hA : ∀ q : Nat, s.heap.size ≤ q → (fun q : Nat => s.heap.size ≤ q) q := fun _ h => h
  have hS : va_S (fun q : Nat => s.heap.size ≤ q) s.heap s.heap [] := va_S.rf
  have hl := lv_entry ([.ref q, .long x]) (n := 3) (Nat.le_of_ble_eq_true rfl)
  rw [lg_entry_eq]
  generalize (lg_sl ([.ref q, .long x]) ++ List.replicate (3 - (lg_sl ([.ref q, .long x])).length) Slot.unset).toArray = ls at hl ⊢
  have hl : lv_has ls 3 [(0, .ref q), (1, .long x)] := hl
  suffices key : ∀ (H : Heap) (locs : List Loc), va_P D vwCl (mw q b1 k4 by8 wd po fi la bi bo nb) H → va_S (fun q : Nat => s.heap.size ≤ q) s.heap H locs → W p l e (headSpec wsX1_told { frames := 1, cells := 0, slots := 0, locals := 25 }).room s m ([.ref q, .long x] : List Value).toArray below meth c H locs 0 0 (MQ below (roL s.heap.size (rTold bo la wd x)) ([.ref q, .long x] : List Value).toArray s 0 0 (fun q : Nat => s.heap.size ≤ q)) (F0 m 0 ls []) from key s.heap [] hP hS
  intro H locs hP hS
  refine lv_aload_n hx hb dX1_told_0 rfl (lv_at hl 0 rfl) ?_
  refine va_get (D := D) (ci := 1) (v := .int bo) (C := RX1) (T := TX1) (N := 8) hx hb hts in_r_told hown hK hP 0 rfl rfl 5 (by decide) (hts (.fieldLink RX1 31 "SliceChecksModel" "out" "Z") (by decide +kernel)) (fun _ h9 => h9) rfl dX1_told_1 ?_
  refine lv_if_eq (tgt := 15) hx hb dX1_told_4 (by decide) (fun c_4 => ?_) (fun c_4 => ?_)
  ·
    refine lv_lload_n hx hb dX1_told_15 rfl (lv_at hl 1 rfl) ?_
    refine lv_aload_n hx hb dX1_told_16 rfl (lv_at hl 0 rfl) ?_
    refine va_get (D := D) (ci := 1) (v := .long la) (C := RX1) (T := TX1) (N := 8) hx hb hts in_r_told hown hK hP 0 rfl rfl 3 (by decide) (hts (.fieldLink RX1 24 "SliceChecksModel" "last" "J") (by decide +kernel)) (fun _ h9 => h9) rfl dX1_told_17 ?_
    refine lv_lxor hx hb dX1_told_20 ?_
    exact W.lret (v := (x ^^^ la)) hx hb hr (fun t ht hW => ⟨⟨(x ^^^ la), (), rfl, by first | rw [rTold, if_pos c_4] | rw [rTold, if_neg c_4], trivial⟩, hS.F ht⟩) hS.2.2 dX1_told_21
  ·
    refine lv_aload_n hx hb dX1_told_7 rfl (lv_at hl 0 rfl) ?_
    refine lv_lload_n hx hb dX1_told_8 rfl (lv_at hl 1 rfl) ?_
    refine ro_l (va_runV (As := [.long x]) (rest := []) ⟨hx, hb, hml, hown, hts⟩ (r_turned (sz := H.size) x (hw)) (cwV 1 hts gX1_told_X1_turned rfl rfl rfl (by decide +kernel) ⟨Nat.le_of_ble_eq_true rfl, Nat.le_of_ble_eq_true rfl⟩) (preV_RO hP hK 0 (ci := 1) rfl rfl) rfl rfl hl.1 rfl (lv_room (Nat.le_of_ble_eq_true rfl)) dX1_told_9 ⟨Nat.le_of_ble_eq_true rfl, Nat.le_of_ble_eq_true rfl⟩) hS hA hP (fun H locs hP hS => ?_)
    refine lv_goto (tgt := 16) hx hb dX1_told_12 (by decide) ?_
    refine lv_aload_n hx hb dX1_told_16 rfl (lv_at hl 0 rfl) ?_
    refine va_get (D := D) (ci := 1) (v := .long la) (C := RX1) (T := TX1) (N := 8) hx hb hts in_r_told hown hK hP 0 rfl rfl 3 (by decide) (hts (.fieldLink RX1 24 "SliceChecksModel" "last" "J") (by decide +kernel)) (fun _ h9 => h9) rfl dX1_told_17 ?_
    refine lv_lxor hx hb dX1_told_20 ?_
    exact W.lret (v := ((mTuN x wd) ^^^ la)) hx hb hr (fun t ht hW => ⟨⟨((mTuN x wd) ^^^ la), (), rfl, by first | rw [rTold, if_pos c_4] | rw [rTold, if_neg c_4], trivial⟩, hS.F ht⟩) hS.2.2 dX1_told_21
theorem in_r_register : ∀ w ∈ wsX10, w ∈ wsX1_register := fun _ h => List.mem_cons_of_mem _ (List.mem_append_right _ h)
set_option maxHeartbeats 4000000 in
set_option maxRecDepth 100000 in
theorem r_register {l : Launch} {D : va_G} {q b1 : Nat} {k4 : ClassId} {by8 : Nat → Int32} {wd : Nat} {po : Int64} {fi : Int64} {la : Int64} {bi : Int32} {bo : Int32} {nb : Nat} {sz : Nat} (x : Int64) (hw : wd ≤ 64) : Met l yX1_register wsX1_register ({ frames := 2, cells := 0, slots := 0, locals := 44 }) (va_Pc [.ref q, .long x] (pRO D vwCl (mt k4) (mw q b1 k4 by8 wd po fi la bi bo nb) sz)) (roL sz (rReg bo la wd x)) 0 0 (fun q : Nat => sz ≤ q) := by
  refine Met.ofW (cc := cX1_register) (maxL := 5) (ret := (some .long)) (by decide) rfl ?_
  intro p e s m args below meth c s₁ B hml hv
  obtain ⟨rfl, hsz, hP, hK⟩ := hv
  have hsz : s.heap.size = sz := hsz
  have hx := B.exec
  have hb := B.bytes
  have hr := B.returns
  have hts := atoms_spec (ws := wsX1_register) B.pre
  have hown : s.vm.findClass RX1 = some m.cls := findClass_of_methodNamed B.named
  have hlocks := B.notSynchronized
  subst hsz
  have hA : ∀ q : Nat, s.heap.size ≤ q → (fun q : Nat => s.heap.size ≤ q) q := fun _ h => h
  have hS : va_S (fun q : Nat => s.heap.size ≤ q) s.heap s.heap [] := va_S.rf
  have hl := lv_entry ([.ref q, .long x]) (n := 5) (Nat.le_of_ble_eq_true rfl)
  rw [lg_entry_eq]
  generalize (lg_sl ([.ref q, .long x]) ++ List.replicate (5 - (lg_sl ([.ref q, .long x])).length) Slot.unset).toArray = ls at hl ⊢
  have hl : lv_has ls 5 [(0, .ref q), (1, .long x)] := hl
  suffices key : ∀ (H : Heap) (locs : List Loc), va_P D vwCl (mw q b1 k4 by8 wd po fi la bi bo nb) H → va_S (fun q : Nat => s.heap.size ≤ q) s.heap H locs → W p l e (headSpec wsX1_register { frames := 2, cells := 0, slots := 0, locals := 44 }).room s m ([.ref q, .long x] : List Value).toArray below meth c H locs 0 0 (MQ below (roL s.heap.size (rReg bo la wd x)) ([.ref q, .long x] : List Value).toArray s 0 0 (fun q : Nat => s.heap.size ≤ q)) (F0 m 0 ls []) from key s.heap [] hP hS
  intro H locs hP hS
  refine lv_aload_n hx hb dX1_register_0 rfl (lv_at hl 0 rfl) ?_
  refine lv_lload_n hx hb dX1_register_1 rfl (lv_at hl 1 rfl) ?_
  refine ro_l (va_runV (As := [.long x]) (rest := []) ⟨hx, hb, hml, hown, hts⟩ (r_cut (sz := H.size) x) (cwV 1 hts gX1_register_X1_cut rfl rfl rfl (by decide +kernel) ⟨Nat.le_of_ble_eq_true rfl, Nat.le_of_ble_eq_true rfl⟩) (preV_RO hP hK 0 (ci := 1) rfl rfl) rfl rfl hl.1 rfl (lv_room (Nat.le_of_ble_eq_true rfl)) dX1_register_2 ⟨Nat.le_of_ble_eq_true rfl, Nat.le_of_ble_eq_true rfl⟩) hS hA hP (fun H locs hP hS => ?_)
  refine lv_aload_n hx hb dX1_register_5 rfl (lv_at hl 0 rfl) ?_
  refine va_get (D := D) (ci := 1) (v := .long la) (C := RX1) (T := TX1) (N := 8) hx hb hts in_r_register hown hK hP 0 rfl rfl 3 (by decide) (hts (.fieldLink RX1 24 "SliceChecksModel" "last" "J") (by decide +kernel)) (fun _ h9 => h9) rfl dX1_register_6 ?_
  refine lv_lxor hx hb dX1_register_9 ?_
  refine lv_lstore_n (lv' := [(3, .long ((rLow x (nI wd)) ^^^ la)), (0, .ref q), (1, .long x)]) hx hb dX1_register_10 rfl hl (by decide) rfl (fun ls hl => ?_)
  refine lv_aload_n hx hb dX1_register_11 rfl (lv_at hl 1 rfl) ?_
  refine va_get (D := D) (ci := 1) (v := .int bo) (C := RX1) (T := TX1) (N := 8) hx hb hts in_r_register hown hK hP 0 rfl rfl 5 (by decide) (hts (.fieldLink RX1 31 "SliceChecksModel" "out" "Z") (by decide +kernel)) (fun _ h9 => h9) rfl dX1_register_12 ?_
  refine lv_if_eq (tgt := 26) hx hb dX1_register_15 (by decide) (fun c_15 => ?_) (fun c_15 => ?_)
  ·
    refine lv_lload_n hx hb dX1_register_26 rfl (lv_at hl 0 rfl) ?_
    exact W.lret (v := ((rLow x (nI wd)) ^^^ la)) hx hb hr (fun t ht hW => ⟨⟨((rLow x (nI wd)) ^^^ la), (), rfl, by first | rw [rReg, if_pos c_15] | rw [rReg, if_neg c_15], trivial⟩, hS.F ht⟩) hS.2.2 dX1_register_27
  ·
    refine lv_aload_n hx hb dX1_register_18 rfl (lv_at hl 1 rfl) ?_
    refine lv_lload_n hx hb dX1_register_19 rfl (lv_at hl 0 rfl) ?_
    refine ro_l (va_runV (As := [.long ((rLow x (nI wd)) ^^^ la)]) (rest := []) ⟨hx, hb, hml, hown, hts⟩ (r_turned (sz := H.size) ((rLow x (nI wd)) ^^^ la) (hw)) (cwV 1 hts gX1_register_X1_turned rfl rfl rfl (by decide +kernel) ⟨Nat.le_of_ble_eq_true rfl, Nat.le_of_ble_eq_true rfl⟩) (preV_RO hP hK 0 (ci := 1) rfl rfl) rfl rfl hl.1 rfl (lv_room (Nat.le_of_ble_eq_true rfl)) dX1_register_20 ⟨Nat.le_of_ble_eq_true rfl, Nat.le_of_ble_eq_true rfl⟩) hS hA hP (fun H locs hP hS => ?_)
    refine lv_goto (tgt := 27) hx hb dX1_register_23 (by decide) ?_
    exact W.lret (v := (mTuN ((rLow x (nI wd)) ^^^ la) wd)) hx hb hr (fun t ht hW => ⟨⟨(mTuN ((rLow x (nI wd)) ^^^ la) wd), (), rfl, by first | rw [rReg, if_pos c_15] | rw [rReg, if_neg c_15], trivial⟩, hS.F ht⟩) hS.2.2 dX1_register_27
theorem in_r_over : ∀ w ∈ wsX10, w ∈ wsX1_over := fun _ h => List.mem_cons_of_mem _ (List.mem_append_right _ h)
set_option maxHeartbeats 4000000 in
set_option maxRecDepth 100000 in
theorem r_over {l : Launch} {D : va_G} {q b1 : Nat} {k4 : ClassId} {by8 : Nat → Int32} {wd : Nat} {po : Int64} {fi : Int64} {la : Int64} {bi : Int32} {bo : Int32} {nb : Nat} {sz : Nat} (a : Nat) (b : Nat) (hw : wd ≤ 64) (ha : a ≤ 5000) (hb5 : b ≤ 5000) : Met l yX1_over wsX1_over ({ frames := 4, cells := 0, slots := 0, locals := 96 }) (va_Pc [.ref q, .int (nI a), .int (nI b)] (pRO D vwCl (mt k4) (mw q b1 k4 by8 wd po fi la bi bo nb) sz)) (roL sz (rOver wd po fi la bi bo by8 a b)) 0 0 (fun q : Nat => sz ≤ q) := by
  refine Met.ofW (cc := cX1_over) (maxL := 6) (ret := (some .long)) (by decide) rfl ?_
  intro p e s m args below meth c s₁ B hml hv
  obtain ⟨rfl, hsz, hP, hK⟩ := hv
  have hsz : s.heap.size = sz := hsz
  have hx := B.exec
  have hb := B.bytes
  have hr := B.returns
  have hts := atoms_spec (ws := wsX1_over) B.pre
  have hown : s.vm.findClass RX1 = some m.cls := findClass_of_methodNamed B.named
  have hlocks := B.notSynchronized
  subst hsz
  have hA : ∀ q : Nat, s.heap.size ≤ q → (fun q : Nat => s.heap.size ≤ q) q := fun _ h => h
  have hS : va_S (fun q : Nat => s.heap.size ≤ q) s.heap s.heap [] := va_S.rf
  have hl := lv_entry ([.ref q, .int (nI a), .int (nI b)]) (n := 6) (Nat.le_of_ble_eq_true rfl)
  rw [lg_entry_eq]
  generalize (lg_sl ([.ref q, .int (nI a), .int (nI b)]) ++ List.replicate (6 - (lg_sl ([.ref q, .int (nI a), .int (nI b)])).length) Slot.unset).toArray = ls at hl ⊢
  have hl : lv_has ls 6 [(0, .ref q), (1, .int (nI a)), (2, .int (nI b))] := hl
  suffices key : ∀ (H : Heap) (locs : List Loc), va_P D vwCl (mw q b1 k4 by8 wd po fi la bi bo nb) H → va_S (fun q : Nat => s.heap.size ≤ q) s.heap H locs → W p l e (headSpec wsX1_over { frames := 4, cells := 0, slots := 0, locals := 96 }).room s m ([.ref q, .int (nI a), .int (nI b)] : List Value).toArray below meth c H locs 0 0 (MQ below (roL s.heap.size (rOver wd po fi la bi bo by8 a b)) ([.ref q, .int (nI a), .int (nI b)] : List Value).toArray s 0 0 (fun q : Nat => s.heap.size ≤ q)) (F0 m 0 ls []) from key s.heap [] hP hS
  intro H locs hP hS
  refine lv_aload_n hx hb dX1_over_0 rfl (lv_at hl 0 rfl) ?_
  refine va_get (D := D) (ci := 1) (v := .long fi) (C := RX1) (T := TX1) (N := 8) hx hb hts in_r_over hown hK hP 0 rfl rfl 2 (by decide) (hts (.fieldLink RX1 21 "SliceChecksModel" "first" "J") (by decide +kernel)) (fun _ h9 => h9) rfl dX1_over_1 ?_
  refine lv_lstore_n (lv' := [(3, .long fi), (0, .ref q), (1, .int (nI a)), (2, .int (nI b))]) hx hb dX1_over_4 rfl hl (by decide) rfl (fun ls hl => ?_)
  refine lv_iload_n hx hb dX1_over_5 rfl (lv_at hl 2 rfl) ?_
  refine lv_istore (lv' := [(5, .int (nI a)), (3, .long fi), (0, .ref q), (1, .int (nI a)), (2, .int (nI b))]) hx hb dX1_over_6 hl (by decide) rfl (fun ls hl => ?_)
  have lp_8 : ∀ (k i : Nat), i ≤ b - a → b - a < i + k → ∀ (H : Heap) (locs : List Loc), va_P D vwCl (mw q b1 k4 by8 wd po fi la bi bo nb) H → va_S (fun q : Nat => s.heap.size ≤ q) s.heap H locs → ∀ ls : Array Slot, lv_has ls 6 [(5, .int (nI (a + i))), (3, .long (rOvN (nI wd) po bi by8 fi a i)), (0, .ref q), (1, .int (nI a)), (2, .int (nI b))] → W p l e (headSpec wsX1_over { frames := 4, cells := 0, slots := 0, locals := 96 }).room s m ([.ref q, .int (nI a), .int (nI b)] : List Value).toArray below meth c H locs 0 0 (MQ below (roL s.heap.size (rOver wd po fi la bi bo by8 a b)) ([.ref q, .int (nI a), .int (nI b)] : List Value).toArray s 0 0 (fun q : Nat => s.heap.size ≤ q)) (F0 m 8 ls []) := by
    intro k
    induction k with
    | zero =>
      intro i h1 h2
      exact absurd h2 (by omega)
    | succ k ih =>
      intro i hi hk H locs hP hS ls hl
      refine lv_iload hx hb dX1_over_8 (lv_at hl 0 rfl) ?_
      refine lv_iload_n hx hb dX1_over_10 rfl (lv_at hl 4 rfl) ?_
      refine lv_icmp_ge (tgt := 33) hx hb dX1_over_11 (by decide) (fun c_11 => ?_) (fun c_11 => ?_)
      ·
        have hiN : i = b - a := by have := (nI_leI (by omega) (by omega)).mp c_11; omega
        refine lv_aload_n hx hb dX1_over_33 rfl (lv_at hl 2 rfl) ?_
        refine lv_lload_n hx hb dX1_over_34 rfl (lv_at hl 1 rfl) ?_
        refine ro_l (va_runV (As := [.long (rOvN (nI wd) po bi by8 fi a i)]) (rest := []) ⟨hx, hb, hml, hown, hts⟩ (r_told (sz := H.size) (rOvN (nI wd) po bi by8 fi a i) (hw)) (cwV 1 hts gX1_over_X1_told rfl rfl rfl (by decide +kernel) ⟨Nat.le_of_ble_eq_true rfl, Nat.le_of_ble_eq_true rfl⟩) (preV_RO hP hK 0 (ci := 1) rfl rfl) rfl rfl hl.1 rfl (lv_room (Nat.le_of_ble_eq_true rfl)) dX1_over_35 ⟨Nat.le_of_ble_eq_true rfl, Nat.le_of_ble_eq_true rfl⟩) hS hA hP (fun H locs hP hS => ?_)
        exact W.lret (v := (rTold bo la wd (rOvN (nI wd) po bi by8 fi a i))) hx hb hr (fun t ht hW => ⟨⟨(rTold bo la wd (rOvN (nI wd) po bi by8 fi a i)), (), rfl, by subst hiN; rfl, trivial⟩, hS.F ht⟩) hS.2.2 dX1_over_38
      ·
        have hlt : i < b - a := by rcases Nat.lt_or_ge i (b - a) with h | h; exact h; exact absurd (nI_le (by omega) (by omega)) c_11
        refine lv_aload_n hx hb dX1_over_14 rfl (lv_at hl 2 rfl) ?_
        refine lv_lload_n hx hb dX1_over_15 rfl (lv_at hl 1 rfl) ?_
        refine lv_aload_n hx hb dX1_over_16 rfl (lv_at hl 2 rfl) ?_
        refine va_get (D := D) (ci := 1) (v := .ref b1) (C := RX1) (T := TX1) (N := 8) hx hb hts in_r_over hown hK hP 0 rfl rfl 6 (by decide) (hts (.fieldLink RX1 34 "SliceChecksModel" "bytes" "[I") (by decide +kernel)) (fun _ h9 => h9) rfl dX1_over_17 ?_
        refine lv_iload hx hb dX1_over_20 (lv_at hl 0 rfl) ?_
        refine va_iald hx hb hK hP 1 0 rfl rfl (i := nI (a + i)) (vp_in_nI (by omega) (by omega)) dX1_over_22 ?_
        refine ro_l (va_runV (As := [.long (rOvN (nI wd) po bi by8 fi a i), .int (by8 (nI (a + i)).toNatClampNeg)]) (rest := []) ⟨hx, hb, hml, hown, hts⟩ (r_oneByte (sz := H.size) (rOvN (nI wd) po bi by8 fi a i) (by8 (nI (a + i)).toNatClampNeg)) (cwV 2 hts gX1_over_X1_oneByte rfl rfl rfl (by decide +kernel) ⟨Nat.le_of_ble_eq_true rfl, Nat.le_of_ble_eq_true rfl⟩) (preV_RO hP hK 0 (ci := 1) rfl rfl) rfl rfl hl.1 rfl (lv_room (Nat.le_of_ble_eq_true rfl)) dX1_over_23 ⟨Nat.le_of_ble_eq_true rfl, Nat.le_of_ble_eq_true rfl⟩) hS hA hP (fun H locs hP hS => ?_)
        refine du_rwl (y := rOvN (nI wd) po bi by8 fi a (i + 1)) (rfl) ?_
        refine lv_lstore_n (lv' := [(3, .long (rOvN (nI wd) po bi by8 fi a (i + 1))), (5, .int (nI (a + i))), (0, .ref q), (1, .int (nI a)), (2, .int (nI b))]) hx hb dX1_over_26 rfl hl (by decide) rfl (fun ls hl => ?_)
        refine lv_iinc (v := nI (a + (i + 1))) (lv' := [(5, .int (nI (a + (i + 1)))), (3, .long (rOvN (nI wd) po bi by8 fi a (i + 1))), (0, .ref q), (1, .int (nI a)), (2, .int (nI b))]) hx hb dX1_over_27 hl (k := 1) rfl (nI_1 (a + i)) (by decide) rfl (fun ls hl => ?_)
        refine lv_goto (tgt := 8) hx hb dX1_over_30 (by decide) ?_
        exact ih (i + 1) (by omega) (by omega) H locs (hP) hS ls (lv_sub hl [0, 1, 2, 3, 4] rfl)
  exact lp_8 ((b - a) + 1 - 0) 0 (by omega) (by omega) H locs (hP) hS ls (lv_sub hl [0, 1, 2, 3, 4] rfl)
theorem in_r_check : ∀ w ∈ wsX10, w ∈ wsX1_check := fun _ h => List.mem_cons_of_mem _ (List.mem_append_right _ h)
set_option maxHeartbeats 4000000 in
set_option maxRecDepth 100000 in
theorem r_check {l : Launch} {D : va_G} {q b1 : Nat} {k4 : ClassId} {by8 : Nat → Int32} {wd : Nat} {po : Int64} {fi : Int64} {la : Int64} {bi : Int32} {bo : Int32} {nb : Nat} {sz : Nat} (y : Int32) (hw : wd ≤ 64) (hn : nb ≤ 5000) : Met l yX1_check wsX1_check ({ frames := 5, cells := 0, slots := 0, locals := 121 }) (va_Pc [.ref q, .int y] (pRO D vwCl (mt k4) (mw q b1 k4 by8 wd po fi la bi bo nb) sz)) (roL sz (rChk y (rOver wd po fi la bi bo by8 0 nb))) 0 0 (fun q : Nat => sz ≤ q) := by
  refine Met.ofW (cc := cX1_check) (maxL := 2) (ret := (some .long)) (by decide) rfl ?_
  intro p e s m args below meth c s₁ B hml hv
  obtain ⟨rfl, hsz, hP, hK⟩ := hv
  have hsz : s.heap.size = sz := hsz
  have hx := B.exec
  have hb := B.bytes
  have hr := B.returns
  have hts := atoms_spec (ws := wsX1_check) B.pre
  have hown : s.vm.findClass RX1 = some m.cls := findClass_of_methodNamed B.named
  have hlocks := B.notSynchronized
  subst hsz
  have hA : ∀ q : Nat, s.heap.size ≤ q → (fun q : Nat => s.heap.size ≤ q) q := fun _ h => h
  have hS : va_S (fun q : Nat => s.heap.size ≤ q) s.heap s.heap [] := va_S.rf
  have hl := lv_entry ([.ref q, .int y]) (n := 2) (Nat.le_of_ble_eq_true rfl)
  rw [lg_entry_eq]
  generalize (lg_sl ([.ref q, .int y]) ++ List.replicate (2 - (lg_sl ([.ref q, .int y])).length) Slot.unset).toArray = ls at hl ⊢
  have hl : lv_has ls 2 [(0, .ref q), (1, .int y)] := hl
  suffices key : ∀ (H : Heap) (locs : List Loc), va_P D vwCl (mw q b1 k4 by8 wd po fi la bi bo nb) H → va_S (fun q : Nat => s.heap.size ≤ q) s.heap H locs → W p l e (headSpec wsX1_check { frames := 5, cells := 0, slots := 0, locals := 121 }).room s m ([.ref q, .int y] : List Value).toArray below meth c H locs 0 0 (MQ below (roL s.heap.size (rChk y (rOver wd po fi la bi bo by8 0 nb))) ([.ref q, .int y] : List Value).toArray s 0 0 (fun q : Nat => s.heap.size ≤ q)) (F0 m 0 ls []) from key s.heap [] hP hS
  intro H locs hP hS
  refine lv_iload_n hx hb dX1_check_0 rfl (lv_at hl 1 rfl) ?_
  refine lv_if_lt (tgt := 9) hx hb dX1_check_1 (by decide) (fun c_1 => ?_) (fun c_1 => ?_)
  ·
    refine lv_lconst (v := 0) hx hb dX1_check_9 (by decide) ?_
    refine lv_goto (tgt := 22) hx hb dX1_check_10 (by decide) ?_
    exact W.lret (v := 0) hx hb hr (fun t ht hW => ⟨⟨0, (), rfl, by first | rw [rChk, if_pos c_1] | rw [rChk, if_neg c_1, if_pos c_6] | rw [rChk, if_neg c_1, if_neg c_6], trivial⟩, hS.F ht⟩) hS.2.2 dX1_check_22
  ·
    refine lv_iload_n hx hb dX1_check_4 rfl (lv_at hl 1 rfl) ?_
    refine lv_iconst (v := 3) hx hb dX1_check_5 (by decide) ?_
    refine lv_icmp_le (tgt := 13) hx hb dX1_check_6 (by decide) (fun c_6 => ?_) (fun c_6 => ?_)
    ·
      refine lv_aload_n hx hb dX1_check_13 rfl (lv_at hl 0 rfl) ?_
      refine lv_iconst (v := 0) hx hb dX1_check_14 (by decide) ?_
      refine du_rwi (y := nI 0) (rfl) ?_
      refine lv_aload_n hx hb dX1_check_15 rfl (lv_at hl 0 rfl) ?_
      refine va_get (D := D) (ci := 1) (v := .int (nI nb)) (C := RX1) (T := TX1) (N := 8) hx hb hts in_r_check hown hK hP 0 rfl rfl 7 (by decide) (hts (.fieldLink RX1 46 "SliceChecksModel" "count" "I") (by decide +kernel)) (fun _ h9 => h9) rfl dX1_check_16 ?_
      refine ro_l (va_runV (As := [.int (nI 0), .int (nI nb)]) (rest := []) ⟨hx, hb, hml, hown, hts⟩ (r_over (sz := H.size) 0 nb (hw) (by omega) (hn)) (cwV 2 hts gX1_check_X1_over rfl rfl rfl (by decide +kernel) ⟨Nat.le_of_ble_eq_true rfl, Nat.le_of_ble_eq_true rfl⟩) (preV_RO hP hK 0 (ci := 1) rfl rfl) rfl rfl hl.1 rfl (lv_room (Nat.le_of_ble_eq_true rfl)) dX1_check_19 ⟨Nat.le_of_ble_eq_true rfl, Nat.le_of_ble_eq_true rfl⟩) hS hA hP (fun H locs hP hS => ?_)
      exact W.lret (v := (rOver wd po fi la bi bo by8 0 nb)) hx hb hr (fun t ht hW => ⟨⟨(rOver wd po fi la bi bo by8 0 nb), (), rfl, by first | rw [rChk, if_pos c_1] | rw [rChk, if_neg c_1, if_pos c_6] | rw [rChk, if_neg c_1, if_neg c_6], trivial⟩, hS.F ht⟩) hS.2.2 dX1_check_22
    ·
      refine lv_lconst (v := 0) hx hb dX1_check_9 (by decide) ?_
      refine lv_goto (tgt := 22) hx hb dX1_check_10 (by decide) ?_
      exact W.lret (v := 0) hx hb hr (fun t ht hW => ⟨⟨0, (), rfl, by first | rw [rChk, if_pos c_1] | rw [rChk, if_neg c_1, if_pos c_6] | rw [rChk, if_neg c_1, if_neg c_6], trivial⟩, hS.F ht⟩) hS.2.2 dX1_check_22
theorem in_r_part : ∀ w ∈ wsX10, w ∈ wsX1_part := fun _ h => List.mem_cons_of_mem _ (List.mem_append_right _ h)
set_option maxHeartbeats 4000000 in
set_option maxRecDepth 100000 in
theorem r_part {l : Launch} {D : va_G} {q b1 : Nat} {k4 : ClassId} {by8 : Nat → Int32} {wd : Nat} {po : Int64} {fi : Int64} {la : Int64} {bi : Int32} {bo : Int32} {nb : Nat} {sz : Nat} (x : Int32) (y : Int32) (hw : wd ≤ 64) (hn : nb ≤ 5000) : Met l yX1_part wsX1_part ({ frames := 5, cells := 0, slots := 0, locals := 121 }) (va_Pc [.ref q, .int x, .int y] (pRO D vwCl (mt k4) (mw q b1 k4 by8 wd po fi la bi bo nb) sz)) (roL sz (rPart nb wd po fi la bi bo by8 x y)) 0 0 (fun q : Nat => sz ≤ q) := by
  refine Met.ofW (cc := cX1_part) (maxL := 3) (ret := (some .long)) (by decide) rfl ?_
  intro p e s m args below meth c s₁ B hml hv
  obtain ⟨rfl, hsz, hP, hK⟩ := hv
  have hsz : s.heap.size = sz := hsz
  have hx := B.exec
  have hb := B.bytes
  have hr := B.returns
  have hts := atoms_spec (ws := wsX1_part) B.pre
  have hown : s.vm.findClass RX1 = some m.cls := findClass_of_methodNamed B.named
  have hlocks := B.notSynchronized
  subst hsz
  have hA : ∀ q : Nat, s.heap.size ≤ q → (fun q : Nat => s.heap.size ≤ q) q := fun _ h => h
  have hS : va_S (fun q : Nat => s.heap.size ≤ q) s.heap s.heap [] := va_S.rf
  have hl := lv_entry ([.ref q, .int x, .int y]) (n := 3) (Nat.le_of_ble_eq_true rfl)
  rw [lg_entry_eq]
  generalize (lg_sl ([.ref q, .int x, .int y]) ++ List.replicate (3 - (lg_sl ([.ref q, .int x, .int y])).length) Slot.unset).toArray = ls at hl ⊢
  have hl : lv_has ls 3 [(0, .ref q), (1, .int x), (2, .int y)] := hl
  suffices key : ∀ (H : Heap) (locs : List Loc), va_P D vwCl (mw q b1 k4 by8 wd po fi la bi bo nb) H → va_S (fun q : Nat => s.heap.size ≤ q) s.heap H locs → W p l e (headSpec wsX1_part { frames := 5, cells := 0, slots := 0, locals := 121 }).room s m ([.ref q, .int x, .int y] : List Value).toArray below meth c H locs 0 0 (MQ below (roL s.heap.size (rPart nb wd po fi la bi bo by8 x y)) ([.ref q, .int x, .int y] : List Value).toArray s 0 0 (fun q : Nat => s.heap.size ≤ q)) (F0 m 0 ls []) from key s.heap [] hP hS
  intro H locs hP hS
  refine lv_iload_n hx hb dX1_part_0 rfl (lv_at hl 1 rfl) ?_
  refine lv_if_lt (tgt := 17) hx hb dX1_part_1 (by decide) (fun c_1 => ?_) (fun c_1 => ?_)
  ·
    refine lv_lconst (v := 0) hx hb dX1_part_17 (by decide) ?_
    refine lv_goto (tgt := 27) hx hb dX1_part_18 (by decide) ?_
    exact W.lret (v := 0) hx hb hr (fun t ht hW => ⟨⟨0, (), rfl, by first | rw [rPart, if_pos c_1] | rw [rPart, if_neg c_1, if_pos c_6] | rw [rPart, if_neg c_1, if_neg c_6, if_pos c_14] | rw [rPart, if_neg c_1, if_neg c_6, if_neg c_14], trivial⟩, hS.F ht⟩) hS.2.2 dX1_part_27
  ·
    refine lv_iload_n hx hb dX1_part_4 rfl (lv_at hl 2 rfl) ?_
    refine lv_iload_n hx hb dX1_part_5 rfl (lv_at hl 1 rfl) ?_
    refine lv_icmp_lt (tgt := 17) hx hb dX1_part_6 (by decide) (fun c_6 => ?_) (fun c_6 => ?_)
    ·
      refine lv_lconst (v := 0) hx hb dX1_part_17 (by decide) ?_
      refine lv_goto (tgt := 27) hx hb dX1_part_18 (by decide) ?_
      exact W.lret (v := 0) hx hb hr (fun t ht hW => ⟨⟨0, (), rfl, by first | rw [rPart, if_pos c_1] | rw [rPart, if_neg c_1, if_pos c_6] | rw [rPart, if_neg c_1, if_neg c_6, if_pos c_14] | rw [rPart, if_neg c_1, if_neg c_6, if_neg c_14], trivial⟩, hS.F ht⟩) hS.2.2 dX1_part_27
    ·
      refine lv_iload_n hx hb dX1_part_9 rfl (lv_at hl 2 rfl) ?_
      refine lv_aload_n hx hb dX1_part_10 rfl (lv_at hl 0 rfl) ?_
      refine va_get (D := D) (ci := 1) (v := .int (nI nb)) (C := RX1) (T := TX1) (N := 8) hx hb hts in_r_part hown hK hP 0 rfl rfl 7 (by decide) (hts (.fieldLink RX1 46 "SliceChecksModel" "count" "I") (by decide +kernel)) (fun _ h9 => h9) rfl dX1_part_11 ?_
      refine lv_icmp_le (tgt := 21) hx hb dX1_part_14 (by decide) (fun c_14 => ?_) (fun c_14 => ?_)
      ·
        have hx1 := du_nn c_1
        have hy1 : ¬ y < 0 := du_nn2 c_1 c_6
        have hy2 := du_nn hy1
        have hy3 : y.toNatClampNeg ≤ nb := du_cle hy1 c_14 (by omega)
        have hx3 : x.toNatClampNeg ≤ y.toNatClampNeg := du_cl2 c_6
        refine lv_aload_n hx hb dX1_part_21 rfl (lv_at hl 0 rfl) ?_
        refine lv_iload_n hx hb dX1_part_22 rfl (lv_at hl 1 rfl) ?_
        refine du_rwi (y := nI x.toNatClampNeg) (hx1) ?_
        refine lv_iload_n hx hb dX1_part_23 rfl (lv_at hl 2 rfl) ?_
        refine du_rwi (y := nI y.toNatClampNeg) (hy2) ?_
        refine ro_l (va_runV (As := [.int (nI x.toNatClampNeg), .int (nI y.toNatClampNeg)]) (rest := []) ⟨hx, hb, hml, hown, hts⟩ (r_over (sz := H.size) x.toNatClampNeg y.toNatClampNeg (hw) (by omega) (by omega)) (cwV 2 hts gX1_part_X1_over rfl rfl rfl (by decide +kernel) ⟨Nat.le_of_ble_eq_true rfl, Nat.le_of_ble_eq_true rfl⟩) (preV_RO hP hK 0 (ci := 1) rfl rfl) rfl rfl hl.1 rfl (lv_room (Nat.le_of_ble_eq_true rfl)) dX1_part_24 ⟨Nat.le_of_ble_eq_true rfl, Nat.le_of_ble_eq_true rfl⟩) hS hA hP (fun H locs hP hS => ?_)
        exact W.lret (v := (rOver wd po fi la bi bo by8 x.toNatClampNeg y.toNatClampNeg)) hx hb hr (fun t ht hW => ⟨⟨(rOver wd po fi la bi bo by8 x.toNatClampNeg y.toNatClampNeg), (), rfl, by first | rw [rPart, if_pos c_1] | rw [rPart, if_neg c_1, if_pos c_6] | rw [rPart, if_neg c_1, if_neg c_6, if_pos c_14] | rw [rPart, if_neg c_1, if_neg c_6, if_neg c_14], trivial⟩, hS.F ht⟩) hS.2.2 dX1_part_27
      ·
        refine lv_lconst (v := 0) hx hb dX1_part_17 (by decide) ?_
        refine lv_goto (tgt := 27) hx hb dX1_part_18 (by decide) ?_
        exact W.lret (v := 0) hx hb hr (fun t ht hW => ⟨⟨0, (), rfl, by first | rw [rPart, if_pos c_1] | rw [rPart, if_neg c_1, if_pos c_6] | rw [rPart, if_neg c_1, if_neg c_6, if_pos c_14] | rw [rPart, if_neg c_1, if_neg c_6, if_neg c_14], trivial⟩, hS.F ht⟩) hS.2.2 dX1_part_27
