/-! Contracts, laid by wip/whole/gen.py. -/
theorem in_c_atTop : ∀ w ∈ wsX00, w ∈ wsX0_atTop := fun _ h => List.mem_cons_of_mem _ (List.mem_append_right _ h)
set_option maxHeartbeats 4000000 in
set_option maxRecDepth 100000 in
theorem c_atTop {l : Launch} {D : va_G} {o a1 a2 a3 : Nat} {k1 k2 k3 : ClassId} {row : Nat → Int64} {dv : Nat → Int64} {sl : Nat → Int64} {nb : Nat} {wd : Nat} {po : Int64} {tp : Int64} {fi : Int64} {la : Int64} {bi : Int32} {bo : Int32} {sz : Nat} (x : Int64)  : Met l yX0_atTop wsX0_atTop ({ frames := 0, cells := 0, slots := 0, locals := 0 }) (va_Pc [.ref o, .long x] (pRO D vwCl (xt k1 k2 k3) (xw o a1 a2 a3 k1 k2 k3 row dv sl nb wd po tp fi la bi bo) sz)) (roL sz (mTop (nI wd) x)) 0 0 (fun q : Nat => sz ≤ q) := by
  refine Met.ofW (cc := cX0_atTop) (maxL := 3) (ret := (some .long)) (by decide) rfl ?_
  intro p e s m args below meth c s₁ B hml hv
  obtain ⟨rfl, hsz, hP, hK⟩ := hv
  have hsz : s.heap.size = sz := hsz
  have hx := B.exec
  have hb := B.bytes
  have hr := B.returns
  have hts := atoms_spec (ws := wsX0_atTop) B.pre
  have hown : s.vm.findClass RX0 = some m.cls := findClass_of_methodNamed B.named
  have hlocks := B.notSynchronized
  subst hsz
  have hA : ∀ q : Nat, s.heap.size ≤ q → (fun q : Nat => s.heap.size ≤ q) q := fun _ h => h
  have hS : va_S (fun q : Nat => s.heap.size ≤ q) s.heap s.heap [] := va_S.rf
  have hl := lv_entry ([.ref o, .long x]) (n := 3) (Nat.le_of_ble_eq_true rfl)
  rw [lg_entry_eq]
  generalize (lg_sl ([.ref o, .long x]) ++ List.replicate (3 - (lg_sl ([.ref o, .long x])).length) Slot.unset).toArray = ls at hl ⊢
  have hl : lv_has ls 3 [(0, .ref o), (1, .long x)] := hl
  suffices key : ∀ (H : Heap) (locs : List Loc), va_P D vwCl (xw o a1 a2 a3 k1 k2 k3 row dv sl nb wd po tp fi la bi bo) H → va_S (fun q : Nat => s.heap.size ≤ q) s.heap H locs → W p l e (headSpec wsX0_atTop { frames := 0, cells := 0, slots := 0, locals := 0 }).room s m ([.ref o, .long x] : List Value).toArray below meth c H locs 0 0 (MQ below (roL s.heap.size (mTop (nI wd) x)) ([.ref o, .long x] : List Value).toArray s 0 0 (fun q : Nat => s.heap.size ≤ q)) (F0 m 0 ls []) from key s.heap [] hP hS
  intro H locs hP hS
  refine lv_lload_n hx hb dX0_atTop_0 rfl (lv_at hl 1 rfl) ?_
  refine lv_bipush (v := 64) hx hb dX0_atTop_1 (by decide) ?_
  refine lv_aload_n hx hb dX0_atTop_3 rfl (lv_at hl 0 rfl) ?_
  refine va_get (D := D) (ci := 0) (v := .int (nI wd)) (C := RX0) (T := TX0) (N := 11) hx hb hts in_c_atTop hown hK hP 0 rfl rfl 4 (by decide) (hts (.fieldLink RX0 34 "SliceChecks" "width" "I") (by decide +kernel)) (fun _ h9 => h9) rfl dX0_atTop_4 ?_
  refine lv_isub hx hb dX0_atTop_7 ?_
  refine lv_lshl (v := jshl x (64 - (nI wd))) hx hb dX0_atTop_8 rfl ?_
  exact W.lret (v := (jshl x (64 - (nI wd)))) hx hb hr (fun t ht hW => ⟨⟨(jshl x (64 - (nI wd))), (), rfl, rfl, trivial⟩, hS.F ht⟩) hS.2.2 dX0_atTop_9
theorem in_c_fromTop : ∀ w ∈ wsX00, w ∈ wsX0_fromTop := fun _ h => List.mem_cons_of_mem _ (List.mem_append_right _ h)
set_option maxHeartbeats 4000000 in
set_option maxRecDepth 100000 in
theorem c_fromTop {l : Launch} {D : va_G} {o a1 a2 a3 : Nat} {k1 k2 k3 : ClassId} {row : Nat → Int64} {dv : Nat → Int64} {sl : Nat → Int64} {nb : Nat} {wd : Nat} {po : Int64} {tp : Int64} {fi : Int64} {la : Int64} {bi : Int32} {bo : Int32} {sz : Nat} (x : Int64)  : Met l yX0_fromTop wsX0_fromTop ({ frames := 0, cells := 0, slots := 0, locals := 0 }) (va_Pc [.ref o, .long x] (pRO D vwCl (xt k1 k2 k3) (xw o a1 a2 a3 k1 k2 k3 row dv sl nb wd po tp fi la bi bo) sz)) (roL sz (mFrom (nI wd) x)) 0 0 (fun q : Nat => sz ≤ q) := by
  refine Met.ofW (cc := cX0_fromTop) (maxL := 3) (ret := (some .long)) (by decide) rfl ?_
  intro p e s m args below meth c s₁ B hml hv
  obtain ⟨rfl, hsz, hP, hK⟩ := hv
  have hsz : s.heap.size = sz := hsz
  have hx := B.exec
  have hb := B.bytes
  have hr := B.returns
  have hts := atoms_spec (ws := wsX0_fromTop) B.pre
  have hown : s.vm.findClass RX0 = some m.cls := findClass_of_methodNamed B.named
  have hlocks := B.notSynchronized
  subst hsz
  have hA : ∀ q : Nat, s.heap.size ≤ q → (fun q : Nat => s.heap.size ≤ q) q := fun _ h => h
  have hS : va_S (fun q : Nat => s.heap.size ≤ q) s.heap s.heap [] := va_S.rf
  have hl := lv_entry ([.ref o, .long x]) (n := 3) (Nat.le_of_ble_eq_true rfl)
  rw [lg_entry_eq]
  generalize (lg_sl ([.ref o, .long x]) ++ List.replicate (3 - (lg_sl ([.ref o, .long x])).length) Slot.unset).toArray = ls at hl ⊢
  have hl : lv_has ls 3 [(0, .ref o), (1, .long x)] := hl
  suffices key : ∀ (H : Heap) (locs : List Loc), va_P D vwCl (xw o a1 a2 a3 k1 k2 k3 row dv sl nb wd po tp fi la bi bo) H → va_S (fun q : Nat => s.heap.size ≤ q) s.heap H locs → W p l e (headSpec wsX0_fromTop { frames := 0, cells := 0, slots := 0, locals := 0 }).room s m ([.ref o, .long x] : List Value).toArray below meth c H locs 0 0 (MQ below (roL s.heap.size (mFrom (nI wd) x)) ([.ref o, .long x] : List Value).toArray s 0 0 (fun q : Nat => s.heap.size ≤ q)) (F0 m 0 ls []) from key s.heap [] hP hS
  intro H locs hP hS
  refine lv_lload_n hx hb dX0_fromTop_0 rfl (lv_at hl 1 rfl) ?_
  refine lv_bipush (v := 64) hx hb dX0_fromTop_1 (by decide) ?_
  refine lv_aload_n hx hb dX0_fromTop_3 rfl (lv_at hl 0 rfl) ?_
  refine va_get (D := D) (ci := 0) (v := .int (nI wd)) (C := RX0) (T := TX0) (N := 11) hx hb hts in_c_fromTop hown hK hP 0 rfl rfl 4 (by decide) (hts (.fieldLink RX0 34 "SliceChecks" "width" "I") (by decide +kernel)) (fun _ h9 => h9) rfl dX0_fromTop_4 ?_
  refine lv_isub hx hb dX0_fromTop_7 ?_
  refine lv_lushr (v := jushr x (64 - (nI wd))) hx hb dX0_fromTop_8 rfl ?_
  exact W.lret (v := (jushr x (64 - (nI wd)))) hx hb hr (fun t ht hW => ⟨⟨(jushr x (64 - (nI wd))), (), rfl, rfl, trivial⟩, hS.F ht⟩) hS.2.2 dX0_fromTop_9
theorem in_c_lowerBits : ∀ w ∈ wsX00, w ∈ wsX0_lowerBits := fun _ h => List.mem_cons_of_mem _ (List.mem_append_right _ h)
set_option maxHeartbeats 4000000 in
set_option maxRecDepth 100000 in
theorem c_lowerBits {l : Launch} {D : va_G} {o a1 a2 a3 : Nat} {k1 k2 k3 : ClassId} {row : Nat → Int64} {dv : Nat → Int64} {sl : Nat → Int64} {nb : Nat} {wd : Nat} {po : Int64} {tp : Int64} {fi : Int64} {la : Int64} {bi : Int32} {bo : Int32} {sz : Nat} (x : Int64)  : Met l yX0_lowerBits wsX0_lowerBits ({ frames := 1, cells := 0, slots := 0, locals := 22 }) (va_Pc [.ref o, .long x] (pRO D vwCl (xt k1 k2 k3) (xw o a1 a2 a3 k1 k2 k3 row dv sl nb wd po tp fi la bi bo) sz)) (roL sz (mLow (nI wd) x)) 0 0 (fun q : Nat => sz ≤ q) := by
  refine Met.ofW (cc := cX0_lowerBits) (maxL := 3) (ret := (some .long)) (by decide) rfl ?_
  intro p e s m args below meth c s₁ B hml hv
  obtain ⟨rfl, hsz, hP, hK⟩ := hv
  have hsz : s.heap.size = sz := hsz
  have hx := B.exec
  have hb := B.bytes
  have hr := B.returns
  have hts := atoms_spec (ws := wsX0_lowerBits) B.pre
  have hown : s.vm.findClass RX0 = some m.cls := findClass_of_methodNamed B.named
  have hlocks := B.notSynchronized
  subst hsz
  have hA : ∀ q : Nat, s.heap.size ≤ q → (fun q : Nat => s.heap.size ≤ q) q := fun _ h => h
  have hS : va_S (fun q : Nat => s.heap.size ≤ q) s.heap s.heap [] := va_S.rf
  have hl := lv_entry ([.ref o, .long x]) (n := 3) (Nat.le_of_ble_eq_true rfl)
  rw [lg_entry_eq]
  generalize (lg_sl ([.ref o, .long x]) ++ List.replicate (3 - (lg_sl ([.ref o, .long x])).length) Slot.unset).toArray = ls at hl ⊢
  have hl : lv_has ls 3 [(0, .ref o), (1, .long x)] := hl
  suffices key : ∀ (H : Heap) (locs : List Loc), va_P D vwCl (xw o a1 a2 a3 k1 k2 k3 row dv sl nb wd po tp fi la bi bo) H → va_S (fun q : Nat => s.heap.size ≤ q) s.heap H locs → W p l e (headSpec wsX0_lowerBits { frames := 1, cells := 0, slots := 0, locals := 22 }).room s m ([.ref o, .long x] : List Value).toArray below meth c H locs 0 0 (MQ below (roL s.heap.size (mLow (nI wd) x)) ([.ref o, .long x] : List Value).toArray s 0 0 (fun q : Nat => s.heap.size ≤ q)) (F0 m 0 ls []) from key s.heap [] hP hS
  intro H locs hP hS
  refine lv_aload_n hx hb dX0_lowerBits_0 rfl (lv_at hl 0 rfl) ?_
  refine lv_aload_n hx hb dX0_lowerBits_1 rfl (lv_at hl 0 rfl) ?_
  refine lv_lload_n hx hb dX0_lowerBits_2 rfl (lv_at hl 1 rfl) ?_
  refine ro_l (va_runV (As := [.long x]) (rest := [.ref o]) ⟨hx, hb, hml, hown, hts⟩ (c_atTop (sz := H.size) x) (cwV 1 hts gX0_lowerBits_X0_atTop rfl rfl rfl (by decide +kernel) ⟨Nat.le_of_ble_eq_true rfl, Nat.le_of_ble_eq_true rfl⟩) (preV_RO hP hK 0 (ci := 0) rfl rfl) rfl rfl hl.1 rfl (lv_room (Nat.le_of_ble_eq_true rfl)) dX0_lowerBits_3 ⟨Nat.le_of_ble_eq_true rfl, Nat.le_of_ble_eq_true rfl⟩) hS hA hP (fun H locs hP hS => ?_)
  refine ro_l (va_runV (As := [.long (mTop (nI wd) x)]) (rest := []) ⟨hx, hb, hml, hown, hts⟩ (c_fromTop (sz := H.size) (mTop (nI wd) x)) (cwV 1 hts gX0_lowerBits_X0_fromTop rfl rfl rfl (by decide +kernel) ⟨Nat.le_of_ble_eq_true rfl, Nat.le_of_ble_eq_true rfl⟩) (preV_RO hP hK 0 (ci := 0) rfl rfl) rfl rfl hl.1 rfl (lv_room (Nat.le_of_ble_eq_true rfl)) dX0_lowerBits_6 ⟨Nat.le_of_ble_eq_true rfl, Nat.le_of_ble_eq_true rfl⟩) hS hA hP (fun H locs hP hS => ?_)
  exact W.lret (v := (mFrom (nI wd) (mTop (nI wd) x))) hx hb hr (fun t ht hW => ⟨⟨(mFrom (nI wd) (mTop (nI wd) x)), (), rfl, rfl, trivial⟩, hS.F ht⟩) hS.2.2 dX0_lowerBits_9
set_option maxHeartbeats 4000000 in
set_option maxRecDepth 100000 in
theorem c_turned {l : Launch} {sz : Nat} (x : Int64) (b : Int32)  : Met l yX0_turned wsX0_turned ({ frames := 0, cells := 0, slots := 0, locals := 0 }) (va_Pc [.long x, .int b] (pST sz)) (roL sz (mTurned x b)) 0 0 (fun q : Nat => sz ≤ q) := by
  refine Met.ofW (cc := cX0_turned) (maxL := 6) (ret := (some .long)) (by decide) rfl ?_
  intro p e s m args below meth c s₁ B hml hv
  obtain ⟨rfl, hsz⟩ := hv
  have hsz : s.heap.size = sz := hsz
  have hx := B.exec
  have hb := B.bytes
  have hr := B.returns
  have hts := atoms_spec (ws := wsX0_turned) B.pre
  have hown : s.vm.findClass RX0 = some m.cls := findClass_of_methodNamed B.named
  have hlocks := B.notSynchronized
  subst hsz
  have hA : ∀ q : Nat, s.heap.size ≤ q → (fun q : Nat => s.heap.size ≤ q) q := fun _ h => h
  have hS : va_S (fun q : Nat => s.heap.size ≤ q) s.heap s.heap [] := va_S.rf
  have hl := lv_entry ([.long x, .int b]) (n := 6) (Nat.le_of_ble_eq_true rfl)
  rw [lg_entry_eq]
  generalize (lg_sl ([.long x, .int b]) ++ List.replicate (6 - (lg_sl ([.long x, .int b])).length) Slot.unset).toArray = ls at hl ⊢
  have hl : lv_has ls 6 [(0, .long x), (2, .int b)] := hl
  suffices key : ∀ (H : Heap) (locs : List Loc), va_S (fun q : Nat => s.heap.size ≤ q) s.heap H locs → W p l e (headSpec wsX0_turned { frames := 0, cells := 0, slots := 0, locals := 0 }).room s m ([.long x, .int b] : List Value).toArray below meth c H locs 0 0 (MQ below (roL s.heap.size (mTurned x b)) ([.long x, .int b] : List Value).toArray s 0 0 (fun q : Nat => s.heap.size ≤ q)) (F0 m 0 ls []) from key s.heap [] hS
  intro H locs hS
  refine lv_lconst (v := 0) hx hb dX0_turned_0 (by decide) ?_
  refine lv_lstore_n (lv' := [(3, .long 0), (0, .long x), (2, .int b)]) hx hb dX0_turned_1 rfl hl (by decide) rfl (fun ls hl => ?_)
  refine lv_iconst (v := 0) hx hb dX0_turned_2 (by decide) ?_
  refine lv_istore (lv' := [(5, .int 0), (3, .long 0), (0, .long x), (2, .int b)]) hx hb dX0_turned_3 hl (by decide) rfl (fun ls hl => ?_)
  have lp_5 : ∀ (k i : Nat), i ≤ b.toNatClampNeg → b.toNatClampNeg < i + k → ∀ (H : Heap) (locs : List Loc), va_S (fun q : Nat => s.heap.size ≤ q) s.heap H locs → ∀ ls : Array Slot, lv_has ls 6 [(5, .int (nI i)), (3, .long (mTuN x i)), (0, .long x), (2, .int b)] → W p l e (headSpec wsX0_turned { frames := 0, cells := 0, slots := 0, locals := 0 }).room s m ([.long x, .int b] : List Value).toArray below meth c H locs 0 0 (MQ below (roL s.heap.size (mTurned x b)) ([.long x, .int b] : List Value).toArray s 0 0 (fun q : Nat => s.heap.size ≤ q)) (F0 m 5 ls []) := by
    intro k
    induction k with
    | zero =>
      intro i h1 h2
      exact absurd h2 (by omega)
    | succ k ih =>
      intro i hi hk H locs hS ls hl
      refine lv_iload hx hb dX0_turned_5 (lv_at hl 0 rfl) ?_
      refine lv_iload_n hx hb dX0_turned_7 rfl (lv_at hl 3 rfl) ?_
      refine lv_icmp_ge (tgt := 28) hx hb dX0_turned_8 (by decide) (fun c_8 => ?_) (fun c_8 => ?_)
      ·
        have hiN := du_ex hi c_8
        refine lv_lload_n hx hb dX0_turned_28 rfl (lv_at hl 1 rfl) ?_
        exact W.lret (v := (mTuN x i)) hx hb hr (fun t ht hW => ⟨⟨(mTuN x i), (), rfl, by subst hiN; rfl, trivial⟩, hS.F ht⟩) hS.2.2 dX0_turned_29
      ·
        have hlt := du_st hi c_8
        refine lv_lload_n hx hb dX0_turned_11 rfl (lv_at hl 1 rfl) ?_
        refine lv_iconst (v := 1) hx hb dX0_turned_12 (by decide) ?_
        refine lv_lshl (v := jshl (mTuN x i) 1) hx hb dX0_turned_13 rfl ?_
        refine lv_lload_n hx hb dX0_turned_14 rfl (lv_at hl 2 rfl) ?_
        refine lv_iload hx hb dX0_turned_15 (lv_at hl 0 rfl) ?_
        refine lv_lushr (v := jushr x (nI i)) hx hb dX0_turned_17 rfl ?_
        refine lv_lconst (v := 1) hx hb dX0_turned_18 (by decide) ?_
        refine lv_land hx hb dX0_turned_19 ?_
        refine lv_lor hx hb dX0_turned_20 ?_
        refine du_rwl (y := mTuN x (i + 1)) (rfl) ?_
        refine lv_lstore_n (lv' := [(3, .long (mTuN x (i + 1))), (5, .int (nI i)), (0, .long x), (2, .int b)]) hx hb dX0_turned_21 rfl hl (by decide) rfl (fun ls hl => ?_)
        refine lv_iinc (v := nI (i + 1)) (lv' := [(5, .int (nI (i + 1))), (3, .long (mTuN x (i + 1))), (0, .long x), (2, .int b)]) hx hb dX0_turned_22 hl (k := 1) rfl (nI_1 i) (by decide) rfl (fun ls hl => ?_)
        refine lv_goto (tgt := 5) hx hb dX0_turned_25 (by decide) ?_
        exact ih (i + 1) (by omega) (by omega) H locs hS ls (lv_sub hl [0, 1, 2, 3] rfl)
  exact lp_5 (b.toNatClampNeg + 1 - 0) 0 (by omega) (by omega) H locs hS ls (lv_sub hl [0, 1, 2, 3] rfl)
theorem in_c_checkOf : ∀ w ∈ wsX00, w ∈ wsX0_checkOf := fun _ h => List.mem_cons_of_mem _ (List.mem_append_right _ h)
set_option maxHeartbeats 4000000 in
set_option maxRecDepth 100000 in
theorem c_checkOf {l : Launch} {D : va_G} {o a1 a2 a3 : Nat} {k1 k2 k3 : ClassId} {row : Nat → Int64} {dv : Nat → Int64} {sl : Nat → Int64} {nb : Nat} {wd : Nat} {po : Int64} {tp : Int64} {fi : Int64} {la : Int64} {bi : Int32} {bo : Int32} {sz : Nat} (x : Int64)  : Met l yX0_checkOf wsX0_checkOf ({ frames := 1, cells := 0, slots := 0, locals := 25 }) (va_Pc [.ref o, .long x] (pRO D vwCl (xt k1 k2 k3) (xw o a1 a2 a3 k1 k2 k3 row dv sl nb wd po tp fi la bi bo) sz)) (roL sz (mCheck (nI wd) bo la x)) 0 0 (fun q : Nat => sz ≤ q) := by
  refine Met.ofW (cc := cX0_checkOf) (maxL := 5) (ret := (some .long)) (by decide) rfl ?_
  intro p e s m args below meth c s₁ B hml hv
  obtain ⟨rfl, hsz, hP, hK⟩ := hv
  have hsz : s.heap.size = sz := hsz
  have hx := B.exec
  have hb := B.bytes
  have hr := B.returns
  have hts := atoms_spec (ws := wsX0_checkOf) B.pre
  have hown : s.vm.findClass RX0 = some m.cls := findClass_of_methodNamed B.named
  have hlocks := B.notSynchronized
  subst hsz
  have hA : ∀ q : Nat, s.heap.size ≤ q → (fun q : Nat => s.heap.size ≤ q) q := fun _ h => h
  have hS : va_S (fun q : Nat => s.heap.size ≤ q) s.heap s.heap [] := va_S.rf
  have hl := lv_entry ([.ref o, .long x]) (n := 5) (Nat.le_of_ble_eq_true rfl)
  rw [lg_entry_eq]
  generalize (lg_sl ([.ref o, .long x]) ++ List.replicate (5 - (lg_sl ([.ref o, .long x])).length) Slot.unset).toArray = ls at hl ⊢
  have hl : lv_has ls 5 [(0, .ref o), (1, .long x)] := hl
  suffices key : ∀ (H : Heap) (locs : List Loc), va_P D vwCl (xw o a1 a2 a3 k1 k2 k3 row dv sl nb wd po tp fi la bi bo) H → va_S (fun q : Nat => s.heap.size ≤ q) s.heap H locs → W p l e (headSpec wsX0_checkOf { frames := 1, cells := 0, slots := 0, locals := 25 }).room s m ([.ref o, .long x] : List Value).toArray below meth c H locs 0 0 (MQ below (roL s.heap.size (mCheck (nI wd) bo la x)) ([.ref o, .long x] : List Value).toArray s 0 0 (fun q : Nat => s.heap.size ≤ q)) (F0 m 0 ls []) from key s.heap [] hP hS
  intro H locs hP hS
  refine lv_aload_n hx hb dX0_checkOf_0 rfl (lv_at hl 0 rfl) ?_
  refine lv_lload_n hx hb dX0_checkOf_1 rfl (lv_at hl 1 rfl) ?_
  refine ro_l (va_runV (As := [.long x]) (rest := []) ⟨hx, hb, hml, hown, hts⟩ (c_fromTop (sz := H.size) x) (cwV 1 hts gX0_checkOf_X0_fromTop rfl rfl rfl (by decide +kernel) ⟨Nat.le_of_ble_eq_true rfl, Nat.le_of_ble_eq_true rfl⟩) (preV_RO hP hK 0 (ci := 0) rfl rfl) rfl rfl hl.1 rfl (lv_room (Nat.le_of_ble_eq_true rfl)) dX0_checkOf_2 ⟨Nat.le_of_ble_eq_true rfl, Nat.le_of_ble_eq_true rfl⟩) hS hA hP (fun H locs hP hS => ?_)
  refine lv_lstore_n (lv' := [(3, .long (mFrom (nI wd) x)), (0, .ref o), (1, .long x)]) hx hb dX0_checkOf_5 rfl hl (by decide) rfl (fun ls hl => ?_)
  refine lv_aload_n hx hb dX0_checkOf_6 rfl (lv_at hl 1 rfl) ?_
  refine va_get (D := D) (ci := 0) (v := .int bo) (C := RX0) (T := TX0) (N := 11) hx hb hts in_c_checkOf hown hK hP 0 rfl rfl 10 (by decide) (hts (.fieldLink RX0 55 "SliceChecks" "out" "Z") (by decide +kernel)) (fun _ h9 => h9) rfl dX0_checkOf_7 ?_
  refine lv_if_eq (tgt := 24) hx hb dX0_checkOf_10 (by decide) (fun c_10 => ?_) (fun c_10 => ?_)
  ·
    refine lv_lload_n hx hb dX0_checkOf_24 rfl (lv_at hl 0 rfl) ?_
    refine lv_aload_n hx hb dX0_checkOf_25 rfl (lv_at hl 1 rfl) ?_
    refine va_get (D := D) (ci := 0) (v := .long la) (C := RX0) (T := TX0) (N := 11) hx hb hts in_c_checkOf hown hK hP 0 rfl rfl 8 (by decide) (hts (.fieldLink RX0 58 "SliceChecks" "last" "J") (by decide +kernel)) (fun _ h9 => h9) rfl dX0_checkOf_26 ?_
    refine lv_lxor hx hb dX0_checkOf_29 ?_
    exact W.lret (v := ((mFrom (nI wd) x) ^^^ la)) hx hb hr (fun t ht hW => ⟨⟨((mFrom (nI wd) x) ^^^ la), (), rfl, by first | rw [mCheck, if_pos c_10] | rw [mCheck, if_neg c_10], trivial⟩, hS.F ht⟩) hS.2.2 dX0_checkOf_30
  ·
    refine lv_lload_n hx hb dX0_checkOf_13 rfl (lv_at hl 0 rfl) ?_
    refine lv_aload_n hx hb dX0_checkOf_14 rfl (lv_at hl 1 rfl) ?_
    refine va_get (D := D) (ci := 0) (v := .int (nI wd)) (C := RX0) (T := TX0) (N := 11) hx hb hts in_c_checkOf hown hK hP 0 rfl rfl 4 (by decide) (hts (.fieldLink RX0 34 "SliceChecks" "width" "I") (by decide +kernel)) (fun _ h9 => h9) rfl dX0_checkOf_15 ?_
    refine ro_l (va_runS (As := [.long (mFrom (nI wd) x), .int (nI wd)]) (rest := []) ⟨hx, hb, hml, hown, hts⟩ (c_turned (sz := H.size) (mFrom (nI wd) x) (nI wd)) (va_cwS 2 hts gX0_checkOf_X0_turned rfl rfl rfl (by decide +kernel) ⟨Nat.le_of_ble_eq_true rfl, Nat.le_of_ble_eq_true rfl⟩) preS_ST rfl rfl hl.1 rfl (lv_room (Nat.le_of_ble_eq_true rfl)) dX0_checkOf_18 ⟨Nat.le_of_ble_eq_true rfl, Nat.le_of_ble_eq_true rfl⟩) hS hA hP (fun H locs hP hS => ?_)
    refine lv_goto (tgt := 25) hx hb dX0_checkOf_21 (by decide) ?_
    refine lv_aload_n hx hb dX0_checkOf_25 rfl (lv_at hl 1 rfl) ?_
    refine va_get (D := D) (ci := 0) (v := .long la) (C := RX0) (T := TX0) (N := 11) hx hb hts in_c_checkOf hown hK hP 0 rfl rfl 8 (by decide) (hts (.fieldLink RX0 58 "SliceChecks" "last" "J") (by decide +kernel)) (fun _ h9 => h9) rfl dX0_checkOf_26 ?_
    refine lv_lxor hx hb dX0_checkOf_29 ?_
    exact W.lret (v := ((mTurned (mFrom (nI wd) x) (nI wd)) ^^^ la)) hx hb hr (fun t ht hW => ⟨⟨((mTurned (mFrom (nI wd) x) (nI wd)) ^^^ la), (), rfl, by first | rw [mCheck, if_pos c_10] | rw [mCheck, if_neg c_10], trivial⟩, hS.F ht⟩) hS.2.2 dX0_checkOf_30
theorem in_c_registerOf : ∀ w ∈ wsX00, w ∈ wsX0_registerOf := fun _ h => List.mem_cons_of_mem _ (List.mem_append_right _ h)
set_option maxHeartbeats 4000000 in
set_option maxRecDepth 100000 in
theorem c_registerOf {l : Launch} {D : va_G} {o a1 a2 a3 : Nat} {k1 k2 k3 : ClassId} {row : Nat → Int64} {dv : Nat → Int64} {sl : Nat → Int64} {nb : Nat} {wd : Nat} {po : Int64} {tp : Int64} {fi : Int64} {la : Int64} {bi : Int32} {bo : Int32} {sz : Nat} (x : Int64)  : Met l yX0_registerOf wsX0_registerOf ({ frames := 1, cells := 0, slots := 0, locals := 25 }) (va_Pc [.ref o, .long x] (pRO D vwCl (xt k1 k2 k3) (xw o a1 a2 a3 k1 k2 k3 row dv sl nb wd po tp fi la bi bo) sz)) (roL sz (mReg (nI wd) bo la x)) 0 0 (fun q : Nat => sz ≤ q) := by
  refine Met.ofW (cc := cX0_registerOf) (maxL := 5) (ret := (some .long)) (by decide) rfl ?_
  intro p e s m args below meth c s₁ B hml hv
  obtain ⟨rfl, hsz, hP, hK⟩ := hv
  have hsz : s.heap.size = sz := hsz
  have hx := B.exec
  have hb := B.bytes
  have hr := B.returns
  have hts := atoms_spec (ws := wsX0_registerOf) B.pre
  have hown : s.vm.findClass RX0 = some m.cls := findClass_of_methodNamed B.named
  have hlocks := B.notSynchronized
  subst hsz
  have hA : ∀ q : Nat, s.heap.size ≤ q → (fun q : Nat => s.heap.size ≤ q) q := fun _ h => h
  have hS : va_S (fun q : Nat => s.heap.size ≤ q) s.heap s.heap [] := va_S.rf
  have hl := lv_entry ([.ref o, .long x]) (n := 5) (Nat.le_of_ble_eq_true rfl)
  rw [lg_entry_eq]
  generalize (lg_sl ([.ref o, .long x]) ++ List.replicate (5 - (lg_sl ([.ref o, .long x])).length) Slot.unset).toArray = ls at hl ⊢
  have hl : lv_has ls 5 [(0, .ref o), (1, .long x)] := hl
  suffices key : ∀ (H : Heap) (locs : List Loc), va_P D vwCl (xw o a1 a2 a3 k1 k2 k3 row dv sl nb wd po tp fi la bi bo) H → va_S (fun q : Nat => s.heap.size ≤ q) s.heap H locs → W p l e (headSpec wsX0_registerOf { frames := 1, cells := 0, slots := 0, locals := 25 }).room s m ([.ref o, .long x] : List Value).toArray below meth c H locs 0 0 (MQ below (roL s.heap.size (mReg (nI wd) bo la x)) ([.ref o, .long x] : List Value).toArray s 0 0 (fun q : Nat => s.heap.size ≤ q)) (F0 m 0 ls []) from key s.heap [] hP hS
  intro H locs hP hS
  refine lv_lload_n hx hb dX0_registerOf_0 rfl (lv_at hl 1 rfl) ?_
  refine lv_aload_n hx hb dX0_registerOf_1 rfl (lv_at hl 0 rfl) ?_
  refine va_get (D := D) (ci := 0) (v := .long la) (C := RX0) (T := TX0) (N := 11) hx hb hts in_c_registerOf hown hK hP 0 rfl rfl 8 (by decide) (hts (.fieldLink RX0 58 "SliceChecks" "last" "J") (by decide +kernel)) (fun _ h9 => h9) rfl dX0_registerOf_2 ?_
  refine lv_lxor hx hb dX0_registerOf_5 ?_
  refine lv_lstore_n (lv' := [(3, .long (x ^^^ la)), (0, .ref o), (1, .long x)]) hx hb dX0_registerOf_6 rfl hl (by decide) rfl (fun ls hl => ?_)
  refine lv_aload_n hx hb dX0_registerOf_7 rfl (lv_at hl 1 rfl) ?_
  refine lv_aload_n hx hb dX0_registerOf_8 rfl (lv_at hl 1 rfl) ?_
  refine va_get (D := D) (ci := 0) (v := .int bo) (C := RX0) (T := TX0) (N := 11) hx hb hts in_c_registerOf hown hK hP 0 rfl rfl 10 (by decide) (hts (.fieldLink RX0 55 "SliceChecks" "out" "Z") (by decide +kernel)) (fun _ h9 => h9) rfl dX0_registerOf_9 ?_
  refine lv_if_eq (tgt := 26) hx hb dX0_registerOf_12 (by decide) (fun c_12 => ?_) (fun c_12 => ?_)
  ·
    refine lv_lload_n hx hb dX0_registerOf_26 rfl (lv_at hl 0 rfl) ?_
    refine ro_l (va_runV (As := [.long (x ^^^ la)]) (rest := []) ⟨hx, hb, hml, hown, hts⟩ (c_atTop (sz := H.size) (x ^^^ la)) (cwV 1 hts gX0_registerOf_X0_atTop rfl rfl rfl (by decide +kernel) ⟨Nat.le_of_ble_eq_true rfl, Nat.le_of_ble_eq_true rfl⟩) (preV_RO hP hK 0 (ci := 0) rfl rfl) rfl rfl hl.1 rfl (lv_room (Nat.le_of_ble_eq_true rfl)) dX0_registerOf_27 ⟨Nat.le_of_ble_eq_true rfl, Nat.le_of_ble_eq_true rfl⟩) hS hA hP (fun H locs hP hS => ?_)
    exact W.lret (v := (mTop (nI wd) (x ^^^ la))) hx hb hr (fun t ht hW => ⟨⟨(mTop (nI wd) (x ^^^ la)), (), rfl, by first | rw [mReg, if_pos c_12] | rw [mReg, if_neg c_12], trivial⟩, hS.F ht⟩) hS.2.2 dX0_registerOf_30
  ·
    refine lv_lload_n hx hb dX0_registerOf_15 rfl (lv_at hl 0 rfl) ?_
    refine lv_aload_n hx hb dX0_registerOf_16 rfl (lv_at hl 1 rfl) ?_
    refine va_get (D := D) (ci := 0) (v := .int (nI wd)) (C := RX0) (T := TX0) (N := 11) hx hb hts in_c_registerOf hown hK hP 0 rfl rfl 4 (by decide) (hts (.fieldLink RX0 34 "SliceChecks" "width" "I") (by decide +kernel)) (fun _ h9 => h9) rfl dX0_registerOf_17 ?_
    refine ro_l (va_runS (As := [.long (x ^^^ la), .int (nI wd)]) (rest := [.ref o]) ⟨hx, hb, hml, hown, hts⟩ (c_turned (sz := H.size) (x ^^^ la) (nI wd)) (va_cwS 2 hts gX0_registerOf_X0_turned rfl rfl rfl (by decide +kernel) ⟨Nat.le_of_ble_eq_true rfl, Nat.le_of_ble_eq_true rfl⟩) preS_ST rfl rfl hl.1 rfl (lv_room (Nat.le_of_ble_eq_true rfl)) dX0_registerOf_20 ⟨Nat.le_of_ble_eq_true rfl, Nat.le_of_ble_eq_true rfl⟩) hS hA hP (fun H locs hP hS => ?_)
    refine lv_goto (tgt := 27) hx hb dX0_registerOf_23 (by decide) ?_
    refine ro_l (va_runV (As := [.long (mTurned (x ^^^ la) (nI wd))]) (rest := []) ⟨hx, hb, hml, hown, hts⟩ (c_atTop (sz := H.size) (mTurned (x ^^^ la) (nI wd))) (cwV 1 hts gX0_registerOf_X0_atTop rfl rfl rfl (by decide +kernel) ⟨Nat.le_of_ble_eq_true rfl, Nat.le_of_ble_eq_true rfl⟩) (preV_RO hP hK 0 (ci := 0) rfl rfl) rfl rfl hl.1 rfl (lv_room (Nat.le_of_ble_eq_true rfl)) dX0_registerOf_27 ⟨Nat.le_of_ble_eq_true rfl, Nat.le_of_ble_eq_true rfl⟩) hS hA hP (fun H locs hP hS => ?_)
    exact W.lret (v := (mTop (nI wd) (mTurned (x ^^^ la) (nI wd)))) hx hb hr (fun t ht hW => ⟨⟨(mTop (nI wd) (mTurned (x ^^^ la) (nI wd))), (), rfl, by first | rw [mReg, if_pos c_12] | rw [mReg, if_neg c_12], trivial⟩, hS.F ht⟩) hS.2.2 dX0_registerOf_30
theorem in_c_behindBit : ∀ w ∈ wsX00, w ∈ wsX0_behindBit := fun _ h => List.mem_cons_of_mem _ (List.mem_append_right _ h)
set_option maxHeartbeats 4000000 in
set_option maxRecDepth 100000 in
theorem c_behindBit {l : Launch} {D : va_G} {o a1 a2 a3 : Nat} {k1 k2 k3 : ClassId} {row : Nat → Int64} {dv : Nat → Int64} {sl : Nat → Int64} {nb : Nat} {wd : Nat} {po : Int64} {tp : Int64} {fi : Int64} {la : Int64} {bi : Int32} {bo : Int32} {sz : Nat} (x : Int64) (b : Int32)  : Met l yX0_behindBit wsX0_behindBit ({ frames := 0, cells := 0, slots := 0, locals := 0 }) (va_Pc [.ref o, .long x, .int b] (pRO D vwCl (xt k1 k2 k3) (xw o a1 a2 a3 k1 k2 k3 row dv sl nb wd po tp fi la bi bo) sz)) (roL sz (mBit tp x b)) 0 0 (fun q : Nat => sz ≤ q) := by
  refine Met.ofW (cc := cX0_behindBit) (maxL := 6) (ret := (some .long)) (by decide) rfl ?_
  intro p e s m args below meth c s₁ B hml hv
  obtain ⟨rfl, hsz, hP, hK⟩ := hv
  have hsz : s.heap.size = sz := hsz
  have hx := B.exec
  have hb := B.bytes
  have hr := B.returns
  have hts := atoms_spec (ws := wsX0_behindBit) B.pre
  have hown : s.vm.findClass RX0 = some m.cls := findClass_of_methodNamed B.named
  have hlocks := B.notSynchronized
  subst hsz
  have hA : ∀ q : Nat, s.heap.size ≤ q → (fun q : Nat => s.heap.size ≤ q) q := fun _ h => h
  have hS : va_S (fun q : Nat => s.heap.size ≤ q) s.heap s.heap [] := va_S.rf
  have hl := lv_entry ([.ref o, .long x, .int b]) (n := 6) (Nat.le_of_ble_eq_true rfl)
  rw [lg_entry_eq]
  generalize (lg_sl ([.ref o, .long x, .int b]) ++ List.replicate (6 - (lg_sl ([.ref o, .long x, .int b])).length) Slot.unset).toArray = ls at hl ⊢
  have hl : lv_has ls 6 [(0, .ref o), (1, .long x), (3, .int b)] := hl
  suffices key : ∀ (H : Heap) (locs : List Loc), va_P D vwCl (xw o a1 a2 a3 k1 k2 k3 row dv sl nb wd po tp fi la bi bo) H → va_S (fun q : Nat => s.heap.size ≤ q) s.heap H locs → W p l e (headSpec wsX0_behindBit { frames := 0, cells := 0, slots := 0, locals := 0 }).room s m ([.ref o, .long x, .int b] : List Value).toArray below meth c H locs 0 0 (MQ below (roL s.heap.size (mBit tp x b)) ([.ref o, .long x, .int b] : List Value).toArray s 0 0 (fun q : Nat => s.heap.size ≤ q)) (F0 m 0 ls []) from key s.heap [] hP hS
  intro H locs hP hS
  refine lv_lload_n hx hb dX0_behindBit_0 rfl (lv_at hl 1 rfl) ?_
  refine lv_iconst (v := 1) hx hb dX0_behindBit_1 (by decide) ?_
  refine lv_lshl (v := jshl x 1) hx hb dX0_behindBit_2 rfl ?_
  refine lv_lstore (lv' := [(4, .long (jshl x 1)), (0, .ref o), (1, .long x), (3, .int b)]) hx hb dX0_behindBit_3 hl (by decide) rfl (fun ls hl => ?_)
  refine lv_lload_n hx hb dX0_behindBit_5 rfl (lv_at hl 2 rfl) ?_
  refine lv_bipush (v := 63) hx hb dX0_behindBit_6 (by decide) ?_
  refine lv_lushr (v := jushr x 63) hx hb dX0_behindBit_8 rfl ?_
  refine lv_iload_n hx hb dX0_behindBit_9 rfl (lv_at hl 3 rfl) ?_
  refine lv_i2l (v := b.toInt64) hx hb dX0_behindBit_10 rfl ?_
  refine W.lcmp hx hb dX0_behindBit_11 ?_
  refine lv_if_eq (tgt := 25) hx hb dX0_behindBit_12 (by decide) (fun c_12 => ?_) (fun c_12 => ?_)
  ·
    refine lv_lload hx hb dX0_behindBit_25 (lv_at hl 0 rfl) ?_
    exact W.lret (v := (jshl x 1)) hx hb hr (fun t ht hW => ⟨⟨(jshl x 1), (), rfl, by first | rw [mBit, if_pos c_12] | rw [mBit, if_neg c_12], trivial⟩, hS.F ht⟩) hS.2.2 dX0_behindBit_27
  ·
    refine lv_lload hx hb dX0_behindBit_15 (lv_at hl 0 rfl) ?_
    refine lv_aload_n hx hb dX0_behindBit_17 rfl (lv_at hl 1 rfl) ?_
    refine va_get (D := D) (ci := 0) (v := .long tp) (C := RX0) (T := TX0) (N := 11) hx hb hts in_c_behindBit hown hK hP 0 rfl rfl 6 (by decide) (hts (.fieldLink RX0 49 "SliceChecks" "topPolynomial" "J") (by decide +kernel)) (fun _ h9 => h9) rfl dX0_behindBit_18 ?_
    refine lv_lxor hx hb dX0_behindBit_21 ?_
    refine lv_goto (tgt := 27) hx hb dX0_behindBit_22 (by decide) ?_
    exact W.lret (v := ((jshl x 1) ^^^ tp)) hx hb hr (fun t ht hW => ⟨⟨((jshl x 1) ^^^ tp), (), rfl, by first | rw [mBit, if_pos c_12] | rw [mBit, if_neg c_12], trivial⟩, hS.F ht⟩) hS.2.2 dX0_behindBit_27
theorem in_c_behindByte : ∀ w ∈ wsX00, w ∈ wsX0_behindByte := fun _ h => List.mem_cons_of_mem _ (List.mem_append_right _ h)
set_option maxHeartbeats 4000000 in
set_option maxRecDepth 100000 in
theorem c_behindByte {l : Launch} {D : va_G} {o a1 a2 a3 : Nat} {k1 k2 k3 : ClassId} {row : Nat → Int64} {dv : Nat → Int64} {sl : Nat → Int64} {nb : Nat} {wd : Nat} {po : Int64} {tp : Int64} {fi : Int64} {la : Int64} {bi : Int32} {bo : Int32} {sz : Nat} (x : Int64) (b : Int32)  : Met l yX0_behindByte wsX0_behindByte ({ frames := 1, cells := 0, slots := 0, locals := 25 }) (va_Pc [.ref o, .long x, .int b] (pRO D vwCl (xt k1 k2 k3) (xw o a1 a2 a3 k1 k2 k3 row dv sl nb wd po tp fi la bi bo) sz)) (roL sz (mByte tp x b)) 0 0 (fun q : Nat => sz ≤ q) := by
  refine Met.ofW (cc := cX0_behindByte) (maxL := 7) (ret := (some .long)) (by decide) rfl ?_
  intro p e s m args below meth c s₁ B hml hv
  obtain ⟨rfl, hsz, hP, hK⟩ := hv
  have hsz : s.heap.size = sz := hsz
  have hx := B.exec
  have hb := B.bytes
  have hr := B.returns
  have hts := atoms_spec (ws := wsX0_behindByte) B.pre
  have hown : s.vm.findClass RX0 = some m.cls := findClass_of_methodNamed B.named
  have hlocks := B.notSynchronized
  subst hsz
  have hA : ∀ q : Nat, s.heap.size ≤ q → (fun q : Nat => s.heap.size ≤ q) q := fun _ h => h
  have hS : va_S (fun q : Nat => s.heap.size ≤ q) s.heap s.heap [] := va_S.rf
  have hl := lv_entry ([.ref o, .long x, .int b]) (n := 7) (Nat.le_of_ble_eq_true rfl)
  rw [lg_entry_eq]
  generalize (lg_sl ([.ref o, .long x, .int b]) ++ List.replicate (7 - (lg_sl ([.ref o, .long x, .int b])).length) Slot.unset).toArray = ls at hl ⊢
  have hl : lv_has ls 7 [(0, .ref o), (1, .long x), (3, .int b)] := hl
  suffices key : ∀ (H : Heap) (locs : List Loc), va_P D vwCl (xw o a1 a2 a3 k1 k2 k3 row dv sl nb wd po tp fi la bi bo) H → va_S (fun q : Nat => s.heap.size ≤ q) s.heap H locs → W p l e (headSpec wsX0_behindByte { frames := 1, cells := 0, slots := 0, locals := 25 }).room s m ([.ref o, .long x, .int b] : List Value).toArray below meth c H locs 0 0 (MQ below (roL s.heap.size (mByte tp x b)) ([.ref o, .long x, .int b] : List Value).toArray s 0 0 (fun q : Nat => s.heap.size ≤ q)) (F0 m 0 ls []) from key s.heap [] hP hS
  intro H locs hP hS
  refine lv_lload_n hx hb dX0_behindByte_0 rfl (lv_at hl 1 rfl) ?_
  refine lv_lstore (lv' := [(4, .long x), (0, .ref o), (1, .long x), (3, .int b)]) hx hb dX0_behindByte_1 hl (by decide) rfl (fun ls hl => ?_)
  refine lv_bipush (v := 7) hx hb dX0_behindByte_3 (by decide) ?_
  refine lv_istore (lv' := [(6, .int 7), (4, .long x), (0, .ref o), (1, .long x), (3, .int b)]) hx hb dX0_behindByte_5 hl (by decide) rfl (fun ls hl => ?_)
  have lp_7 : ∀ (k i : Nat), i ≤ 8 → 8 < i + k → ∀ (H : Heap) (locs : List Loc), va_P D vwCl (xw o a1 a2 a3 k1 k2 k3 row dv sl nb wd po tp fi la bi bo) H → va_S (fun q : Nat => s.heap.size ≤ q) s.heap H locs → ∀ ls : Array Slot, lv_has ls 7 [(6, .int (7 - nI i)), (4, .long (mByN tp x b i)), (0, .ref o), (1, .long x), (3, .int b)] → W p l e (headSpec wsX0_behindByte { frames := 1, cells := 0, slots := 0, locals := 25 }).room s m ([.ref o, .long x, .int b] : List Value).toArray below meth c H locs 0 0 (MQ below (roL s.heap.size (mByte tp x b)) ([.ref o, .long x, .int b] : List Value).toArray s 0 0 (fun q : Nat => s.heap.size ≤ q)) (F0 m 7 ls []) := by
    intro k
    induction k with
    | zero =>
      intro i h1 h2
      exact absurd h2 (by omega)
    | succ k ih =>
      intro i hi hk H locs hP hS ls hl
      refine lv_iload hx hb dX0_behindByte_7 (lv_at hl 0 rfl) ?_
      refine lv_if_lt (tgt := 32) hx hb dX0_behindByte_9 (by decide) (fun c_9 => ?_) (fun c_9 => ?_)
      ·
        have hiN := du_7a i (by omega) c_9
        refine lv_lload hx hb dX0_behindByte_32 (lv_at hl 1 rfl) ?_
        exact W.lret (v := (mByN tp x b i)) hx hb hr (fun t ht hW => ⟨⟨(mByN tp x b i), (), rfl, by subst hiN; rfl, trivial⟩, hS.F ht⟩) hS.2.2 dX0_behindByte_34
      ·
        have hlt := du_7b i (by omega) c_9
        refine lv_aload_n hx hb dX0_behindByte_12 rfl (lv_at hl 2 rfl) ?_
        refine lv_lload hx hb dX0_behindByte_13 (lv_at hl 1 rfl) ?_
        refine lv_iload_n hx hb dX0_behindByte_15 rfl (lv_at hl 4 rfl) ?_
        refine lv_iload hx hb dX0_behindByte_16 (lv_at hl 0 rfl) ?_
        refine lv_iushr (v := jiushr b (7 - nI i)) hx hb dX0_behindByte_18 rfl ?_
        refine lv_iconst (v := 1) hx hb dX0_behindByte_19 (by decide) ?_
        refine lv_iand hx hb dX0_behindByte_20 ?_
        refine ro_l (va_runV (As := [.long (mByN tp x b i), .int ((jiushr b (7 - nI i)) &&& 1)]) (rest := []) ⟨hx, hb, hml, hown, hts⟩ (c_behindBit (sz := H.size) (mByN tp x b i) ((jiushr b (7 - nI i)) &&& 1)) (cwV 2 hts gX0_behindByte_X0_behindBit rfl rfl rfl (by decide +kernel) ⟨Nat.le_of_ble_eq_true rfl, Nat.le_of_ble_eq_true rfl⟩) (preV_RO hP hK 0 (ci := 0) rfl rfl) rfl rfl hl.1 rfl (lv_room (Nat.le_of_ble_eq_true rfl)) dX0_behindByte_21 ⟨Nat.le_of_ble_eq_true rfl, Nat.le_of_ble_eq_true rfl⟩) hS hA hP (fun H locs hP hS => ?_)
        refine du_rwl (y := mByN tp x b (i + 1)) (rfl) ?_
        refine lv_lstore (lv' := [(4, .long (mByN tp x b (i + 1))), (6, .int (7 - nI i)), (0, .ref o), (1, .long x), (3, .int b)]) hx hb dX0_behindByte_24 hl (by decide) rfl (fun ls hl => ?_)
        refine lv_iinc (v := 7 - nI (i + 1)) (lv' := [(6, .int (7 - nI (i + 1))), (4, .long (mByN tp x b (i + 1))), (0, .ref o), (1, .long x), (3, .int b)]) hx hb dX0_behindByte_26 hl (k := 1) rfl (du_7c i hlt) (by decide) rfl (fun ls hl => ?_)
        refine lv_goto (tgt := 7) hx hb dX0_behindByte_29 (by decide) ?_
        exact ih (i + 1) (by omega) (by omega) H locs (hP) hS ls (lv_sub hl [0, 1, 2, 3, 4] rfl)
  exact lp_7 (8 + 1 - 0) 0 (by omega) (by omega) H locs (hP) hS ls (lv_sub hl [0, 1, 2, 3, 4] rfl)
theorem in_c_behindByteByTable : ∀ w ∈ wsX00, w ∈ wsX0_behindByteByTable := fun _ h => List.mem_cons_of_mem _ (List.mem_append_right _ h)
set_option maxHeartbeats 4000000 in
set_option maxRecDepth 100000 in
theorem c_behindByteByTable {l : Launch} {D : va_G} {o a1 a2 a3 : Nat} {k1 k2 k3 : ClassId} {row : Nat → Int64} {dv : Nat → Int64} {sl : Nat → Int64} {nb : Nat} {wd : Nat} {po : Int64} {tp : Int64} {fi : Int64} {la : Int64} {bi : Int32} {bo : Int32} {sz : Nat} (x : Int64) (b : Int32) (hix : vp_in ((jushr x 56).toInt32 ^^^ b) 2048) : Met l yX0_behindByteByTable wsX0_behindByteByTable ({ frames := 0, cells := 0, slots := 0, locals := 0 }) (va_Pc [.ref o, .long x, .int b] (pRO D vwCl (xt k1 k2 k3) (xw o a1 a2 a3 k1 k2 k3 row dv sl nb wd po tp fi la bi bo) sz)) (roL sz (mTab sl x b)) 0 0 (fun q : Nat => sz ≤ q) := by
  refine Met.ofW (cc := cX0_behindByteByTable) (maxL := 4) (ret := (some .long)) (by decide) rfl ?_
  intro p e s m args below meth c s₁ B hml hv
  obtain ⟨rfl, hsz, hP, hK⟩ := hv
  have hsz : s.heap.size = sz := hsz
  have hx := B.exec
  have hb := B.bytes
  have hr := B.returns
  have hts := atoms_spec (ws := wsX0_behindByteByTable) B.pre
  have hown : s.vm.findClass RX0 = some m.cls := findClass_of_methodNamed B.named
  have hlocks := B.notSynchronized
  subst hsz
  have hA : ∀ q : Nat, s.heap.size ≤ q → (fun q : Nat => s.heap.size ≤ q) q := fun _ h => h
  have hS : va_S (fun q : Nat => s.heap.size ≤ q) s.heap s.heap [] := va_S.rf
  have hl := lv_entry ([.ref o, .long x, .int b]) (n := 4) (Nat.le_of_ble_eq_true rfl)
  rw [lg_entry_eq]
  generalize (lg_sl ([.ref o, .long x, .int b]) ++ List.replicate (4 - (lg_sl ([.ref o, .long x, .int b])).length) Slot.unset).toArray = ls at hl ⊢
  have hl : lv_has ls 4 [(0, .ref o), (1, .long x), (3, .int b)] := hl
  suffices key : ∀ (H : Heap) (locs : List Loc), va_P D vwCl (xw o a1 a2 a3 k1 k2 k3 row dv sl nb wd po tp fi la bi bo) H → va_S (fun q : Nat => s.heap.size ≤ q) s.heap H locs → W p l e (headSpec wsX0_behindByteByTable { frames := 0, cells := 0, slots := 0, locals := 0 }).room s m ([.ref o, .long x, .int b] : List Value).toArray below meth c H locs 0 0 (MQ below (roL s.heap.size (mTab sl x b)) ([.ref o, .long x, .int b] : List Value).toArray s 0 0 (fun q : Nat => s.heap.size ≤ q)) (F0 m 0 ls []) from key s.heap [] hP hS
  intro H locs hP hS
  refine lv_lload_n hx hb dX0_behindByteByTable_0 rfl (lv_at hl 1 rfl) ?_
  refine lv_bipush (v := 8) hx hb dX0_behindByteByTable_1 (by decide) ?_
  refine lv_lshl (v := jshl x 8) hx hb dX0_behindByteByTable_3 rfl ?_
  refine lv_aload_n hx hb dX0_behindByteByTable_4 rfl (lv_at hl 0 rfl) ?_
  refine va_get (D := D) (ci := 0) (v := .ref a3) (C := RX0) (T := TX0) (N := 11) hx hb hts in_c_behindByteByTable hown hK hP 0 rfl rfl 2 (by decide) (hts (.fieldLink RX0 16 "SliceChecks" "slices" "[J") (by decide +kernel)) (fun _ h9 => h9) rfl dX0_behindByteByTable_5 ?_
  refine lv_lload_n hx hb dX0_behindByteByTable_8 rfl (lv_at hl 1 rfl) ?_
  refine lv_bipush (v := 56) hx hb dX0_behindByteByTable_9 (by decide) ?_
  refine lv_lushr (v := jushr x 56) hx hb dX0_behindByteByTable_11 rfl ?_
  refine lv_l2i (v := (jushr x 56).toInt32) hx hb dX0_behindByteByTable_12 rfl ?_
  refine lv_iload_n hx hb dX0_behindByteByTable_13 rfl (lv_at hl 2 rfl) ?_
  refine lv_ixor hx hb dX0_behindByteByTable_14 ?_
  refine va_lald hx hb hK hP 3 2 rfl rfl (i := ((jushr x 56).toInt32) ^^^ b) (hix) dX0_behindByteByTable_15 ?_
  refine lv_lxor hx hb dX0_behindByteByTable_16 ?_
  exact W.lret (v := ((jshl x 8) ^^^ (sl (((jushr x 56).toInt32) ^^^ b).toNatClampNeg))) hx hb hr (fun t ht hW => ⟨⟨((jshl x 8) ^^^ (sl (((jushr x 56).toInt32) ^^^ b).toNatClampNeg)), (), rfl, rfl, trivial⟩, hS.F ht⟩) hS.2.2 dX0_behindByteByTable_17
theorem in_c_behindWordByTables : ∀ w ∈ wsX00, w ∈ wsX0_behindWordByTables := fun _ h => List.mem_cons_of_mem _ (List.mem_append_right _ h)
set_option maxHeartbeats 4000000 in
set_option maxRecDepth 100000 in
theorem c_behindWordByTables {l : Launch} {D : va_G} {o a1 a2 a3 : Nat} {k1 k2 k3 : ClassId} {row : Nat → Int64} {dv : Nat → Int64} {sl : Nat → Int64} {nb : Nat} {wd : Nat} {po : Int64} {tp : Int64} {fi : Int64} {la : Int64} {bi : Int32} {bo : Int32} {sz : Nat} (x : Int64) (y : Int64)  : Met l yX0_behindWordByTables wsX0_behindWordByTables ({ frames := 0, cells := 0, slots := 0, locals := 0 }) (va_Pc [.ref o, .long x, .long y] (pRO D vwCl (xt k1 k2 k3) (xw o a1 a2 a3 k1 k2 k3 row dv sl nb wd po tp fi la bi bo) sz)) (roL sz (mWord sl x y)) 0 0 (fun q : Nat => sz ≤ q) := by
  refine Met.ofW (cc := cX0_behindWordByTables) (maxL := 10) (ret := (some .long)) (by decide) rfl ?_
  intro p e s m args below meth c s₁ B hml hv
  obtain ⟨rfl, hsz, hP, hK⟩ := hv
  have hsz : s.heap.size = sz := hsz
  have hx := B.exec
  have hb := B.bytes
  have hr := B.returns
  have hts := atoms_spec (ws := wsX0_behindWordByTables) B.pre
  have hown : s.vm.findClass RX0 = some m.cls := findClass_of_methodNamed B.named
  have hlocks := B.notSynchronized
  subst hsz
  have hA : ∀ q : Nat, s.heap.size ≤ q → (fun q : Nat => s.heap.size ≤ q) q := fun _ h => h
  have hS : va_S (fun q : Nat => s.heap.size ≤ q) s.heap s.heap [] := va_S.rf
  have hl := lv_entry ([.ref o, .long x, .long y]) (n := 10) (Nat.le_of_ble_eq_true rfl)
  rw [lg_entry_eq]
  generalize (lg_sl ([.ref o, .long x, .long y]) ++ List.replicate (10 - (lg_sl ([.ref o, .long x, .long y])).length) Slot.unset).toArray = ls at hl ⊢
  have hl : lv_has ls 10 [(0, .ref o), (1, .long x), (3, .long y)] := hl
  suffices key : ∀ (H : Heap) (locs : List Loc), va_P D vwCl (xw o a1 a2 a3 k1 k2 k3 row dv sl nb wd po tp fi la bi bo) H → va_S (fun q : Nat => s.heap.size ≤ q) s.heap H locs → W p l e (headSpec wsX0_behindWordByTables { frames := 0, cells := 0, slots := 0, locals := 0 }).room s m ([.ref o, .long x, .long y] : List Value).toArray below meth c H locs 0 0 (MQ below (roL s.heap.size (mWord sl x y)) ([.ref o, .long x, .long y] : List Value).toArray s 0 0 (fun q : Nat => s.heap.size ≤ q)) (F0 m 0 ls []) from key s.heap [] hP hS
  intro H locs hP hS
  refine lv_lload_n hx hb dX0_behindWordByTables_0 rfl (lv_at hl 1 rfl) ?_
  refine lv_lload_n hx hb dX0_behindWordByTables_1 rfl (lv_at hl 2 rfl) ?_
  refine lv_lxor hx hb dX0_behindWordByTables_2 ?_
  refine lv_lstore (lv' := [(5, .long (x ^^^ y)), (0, .ref o), (1, .long x), (3, .long y)]) hx hb dX0_behindWordByTables_3 hl (by decide) rfl (fun ls hl => ?_)
  refine lv_lconst (v := 0) hx hb dX0_behindWordByTables_5 (by decide) ?_
  refine lv_lstore (lv' := [(7, .long 0), (5, .long (x ^^^ y)), (0, .ref o), (1, .long x), (3, .long y)]) hx hb dX0_behindWordByTables_6 hl (by decide) rfl (fun ls hl => ?_)
  refine lv_iconst (v := 0) hx hb dX0_behindWordByTables_8 (by decide) ?_
  refine lv_istore (lv' := [(9, .int 0), (7, .long 0), (5, .long (x ^^^ y)), (0, .ref o), (1, .long x), (3, .long y)]) hx hb dX0_behindWordByTables_9 hl (by decide) rfl (fun ls hl => ?_)
  have lp_11 : ∀ (k i : Nat), i ≤ 8 → 8 < i + k → ∀ (H : Heap) (locs : List Loc), va_P D vwCl (xw o a1 a2 a3 k1 k2 k3 row dv sl nb wd po tp fi la bi bo) H → va_S (fun q : Nat => s.heap.size ≤ q) s.heap H locs → ∀ ls : Array Slot, lv_has ls 10 [(9, .int (nI i)), (7, .long (mWdA sl (x ^^^ y) i)), (5, .long (mWdL (x ^^^ y) i)), (0, .ref o), (1, .long x), (3, .long y)] → W p l e (headSpec wsX0_behindWordByTables { frames := 0, cells := 0, slots := 0, locals := 0 }).room s m ([.ref o, .long x, .long y] : List Value).toArray below meth c H locs 0 0 (MQ below (roL s.heap.size (mWord sl x y)) ([.ref o, .long x, .long y] : List Value).toArray s 0 0 (fun q : Nat => s.heap.size ≤ q)) (F0 m 11 ls []) := by
    intro k
    induction k with
    | zero =>
      intro i h1 h2
      exact absurd h2 (by omega)
    | succ k ih =>
      intro i hi hk H locs hP hS ls hl
      refine lv_iload hx hb dX0_behindWordByTables_11 (lv_at hl 0 rfl) ?_
      refine lv_bipush (v := 8) hx hb dX0_behindWordByTables_13 (by decide) ?_
      refine lv_icmp_ge (tgt := 55) hx hb dX0_behindWordByTables_15 (by decide) (fun c_15 => ?_) (fun c_15 => ?_)
      ·
        have hiN := du_ge (N := 8) (by omega) hi c_15
        refine lv_lload hx hb dX0_behindWordByTables_55 (lv_at hl 1 rfl) ?_
        exact W.lret (v := (mWdA sl (x ^^^ y) i)) hx hb hr (fun t ht hW => ⟨⟨(mWdA sl (x ^^^ y) i), (), rfl, by subst hiN; rfl, trivial⟩, hS.F ht⟩) hS.2.2 dX0_behindWordByTables_57
      ·
        have hlt := du_lt (N := 8) (by omega) hi c_15
        refine lv_lload hx hb dX0_behindWordByTables_18 (lv_at hl 1 rfl) ?_
        refine lv_aload_n hx hb dX0_behindWordByTables_20 rfl (lv_at hl 3 rfl) ?_
        refine va_get (D := D) (ci := 0) (v := .ref a3) (C := RX0) (T := TX0) (N := 11) hx hb hts in_c_behindWordByTables hown hK hP 0 rfl rfl 2 (by decide) (hts (.fieldLink RX0 16 "SliceChecks" "slices" "[J") (by decide +kernel)) (fun _ h9 => h9) rfl dX0_behindWordByTables_21 ?_
        refine lv_iload hx hb dX0_behindWordByTables_24 (lv_at hl 0 rfl) ?_
        refine lv_sipush (v := 256) hx hb dX0_behindWordByTables_26 (by decide) ?_
        refine lv_imul hx hb dX0_behindWordByTables_29 ?_
        refine lv_lload hx hb dX0_behindWordByTables_30 (lv_at hl 2 rfl) ?_
        refine lv_ldc2 hx hb hown (hts (.constantLong RX0 137 255) (by decide +kernel)) dX0_behindWordByTables_32 ?_
        refine lv_land hx hb dX0_behindWordByTables_35 ?_
        refine lv_l2i (v := ((mWdL (x ^^^ y) i) &&& 255).toInt32) hx hb dX0_behindWordByTables_36 rfl ?_
        refine lv_iadd hx hb dX0_behindWordByTables_37 ?_
        refine va_lald hx hb hK hP 3 2 rfl rfl (i := ((nI i) * 256) + (((mWdL (x ^^^ y) i) &&& 255).toInt32)) (du_wix hlt _) dX0_behindWordByTables_38 ?_
        refine lv_lxor hx hb dX0_behindWordByTables_39 ?_
        refine du_rwl (y := mWdA sl (x ^^^ y) (i + 1)) (rfl) ?_
        refine lv_lstore (lv' := [(7, .long (mWdA sl (x ^^^ y) (i + 1))), (9, .int (nI i)), (5, .long (mWdL (x ^^^ y) i)), (0, .ref o), (1, .long x), (3, .long y)]) hx hb dX0_behindWordByTables_40 hl (by decide) rfl (fun ls hl => ?_)
        refine lv_lload hx hb dX0_behindWordByTables_42 (lv_at hl 2 rfl) ?_
        refine lv_bipush (v := 8) hx hb dX0_behindWordByTables_44 (by decide) ?_
        refine lv_lushr (v := jushr (mWdL (x ^^^ y) i) 8) hx hb dX0_behindWordByTables_46 rfl ?_
        refine du_rwl (y := mWdL (x ^^^ y) (i + 1)) (rfl) ?_
        refine lv_lstore (lv' := [(5, .long (mWdL (x ^^^ y) (i + 1))), (7, .long (mWdA sl (x ^^^ y) (i + 1))), (9, .int (nI i)), (0, .ref o), (1, .long x), (3, .long y)]) hx hb dX0_behindWordByTables_47 hl (by decide) rfl (fun ls hl => ?_)
        refine lv_iinc (v := nI (i + 1)) (lv' := [(9, .int (nI (i + 1))), (5, .long (mWdL (x ^^^ y) (i + 1))), (7, .long (mWdA sl (x ^^^ y) (i + 1))), (0, .ref o), (1, .long x), (3, .long y)]) hx hb dX0_behindWordByTables_49 hl (k := 2) rfl (nI_1 i) (by decide) rfl (fun ls hl => ?_)
        refine lv_goto (tgt := 11) hx hb dX0_behindWordByTables_52 (by decide) ?_
        exact ih (i + 1) (by omega) (by omega) H locs (hP) hS ls (lv_sub hl [0, 2, 1, 3, 4, 5] rfl)
  exact lp_11 (8 + 1 - 0) 0 (by omega) (by omega) H locs (hP) hS ls (lv_sub hl [0, 1, 2, 3, 4, 5] rfl)
theorem in_c_product : ∀ w ∈ wsX00, w ∈ wsX0_product := fun _ h => List.mem_cons_of_mem _ (List.mem_append_right _ h)
set_option maxHeartbeats 4000000 in
set_option maxRecDepth 100000 in
theorem c_product {l : Launch} {D : va_G} {o a1 a2 a3 : Nat} {k1 k2 k3 : ClassId} {row : Nat → Int64} {dv : Nat → Int64} {sl : Nat → Int64} {nb : Nat} {wd : Nat} {po : Int64} {tp : Int64} {fi : Int64} {la : Int64} {bi : Int32} {bo : Int32} {sz : Nat} (x : Int64) (y : Int64) (hw : wd ≤ 64) : Met l yX0_product wsX0_product ({ frames := 1, cells := 0, slots := 0, locals := 25 }) (va_Pc [.ref o, .long x, .long y] (pRO D vwCl (xt k1 k2 k3) (xw o a1 a2 a3 k1 k2 k3 row dv sl nb wd po tp fi la bi bo) sz)) (roL sz (mProd (nI wd) tp x y)) 0 0 (fun q : Nat => sz ≤ q) := by
  refine Met.ofW (cc := cX0_product) (maxL := 8) (ret := (some .long)) (by decide) rfl ?_
  intro p e s m args below meth c s₁ B hml hv
  obtain ⟨rfl, hsz, hP, hK⟩ := hv
  have hsz : s.heap.size = sz := hsz
  have hx := B.exec
  have hb := B.bytes
  have hr := B.returns
  have hts := atoms_spec (ws := wsX0_product) B.pre
  have hown : s.vm.findClass RX0 = some m.cls := findClass_of_methodNamed B.named
  have hlocks := B.notSynchronized
  subst hsz
  have hA : ∀ q : Nat, s.heap.size ≤ q → (fun q : Nat => s.heap.size ≤ q) q := fun _ h => h
  have hS : va_S (fun q : Nat => s.heap.size ≤ q) s.heap s.heap [] := va_S.rf
  have hl := lv_entry ([.ref o, .long x, .long y]) (n := 8) (Nat.le_of_ble_eq_true rfl)
  rw [lg_entry_eq]
  generalize (lg_sl ([.ref o, .long x, .long y]) ++ List.replicate (8 - (lg_sl ([.ref o, .long x, .long y])).length) Slot.unset).toArray = ls at hl ⊢
  have hl : lv_has ls 8 [(0, .ref o), (1, .long x), (3, .long y)] := hl
  suffices key : ∀ (H : Heap) (locs : List Loc), va_P D vwCl (xw o a1 a2 a3 k1 k2 k3 row dv sl nb wd po tp fi la bi bo) H → va_S (fun q : Nat => s.heap.size ≤ q) s.heap H locs → W p l e (headSpec wsX0_product { frames := 1, cells := 0, slots := 0, locals := 25 }).room s m ([.ref o, .long x, .long y] : List Value).toArray below meth c H locs 0 0 (MQ below (roL s.heap.size (mProd (nI wd) tp x y)) ([.ref o, .long x, .long y] : List Value).toArray s 0 0 (fun q : Nat => s.heap.size ≤ q)) (F0 m 0 ls []) from key s.heap [] hP hS
  intro H locs hP hS
  refine lv_lconst (v := 0) hx hb dX0_product_0 (by decide) ?_
  refine lv_lstore (lv' := [(5, .long 0), (0, .ref o), (1, .long x), (3, .long y)]) hx hb dX0_product_1 hl (by decide) rfl (fun ls hl => ?_)
  refine lv_iconst (v := 0) hx hb dX0_product_3 (by decide) ?_
  refine lv_istore (lv' := [(7, .int 0), (5, .long 0), (0, .ref o), (1, .long x), (3, .long y)]) hx hb dX0_product_4 hl (by decide) rfl (fun ls hl => ?_)
  have lp_6 : ∀ (k i : Nat), i ≤ wd → wd < i + k → ∀ (H : Heap) (locs : List Loc), va_P D vwCl (xw o a1 a2 a3 k1 k2 k3 row dv sl nb wd po tp fi la bi bo) H → va_S (fun q : Nat => s.heap.size ≤ q) s.heap H locs → ∀ ls : Array Slot, lv_has ls 8 [(7, .int (nI i)), (5, .long (mPrN tp x y i)), (0, .ref o), (1, .long x), (3, .long y)] → W p l e (headSpec wsX0_product { frames := 1, cells := 0, slots := 0, locals := 25 }).room s m ([.ref o, .long x, .long y] : List Value).toArray below meth c H locs 0 0 (MQ below (roL s.heap.size (mProd (nI wd) tp x y)) ([.ref o, .long x, .long y] : List Value).toArray s 0 0 (fun q : Nat => s.heap.size ≤ q)) (F0 m 6 ls []) := by
    intro k
    induction k with
    | zero =>
      intro i h1 h2
      exact absurd h2 (by omega)
    | succ k ih =>
      intro i hi hk H locs hP hS ls hl
      refine lv_iload hx hb dX0_product_6 (lv_at hl 0 rfl) ?_
      refine lv_aload_n hx hb dX0_product_8 rfl (lv_at hl 2 rfl) ?_
      refine va_get (D := D) (ci := 0) (v := .int (nI wd)) (C := RX0) (T := TX0) (N := 11) hx hb hts in_c_product hown hK hP 0 rfl rfl 4 (by decide) (hts (.fieldLink RX0 34 "SliceChecks" "width" "I") (by decide +kernel)) (fun _ h9 => h9) rfl dX0_product_9 ?_
      refine lv_icmp_ge (tgt := 45) hx hb dX0_product_12 (by decide) (fun c_12 => ?_) (fun c_12 => ?_)
      ·
        have hiN := du_ge (by omega) hi c_12
        refine lv_lload hx hb dX0_product_45 (lv_at hl 1 rfl) ?_
        exact W.lret (v := (mPrN tp x y i)) hx hb hr (fun t ht hW => ⟨⟨(mPrN tp x y i), (), rfl, by rw [hiN, mProd, nI_clamp (by omega)], trivial⟩, hS.F ht⟩) hS.2.2 dX0_product_47
      ·
        have hlt := du_lt (by omega) hi c_12
        refine lv_aload_n hx hb dX0_product_15 rfl (lv_at hl 2 rfl) ?_
        refine lv_lload hx hb dX0_product_16 (lv_at hl 1 rfl) ?_
        refine lv_iconst (v := 0) hx hb dX0_product_18 (by decide) ?_
        refine ro_l (va_runV (As := [.long (mPrN tp x y i), .int 0]) (rest := []) ⟨hx, hb, hml, hown, hts⟩ (c_behindBit (sz := H.size) (mPrN tp x y i) 0) (cwV 2 hts gX0_product_X0_behindBit rfl rfl rfl (by decide +kernel) ⟨Nat.le_of_ble_eq_true rfl, Nat.le_of_ble_eq_true rfl⟩) (preV_RO hP hK 0 (ci := 0) rfl rfl) rfl rfl hl.1 rfl (lv_room (Nat.le_of_ble_eq_true rfl)) dX0_product_19 ⟨Nat.le_of_ble_eq_true rfl, Nat.le_of_ble_eq_true rfl⟩) hS hA hP (fun H locs hP hS => ?_)
        refine lv_lstore (lv' := [(5, .long (mBit tp (mPrN tp x y i) 0)), (7, .int (nI i)), (0, .ref o), (1, .long x), (3, .long y)]) hx hb dX0_product_22 hl (by decide) rfl (fun ls hl => ?_)
        refine lv_lload_n hx hb dX0_product_24 rfl (lv_at hl 3 rfl) ?_
        refine lv_iload hx hb dX0_product_25 (lv_at hl 1 rfl) ?_
        refine lv_lshl (v := jshl x (nI i)) hx hb dX0_product_27 rfl ?_
        refine lv_lconst (v := 0) hx hb dX0_product_28 (by decide) ?_
        refine W.lcmp hx hb dX0_product_29 ?_
        refine lv_if_ge (tgt := 39) hx hb dX0_product_30 (by decide) (fun c_30 => ?_) (fun c_30 => ?_)
        ·
          have pr_e : mBit tp (mPrN tp x y i) 0 = mPrN tp x y (i + 1) := by rw [mPrN, if_pos c_30]
          refine lv_iinc (v := nI (i + 1)) (lv' := [(7, .int (nI (i + 1))), (5, .long (mBit tp (mPrN tp x y i) 0)), (0, .ref o), (1, .long x), (3, .long y)]) hx hb dX0_product_39 hl (k := 1) rfl (nI_1 i) (by decide) rfl (fun ls hl => ?_)
          refine lv_goto (tgt := 6) hx hb dX0_product_42 (by decide) ?_
          rw [pr_e] at hl
          exact ih (i + 1) (by omega) (by omega) H locs (hP) hS ls (lv_sub hl [0, 1, 2, 3, 4] rfl)
        ·
          have pr_e : mBit tp (mPrN tp x y i) 0 ^^^ y = mPrN tp x y (i + 1) := by rw [mPrN, if_neg c_30]
          refine lv_lload hx hb dX0_product_33 (lv_at hl 0 rfl) ?_
          refine lv_lload_n hx hb dX0_product_35 rfl (lv_at hl 4 rfl) ?_
          refine lv_lxor hx hb dX0_product_36 ?_
          refine lv_lstore (lv' := [(5, .long ((mBit tp (mPrN tp x y i) 0) ^^^ y)), (7, .int (nI i)), (0, .ref o), (1, .long x), (3, .long y)]) hx hb dX0_product_37 hl (by decide) rfl (fun ls hl => ?_)
          refine lv_iinc (v := nI (i + 1)) (lv' := [(7, .int (nI (i + 1))), (5, .long ((mBit tp (mPrN tp x y i) 0) ^^^ y)), (0, .ref o), (1, .long x), (3, .long y)]) hx hb dX0_product_39 hl (k := 1) rfl (nI_1 i) (by decide) rfl (fun ls hl => ?_)
          refine lv_goto (tgt := 6) hx hb dX0_product_42 (by decide) ?_
          rw [pr_e] at hl
          exact ih (i + 1) (by omega) (by omega) H locs (hP) hS ls (lv_sub hl [0, 1, 2, 3, 4] rfl)
  exact lp_6 (wd + 1 - 0) 0 (by omega) (by omega) H locs (hP) hS ls (lv_sub hl [0, 1, 2, 3, 4] rfl)
theorem in_c_behindZeros : ∀ w ∈ wsX00, w ∈ wsX0_behindZeros := fun _ h => List.mem_cons_of_mem _ (List.mem_append_right _ h)
set_option maxHeartbeats 4000000 in
set_option maxRecDepth 100000 in
theorem c_behindZeros {l : Launch} {D : va_G} {o a1 a2 a3 : Nat} {k1 k2 k3 : ClassId} {row : Nat → Int64} {dv : Nat → Int64} {sl : Nat → Int64} {nb : Nat} {wd : Nat} {po : Int64} {tp : Int64} {fi : Int64} {la : Int64} {bi : Int32} {bo : Int32} {sz : Nat} (x : Int64) (z : Int64) (hw : wd ≤ 64) : Met l yX0_behindZeros wsX0_behindZeros ({ frames := 2, cells := 0, slots := 0, locals := 52 }) (va_Pc [.ref o, .long x, .long z] (pRO D vwCl (xt k1 k2 k3) (xw o a1 a2 a3 k1 k2 k3 row dv sl nb wd po tp fi la bi bo) sz)) (roL sz (mZeros (nI wd) tp x z)) 0 0 (fun q : Nat => sz ≤ q) := by
  refine Met.ofW (cc := cX0_behindZeros) (maxL := 10) (ret := (some .long)) (by decide) rfl ?_
  intro p e s m args below meth c s₁ B hml hv
  obtain ⟨rfl, hsz, hP, hK⟩ := hv
  have hsz : s.heap.size = sz := hsz
  have hx := B.exec
  have hb := B.bytes
  have hr := B.returns
  have hts := atoms_spec (ws := wsX0_behindZeros) B.pre
  have hown : s.vm.findClass RX0 = some m.cls := findClass_of_methodNamed B.named
  have hlocks := B.notSynchronized
  subst hsz
  have hA : ∀ q : Nat, s.heap.size ≤ q → (fun q : Nat => s.heap.size ≤ q) q := fun _ h => h
  have hS : va_S (fun q : Nat => s.heap.size ≤ q) s.heap s.heap [] := va_S.rf
  have hl := lv_entry ([.ref o, .long x, .long z]) (n := 10) (Nat.le_of_ble_eq_true rfl)
  rw [lg_entry_eq]
  generalize (lg_sl ([.ref o, .long x, .long z]) ++ List.replicate (10 - (lg_sl ([.ref o, .long x, .long z])).length) Slot.unset).toArray = ls at hl ⊢
  have hl : lv_has ls 10 [(0, .ref o), (1, .long x), (3, .long z)] := hl
  suffices key : ∀ (H : Heap) (locs : List Loc), va_P D vwCl (xw o a1 a2 a3 k1 k2 k3 row dv sl nb wd po tp fi la bi bo) H → va_S (fun q : Nat => s.heap.size ≤ q) s.heap H locs → W p l e (headSpec wsX0_behindZeros { frames := 2, cells := 0, slots := 0, locals := 52 }).room s m ([.ref o, .long x, .long z] : List Value).toArray below meth c H locs 0 0 (MQ below (roL s.heap.size (mZeros (nI wd) tp x z)) ([.ref o, .long x, .long z] : List Value).toArray s 0 0 (fun q : Nat => s.heap.size ≤ q)) (F0 m 0 ls []) from key s.heap [] hP hS
  intro H locs hP hS
  refine lv_lload_n hx hb dX0_behindZeros_0 rfl (lv_at hl 1 rfl) ?_
  refine lv_lstore (lv' := [(5, .long x), (0, .ref o), (1, .long x), (3, .long z)]) hx hb dX0_behindZeros_1 hl (by decide) rfl (fun ls hl => ?_)
  refine lv_aload_n hx hb dX0_behindZeros_3 rfl (lv_at hl 1 rfl) ?_
  refine lv_aload_n hx hb dX0_behindZeros_4 rfl (lv_at hl 1 rfl) ?_
  refine lv_lconst (v := 1) hx hb dX0_behindZeros_5 (by decide) ?_
  refine ro_l (va_runV (As := [.long 1]) (rest := [.ref o]) ⟨hx, hb, hml, hown, hts⟩ (c_atTop (sz := H.size) 1) (cwV 1 hts gX0_behindZeros_X0_atTop rfl rfl rfl (by decide +kernel) ⟨Nat.le_of_ble_eq_true rfl, Nat.le_of_ble_eq_true rfl⟩) (preV_RO hP hK 0 (ci := 0) rfl rfl) rfl rfl hl.1 rfl (lv_room (Nat.le_of_ble_eq_true rfl)) dX0_behindZeros_6 ⟨Nat.le_of_ble_eq_true rfl, Nat.le_of_ble_eq_true rfl⟩) hS hA hP (fun H locs hP hS => ?_)
  refine lv_iconst (v := 0) hx hb dX0_behindZeros_9 (by decide) ?_
  refine ro_l (va_runV (As := [.long (mTop (nI wd) 1), .int 0]) (rest := []) ⟨hx, hb, hml, hown, hts⟩ (c_behindBit (sz := H.size) (mTop (nI wd) 1) 0) (cwV 2 hts gX0_behindZeros_X0_behindBit rfl rfl rfl (by decide +kernel) ⟨Nat.le_of_ble_eq_true rfl, Nat.le_of_ble_eq_true rfl⟩) (preV_RO hP hK 0 (ci := 0) rfl rfl) rfl rfl hl.1 rfl (lv_room (Nat.le_of_ble_eq_true rfl)) dX0_behindZeros_10 ⟨Nat.le_of_ble_eq_true rfl, Nat.le_of_ble_eq_true rfl⟩) hS hA hP (fun H locs hP hS => ?_)
  refine lv_lstore (lv' := [(7, .long (mBit tp (mTop (nI wd) 1) 0)), (5, .long x), (0, .ref o), (1, .long x), (3, .long z)]) hx hb dX0_behindZeros_13 hl (by decide) rfl (fun ls hl => ?_)
  refine lv_iconst (v := 0) hx hb dX0_behindZeros_15 (by decide) ?_
  refine lv_istore (lv' := [(9, .int 0), (7, .long (mBit tp (mTop (nI wd) 1) 0)), (5, .long x), (0, .ref o), (1, .long x), (3, .long z)]) hx hb dX0_behindZeros_16 hl (by decide) rfl (fun ls hl => ?_)
  have lp_18 : ∀ (k i : Nat), i ≤ 34 → 34 < i + k → ∀ (H : Heap) (locs : List Loc), va_P D vwCl (xw o a1 a2 a3 k1 k2 k3 row dv sl nb wd po tp fi la bi bo) H → va_S (fun q : Nat => s.heap.size ≤ q) s.heap H locs → ∀ ls : Array Slot, lv_has ls 10 [(9, .int (nI i)), (7, .long (mPw (nI wd) tp i)), (5, .long (mZaN (nI wd) tp x z i)), (0, .ref o), (1, .long x), (3, .long z)] → W p l e (headSpec wsX0_behindZeros { frames := 2, cells := 0, slots := 0, locals := 52 }).room s m ([.ref o, .long x, .long z] : List Value).toArray below meth c H locs 0 0 (MQ below (roL s.heap.size (mZeros (nI wd) tp x z)) ([.ref o, .long x, .long z] : List Value).toArray s 0 0 (fun q : Nat => s.heap.size ≤ q)) (F0 m 18 ls []) := by
    intro k
    induction k with
    | zero =>
      intro i h1 h2
      exact absurd h2 (by omega)
    | succ k ih =>
      intro i hi hk H locs hP hS ls hl
      refine lv_iload hx hb dX0_behindZeros_18 (lv_at hl 0 rfl) ?_
      refine lv_bipush (v := 34) hx hb dX0_behindZeros_20 (by decide) ?_
      refine lv_icmp_ge (tgt := 71) hx hb dX0_behindZeros_22 (by decide) (fun c_22 => ?_) (fun c_22 => ?_)
      ·
        have hiN := du_ge (N := 34) (by omega) hi c_22
        have hrz : mZaN (nI wd) tp x z i = mZeros (nI wd) tp x z := by rw [hiN]; rfl
        refine lv_lload hx hb dX0_behindZeros_71 (lv_at hl 2 rfl) ?_
        exact W.lret (v := (mZaN (nI wd) tp x z i)) hx hb hr (fun t ht hW => ⟨⟨(mZaN (nI wd) tp x z i), (), rfl, hrz, trivial⟩, hS.F ht⟩) hS.2.2 dX0_behindZeros_73
      ·
        have hlt := du_lt (N := 34) (by omega) hi c_22
        refine lv_lload_n hx hb dX0_behindZeros_25 rfl (lv_at hl 5 rfl) ?_
        refine lv_iload hx hb dX0_behindZeros_26 (lv_at hl 0 rfl) ?_
        refine lv_lushr (v := jushr z (nI i)) hx hb dX0_behindZeros_28 rfl ?_
        refine lv_lconst (v := 0) hx hb dX0_behindZeros_29 (by decide) ?_
        refine W.lcmp hx hb dX0_behindZeros_30 ?_
        refine lv_if_eq (tgt := 71) hx hb dX0_behindZeros_31 (by decide) (fun c_31 => ?_) (fun c_31 => ?_)
        ·
          have hrz : mZaN (nI wd) tp x z i = mZeros (nI wd) tp x z := du_zst hlt ((lg_cmp_eq _ _).mp c_31)
          refine lv_lload hx hb dX0_behindZeros_71 (lv_at hl 2 rfl) ?_
          exact W.lret (v := (mZaN (nI wd) tp x z i)) hx hb hr (fun t ht hW => ⟨⟨(mZaN (nI wd) tp x z i), (), rfl, hrz, trivial⟩, hS.F ht⟩) hS.2.2 dX0_behindZeros_73
        ·
          refine lv_lload_n hx hb dX0_behindZeros_34 rfl (lv_at hl 5 rfl) ?_
          refine lv_iload hx hb dX0_behindZeros_35 (lv_at hl 0 rfl) ?_
          refine lv_lushr (v := jushr z (nI i)) hx hb dX0_behindZeros_37 rfl ?_
          refine lv_lconst (v := 1) hx hb dX0_behindZeros_38 (by decide) ?_
          refine lv_land hx hb dX0_behindZeros_39 ?_
          refine lv_lconst (v := 1) hx hb dX0_behindZeros_40 (by decide) ?_
          refine W.lcmp hx hb dX0_behindZeros_41 ?_
          refine lv_if_ne (tgt := 55) hx hb dX0_behindZeros_42 (by decide) (fun c_42 => ?_) (fun c_42 => ?_)
          ·
            have za_e : mZaN (nI wd) tp x z i = mZaN (nI wd) tp x z (i + 1) := by rw [mZaN, if_neg c_42]
            refine lv_aload_n hx hb dX0_behindZeros_55 rfl (lv_at hl 3 rfl) ?_
            refine lv_lload hx hb dX0_behindZeros_56 (lv_at hl 1 rfl) ?_
            refine lv_lload hx hb dX0_behindZeros_58 (lv_at hl 1 rfl) ?_
            refine ro_l (va_runV (As := [.long (mPw (nI wd) tp i), .long (mPw (nI wd) tp i)]) (rest := []) ⟨hx, hb, hml, hown, hts⟩ (c_product (sz := H.size) (mPw (nI wd) tp i) (mPw (nI wd) tp i) (hw)) (cwV 2 hts gX0_behindZeros_X0_product rfl rfl rfl (by decide +kernel) ⟨Nat.le_of_ble_eq_true rfl, Nat.le_of_ble_eq_true rfl⟩) (preV_RO hP hK 0 (ci := 0) rfl rfl) rfl rfl hl.1 rfl (lv_room (Nat.le_of_ble_eq_true rfl)) dX0_behindZeros_60 ⟨Nat.le_of_ble_eq_true rfl, Nat.le_of_ble_eq_true rfl⟩) hS hA hP (fun H locs hP hS => ?_)
            refine du_rwl (y := mPw (nI wd) tp (i + 1)) (rfl) ?_
            refine lv_lstore (lv' := [(7, .long (mPw (nI wd) tp (i + 1))), (9, .int (nI i)), (5, .long (mZaN (nI wd) tp x z i)), (0, .ref o), (1, .long x), (3, .long z)]) hx hb dX0_behindZeros_63 hl (by decide) rfl (fun ls hl => ?_)
            refine lv_iinc (v := nI (i + 1)) (lv' := [(9, .int (nI (i + 1))), (7, .long (mPw (nI wd) tp (i + 1))), (5, .long (mZaN (nI wd) tp x z i)), (0, .ref o), (1, .long x), (3, .long z)]) hx hb dX0_behindZeros_65 hl (k := 1) rfl (nI_1 i) (by decide) rfl (fun ls hl => ?_)
            refine lv_goto (tgt := 18) hx hb dX0_behindZeros_68 (by decide) ?_
            rw [za_e] at hl
            exact ih (i + 1) (by omega) (by omega) H locs (hP) hS ls (lv_sub hl [0, 1, 2, 3, 4, 5] rfl)
          ·
            have za_e : mProd (nI wd) tp (mZaN (nI wd) tp x z i) (mPw (nI wd) tp i) = mZaN (nI wd) tp x z (i + 1) := by rw [mZaN, if_pos c_42]
            refine lv_aload_n hx hb dX0_behindZeros_45 rfl (lv_at hl 3 rfl) ?_
            refine lv_lload hx hb dX0_behindZeros_46 (lv_at hl 2 rfl) ?_
            refine lv_lload hx hb dX0_behindZeros_48 (lv_at hl 1 rfl) ?_
            refine ro_l (va_runV (As := [.long (mZaN (nI wd) tp x z i), .long (mPw (nI wd) tp i)]) (rest := []) ⟨hx, hb, hml, hown, hts⟩ (c_product (sz := H.size) (mZaN (nI wd) tp x z i) (mPw (nI wd) tp i) (hw)) (cwV 2 hts gX0_behindZeros_X0_product rfl rfl rfl (by decide +kernel) ⟨Nat.le_of_ble_eq_true rfl, Nat.le_of_ble_eq_true rfl⟩) (preV_RO hP hK 0 (ci := 0) rfl rfl) rfl rfl hl.1 rfl (lv_room (Nat.le_of_ble_eq_true rfl)) dX0_behindZeros_50 ⟨Nat.le_of_ble_eq_true rfl, Nat.le_of_ble_eq_true rfl⟩) hS hA hP (fun H locs hP hS => ?_)
            refine lv_lstore (lv' := [(5, .long (mProd (nI wd) tp (mZaN (nI wd) tp x z i) (mPw (nI wd) tp i))), (9, .int (nI i)), (7, .long (mPw (nI wd) tp i)), (0, .ref o), (1, .long x), (3, .long z)]) hx hb dX0_behindZeros_53 hl (by decide) rfl (fun ls hl => ?_)
            refine lv_aload_n hx hb dX0_behindZeros_55 rfl (lv_at hl 3 rfl) ?_
            refine lv_lload hx hb dX0_behindZeros_56 (lv_at hl 2 rfl) ?_
            refine lv_lload hx hb dX0_behindZeros_58 (lv_at hl 2 rfl) ?_
            refine ro_l (va_runV (As := [.long (mPw (nI wd) tp i), .long (mPw (nI wd) tp i)]) (rest := []) ⟨hx, hb, hml, hown, hts⟩ (c_product (sz := H.size) (mPw (nI wd) tp i) (mPw (nI wd) tp i) (hw)) (cwV 2 hts gX0_behindZeros_X0_product rfl rfl rfl (by decide +kernel) ⟨Nat.le_of_ble_eq_true rfl, Nat.le_of_ble_eq_true rfl⟩) (preV_RO hP hK 0 (ci := 0) rfl rfl) rfl rfl hl.1 rfl (lv_room (Nat.le_of_ble_eq_true rfl)) dX0_behindZeros_60 ⟨Nat.le_of_ble_eq_true rfl, Nat.le_of_ble_eq_true rfl⟩) hS hA hP (fun H locs hP hS => ?_)
            refine du_rwl (y := mPw (nI wd) tp (i + 1)) (rfl) ?_
            refine lv_lstore (lv' := [(7, .long (mPw (nI wd) tp (i + 1))), (5, .long (mProd (nI wd) tp (mZaN (nI wd) tp x z i) (mPw (nI wd) tp i))), (9, .int (nI i)), (0, .ref o), (1, .long x), (3, .long z)]) hx hb dX0_behindZeros_63 hl (by decide) rfl (fun ls hl => ?_)
            refine lv_iinc (v := nI (i + 1)) (lv' := [(9, .int (nI (i + 1))), (7, .long (mPw (nI wd) tp (i + 1))), (5, .long (mProd (nI wd) tp (mZaN (nI wd) tp x z i) (mPw (nI wd) tp i))), (0, .ref o), (1, .long x), (3, .long z)]) hx hb dX0_behindZeros_65 hl (k := 2) rfl (nI_1 i) (by decide) rfl (fun ls hl => ?_)
            refine lv_goto (tgt := 18) hx hb dX0_behindZeros_68 (by decide) ?_
            rw [za_e] at hl
            exact ih (i + 1) (by omega) (by omega) H locs (hP) hS ls (lv_sub hl [0, 1, 2, 3, 4, 5] rfl)
  exact lp_18 (34 + 1 - 0) 0 (by omega) (by omega) H locs (hP) hS ls (lv_sub hl [0, 1, 2, 3, 4, 5] rfl)
set_option maxHeartbeats 4000000 in
set_option maxRecDepth 100000 in
theorem c_isByte {l : Launch} {sz : Nat} (b : Int32)  : Met l yX0_isByte wsX0_isByte ({ frames := 0, cells := 0, slots := 0, locals := 0 }) (va_Pc [.int b] (pST sz)) (roI sz (mIsB b)) 0 0 (fun q : Nat => sz ≤ q) := by
  refine Met.ofW (cc := cX0_isByte) (maxL := 1) (ret := (some .boolean)) (by decide) rfl ?_
  intro p e s m args below meth c s₁ B hml hv
  obtain ⟨rfl, hsz⟩ := hv
  have hsz : s.heap.size = sz := hsz
  have hx := B.exec
  have hb := B.bytes
  have hr := B.returns
  have hts := atoms_spec (ws := wsX0_isByte) B.pre
  have hown : s.vm.findClass RX0 = some m.cls := findClass_of_methodNamed B.named
  have hlocks := B.notSynchronized
  subst hsz
  have hA : ∀ q : Nat, s.heap.size ≤ q → (fun q : Nat => s.heap.size ≤ q) q := fun _ h => h
  have hS : va_S (fun q : Nat => s.heap.size ≤ q) s.heap s.heap [] := va_S.rf
  have hl := lv_entry ([.int b]) (n := 1) (Nat.le_of_ble_eq_true rfl)
  rw [lg_entry_eq]
  generalize (lg_sl ([.int b]) ++ List.replicate (1 - (lg_sl ([.int b])).length) Slot.unset).toArray = ls at hl ⊢
  have hl : lv_has ls 1 [(0, .int b)] := hl
  suffices key : ∀ (H : Heap) (locs : List Loc), va_S (fun q : Nat => s.heap.size ≤ q) s.heap H locs → W p l e (headSpec wsX0_isByte { frames := 0, cells := 0, slots := 0, locals := 0 }).room s m ([.int b] : List Value).toArray below meth c H locs 0 0 (MQ below (roI s.heap.size (mIsB b)) ([.int b] : List Value).toArray s 0 0 (fun q : Nat => s.heap.size ≤ q)) (F0 m 0 ls []) from key s.heap [] hS
  intro H locs hS
  refine lv_iload_n hx hb dX0_isByte_0 rfl (lv_at hl 0 rfl) ?_
  refine lv_if_lt (tgt := 15) hx hb dX0_isByte_1 (by decide) (fun c_1 => ?_) (fun c_1 => ?_)
  ·
    refine lv_iconst (v := 0) hx hb dX0_isByte_15 (by decide) ?_
    exact W.zret (v := 0) hx hb hr (by decide) (fun t ht hW => ⟨⟨0, (), rfl, by first | rw [mIsB, if_pos c_1] | rw [mIsB, if_neg c_1, if_pos c_8] | rw [mIsB, if_neg c_1, if_neg c_8], trivial⟩, hS.F ht⟩) hS.2.2 dX0_isByte_16
  ·
    refine lv_iload_n hx hb dX0_isByte_4 rfl (lv_at hl 0 rfl) ?_
    refine lv_sipush (v := 256) hx hb dX0_isByte_5 (by decide) ?_
    refine lv_icmp_ge (tgt := 15) hx hb dX0_isByte_8 (by decide) (fun c_8 => ?_) (fun c_8 => ?_)
    ·
      refine lv_iconst (v := 0) hx hb dX0_isByte_15 (by decide) ?_
      exact W.zret (v := 0) hx hb hr (by decide) (fun t ht hW => ⟨⟨0, (), rfl, by first | rw [mIsB, if_pos c_1] | rw [mIsB, if_neg c_1, if_pos c_8] | rw [mIsB, if_neg c_1, if_neg c_8], trivial⟩, hS.F ht⟩) hS.2.2 dX0_isByte_16
    ·
      refine lv_iconst (v := 1) hx hb dX0_isByte_11 (by decide) ?_
      refine lv_goto (tgt := 16) hx hb dX0_isByte_12 (by decide) ?_
      exact W.zret (v := 1) hx hb hr (by decide) (fun t ht hW => ⟨⟨1, (), rfl, by first | rw [mIsB, if_pos c_1] | rw [mIsB, if_neg c_1, if_pos c_8] | rw [mIsB, if_neg c_1, if_neg c_8], trivial⟩, hS.F ht⟩) hS.2.2 dX0_isByte_16
theorem in_c_asItComes : ∀ w ∈ wsX00, w ∈ wsX0_asItComes := fun _ h => List.mem_cons_of_mem _ (List.mem_append_right _ h)
set_option maxHeartbeats 4000000 in
set_option maxRecDepth 100000 in
theorem c_asItComes {l : Launch} {D : va_G} {o a1 a2 a3 : Nat} {k1 k2 k3 : ClassId} {row : Nat → Int64} {dv : Nat → Int64} {sl : Nat → Int64} {nb : Nat} {wd : Nat} {po : Int64} {tp : Int64} {fi : Int64} {la : Int64} {bi : Int32} {bo : Int32} {sz : Nat} (b : Int32)  : Met l yX0_asItComes wsX0_asItComes ({ frames := 1, cells := 0, slots := 0, locals := 25 }) (va_Pc [.ref o, .int b] (pRO D vwCl (xt k1 k2 k3) (xw o a1 a2 a3 k1 k2 k3 row dv sl nb wd po tp fi la bi bo) sz)) (roL sz (mCome bi b)) 0 0 (fun q : Nat => sz ≤ q) := by
  refine Met.ofW (cc := cX0_asItComes) (maxL := 2) (ret := (some .long)) (by decide) rfl ?_
  intro p e s m args below meth c s₁ B hml hv
  obtain ⟨rfl, hsz, hP, hK⟩ := hv
  have hsz : s.heap.size = sz := hsz
  have hx := B.exec
  have hb := B.bytes
  have hr := B.returns
  have hts := atoms_spec (ws := wsX0_asItComes) B.pre
  have hown : s.vm.findClass RX0 = some m.cls := findClass_of_methodNamed B.named
  have hlocks := B.notSynchronized
  subst hsz
  have hA : ∀ q : Nat, s.heap.size ≤ q → (fun q : Nat => s.heap.size ≤ q) q := fun _ h => h
  have hS : va_S (fun q : Nat => s.heap.size ≤ q) s.heap s.heap [] := va_S.rf
  have hl := lv_entry ([.ref o, .int b]) (n := 2) (Nat.le_of_ble_eq_true rfl)
  rw [lg_entry_eq]
  generalize (lg_sl ([.ref o, .int b]) ++ List.replicate (2 - (lg_sl ([.ref o, .int b])).length) Slot.unset).toArray = ls at hl ⊢
  have hl : lv_has ls 2 [(0, .ref o), (1, .int b)] := hl
  suffices key : ∀ (H : Heap) (locs : List Loc), va_P D vwCl (xw o a1 a2 a3 k1 k2 k3 row dv sl nb wd po tp fi la bi bo) H → va_S (fun q : Nat => s.heap.size ≤ q) s.heap H locs → W p l e (headSpec wsX0_asItComes { frames := 1, cells := 0, slots := 0, locals := 25 }).room s m ([.ref o, .int b] : List Value).toArray below meth c H locs 0 0 (MQ below (roL s.heap.size (mCome bi b)) ([.ref o, .int b] : List Value).toArray s 0 0 (fun q : Nat => s.heap.size ≤ q)) (F0 m 0 ls []) from key s.heap [] hP hS
  intro H locs hP hS
  refine lv_aload_n hx hb dX0_asItComes_0 rfl (lv_at hl 0 rfl) ?_
  refine va_get (D := D) (ci := 0) (v := .int bi) (C := RX0) (T := TX0) (N := 11) hx hb hts in_c_asItComes hown hK hP 0 rfl rfl 9 (by decide) (hts (.fieldLink RX0 27 "SliceChecks" "in" "Z") (by decide +kernel)) (fun _ h9 => h9) rfl dX0_asItComes_1 ?_
  refine lv_if_eq (tgt := 17) hx hb dX0_asItComes_4 (by decide) (fun c_4 => ?_) (fun c_4 => ?_)
  ·
    refine lv_iload_n hx hb dX0_asItComes_17 rfl (lv_at hl 1 rfl) ?_
    refine lv_i2l (v := b.toInt64) hx hb dX0_asItComes_18 rfl ?_
    exact W.lret (v := b.toInt64) hx hb hr (fun t ht hW => ⟨⟨b.toInt64, (), rfl, by first | rw [mCome, if_pos c_4] | rw [mCome, if_neg c_4], trivial⟩, hS.F ht⟩) hS.2.2 dX0_asItComes_19
  ·
    refine lv_iload_n hx hb dX0_asItComes_7 rfl (lv_at hl 1 rfl) ?_
    refine lv_i2l (v := b.toInt64) hx hb dX0_asItComes_8 rfl ?_
    refine lv_bipush (v := 8) hx hb dX0_asItComes_9 (by decide) ?_
    refine ro_l (va_runS (As := [.long b.toInt64, .int 8]) (rest := []) ⟨hx, hb, hml, hown, hts⟩ (c_turned (sz := H.size) b.toInt64 8) (va_cwS 2 hts gX0_asItComes_X0_turned rfl rfl rfl (by decide +kernel) ⟨Nat.le_of_ble_eq_true rfl, Nat.le_of_ble_eq_true rfl⟩) preS_ST rfl rfl hl.1 rfl (lv_room (Nat.le_of_ble_eq_true rfl)) dX0_asItComes_11 ⟨Nat.le_of_ble_eq_true rfl, Nat.le_of_ble_eq_true rfl⟩) hS hA hP (fun H locs hP hS => ?_)
    refine lv_goto (tgt := 19) hx hb dX0_asItComes_14 (by decide) ?_
    exact W.lret (v := (mTurned b.toInt64 8)) hx hb hr (fun t ht hW => ⟨⟨(mTurned b.toInt64 8), (), rfl, by first | rw [mCome, if_pos c_4] | rw [mCome, if_neg c_4], trivial⟩, hS.F ht⟩) hS.2.2 dX0_asItComes_19
theorem in_c_bitsOfRow : ∀ w ∈ wsX00, w ∈ wsX0_bitsOfRow := fun _ h => List.mem_cons_of_mem _ (List.mem_append_right _ h)
set_option maxHeartbeats 4000000 in
set_option maxRecDepth 100000 in
theorem c_bitsOfRow {l : Launch} {D : va_G} {o a1 a2 a3 : Nat} {k1 k2 k3 : ClassId} {row : Nat → Int64} {dv : Nat → Int64} {sl : Nat → Int64} {nb : Nat} {wd : Nat} {po : Int64} {tp : Int64} {fi : Int64} {la : Int64} {bi : Int32} {bo : Int32} {sz : Nat}   : Met l yX0_bitsOfRow wsX0_bitsOfRow ({ frames := 0, cells := 0, slots := 0, locals := 0 }) (va_Pc [.ref o] (pRO D vwCl (xt k1 k2 k3) (xw o a1 a2 a3 k1 k2 k3 row dv sl nb wd po tp fi la bi bo) sz)) (roI sz (nI (nb * 8))) 0 0 (fun q : Nat => sz ≤ q) := by
  refine Met.ofW (cc := cX0_bitsOfRow) (maxL := 1) (ret := (some .int)) (by decide) rfl ?_
  intro p e s m args below meth c s₁ B hml hv
  obtain ⟨rfl, hsz, hP, hK⟩ := hv
  have hsz : s.heap.size = sz := hsz
  have hx := B.exec
  have hb := B.bytes
  have hr := B.returns
  have hts := atoms_spec (ws := wsX0_bitsOfRow) B.pre
  have hown : s.vm.findClass RX0 = some m.cls := findClass_of_methodNamed B.named
  have hlocks := B.notSynchronized
  subst hsz
  have hA : ∀ q : Nat, s.heap.size ≤ q → (fun q : Nat => s.heap.size ≤ q) q := fun _ h => h
  have hS : va_S (fun q : Nat => s.heap.size ≤ q) s.heap s.heap [] := va_S.rf
  have hl := lv_entry ([.ref o]) (n := 1) (Nat.le_of_ble_eq_true rfl)
  rw [lg_entry_eq]
  generalize (lg_sl ([.ref o]) ++ List.replicate (1 - (lg_sl ([.ref o])).length) Slot.unset).toArray = ls at hl ⊢
  have hl : lv_has ls 1 [(0, .ref o)] := hl
  suffices key : ∀ (H : Heap) (locs : List Loc), va_P D vwCl (xw o a1 a2 a3 k1 k2 k3 row dv sl nb wd po tp fi la bi bo) H → va_S (fun q : Nat => s.heap.size ≤ q) s.heap H locs → W p l e (headSpec wsX0_bitsOfRow { frames := 0, cells := 0, slots := 0, locals := 0 }).room s m ([.ref o] : List Value).toArray below meth c H locs 0 0 (MQ below (roI s.heap.size (nI (nb * 8))) ([.ref o] : List Value).toArray s 0 0 (fun q : Nat => s.heap.size ≤ q)) (F0 m 0 ls []) from key s.heap [] hP hS
  intro H locs hP hS
  refine lv_aload_n hx hb dX0_bitsOfRow_0 rfl (lv_at hl 0 rfl) ?_
  refine va_get (D := D) (ci := 0) (v := .int (nI nb)) (C := RX0) (T := TX0) (N := 11) hx hb hts in_c_bitsOfRow hown hK hP 0 rfl rfl 3 (by decide) (hts (.fieldLink RX0 68 "SliceChecks" "bytes" "I") (by decide +kernel)) (fun _ h9 => h9) rfl dX0_bitsOfRow_1 ?_
  refine lv_bipush (v := 8) hx hb dX0_bitsOfRow_4 (by decide) ?_
  refine lv_imul hx hb dX0_bitsOfRow_6 ?_
  exact W.iret (v := ((nI nb) * 8)) hx hb hr (fun t ht hW => ⟨⟨((nI nb) * 8), (), rfl, pk_mul nb 8, trivial⟩, hS.F ht⟩) hS.2.2 dX0_bitsOfRow_7
set_option maxHeartbeats 4000000 in
set_option maxRecDepth 100000 in
theorem c_shiftOfByte {l : Launch} {sz : Nat} (b : Int32)  : Met l yX0_shiftOfByte wsX0_shiftOfByte ({ frames := 0, cells := 0, slots := 0, locals := 0 }) (va_Pc [.int b] (pST sz)) (roI sz (mSh b)) 0 0 (fun q : Nat => sz ≤ q) := by
  refine Met.ofW (cc := cX0_shiftOfByte) (maxL := 1) (ret := (some .int)) (by decide) rfl ?_
  intro p e s m args below meth c s₁ B hml hv
  obtain ⟨rfl, hsz⟩ := hv
  have hsz : s.heap.size = sz := hsz
  have hx := B.exec
  have hb := B.bytes
  have hr := B.returns
  have hts := atoms_spec (ws := wsX0_shiftOfByte) B.pre
  have hown : s.vm.findClass RX0 = some m.cls := findClass_of_methodNamed B.named
  have hlocks := B.notSynchronized
  subst hsz
  have hA : ∀ q : Nat, s.heap.size ≤ q → (fun q : Nat => s.heap.size ≤ q) q := fun _ h => h
  have hS : va_S (fun q : Nat => s.heap.size ≤ q) s.heap s.heap [] := va_S.rf
  have hl := lv_entry ([.int b]) (n := 1) (Nat.le_of_ble_eq_true rfl)
  rw [lg_entry_eq]
  generalize (lg_sl ([.int b]) ++ List.replicate (1 - (lg_sl ([.int b])).length) Slot.unset).toArray = ls at hl ⊢
  have hl : lv_has ls 1 [(0, .int b)] := hl
  suffices key : ∀ (H : Heap) (locs : List Loc), va_S (fun q : Nat => s.heap.size ≤ q) s.heap H locs → W p l e (headSpec wsX0_shiftOfByte { frames := 0, cells := 0, slots := 0, locals := 0 }).room s m ([.int b] : List Value).toArray below meth c H locs 0 0 (MQ below (roI s.heap.size (mSh b)) ([.int b] : List Value).toArray s 0 0 (fun q : Nat => s.heap.size ≤ q)) (F0 m 0 ls []) from key s.heap [] hS
  intro H locs hS
  refine lv_bipush (v := 56) hx hb dX0_shiftOfByte_0 (by decide) ?_
  refine lv_iload_n hx hb dX0_shiftOfByte_2 rfl (lv_at hl 0 rfl) ?_
  refine lv_bipush (v := 8) hx hb dX0_shiftOfByte_3 (by decide) ?_
  refine lv_irem hx hb dX0_shiftOfByte_5 (by decide) ?_
  refine lv_bipush (v := 8) hx hb dX0_shiftOfByte_6 (by decide) ?_
  refine lv_imul hx hb dX0_shiftOfByte_8 ?_
  refine lv_isub hx hb dX0_shiftOfByte_9 ?_
  exact W.iret (v := (56 - ((b - b / 8 * 8) * 8))) hx hb hr (fun t ht hW => ⟨⟨(56 - ((b - b / 8 * 8) * 8)), (), rfl, rfl, trivial⟩, hS.F ht⟩) hS.2.2 dX0_shiftOfByte_10
theorem in_c_byteAt : ∀ w ∈ wsX00, w ∈ wsX0_byteAt := fun _ h => List.mem_cons_of_mem _ (List.mem_append_right _ h)
set_option maxHeartbeats 4000000 in
set_option maxRecDepth 100000 in
theorem c_byteAt {l : Launch} {D : va_G} {o a1 a2 a3 : Nat} {k1 k2 k3 : ClassId} {row : Nat → Int64} {dv : Nat → Int64} {sl : Nat → Int64} {nb : Nat} {wd : Nat} {po : Int64} {tp : Int64} {fi : Int64} {la : Int64} {bi : Int32} {bo : Int32} {sz : Nat} (j : Int32) (hj : vp_in (j / 8) 625) : Met l yX0_byteAt wsX0_byteAt ({ frames := 1, cells := 0, slots := 0, locals := 20 }) (va_Pc [.ref o, .int j] (pRO D vwCl (xt k1 k2 k3) (xw o a1 a2 a3 k1 k2 k3 row dv sl nb wd po tp fi la bi bo) sz)) (roI sz (mByA row j)) 0 0 (fun q : Nat => sz ≤ q) := by
  refine Met.ofW (cc := cX0_byteAt) (maxL := 2) (ret := (some .int)) (by decide) rfl ?_
  intro p e s m args below meth c s₁ B hml hv
  obtain ⟨rfl, hsz, hP, hK⟩ := hv
  have hsz : s.heap.size = sz := hsz
  have hx := B.exec
  have hb := B.bytes
  have hr := B.returns
  have hts := atoms_spec (ws := wsX0_byteAt) B.pre
  have hown : s.vm.findClass RX0 = some m.cls := findClass_of_methodNamed B.named
  have hlocks := B.notSynchronized
  subst hsz
  have hA : ∀ q : Nat, s.heap.size ≤ q → (fun q : Nat => s.heap.size ≤ q) q := fun _ h => h
  have hS : va_S (fun q : Nat => s.heap.size ≤ q) s.heap s.heap [] := va_S.rf
  have hl := lv_entry ([.ref o, .int j]) (n := 2) (Nat.le_of_ble_eq_true rfl)
  rw [lg_entry_eq]
  generalize (lg_sl ([.ref o, .int j]) ++ List.replicate (2 - (lg_sl ([.ref o, .int j])).length) Slot.unset).toArray = ls at hl ⊢
  have hl : lv_has ls 2 [(0, .ref o), (1, .int j)] := hl
  suffices key : ∀ (H : Heap) (locs : List Loc), va_P D vwCl (xw o a1 a2 a3 k1 k2 k3 row dv sl nb wd po tp fi la bi bo) H → va_S (fun q : Nat => s.heap.size ≤ q) s.heap H locs → W p l e (headSpec wsX0_byteAt { frames := 1, cells := 0, slots := 0, locals := 20 }).room s m ([.ref o, .int j] : List Value).toArray below meth c H locs 0 0 (MQ below (roI s.heap.size (mByA row j)) ([.ref o, .int j] : List Value).toArray s 0 0 (fun q : Nat => s.heap.size ≤ q)) (F0 m 0 ls []) from key s.heap [] hP hS
  intro H locs hP hS
  refine lv_aload_n hx hb dX0_byteAt_0 rfl (lv_at hl 0 rfl) ?_
  refine va_get (D := D) (ci := 0) (v := .ref a1) (C := RX0) (T := TX0) (N := 11) hx hb hts in_c_byteAt hown hK hP 0 rfl rfl 0 (by decide) (hts (.fieldLink RX0 9 "SliceChecks" "row" "[J") (by decide +kernel)) (fun _ h9 => h9) rfl dX0_byteAt_1 ?_
  refine lv_iload_n hx hb dX0_byteAt_4 rfl (lv_at hl 1 rfl) ?_
  refine lv_bipush (v := 8) hx hb dX0_byteAt_5 (by decide) ?_
  refine lv_idiv hx hb dX0_byteAt_7 (by decide) ?_
  refine va_lald hx hb hK hP 1 0 rfl rfl (i := j / 8) (hj) dX0_byteAt_8 ?_
  refine lv_iload_n hx hb dX0_byteAt_9 rfl (lv_at hl 1 rfl) ?_
  refine ro_i (va_runS (As := [.int j]) (rest := [.long (row (j / 8).toNatClampNeg)]) ⟨hx, hb, hml, hown, hts⟩ (c_shiftOfByte (sz := H.size) j) (va_cwS 1 hts gX0_byteAt_X0_shiftOfByte rfl rfl rfl (by decide +kernel) ⟨Nat.le_of_ble_eq_true rfl, Nat.le_of_ble_eq_true rfl⟩) preS_ST rfl rfl hl.1 rfl (lv_room (Nat.le_of_ble_eq_true rfl)) dX0_byteAt_10 ⟨Nat.le_of_ble_eq_true rfl, Nat.le_of_ble_eq_true rfl⟩) hS hA hP (fun H locs hP hS => ?_)
  refine lv_lushr (v := jushr (row (j / 8).toNatClampNeg) (mSh j)) hx hb dX0_byteAt_13 rfl ?_
  refine lv_l2i (v := (jushr (row (j / 8).toNatClampNeg) (mSh j)).toInt32) hx hb dX0_byteAt_14 rfl ?_
  refine lv_sipush (v := 255) hx hb dX0_byteAt_15 (by decide) ?_
  refine lv_iand hx hb dX0_byteAt_18 ?_
  exact W.iret (v := (((jushr (row (j / 8).toNatClampNeg) (mSh j)).toInt32) &&& 255)) hx hb hr (fun t ht hW => ⟨⟨(((jushr (row (j / 8).toNatClampNeg) (mSh j)).toInt32) &&& 255), (), rfl, rfl, trivial⟩, hS.F ht⟩) hS.2.2 dX0_byteAt_19
set_option maxHeartbeats 4000000 in
set_option maxRecDepth 100000 in
theorem c_bytesTurned {l : Launch} {sz : Nat} (x : Int64)  : Met l yX0_bytesTurned wsX0_bytesTurned ({ frames := 0, cells := 0, slots := 0, locals := 0 }) (va_Pc [.long x] (pST sz)) (roL sz (mBT x)) 0 0 (fun q : Nat => sz ≤ q) := by
  refine Met.ofW (cc := cX0_bytesTurned) (maxL := 6) (ret := (some .long)) (by decide) rfl ?_
  intro p e s m args below meth c s₁ B hml hv
  obtain ⟨rfl, hsz⟩ := hv
  have hsz : s.heap.size = sz := hsz
  have hx := B.exec
  have hb := B.bytes
  have hr := B.returns
  have hts := atoms_spec (ws := wsX0_bytesTurned) B.pre
  have hown : s.vm.findClass RX0 = some m.cls := findClass_of_methodNamed B.named
  have hlocks := B.notSynchronized
  subst hsz
  have hA : ∀ q : Nat, s.heap.size ≤ q → (fun q : Nat => s.heap.size ≤ q) q := fun _ h => h
  have hS : va_S (fun q : Nat => s.heap.size ≤ q) s.heap s.heap [] := va_S.rf
  have hl := lv_entry ([.long x]) (n := 6) (Nat.le_of_ble_eq_true rfl)
  rw [lg_entry_eq]
  generalize (lg_sl ([.long x]) ++ List.replicate (6 - (lg_sl ([.long x])).length) Slot.unset).toArray = ls at hl ⊢
  have hl : lv_has ls 6 [(0, .long x)] := hl
  suffices key : ∀ (H : Heap) (locs : List Loc), va_S (fun q : Nat => s.heap.size ≤ q) s.heap H locs → W p l e (headSpec wsX0_bytesTurned { frames := 0, cells := 0, slots := 0, locals := 0 }).room s m ([.long x] : List Value).toArray below meth c H locs 0 0 (MQ below (roL s.heap.size (mBT x)) ([.long x] : List Value).toArray s 0 0 (fun q : Nat => s.heap.size ≤ q)) (F0 m 0 ls []) from key s.heap [] hS
  intro H locs hS
  refine lv_lload_n hx hb dX0_bytesTurned_0 rfl (lv_at hl 0 rfl) ?_
  refine lv_ldc2 hx hb hown (hts (.constantLong RX0 151 1085102592571150095) (by decide +kernel)) dX0_bytesTurned_1 ?_
  refine lv_land hx hb dX0_bytesTurned_4 ?_
  refine lv_iconst (v := 4) hx hb dX0_bytesTurned_5 (by decide) ?_
  refine lv_lshl (v := jshl (x &&& 1085102592571150095) 4) hx hb dX0_bytesTurned_6 rfl ?_
  refine lv_lload_n hx hb dX0_bytesTurned_7 rfl (lv_at hl 0 rfl) ?_
  refine lv_iconst (v := 4) hx hb dX0_bytesTurned_8 (by decide) ?_
  refine lv_lushr (v := jushr x 4) hx hb dX0_bytesTurned_9 rfl ?_
  refine lv_ldc2 hx hb hown (hts (.constantLong RX0 151 1085102592571150095) (by decide +kernel)) dX0_bytesTurned_10 ?_
  refine lv_land hx hb dX0_bytesTurned_13 ?_
  refine lv_lor hx hb dX0_bytesTurned_14 ?_
  refine du_rwl (y := mBT1 x) (rfl) ?_
  refine lv_lstore_n (lv' := [(2, .long (mBT1 x)), (0, .long x)]) hx hb dX0_bytesTurned_15 rfl hl (by decide) rfl (fun ls hl => ?_)
  refine lv_lload_n hx hb dX0_bytesTurned_16 rfl (lv_at hl 0 rfl) ?_
  refine lv_ldc2 hx hb hown (hts (.constantLong RX0 153 3689348814741910323) (by decide +kernel)) dX0_bytesTurned_17 ?_
  refine lv_land hx hb dX0_bytesTurned_20 ?_
  refine lv_iconst (v := 2) hx hb dX0_bytesTurned_21 (by decide) ?_
  refine lv_lshl (v := jshl ((mBT1 x) &&& 3689348814741910323) 2) hx hb dX0_bytesTurned_22 rfl ?_
  refine lv_lload_n hx hb dX0_bytesTurned_23 rfl (lv_at hl 0 rfl) ?_
  refine lv_iconst (v := 2) hx hb dX0_bytesTurned_24 (by decide) ?_
  refine lv_lushr (v := jushr (mBT1 x) 2) hx hb dX0_bytesTurned_25 rfl ?_
  refine lv_ldc2 hx hb hown (hts (.constantLong RX0 153 3689348814741910323) (by decide +kernel)) dX0_bytesTurned_26 ?_
  refine lv_land hx hb dX0_bytesTurned_29 ?_
  refine lv_lor hx hb dX0_bytesTurned_30 ?_
  refine du_rwl (y := mBT2 (mBT1 x)) (rfl) ?_
  refine lv_lstore (lv' := [(4, .long (mBT2 (mBT1 x))), (2, .long (mBT1 x)), (0, .long x)]) hx hb dX0_bytesTurned_31 hl (by decide) rfl (fun ls hl => ?_)
  refine lv_lload hx hb dX0_bytesTurned_33 (lv_at hl 0 rfl) ?_
  refine lv_ldc2 hx hb hown (hts (.constantLong RX0 155 6148914691236517205) (by decide +kernel)) dX0_bytesTurned_35 ?_
  refine lv_land hx hb dX0_bytesTurned_38 ?_
  refine lv_iconst (v := 1) hx hb dX0_bytesTurned_39 (by decide) ?_
  refine lv_lshl (v := jshl ((mBT2 (mBT1 x)) &&& 6148914691236517205) 1) hx hb dX0_bytesTurned_40 rfl ?_
  refine lv_lload hx hb dX0_bytesTurned_41 (lv_at hl 0 rfl) ?_
  refine lv_iconst (v := 1) hx hb dX0_bytesTurned_43 (by decide) ?_
  refine lv_lushr (v := jushr (mBT2 (mBT1 x)) 1) hx hb dX0_bytesTurned_44 rfl ?_
  refine lv_ldc2 hx hb hown (hts (.constantLong RX0 155 6148914691236517205) (by decide +kernel)) dX0_bytesTurned_45 ?_
  refine lv_land hx hb dX0_bytesTurned_48 ?_
  refine lv_lor hx hb dX0_bytesTurned_49 ?_
  exact W.lret (v := ((jshl ((mBT2 (mBT1 x)) &&& 6148914691236517205) 1) ||| ((jushr (mBT2 (mBT1 x)) 1) &&& 6148914691236517205))) hx hb hr (fun t ht hW => ⟨⟨((jshl ((mBT2 (mBT1 x)) &&& 6148914691236517205) 1) ||| ((jushr (mBT2 (mBT1 x)) 1) &&& 6148914691236517205)), (), rfl, rfl, trivial⟩, hS.F ht⟩) hS.2.2 dX0_bytesTurned_50
theorem in_c_bitByBit : ∀ w ∈ wsX00, w ∈ wsX0_bitByBit := fun _ h => List.mem_cons_of_mem _ (List.mem_append_right _ h)
set_option maxHeartbeats 4000000 in
set_option maxRecDepth 100000 in
theorem c_bitByBit {l : Launch} {D : va_G} {o a1 a2 a3 : Nat} {k1 k2 k3 : ClassId} {row : Nat → Int64} {dv : Nat → Int64} {sl : Nat → Int64} {nb : Nat} {wd : Nat} {po : Int64} {tp : Int64} {fi : Int64} {la : Int64} {bi : Int32} {bo : Int32} {sz : Nat}  (hn : nb ≤ 5000) : Met l yX0_bitByBit wsX0_bitByBit ({ frames := 2, cells := 0, slots := 0, locals := 51 }) (va_Pc [.ref o] (pRO D vwCl (xt k1 k2 k3) (xw o a1 a2 a3 k1 k2 k3 row dv sl nb wd po tp fi la bi bo) sz)) (roL sz (mBbN row tp (mTop (nI wd) fi) nb)) 0 0 (fun q : Nat => sz ≤ q) := by
  refine Met.ofW (cc := cX0_bitByBit) (maxL := 4) (ret := (some .long)) (by decide) rfl ?_
  intro p e s m args below meth c s₁ B hml hv
  obtain ⟨rfl, hsz, hP, hK⟩ := hv
  have hsz : s.heap.size = sz := hsz
  have hx := B.exec
  have hb := B.bytes
  have hr := B.returns
  have hts := atoms_spec (ws := wsX0_bitByBit) B.pre
  have hown : s.vm.findClass RX0 = some m.cls := findClass_of_methodNamed B.named
  have hlocks := B.notSynchronized
  subst hsz
  have hA : ∀ q : Nat, s.heap.size ≤ q → (fun q : Nat => s.heap.size ≤ q) q := fun _ h => h
  have hS : va_S (fun q : Nat => s.heap.size ≤ q) s.heap s.heap [] := va_S.rf
  have hl := lv_entry ([.ref o]) (n := 4) (Nat.le_of_ble_eq_true rfl)
  rw [lg_entry_eq]
  generalize (lg_sl ([.ref o]) ++ List.replicate (4 - (lg_sl ([.ref o])).length) Slot.unset).toArray = ls at hl ⊢
  have hl : lv_has ls 4 [(0, .ref o)] := hl
  suffices key : ∀ (H : Heap) (locs : List Loc), va_P D vwCl (xw o a1 a2 a3 k1 k2 k3 row dv sl nb wd po tp fi la bi bo) H → va_S (fun q : Nat => s.heap.size ≤ q) s.heap H locs → W p l e (headSpec wsX0_bitByBit { frames := 2, cells := 0, slots := 0, locals := 51 }).room s m ([.ref o] : List Value).toArray below meth c H locs 0 0 (MQ below (roL s.heap.size (mBbN row tp (mTop (nI wd) fi) nb)) ([.ref o] : List Value).toArray s 0 0 (fun q : Nat => s.heap.size ≤ q)) (F0 m 0 ls []) from key s.heap [] hP hS
  intro H locs hP hS
  refine lv_aload_n hx hb dX0_bitByBit_0 rfl (lv_at hl 0 rfl) ?_
  refine lv_aload_n hx hb dX0_bitByBit_1 rfl (lv_at hl 0 rfl) ?_
  refine va_get (D := D) (ci := 0) (v := .long fi) (C := RX0) (T := TX0) (N := 11) hx hb hts in_c_bitByBit hown hK hP 0 rfl rfl 7 (by decide) (hts (.fieldLink RX0 52 "SliceChecks" "first" "J") (by decide +kernel)) (fun _ h9 => h9) rfl dX0_bitByBit_2 ?_
  refine ro_l (va_runV (As := [.long fi]) (rest := []) ⟨hx, hb, hml, hown, hts⟩ (c_atTop (sz := H.size) fi) (cwV 1 hts gX0_bitByBit_X0_atTop rfl rfl rfl (by decide +kernel) ⟨Nat.le_of_ble_eq_true rfl, Nat.le_of_ble_eq_true rfl⟩) (preV_RO hP hK 0 (ci := 0) rfl rfl) rfl rfl hl.1 rfl (lv_room (Nat.le_of_ble_eq_true rfl)) dX0_bitByBit_5 ⟨Nat.le_of_ble_eq_true rfl, Nat.le_of_ble_eq_true rfl⟩) hS hA hP (fun H locs hP hS => ?_)
  refine lv_lstore_n (lv' := [(1, .long (mTop (nI wd) fi)), (0, .ref o)]) hx hb dX0_bitByBit_8 rfl hl (by decide) rfl (fun ls hl => ?_)
  refine lv_iconst (v := 0) hx hb dX0_bitByBit_9 (by decide) ?_
  refine lv_istore_n (lv' := [(3, .int 0), (1, .long (mTop (nI wd) fi)), (0, .ref o)]) hx hb dX0_bitByBit_10 rfl hl (by decide) rfl (fun ls hl => ?_)
  have lp_11 : ∀ (k i : Nat), i ≤ nb → nb < i + k → ∀ (H : Heap) (locs : List Loc), va_P D vwCl (xw o a1 a2 a3 k1 k2 k3 row dv sl nb wd po tp fi la bi bo) H → va_S (fun q : Nat => s.heap.size ≤ q) s.heap H locs → ∀ ls : Array Slot, lv_has ls 4 [(3, .int (nI i)), (1, .long (mBbN row tp (mTop (nI wd) fi) i)), (0, .ref o)] → W p l e (headSpec wsX0_bitByBit { frames := 2, cells := 0, slots := 0, locals := 51 }).room s m ([.ref o] : List Value).toArray below meth c H locs 0 0 (MQ below (roL s.heap.size (mBbN row tp (mTop (nI wd) fi) nb)) ([.ref o] : List Value).toArray s 0 0 (fun q : Nat => s.heap.size ≤ q)) (F0 m 11 ls []) := by
    intro k
    induction k with
    | zero =>
      intro i h1 h2
      exact absurd h2 (by omega)
    | succ k ih =>
      intro i hi hk H locs hP hS ls hl
      refine lv_iload_n hx hb dX0_bitByBit_11 rfl (lv_at hl 0 rfl) ?_
      refine lv_aload_n hx hb dX0_bitByBit_12 rfl (lv_at hl 2 rfl) ?_
      refine va_get (D := D) (ci := 0) (v := .int (nI nb)) (C := RX0) (T := TX0) (N := 11) hx hb hts in_c_bitByBit hown hK hP 0 rfl rfl 3 (by decide) (hts (.fieldLink RX0 68 "SliceChecks" "bytes" "I") (by decide +kernel)) (fun _ h9 => h9) rfl dX0_bitByBit_13 ?_
      refine lv_icmp_ge (tgt := 36) hx hb dX0_bitByBit_16 (by decide) (fun c_16 => ?_) (fun c_16 => ?_)
      ·
        have hiN := du_ge (by omega) hi c_16
        refine lv_lload_n hx hb dX0_bitByBit_36 rfl (lv_at hl 1 rfl) ?_
        exact W.lret (v := (mBbN row tp (mTop (nI wd) fi) i)) hx hb hr (fun t ht hW => ⟨⟨(mBbN row tp (mTop (nI wd) fi) i), (), rfl, by subst hiN; rfl, trivial⟩, hS.F ht⟩) hS.2.2 dX0_bitByBit_37
      ·
        have hlt := du_lt (by omega) hi c_16
        refine lv_aload_n hx hb dX0_bitByBit_19 rfl (lv_at hl 2 rfl) ?_
        refine lv_lload_n hx hb dX0_bitByBit_20 rfl (lv_at hl 1 rfl) ?_
        refine lv_aload_n hx hb dX0_bitByBit_21 rfl (lv_at hl 2 rfl) ?_
        refine lv_iload_n hx hb dX0_bitByBit_22 rfl (lv_at hl 0 rfl) ?_
        refine ro_i (va_runV (As := [.int (nI i)]) (rest := [.long (mBbN row tp (mTop (nI wd) fi) i), .ref o]) ⟨hx, hb, hml, hown, hts⟩ (c_byteAt (sz := H.size) (nI i) (du_by (by omega))) (cwV 1 hts gX0_bitByBit_X0_byteAt rfl rfl rfl (by decide +kernel) ⟨Nat.le_of_ble_eq_true rfl, Nat.le_of_ble_eq_true rfl⟩) (preV_RO hP hK 0 (ci := 0) rfl rfl) rfl rfl hl.1 rfl (lv_room (Nat.le_of_ble_eq_true rfl)) dX0_bitByBit_23 ⟨Nat.le_of_ble_eq_true rfl, Nat.le_of_ble_eq_true rfl⟩) hS hA hP (fun H locs hP hS => ?_)
        refine ro_l (va_runV (As := [.long (mBbN row tp (mTop (nI wd) fi) i), .int (mByA row (nI i))]) (rest := []) ⟨hx, hb, hml, hown, hts⟩ (c_behindByte (sz := H.size) (mBbN row tp (mTop (nI wd) fi) i) (mByA row (nI i))) (cwV 2 hts gX0_bitByBit_X0_behindByte rfl rfl rfl (by decide +kernel) ⟨Nat.le_of_ble_eq_true rfl, Nat.le_of_ble_eq_true rfl⟩) (preV_RO hP hK 0 (ci := 0) rfl rfl) rfl rfl hl.1 rfl (lv_room (Nat.le_of_ble_eq_true rfl)) dX0_bitByBit_26 ⟨Nat.le_of_ble_eq_true rfl, Nat.le_of_ble_eq_true rfl⟩) hS hA hP (fun H locs hP hS => ?_)
        refine du_rwl (y := mBbN row tp (mTop (nI wd) fi) (i + 1)) (rfl) ?_
        refine lv_lstore_n (lv' := [(1, .long (mBbN row tp (mTop (nI wd) fi) (i + 1))), (3, .int (nI i)), (0, .ref o)]) hx hb dX0_bitByBit_29 rfl hl (by decide) rfl (fun ls hl => ?_)
        refine lv_iinc (v := nI (i + 1)) (lv' := [(3, .int (nI (i + 1))), (1, .long (mBbN row tp (mTop (nI wd) fi) (i + 1))), (0, .ref o)]) hx hb dX0_bitByBit_30 hl (k := 1) rfl (nI_1 i) (by decide) rfl (fun ls hl => ?_)
        refine lv_goto (tgt := 11) hx hb dX0_bitByBit_33 (by decide) ?_
        exact ih (i + 1) (by omega) (by omega) H locs (hP) hS ls (lv_sub hl [0, 1, 2] rfl)
  exact lp_11 (nb + 1 - 0) 0 (by omega) (by omega) H locs (hP) hS ls (lv_sub hl [0, 1, 2] rfl)
theorem in_c_byteByByte : ∀ w ∈ wsX00, w ∈ wsX0_byteByByte := fun _ h => List.mem_cons_of_mem _ (List.mem_append_right _ h)
set_option maxHeartbeats 4000000 in
set_option maxRecDepth 100000 in
theorem c_byteByByte {l : Launch} {D : va_G} {o a1 a2 a3 : Nat} {k1 k2 k3 : ClassId} {row : Nat → Int64} {dv : Nat → Int64} {sl : Nat → Int64} {nb : Nat} {wd : Nat} {po : Int64} {tp : Int64} {fi : Int64} {la : Int64} {bi : Int32} {bo : Int32} {sz : Nat} (x : Int64) (a : Nat) (b : Nat) (ha : a ≤ 5000) (hb5 : b ≤ 5000) : Met l yX0_byteByByte wsX0_byteByByte ({ frames := 2, cells := 0, slots := 0, locals := 41 }) (va_Pc [.ref o, .long x, .int (nI a), .int (nI b)] (pRO D vwCl (xt k1 k2 k3) (xw o a1 a2 a3 k1 k2 k3 row dv sl nb wd po tp fi la bi bo) sz)) (roL sz (mYy row sl x a b)) 0 0 (fun q : Nat => sz ≤ q) := by
  refine Met.ofW (cc := cX0_byteByByte) (maxL := 8) (ret := (some .long)) (by decide) rfl ?_
  intro p e s m args below meth c s₁ B hml hv
  obtain ⟨rfl, hsz, hP, hK⟩ := hv
  have hsz : s.heap.size = sz := hsz
  have hx := B.exec
  have hb := B.bytes
  have hr := B.returns
  have hts := atoms_spec (ws := wsX0_byteByByte) B.pre
  have hown : s.vm.findClass RX0 = some m.cls := findClass_of_methodNamed B.named
  have hlocks := B.notSynchronized
  subst hsz
  have hA : ∀ q : Nat, s.heap.size ≤ q → (fun q : Nat => s.heap.size ≤ q) q := fun _ h => h
  have hS : va_S (fun q : Nat => s.heap.size ≤ q) s.heap s.heap [] := va_S.rf
  have hl := lv_entry ([.ref o, .long x, .int (nI a), .int (nI b)]) (n := 8) (Nat.le_of_ble_eq_true rfl)
  rw [lg_entry_eq]
  generalize (lg_sl ([.ref o, .long x, .int (nI a), .int (nI b)]) ++ List.replicate (8 - (lg_sl ([.ref o, .long x, .int (nI a), .int (nI b)])).length) Slot.unset).toArray = ls at hl ⊢
  have hl : lv_has ls 8 [(0, .ref o), (1, .long x), (3, .int (nI a)), (4, .int (nI b))] := hl
  suffices key : ∀ (H : Heap) (locs : List Loc), va_P D vwCl (xw o a1 a2 a3 k1 k2 k3 row dv sl nb wd po tp fi la bi bo) H → va_S (fun q : Nat => s.heap.size ≤ q) s.heap H locs → W p l e (headSpec wsX0_byteByByte { frames := 2, cells := 0, slots := 0, locals := 41 }).room s m ([.ref o, .long x, .int (nI a), .int (nI b)] : List Value).toArray below meth c H locs 0 0 (MQ below (roL s.heap.size (mYy row sl x a b)) ([.ref o, .long x, .int (nI a), .int (nI b)] : List Value).toArray s 0 0 (fun q : Nat => s.heap.size ≤ q)) (F0 m 0 ls []) from key s.heap [] hP hS
  intro H locs hP hS
  refine lv_lload_n hx hb dX0_byteByByte_0 rfl (lv_at hl 1 rfl) ?_
  refine lv_lstore (lv' := [(5, .long x), (0, .ref o), (1, .long x), (3, .int (nI a)), (4, .int (nI b))]) hx hb dX0_byteByByte_1 hl (by decide) rfl (fun ls hl => ?_)
  refine lv_iload_n hx hb dX0_byteByByte_3 rfl (lv_at hl 3 rfl) ?_
  refine lv_istore (lv' := [(7, .int (nI a)), (5, .long x), (0, .ref o), (1, .long x), (3, .int (nI a)), (4, .int (nI b))]) hx hb dX0_byteByByte_4 hl (by decide) rfl (fun ls hl => ?_)
  have lp_6 : ∀ (k i : Nat), i ≤ b - a → b - a < i + k → ∀ (H : Heap) (locs : List Loc), va_P D vwCl (xw o a1 a2 a3 k1 k2 k3 row dv sl nb wd po tp fi la bi bo) H → va_S (fun q : Nat => s.heap.size ≤ q) s.heap H locs → ∀ ls : Array Slot, lv_has ls 8 [(7, .int (nI (a + i))), (5, .long (mYyN row sl x a i)), (0, .ref o), (1, .long x), (3, .int (nI a)), (4, .int (nI b))] → W p l e (headSpec wsX0_byteByByte { frames := 2, cells := 0, slots := 0, locals := 41 }).room s m ([.ref o, .long x, .int (nI a), .int (nI b)] : List Value).toArray below meth c H locs 0 0 (MQ below (roL s.heap.size (mYy row sl x a b)) ([.ref o, .long x, .int (nI a), .int (nI b)] : List Value).toArray s 0 0 (fun q : Nat => s.heap.size ≤ q)) (F0 m 6 ls []) := by
    intro k
    induction k with
    | zero =>
      intro i h1 h2
      exact absurd h2 (by omega)
    | succ k ih =>
      intro i hi hk H locs hP hS ls hl
      refine lv_iload hx hb dX0_byteByByte_6 (lv_at hl 0 rfl) ?_
      refine lv_iload hx hb dX0_byteByByte_8 (lv_at hl 5 rfl) ?_
      refine lv_icmp_ge (tgt := 33) hx hb dX0_byteByByte_10 (by decide) (fun c_10 => ?_) (fun c_10 => ?_)
      ·
        have hiN : i = b - a := by have := (nI_leI (by omega) (by omega)).mp c_10; omega
        refine lv_lload hx hb dX0_byteByByte_33 (lv_at hl 1 rfl) ?_
        exact W.lret (v := (mYyN row sl x a i)) hx hb hr (fun t ht hW => ⟨⟨(mYyN row sl x a i), (), rfl, by subst hiN; rfl, trivial⟩, hS.F ht⟩) hS.2.2 dX0_byteByByte_35
      ·
        have hlt : i < b - a := by rcases Nat.lt_or_ge i (b - a) with h | h; exact h; exact absurd (nI_le (by omega) (by omega)) c_10
        refine lv_aload_n hx hb dX0_byteByByte_13 rfl (lv_at hl 2 rfl) ?_
        refine lv_lload hx hb dX0_byteByByte_14 (lv_at hl 1 rfl) ?_
        refine lv_aload_n hx hb dX0_byteByByte_16 rfl (lv_at hl 2 rfl) ?_
        refine lv_iload hx hb dX0_byteByByte_17 (lv_at hl 0 rfl) ?_
        refine ro_i (va_runV (As := [.int (nI (a + i))]) (rest := [.long (mYyN row sl x a i), .ref o]) ⟨hx, hb, hml, hown, hts⟩ (c_byteAt (sz := H.size) (nI (a + i)) (du_by (by omega))) (cwV 1 hts gX0_byteByByte_X0_byteAt rfl rfl rfl (by decide +kernel) ⟨Nat.le_of_ble_eq_true rfl, Nat.le_of_ble_eq_true rfl⟩) (preV_RO hP hK 0 (ci := 0) rfl rfl) rfl rfl hl.1 rfl (lv_room (Nat.le_of_ble_eq_true rfl)) dX0_byteByByte_19 ⟨Nat.le_of_ble_eq_true rfl, Nat.le_of_ble_eq_true rfl⟩) hS hA hP (fun H locs hP hS => ?_)
        refine ro_l (va_runV (As := [.long (mYyN row sl x a i), .int (mByA row (nI (a + i)))]) (rest := []) ⟨hx, hb, hml, hown, hts⟩ (c_behindByteByTable (sz := H.size) (mYyN row sl x a i) (mByA row (nI (a + i))) (du_tix _ _)) (cwV 2 hts gX0_byteByByte_X0_behindByteByTable rfl rfl rfl (by decide +kernel) ⟨Nat.le_of_ble_eq_true rfl, Nat.le_of_ble_eq_true rfl⟩) (preV_RO hP hK 0 (ci := 0) rfl rfl) rfl rfl hl.1 rfl (lv_room (Nat.le_of_ble_eq_true rfl)) dX0_byteByByte_22 ⟨Nat.le_of_ble_eq_true rfl, Nat.le_of_ble_eq_true rfl⟩) hS hA hP (fun H locs hP hS => ?_)
        refine du_rwl (y := mYyN row sl x a (i + 1)) (rfl) ?_
        refine lv_lstore (lv' := [(5, .long (mYyN row sl x a (i + 1))), (7, .int (nI (a + i))), (0, .ref o), (1, .long x), (3, .int (nI a)), (4, .int (nI b))]) hx hb dX0_byteByByte_25 hl (by decide) rfl (fun ls hl => ?_)
        refine lv_iinc (v := nI (a + (i + 1))) (lv' := [(7, .int (nI (a + (i + 1)))), (5, .long (mYyN row sl x a (i + 1))), (0, .ref o), (1, .long x), (3, .int (nI a)), (4, .int (nI b))]) hx hb dX0_byteByByte_27 hl (k := 1) rfl (nI_1 (a + i)) (by decide) rfl (fun ls hl => ?_)
        refine lv_goto (tgt := 6) hx hb dX0_byteByByte_30 (by decide) ?_
        exact ih (i + 1) (by omega) (by omega) H locs (hP) hS ls (lv_sub hl [0, 1, 2, 3, 4, 5] rfl)
  exact lp_6 ((b - a) + 1 - 0) 0 (by omega) (by omega) H locs (hP) hS ls (lv_sub hl [0, 1, 2, 3, 4, 5] rfl)
theorem in_c_eightAtOnce : ∀ w ∈ wsX00, w ∈ wsX0_eightAtOnce := fun _ h => List.mem_cons_of_mem _ (List.mem_append_right _ h)
set_option maxHeartbeats 4000000 in
set_option maxRecDepth 100000 in
theorem c_eightAtOnce {l : Launch} {D : va_G} {o a1 a2 a3 : Nat} {k1 k2 k3 : ClassId} {row : Nat → Int64} {dv : Nat → Int64} {sl : Nat → Int64} {nb : Nat} {wd : Nat} {po : Int64} {tp : Int64} {fi : Int64} {la : Int64} {bi : Int32} {bo : Int32} {sz : Nat} (a : Nat) (b : Nat) (ha : a ≤ 5000) (hb5 : b ≤ 5000) : Met l yX0_eightAtOnce wsX0_eightAtOnce ({ frames := 3, cells := 0, slots := 0, locals := 68 }) (va_Pc [.ref o, .int (nI a), .int (nI b)] (pRO D vwCl (xt k1 k2 k3) (xw o a1 a2 a3 k1 k2 k3 row dv sl nb wd po tp fi la bi bo) sz)) (roL sz (mEi row sl (mTop (nI wd) fi) a b)) 0 0 (fun q : Nat => sz ≤ q) := by
  refine Met.ofW (cc := cX0_eightAtOnce) (maxL := 8) (ret := (some .long)) (by decide) rfl ?_
  intro p e s m args below meth c s₁ B hml hv
  obtain ⟨rfl, hsz, hP, hK⟩ := hv
  have hsz : s.heap.size = sz := hsz
  have hx := B.exec
  have hb := B.bytes
  have hr := B.returns
  have hts := atoms_spec (ws := wsX0_eightAtOnce) B.pre
  have hown : s.vm.findClass RX0 = some m.cls := findClass_of_methodNamed B.named
  have hlocks := B.notSynchronized
  subst hsz
  have hA : ∀ q : Nat, s.heap.size ≤ q → (fun q : Nat => s.heap.size ≤ q) q := fun _ h => h
  have hS : va_S (fun q : Nat => s.heap.size ≤ q) s.heap s.heap [] := va_S.rf
  have hl := lv_entry ([.ref o, .int (nI a), .int (nI b)]) (n := 8) (Nat.le_of_ble_eq_true rfl)
  rw [lg_entry_eq]
  generalize (lg_sl ([.ref o, .int (nI a), .int (nI b)]) ++ List.replicate (8 - (lg_sl ([.ref o, .int (nI a), .int (nI b)])).length) Slot.unset).toArray = ls at hl ⊢
  have hl : lv_has ls 8 [(0, .ref o), (1, .int (nI a)), (2, .int (nI b))] := hl
  suffices key : ∀ (H : Heap) (locs : List Loc), va_P D vwCl (xw o a1 a2 a3 k1 k2 k3 row dv sl nb wd po tp fi la bi bo) H → va_S (fun q : Nat => s.heap.size ≤ q) s.heap H locs → W p l e (headSpec wsX0_eightAtOnce { frames := 3, cells := 0, slots := 0, locals := 68 }).room s m ([.ref o, .int (nI a), .int (nI b)] : List Value).toArray below meth c H locs 0 0 (MQ below (roL s.heap.size (mEi row sl (mTop (nI wd) fi) a b)) ([.ref o, .int (nI a), .int (nI b)] : List Value).toArray s 0 0 (fun q : Nat => s.heap.size ≤ q)) (F0 m 0 ls []) from key s.heap [] hP hS
  intro H locs hP hS
  refine lv_iload_n hx hb dX0_eightAtOnce_0 rfl (lv_at hl 1 rfl) ?_
  refine lv_bipush (v := 8) hx hb dX0_eightAtOnce_1 (by decide) ?_
  refine lv_iadd hx hb dX0_eightAtOnce_3 ?_
  refine lv_iconst (v := 1) hx hb dX0_eightAtOnce_4 (by decide) ?_
  refine lv_isub hx hb dX0_eightAtOnce_5 ?_
  refine lv_bipush (v := 8) hx hb dX0_eightAtOnce_6 (by decide) ?_
  refine lv_idiv hx hb dX0_eightAtOnce_8 (by decide) ?_
  refine du_rwi (y := nI ((a + 7) / 8)) (by rw [show nI a + 8 - 1 = nI (a + 7) from du_a7 a]; exact du_div8 (by omega)) ?_
  refine lv_istore_n (lv' := [(3, .int (nI ((a + 7) / 8))), (0, .ref o), (1, .int (nI a)), (2, .int (nI b))]) hx hb dX0_eightAtOnce_9 rfl hl (by decide) rfl (fun ls hl => ?_)
  refine lv_iload_n hx hb dX0_eightAtOnce_10 rfl (lv_at hl 3 rfl) ?_
  refine lv_bipush (v := 8) hx hb dX0_eightAtOnce_11 (by decide) ?_
  refine lv_idiv hx hb dX0_eightAtOnce_13 (by decide) ?_
  refine du_rwi (y := nI (b / 8)) (du_div8 (by omega)) ?_
  refine lv_istore (lv' := [(4, .int (nI (b / 8))), (3, .int (nI ((a + 7) / 8))), (0, .ref o), (1, .int (nI a)), (2, .int (nI b))]) hx hb dX0_eightAtOnce_14 hl (by decide) rfl (fun ls hl => ?_)
  refine lv_iload_n hx hb dX0_eightAtOnce_16 rfl (lv_at hl 1 rfl) ?_
  refine lv_iload hx hb dX0_eightAtOnce_17 (lv_at hl 0 rfl) ?_
  refine lv_icmp_lt (tgt := 37) hx hb dX0_eightAtOnce_19 (by decide) (fun c_19 => ?_) (fun c_19 => ?_)
  ·
    have h19 : (a + 7) / 8 < b / 8 := (nI_ltI (by omega) (by omega)).mp c_19
    refine lv_aload_n hx hb dX0_eightAtOnce_37 rfl (lv_at hl 2 rfl) ?_
    refine lv_aload_n hx hb dX0_eightAtOnce_38 rfl (lv_at hl 2 rfl) ?_
    refine lv_aload_n hx hb dX0_eightAtOnce_39 rfl (lv_at hl 2 rfl) ?_
    refine va_get (D := D) (ci := 0) (v := .long fi) (C := RX0) (T := TX0) (N := 11) hx hb hts in_c_eightAtOnce hown hK hP 0 rfl rfl 7 (by decide) (hts (.fieldLink RX0 52 "SliceChecks" "first" "J") (by decide +kernel)) (fun _ h9 => h9) rfl dX0_eightAtOnce_40 ?_
    refine ro_l (va_runV (As := [.long fi]) (rest := [.ref o]) ⟨hx, hb, hml, hown, hts⟩ (c_atTop (sz := H.size) fi) (cwV 1 hts gX0_eightAtOnce_X0_atTop rfl rfl rfl (by decide +kernel) ⟨Nat.le_of_ble_eq_true rfl, Nat.le_of_ble_eq_true rfl⟩) (preV_RO hP hK 0 (ci := 0) rfl rfl) rfl rfl hl.1 rfl (lv_room (Nat.le_of_ble_eq_true rfl)) dX0_eightAtOnce_43 ⟨Nat.le_of_ble_eq_true rfl, Nat.le_of_ble_eq_true rfl⟩) hS hA hP (fun H locs hP hS => ?_)
    refine lv_iload_n hx hb dX0_eightAtOnce_46 rfl (lv_at hl 3 rfl) ?_
    refine lv_iload_n hx hb dX0_eightAtOnce_47 rfl (lv_at hl 1 rfl) ?_
    refine lv_bipush (v := 8) hx hb dX0_eightAtOnce_48 (by decide) ?_
    refine lv_imul hx hb dX0_eightAtOnce_50 ?_
    refine du_rwi (y := nI ((a + 7) / 8 * 8)) (pk_mul _ 8) ?_
    refine ro_l (va_runV (As := [.long (mTop (nI wd) fi), .int (nI a), .int (nI ((a + 7) / 8 * 8))]) (rest := []) ⟨hx, hb, hml, hown, hts⟩ (c_byteByByte (sz := H.size) (mTop (nI wd) fi) a ((a + 7) / 8 * 8) (ha) (by omega)) (cwV 3 hts gX0_eightAtOnce_X0_byteByByte rfl rfl rfl (by decide +kernel) ⟨Nat.le_of_ble_eq_true rfl, Nat.le_of_ble_eq_true rfl⟩) (preV_RO hP hK 0 (ci := 0) rfl rfl) rfl rfl hl.1 rfl (lv_room (Nat.le_of_ble_eq_true rfl)) dX0_eightAtOnce_51 ⟨Nat.le_of_ble_eq_true rfl, Nat.le_of_ble_eq_true rfl⟩) hS hA hP (fun H locs hP hS => ?_)
    refine lv_lstore (lv' := [(5, .long (mYy row sl (mTop (nI wd) fi) a ((a + 7) / 8 * 8))), (4, .int (nI (b / 8))), (3, .int (nI ((a + 7) / 8))), (0, .ref o), (1, .int (nI a)), (2, .int (nI b))]) hx hb dX0_eightAtOnce_54 hl (by decide) rfl (fun ls hl => ?_)
    refine lv_iload_n hx hb dX0_eightAtOnce_56 rfl (lv_at hl 2 rfl) ?_
    refine lv_istore (lv' := [(7, .int (nI ((a + 7) / 8))), (5, .long (mYy row sl (mTop (nI wd) fi) a ((a + 7) / 8 * 8))), (4, .int (nI (b / 8))), (3, .int (nI ((a + 7) / 8))), (0, .ref o), (1, .int (nI a)), (2, .int (nI b))]) hx hb dX0_eightAtOnce_57 hl (by decide) rfl (fun ls hl => ?_)
    have lp_59 : ∀ (k i : Nat), i ≤ b / 8 - (a + 7) / 8 → b / 8 - (a + 7) / 8 < i + k → ∀ (H : Heap) (locs : List Loc), va_P D vwCl (xw o a1 a2 a3 k1 k2 k3 row dv sl nb wd po tp fi la bi bo) H → va_S (fun q : Nat => s.heap.size ≤ q) s.heap H locs → ∀ ls : Array Slot, lv_has ls 8 [(7, .int (nI ((a + 7) / 8 + i))), (5, .long (mWwN row sl (mYy row sl (mTop (nI wd) fi) a ((a + 7) / 8 * 8)) ((a + 7) / 8) i)), (4, .int (nI (b / 8))), (3, .int (nI ((a + 7) / 8))), (0, .ref o), (1, .int (nI a)), (2, .int (nI b))] → W p l e (headSpec wsX0_eightAtOnce { frames := 3, cells := 0, slots := 0, locals := 68 }).room s m ([.ref o, .int (nI a), .int (nI b)] : List Value).toArray below meth c H locs 0 0 (MQ below (roL s.heap.size (mEi row sl (mTop (nI wd) fi) a b)) ([.ref o, .int (nI a), .int (nI b)] : List Value).toArray s 0 0 (fun q : Nat => s.heap.size ≤ q)) (F0 m 59 ls []) := by
      intro k
      induction k with
      | zero =>
        intro i h1 h2
        exact absurd h2 (by omega)
      | succ k ih =>
        intro i hi hk H locs hP hS ls hl
        refine lv_iload hx hb dX0_eightAtOnce_59 (lv_at hl 0 rfl) ?_
        refine lv_iload hx hb dX0_eightAtOnce_61 (lv_at hl 2 rfl) ?_
        refine lv_icmp_ge (tgt := 87) hx hb dX0_eightAtOnce_63 (by decide) (fun c_63 => ?_) (fun c_63 => ?_)
        ·
          have hiN : i = b / 8 - (a + 7) / 8 := by have := (nI_leI (by omega) (by omega)).mp c_63; omega
          refine lv_aload_n hx hb dX0_eightAtOnce_87 rfl (lv_at hl 4 rfl) ?_
          refine lv_lload hx hb dX0_eightAtOnce_88 (lv_at hl 1 rfl) ?_
          refine lv_iload hx hb dX0_eightAtOnce_90 (lv_at hl 2 rfl) ?_
          refine lv_bipush (v := 8) hx hb dX0_eightAtOnce_92 (by decide) ?_
          refine lv_imul hx hb dX0_eightAtOnce_94 ?_
          refine du_rwi (y := nI (b / 8 * 8)) (pk_mul _ 8) ?_
          refine lv_iload_n hx hb dX0_eightAtOnce_95 rfl (lv_at hl 6 rfl) ?_
          refine ro_l (va_runV (As := [.long (mWwN row sl (mYy row sl (mTop (nI wd) fi) a ((a + 7) / 8 * 8)) ((a + 7) / 8) i), .int (nI (b / 8 * 8)), .int (nI b)]) (rest := []) ⟨hx, hb, hml, hown, hts⟩ (c_byteByByte (sz := H.size) (mWwN row sl (mYy row sl (mTop (nI wd) fi) a ((a + 7) / 8 * 8)) ((a + 7) / 8) i) (b / 8 * 8) b (by omega) (hb5)) (cwV 3 hts gX0_eightAtOnce_X0_byteByByte rfl rfl rfl (by decide +kernel) ⟨Nat.le_of_ble_eq_true rfl, Nat.le_of_ble_eq_true rfl⟩) (preV_RO hP hK 0 (ci := 0) rfl rfl) rfl rfl hl.1 rfl (lv_room (Nat.le_of_ble_eq_true rfl)) dX0_eightAtOnce_96 ⟨Nat.le_of_ble_eq_true rfl, Nat.le_of_ble_eq_true rfl⟩) hS hA hP (fun H locs hP hS => ?_)
          exact W.lret (v := (mYy row sl (mWwN row sl (mYy row sl (mTop (nI wd) fi) a ((a + 7) / 8 * 8)) ((a + 7) / 8) i) (b / 8 * 8) b)) hx hb hr (fun t ht hW => ⟨⟨(mYy row sl (mWwN row sl (mYy row sl (mTop (nI wd) fi) a ((a + 7) / 8 * 8)) ((a + 7) / 8) i) (b / 8 * 8) b), (), rfl, by subst hiN; rw [mEi, if_neg (by omega)], trivial⟩, hS.F ht⟩) hS.2.2 dX0_eightAtOnce_99
        ·
          have hlt : i < b / 8 - (a + 7) / 8 := by rcases Nat.lt_or_ge i (b / 8 - (a + 7) / 8) with h | h; exact h; exact absurd (nI_le (by omega) (by omega)) c_63
          refine lv_aload_n hx hb dX0_eightAtOnce_66 rfl (lv_at hl 4 rfl) ?_
          refine lv_lload hx hb dX0_eightAtOnce_67 (lv_at hl 1 rfl) ?_
          refine lv_aload_n hx hb dX0_eightAtOnce_69 rfl (lv_at hl 4 rfl) ?_
          refine va_get (D := D) (ci := 0) (v := .ref a1) (C := RX0) (T := TX0) (N := 11) hx hb hts in_c_eightAtOnce hown hK hP 0 rfl rfl 0 (by decide) (hts (.fieldLink RX0 9 "SliceChecks" "row" "[J") (by decide +kernel)) (fun _ h9 => h9) rfl dX0_eightAtOnce_70 ?_
          refine lv_iload hx hb dX0_eightAtOnce_73 (lv_at hl 0 rfl) ?_
          refine va_lald hx hb hK hP 1 0 rfl rfl (i := nI ((a + 7) / 8 + i)) (vp_in_nI (by omega) (by omega)) dX0_eightAtOnce_75 ?_
          refine ro_l (va_runV (As := [.long (mWwN row sl (mYy row sl (mTop (nI wd) fi) a ((a + 7) / 8 * 8)) ((a + 7) / 8) i), .long (row (nI ((a + 7) / 8 + i)).toNatClampNeg)]) (rest := []) ⟨hx, hb, hml, hown, hts⟩ (c_behindWordByTables (sz := H.size) (mWwN row sl (mYy row sl (mTop (nI wd) fi) a ((a + 7) / 8 * 8)) ((a + 7) / 8) i) (row (nI ((a + 7) / 8 + i)).toNatClampNeg)) (cwV 2 hts gX0_eightAtOnce_X0_behindWordByTables rfl rfl rfl (by decide +kernel) ⟨Nat.le_of_ble_eq_true rfl, Nat.le_of_ble_eq_true rfl⟩) (preV_RO hP hK 0 (ci := 0) rfl rfl) rfl rfl hl.1 rfl (lv_room (Nat.le_of_ble_eq_true rfl)) dX0_eightAtOnce_76 ⟨Nat.le_of_ble_eq_true rfl, Nat.le_of_ble_eq_true rfl⟩) hS hA hP (fun H locs hP hS => ?_)
          refine du_rwl (y := mWwN row sl (mYy row sl (mTop (nI wd) fi) a ((a + 7) / 8 * 8)) ((a + 7) / 8) (i + 1)) (rfl) ?_
          refine lv_lstore (lv' := [(5, .long (mWwN row sl (mYy row sl (mTop (nI wd) fi) a ((a + 7) / 8 * 8)) ((a + 7) / 8) (i + 1))), (7, .int (nI ((a + 7) / 8 + i))), (4, .int (nI (b / 8))), (3, .int (nI ((a + 7) / 8))), (0, .ref o), (1, .int (nI a)), (2, .int (nI b))]) hx hb dX0_eightAtOnce_79 hl (by decide) rfl (fun ls hl => ?_)
          refine lv_iinc (v := nI ((a + 7) / 8 + (i + 1))) (lv' := [(7, .int (nI ((a + 7) / 8 + (i + 1)))), (5, .long (mWwN row sl (mYy row sl (mTop (nI wd) fi) a ((a + 7) / 8 * 8)) ((a + 7) / 8) (i + 1))), (4, .int (nI (b / 8))), (3, .int (nI ((a + 7) / 8))), (0, .ref o), (1, .int (nI a)), (2, .int (nI b))]) hx hb dX0_eightAtOnce_81 hl (k := 1) rfl (nI_1 _) (by decide) rfl (fun ls hl => ?_)
          refine lv_goto (tgt := 59) hx hb dX0_eightAtOnce_84 (by decide) ?_
          exact ih (i + 1) (by omega) (by omega) H locs (hP) hS ls (lv_sub hl [0, 1, 2, 3, 4, 5, 6] rfl)
    exact lp_59 ((b / 8 - (a + 7) / 8) + 1 - 0) 0 (by omega) (by omega) H locs (hP) hS ls (lv_sub hl [0, 1, 2, 3, 4, 5, 6] rfl)
  ·
    have h19 : b / 8 ≤ (a + 7) / 8 := by rcases Nat.lt_or_ge ((a + 7) / 8) (b / 8) with h | h; exact absurd (nI_lt h (by omega)) c_19; exact h
    refine lv_aload_n hx hb dX0_eightAtOnce_22 rfl (lv_at hl 2 rfl) ?_
    refine lv_aload_n hx hb dX0_eightAtOnce_23 rfl (lv_at hl 2 rfl) ?_
    refine lv_aload_n hx hb dX0_eightAtOnce_24 rfl (lv_at hl 2 rfl) ?_
    refine va_get (D := D) (ci := 0) (v := .long fi) (C := RX0) (T := TX0) (N := 11) hx hb hts in_c_eightAtOnce hown hK hP 0 rfl rfl 7 (by decide) (hts (.fieldLink RX0 52 "SliceChecks" "first" "J") (by decide +kernel)) (fun _ h9 => h9) rfl dX0_eightAtOnce_25 ?_
    refine ro_l (va_runV (As := [.long fi]) (rest := [.ref o]) ⟨hx, hb, hml, hown, hts⟩ (c_atTop (sz := H.size) fi) (cwV 1 hts gX0_eightAtOnce_X0_atTop rfl rfl rfl (by decide +kernel) ⟨Nat.le_of_ble_eq_true rfl, Nat.le_of_ble_eq_true rfl⟩) (preV_RO hP hK 0 (ci := 0) rfl rfl) rfl rfl hl.1 rfl (lv_room (Nat.le_of_ble_eq_true rfl)) dX0_eightAtOnce_28 ⟨Nat.le_of_ble_eq_true rfl, Nat.le_of_ble_eq_true rfl⟩) hS hA hP (fun H locs hP hS => ?_)
    refine lv_iload_n hx hb dX0_eightAtOnce_31 rfl (lv_at hl 3 rfl) ?_
    refine lv_iload_n hx hb dX0_eightAtOnce_32 rfl (lv_at hl 4 rfl) ?_
    refine ro_l (va_runV (As := [.long (mTop (nI wd) fi), .int (nI a), .int (nI b)]) (rest := []) ⟨hx, hb, hml, hown, hts⟩ (c_byteByByte (sz := H.size) (mTop (nI wd) fi) a b (ha) (hb5)) (cwV 3 hts gX0_eightAtOnce_X0_byteByByte rfl rfl rfl (by decide +kernel) ⟨Nat.le_of_ble_eq_true rfl, Nat.le_of_ble_eq_true rfl⟩) (preV_RO hP hK 0 (ci := 0) rfl rfl) rfl rfl hl.1 rfl (lv_room (Nat.le_of_ble_eq_true rfl)) dX0_eightAtOnce_33 ⟨Nat.le_of_ble_eq_true rfl, Nat.le_of_ble_eq_true rfl⟩) hS hA hP (fun H locs hP hS => ?_)
    exact W.lret (v := (mYy row sl (mTop (nI wd) fi) a b)) hx hb hr (fun t ht hW => ⟨⟨(mYy row sl (mTop (nI wd) fi) a b), (), rfl, by rw [mEi, if_pos h19], trivial⟩, hS.F ht⟩) hS.2.2 dX0_eightAtOnce_36
