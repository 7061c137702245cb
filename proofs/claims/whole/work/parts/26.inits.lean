/-! The constructors; laid by wip/whole/gen_init.py. -/
theorem in_c_init : ∀ w ∈ wsX00, w ∈ wsX0_init := fun _ h => List.mem_cons_of_mem _ (List.mem_append_right _ h)
set_option maxHeartbeats 4000000 in
set_option maxRecDepth 100000 in
theorem c_init {l : Launch} {D : va_G} {o : Nat} {sz : Nat} : Met l yX0_init wsX0_init ({ frames := 4, cells := 3, slots := 3299, locals := 101 }) (va_Pc [.ref o] (pMU D vwCl [] [(o, .inr (0, [.null, .null, .null, .int 0, .int 0, .long 0, .long 0, .long 0, .long 0, .int 0, .int 0]))] sz)) (va_Qv (fun (_ : Unit) => True) (fun _ t => ∃ (a1 a2 a3 : Nat) (k1 k2 k3 : ClassId), va_P D vwCl (xw o a1 a2 a3 k1 k2 k3 (if (0 : Int32) = 1 then (fun _ => 0) else mTrN (fun _ => 0) ((0 + 7) / 8)) (fun _ => 0) (mFill (mTop (nI 32) 79764919) (fun _ => 0)) 0 32 79764919 (mTop (nI 32) 79764919) 4294967295 4294967295 1 1) t.heap ∧ va_K D vwCl (xt k1 k2 k3) t ∧ va_D (va_A [(o, .inr (0, [.null, .null, .null, .int 0, .int 0, .long 0, .long 0, .long 0, .long 0, .int 0, .int 0]))] sz) (xw o a1 a2 a3 k1 k2 k3 (if (0 : Int32) = 1 then (fun _ => 0) else mTrN (fun _ => 0) ((0 + 7) / 8)) (fun _ => 0) (mFill (mTop (nI 32) 79764919) (fun _ => 0)) 0 32 79764919 (mTop (nI 32) 79764919) 4294967295 4294967295 1 1)) (va_A [(o, .inr (0, [.null, .null, .null, .int 0, .int 0, .long 0, .long 0, .long 0, .long 0, .int 0, .int 0]))] sz)) 3 3299 (va_A [(o, .inr (0, [.null, .null, .null, .int 0, .int 0, .long 0, .long 0, .long 0, .long 0, .int 0, .int 0]))] sz) := by
  refine Met.ofW (cc := cX0_init) (maxL := 1) (ret := none) (by decide) rfl ?_
  intro p e s m args below meth c s₁ B hml hv
  obtain ⟨rfl, hsz, hP, hK, hD0⟩ := hv
  have hsz : s.heap.size = sz := hsz
  have hx := B.exec
  have hb := B.bytes
  have hr := B.returns
  have hts := atoms_spec (ws := wsX0_init) B.pre
  have hown : s.vm.findClass RX0 = some m.cls := findClass_of_methodNamed B.named
  have hlocks := B.notSynchronized
  have hin : meth.name = "<init>" := (name_of_methodNamed B.named B.method).1
  subst hsz
  have hD := hD0.self (sz := s.heap.size)
  have hA : ∀ q9 : Nat, s.heap.size ≤ q9 → va_A [(o, .inr (0, [.null, .null, .null, .int 0, .int 0, .long 0, .long 0, .long 0, .long 0, .int 0, .int 0]))] s.heap.size q9 := fun q9 h => Or.inr h
  generalize va_A [(o, .inr (0, [.null, .null, .null, .int 0, .int 0, .long 0, .long 0, .long 0, .long 0, .int 0, .int 0]))] s.heap.size = A at hD hA ⊢
  have hS : va_S A s.heap s.heap [] := va_S.rf
  have hl := lv_entry ([.ref o]) (n := 1) (Nat.le_of_ble_eq_true rfl)
  rw [lg_entry_eq]
  generalize (lg_sl ([.ref o]) ++ List.replicate (1 - (lg_sl ([.ref o])).length) Slot.unset).toArray = ls at hl ⊢
  have hl : lv_has ls 1 [(0, .ref o)] := hl
  refine lv_aload_n hx hb dX0_init_0 rfl (lv_at hl 0 rfl) ?_
  refine W.objInit hx hb hown (hts (.methodLink RX0 3 objectInit) (by decide +kernel)) (hts (.instanceMethod objectInit) (by decide +kernel)) (hts (.code objectInit ⟨#[0xb1]⟩ 1 none) (List.mem_of_getElem? (i := 3) rfl)) rfl (by rw [hml]; exact hl.1) rfl dX0_init_1 (Nat.le_of_ble_eq_true rfl) (Nat.le_of_ble_eq_true rfl) ?_
  refine W.eq (g2 := F0 m 4 ls []) rfl ?_
  refine lv_aload_n hx hb dX0_init_4 rfl (lv_at hl 0 rfl) ?_
  refine lv_sipush (v := 625) hx hb dX0_init_5 (by decide) ?_
  refine va_newa (atype := .long) (a0 := (625, .inr (.inl (fun _ => 0)))) (N' := 625) hx hb (hts (.arrayClass .long) (by decide +kernel)) rfl hK hP hD hS hA (fun _ => rfl) (by decide) (by decide) (by decide) (Nat.le_of_ble_eq_true rfl) (Nat.le_of_ble_eq_true rfl) dX0_init_8 (fun a1 k1 H hK hP hD hS => ?_)
  have hP : va_P D vwCl [(o, .inr (0, [.null, .null, .null, .int 0, .int 0, .long 0, .long 0, .long 0, .long 0, .int 0, .int 0])), (a1, .inl (k1, 625, .inr (.inl (fun _ => 0))))] H := hP
  have hD : va_D A [(o, .inr (0, [.null, .null, .null, .int 0, .int 0, .long 0, .long 0, .long 0, .long 0, .int 0, .int 0])), (a1, .inl (k1, 625, .inr (.inl (fun _ => 0))))] := hD
  have hK : va_K D vwCl [(k1, .long)] s := hK
  refine va_putF (D := D) (ci := 0) (v := .ref a1) (ty := .array .long) (C := RX0) (T := TX0) (N := 11) hx hb hts in_c_init tyX0 tyX0_ok nmX0 hown hK hP hD hS 0 rfl rfl 0 (by decide) (hts (.fieldLink RX0 9 "SliceChecks" "row" "[J") (by decide +kernel)) (fun _ h9 => h9) rfl hin rfl (by decide +kernel) rfl rfl (Nat.le_of_ble_eq_true rfl) dX0_init_10 (fun H locs hP hD hS => ?_)
  have hP : va_P D vwCl [(o, .inr (0, [.ref a1, .null, .null, .int 0, .int 0, .long 0, .long 0, .long 0, .long 0, .int 0, .int 0])), (a1, .inl (k1, 625, .inr (.inl (fun _ => 0))))] H := hP
  have hD : va_D A [(o, .inr (0, [.ref a1, .null, .null, .int 0, .int 0, .long 0, .long 0, .long 0, .long 0, .int 0, .int 0])), (a1, .inl (k1, 625, .inr (.inl (fun _ => 0))))] := hD
  refine lv_aload_n hx hb dX0_init_13 rfl (lv_at hl 0 rfl) ?_
  refine lv_sipush (v := 626) hx hb dX0_init_14 (by decide) ?_
  refine va_newa (atype := .long) (a0 := (626, .inr (.inl (fun _ => 0)))) (N' := 626) hx hb (hts (.arrayClass .long) (by decide +kernel)) rfl hK hP hD hS hA (fun _ => rfl) (by decide) (by decide) (by decide) (Nat.le_of_ble_eq_true rfl) (Nat.le_of_ble_eq_true rfl) dX0_init_17 (fun a2 k2 H hK hP hD hS => ?_)
  have hP : va_P D vwCl [(o, .inr (0, [.ref a1, .null, .null, .int 0, .int 0, .long 0, .long 0, .long 0, .long 0, .int 0, .int 0])), (a1, .inl (k1, 625, .inr (.inl (fun _ => 0)))), (a2, .inl (k2, 626, .inr (.inl (fun _ => 0))))] H := hP
  have hD : va_D A [(o, .inr (0, [.ref a1, .null, .null, .int 0, .int 0, .long 0, .long 0, .long 0, .long 0, .int 0, .int 0])), (a1, .inl (k1, 625, .inr (.inl (fun _ => 0)))), (a2, .inl (k2, 626, .inr (.inl (fun _ => 0))))] := hD
  have hK : va_K D vwCl [(k1, .long), (k2, .long)] s := hK
  refine va_putF (D := D) (ci := 0) (v := .ref a2) (ty := .array .long) (C := RX0) (T := TX0) (N := 11) hx hb hts in_c_init tyX0 tyX0_ok nmX0 hown hK hP hD hS 0 rfl rfl 1 (by decide) (hts (.fieldLink RX0 13 "SliceChecks" "dividend" "[J") (by decide +kernel)) (fun _ h9 => h9) rfl hin rfl (by decide +kernel) rfl rfl (Nat.le_of_ble_eq_true rfl) dX0_init_19 (fun H locs hP hD hS => ?_)
  have hP : va_P D vwCl [(o, .inr (0, [.ref a1, .ref a2, .null, .int 0, .int 0, .long 0, .long 0, .long 0, .long 0, .int 0, .int 0])), (a1, .inl (k1, 625, .inr (.inl (fun _ => 0)))), (a2, .inl (k2, 626, .inr (.inl (fun _ => 0))))] H := hP
  have hD : va_D A [(o, .inr (0, [.ref a1, .ref a2, .null, .int 0, .int 0, .long 0, .long 0, .long 0, .long 0, .int 0, .int 0])), (a1, .inl (k1, 625, .inr (.inl (fun _ => 0)))), (a2, .inl (k2, 626, .inr (.inl (fun _ => 0))))] := hD
  refine lv_aload_n hx hb dX0_init_22 rfl (lv_at hl 0 rfl) ?_
  refine lv_sipush (v := 2048) hx hb dX0_init_23 (by decide) ?_
  refine va_newa (atype := .long) (a0 := (2048, .inr (.inl (fun _ => 0)))) (N' := 2048) hx hb (hts (.arrayClass .long) (by decide +kernel)) rfl hK hP hD hS hA (fun _ => rfl) (by decide) (by decide) (by decide) (Nat.le_of_ble_eq_true rfl) (Nat.le_of_ble_eq_true rfl) dX0_init_26 (fun a3 k3 H hK hP hD hS => ?_)
  have hP : va_P D vwCl [(o, .inr (0, [.ref a1, .ref a2, .null, .int 0, .int 0, .long 0, .long 0, .long 0, .long 0, .int 0, .int 0])), (a1, .inl (k1, 625, .inr (.inl (fun _ => 0)))), (a2, .inl (k2, 626, .inr (.inl (fun _ => 0)))), (a3, .inl (k3, 2048, .inr (.inl (fun _ => 0))))] H := hP
  have hD : va_D A [(o, .inr (0, [.ref a1, .ref a2, .null, .int 0, .int 0, .long 0, .long 0, .long 0, .long 0, .int 0, .int 0])), (a1, .inl (k1, 625, .inr (.inl (fun _ => 0)))), (a2, .inl (k2, 626, .inr (.inl (fun _ => 0)))), (a3, .inl (k3, 2048, .inr (.inl (fun _ => 0))))] := hD
  have hK : va_K D vwCl [(k1, .long), (k2, .long), (k3, .long)] s := hK
  refine va_putF (D := D) (ci := 0) (v := .ref a3) (ty := .array .long) (C := RX0) (T := TX0) (N := 11) hx hb hts in_c_init tyX0 tyX0_ok nmX0 hown hK hP hD hS 0 rfl rfl 2 (by decide) (hts (.fieldLink RX0 16 "SliceChecks" "slices" "[J") (by decide +kernel)) (fun _ h9 => h9) rfl hin rfl (by decide +kernel) rfl rfl (Nat.le_of_ble_eq_true rfl) dX0_init_28 (fun H locs hP hD hS => ?_)
  have hP : va_P D vwCl [(o, .inr (0, [.ref a1, .ref a2, .ref a3, .int 0, .int 0, .long 0, .long 0, .long 0, .long 0, .int 0, .int 0])), (a1, .inl (k1, 625, .inr (.inl (fun _ => 0)))), (a2, .inl (k2, 626, .inr (.inl (fun _ => 0)))), (a3, .inl (k3, 2048, .inr (.inl (fun _ => 0))))] H := hP
  have hD : va_D A [(o, .inr (0, [.ref a1, .ref a2, .ref a3, .int 0, .int 0, .long 0, .long 0, .long 0, .long 0, .int 0, .int 0])), (a1, .inl (k1, 625, .inr (.inl (fun _ => 0)))), (a2, .inl (k2, 626, .inr (.inl (fun _ => 0)))), (a3, .inl (k3, 2048, .inr (.inl (fun _ => 0))))] := hD
  have hP : va_P D vwCl (xw o a1 a2 a3 k1 k2 k3 (fun _ => 0) (fun _ => 0) (fun _ => 0) 0 0 0 0 0 0 0 0) H := hP
  have hD : va_D A (xw o a1 a2 a3 k1 k2 k3 (fun _ => 0) (fun _ => 0) (fun _ => 0) 0 0 0 0 0 0 0 0) := hD
  have hK : va_K D vwCl (xt k1 k2 k3) s := hK
  refine lv_aload_n hx hb dX0_init_31 rfl (lv_at hl 0 rfl) ?_
  refine lv_bipush (v := nI 32) hx hb dX0_init_32 (by decide) ?_
  refine lv_ldc2 hx hb hown (hts (.constantLong RX0 19 79764919) (by decide +kernel)) dX0_init_34 ?_
  refine lv_ldc2 hx hb hown (hts (.constantLong RX0 21 (-1)) (by decide +kernel)) dX0_init_37 ?_
  refine lv_iconst (v := 1) hx hb dX0_init_40 (by decide) ?_
  refine lv_iconst (v := 1) hx hb dX0_init_41 (by decide) ?_
  refine lv_ldc2 hx hb hown (hts (.constantLong RX0 21 (-1)) (by decide +kernel)) dX0_init_42 ?_
  refine mu_i (wr := []) (ws := (xw o a1 a2 a3 k1 k2 k3 (fun _ => 0) (fun _ => 0) (fun _ => 0) 0 0 0 0 0 0 0 0)) (ws' := (xw o a1 a2 a3 k1 k2 k3 (if (0 : Int32) = 1 then (fun _ => 0) else mTrN (fun _ => 0) ((0 + 7) / 8)) (fun _ => 0) (mFill (mTop (nI 32) 79764919) (fun _ => 0)) 0 32 (mLow (nI 32) 79764919) (mTop (nI 32) 79764919) (mLow (nI 32) (-1)) (mLow (nI 32) (-1)) 1 1)) (va_runV (As := [.int (nI 32), .long 79764919, .long (-1), .int 1, .int 1, .long (-1)]) (rest := []) ⟨hx, hb, hml, hown, hts⟩ (c_kind (sz := H.size) 32 79764919 (-1) 1 1 (-1) (by decide) (by decide) (by decide) (Or.inr rfl) (Or.inr rfl)) (cwV 6 hts gX0_init_X0_kind rfl rfl rfl (by decide +kernel) ⟨Nat.le_of_ble_eq_true rfl, Nat.le_of_ble_eq_true rfl⟩) (preV_MU hP hK hD 0 (ci := 0) rfl rfl) rfl rfl hl.1 rfl (lv_room (Nat.le_of_ble_eq_true rfl)) dX0_init_45 ⟨Nat.le_of_ble_eq_true rfl, Nat.le_of_ble_eq_true rfl⟩) hS hA (by rw [List.append_nil]; exact hP) (by rw [List.append_nil]; exact hD) rfl (fun H locs hP hD hS => ?_)
  rw [List.append_nil, mLow32, mLow32p] at hP hD
  refine lv_pop hx hb dX0_init_48 rfl ?_
  refine W.widen (k := 3) (n := 3299) (by decide) (by decide) ?_
  exact W.vret hx hb hr (fun t ht hW => ⟨⟨(), rfl, trivial, a1, a2, a3, k1, k2, k3, by rw [ht]; exact hP, va_K.moved hW.alike hK, hD⟩, hS.F ht⟩) hS.2.2 dX0_init_49
theorem in_r_init : ∀ w ∈ wsX10, w ∈ wsX1_init := fun _ h => List.mem_cons_of_mem _ (List.mem_append_right _ h)
set_option maxHeartbeats 4000000 in
set_option maxRecDepth 100000 in
theorem r_init {l : Launch} {D : va_G} {q : Nat} {sz : Nat} : Met l yX1_init wsX1_init ({ frames := 1, cells := 1, slots := 5000, locals := 12 }) (va_Pc [.ref q] (pMU D vwCl [] [(q, .inr (1, [.int 0, .long 0, .long 0, .long 0, .int 0, .int 0, .null, .int 0]))] sz)) (va_Qv (fun (_ : Unit) => True) (fun _ t => ∃ (b1 : Nat) (k4 : ClassId), va_P D vwCl (mw q b1 k4 (fun _ => 0) 32 79764919 4294967295 4294967295 1 1 0) t.heap ∧ va_K D vwCl (mt k4) t ∧ va_D (va_A [(q, .inr (1, [.int 0, .long 0, .long 0, .long 0, .int 0, .int 0, .null, .int 0]))] sz) (mw q b1 k4 (fun _ => 0) 32 79764919 4294967295 4294967295 1 1 0)) (va_A [(q, .inr (1, [.int 0, .long 0, .long 0, .long 0, .int 0, .int 0, .null, .int 0]))] sz)) 1 5000 (va_A [(q, .inr (1, [.int 0, .long 0, .long 0, .long 0, .int 0, .int 0, .null, .int 0]))] sz) := by
  refine Met.ofW (cc := cX1_init) (maxL := 1) (ret := none) (by decide) rfl ?_
  intro p e s m args below meth c s₁ B hml hv
  obtain ⟨rfl, hsz, hP, hK, hD0⟩ := hv
  have hsz : s.heap.size = sz := hsz
  have hx := B.exec
  have hb := B.bytes
  have hr := B.returns
  have hts := atoms_spec (ws := wsX1_init) B.pre
  have hown : s.vm.findClass RX1 = some m.cls := findClass_of_methodNamed B.named
  have hlocks := B.notSynchronized
  have hin : meth.name = "<init>" := (name_of_methodNamed B.named B.method).1
  subst hsz
  have hD := hD0.self (sz := s.heap.size)
  have hA : ∀ q9 : Nat, s.heap.size ≤ q9 → va_A [(q, .inr (1, [.int 0, .long 0, .long 0, .long 0, .int 0, .int 0, .null, .int 0]))] s.heap.size q9 := fun q9 h => Or.inr h
  generalize va_A [(q, .inr (1, [.int 0, .long 0, .long 0, .long 0, .int 0, .int 0, .null, .int 0]))] s.heap.size = A at hD hA ⊢
  have hS : va_S A s.heap s.heap [] := va_S.rf
  have hl := lv_entry ([.ref q]) (n := 1) (Nat.le_of_ble_eq_true rfl)
  rw [lg_entry_eq]
  generalize (lg_sl ([.ref q]) ++ List.replicate (1 - (lg_sl ([.ref q])).length) Slot.unset).toArray = ls at hl ⊢
  have hl : lv_has ls 1 [(0, .ref q)] := hl
  refine lv_aload_n hx hb dX1_init_0 rfl (lv_at hl 0 rfl) ?_
  refine W.objInit hx hb hown (hts (.methodLink RX1 1 objectInit) (by decide +kernel)) (hts (.instanceMethod objectInit) (by decide +kernel)) (hts (.code objectInit ⟨#[0xb1]⟩ 1 none) (List.mem_of_getElem? (i := 3) rfl)) rfl (by rw [hml]; exact hl.1) rfl dX1_init_1 (Nat.le_of_ble_eq_true rfl) (Nat.le_of_ble_eq_true rfl) ?_
  refine W.eq (g2 := F0 m 4 ls []) rfl ?_
  refine lv_aload_n hx hb dX1_init_4 rfl (lv_at hl 0 rfl) ?_
  refine lv_bipush (v := 32) hx hb dX1_init_5 (by decide) ?_
  refine va_put (D := D) (ci := 1) (v := .int 32) (ty := .int) (C := RX1) (T := TX1) (N := 8) hx hb hts in_r_init tyX1 tyX1_ok nmX1 hown hK hP hD hS 0 rfl rfl 0 (by decide) (hts (.fieldLink RX1 7 "SliceChecksModel" "width" "I") (by decide +kernel)) (fun _ h9 => h9) rfl (by decide +kernel) rfl rfl (Nat.le_of_ble_eq_true rfl) dX1_init_7 (fun H locs hP hD hS => ?_)
  have hP : va_P D vwCl [(q, .inr (1, [.int 32, .long 0, .long 0, .long 0, .int 0, .int 0, .null, .int 0]))] H := hP
  have hD : va_D A [(q, .inr (1, [.int 32, .long 0, .long 0, .long 0, .int 0, .int 0, .null, .int 0]))] := hD
  refine lv_aload_n hx hb dX1_init_10 rfl (lv_at hl 0 rfl) ?_
  refine lv_ldc2 hx hb hown (hts (.constantLong RX1 13 79764919) (by decide +kernel)) dX1_init_11 ?_
  refine va_put (D := D) (ci := 1) (v := .long 79764919) (ty := .long) (C := RX1) (T := TX1) (N := 8) hx hb hts in_r_init tyX1 tyX1_ok nmX1 hown hK hP hD hS 0 rfl rfl 1 (by decide) (hts (.fieldLink RX1 15 "SliceChecksModel" "polynomial" "J") (by decide +kernel)) (fun _ h9 => h9) rfl (by decide +kernel) rfl rfl (Nat.le_of_ble_eq_true rfl) dX1_init_14 (fun H locs hP hD hS => ?_)
  have hP : va_P D vwCl [(q, .inr (1, [.int 32, .long 79764919, .long 0, .long 0, .int 0, .int 0, .null, .int 0]))] H := hP
  have hD : va_D A [(q, .inr (1, [.int 32, .long 79764919, .long 0, .long 0, .int 0, .int 0, .null, .int 0]))] := hD
  refine lv_aload_n hx hb dX1_init_17 rfl (lv_at hl 0 rfl) ?_
  refine lv_ldc2 hx hb hown (hts (.constantLong RX1 19 4294967295) (by decide +kernel)) dX1_init_18 ?_
  refine va_put (D := D) (ci := 1) (v := .long 4294967295) (ty := .long) (C := RX1) (T := TX1) (N := 8) hx hb hts in_r_init tyX1 tyX1_ok nmX1 hown hK hP hD hS 0 rfl rfl 2 (by decide) (hts (.fieldLink RX1 21 "SliceChecksModel" "first" "J") (by decide +kernel)) (fun _ h9 => h9) rfl (by decide +kernel) rfl rfl (Nat.le_of_ble_eq_true rfl) dX1_init_21 (fun H locs hP hD hS => ?_)
  have hP : va_P D vwCl [(q, .inr (1, [.int 32, .long 79764919, .long 4294967295, .long 0, .int 0, .int 0, .null, .int 0]))] H := hP
  have hD : va_D A [(q, .inr (1, [.int 32, .long 79764919, .long 4294967295, .long 0, .int 0, .int 0, .null, .int 0]))] := hD
  refine lv_aload_n hx hb dX1_init_24 rfl (lv_at hl 0 rfl) ?_
  refine lv_ldc2 hx hb hown (hts (.constantLong RX1 19 4294967295) (by decide +kernel)) dX1_init_25 ?_
  refine va_put (D := D) (ci := 1) (v := .long 4294967295) (ty := .long) (C := RX1) (T := TX1) (N := 8) hx hb hts in_r_init tyX1 tyX1_ok nmX1 hown hK hP hD hS 0 rfl rfl 3 (by decide) (hts (.fieldLink RX1 24 "SliceChecksModel" "last" "J") (by decide +kernel)) (fun _ h9 => h9) rfl (by decide +kernel) rfl rfl (Nat.le_of_ble_eq_true rfl) dX1_init_28 (fun H locs hP hD hS => ?_)
  have hP : va_P D vwCl [(q, .inr (1, [.int 32, .long 79764919, .long 4294967295, .long 4294967295, .int 0, .int 0, .null, .int 0]))] H := hP
  have hD : va_D A [(q, .inr (1, [.int 32, .long 79764919, .long 4294967295, .long 4294967295, .int 0, .int 0, .null, .int 0]))] := hD
  refine lv_aload_n hx hb dX1_init_31 rfl (lv_at hl 0 rfl) ?_
  refine lv_iconst (v := 1) hx hb dX1_init_32 (by decide) ?_
  refine va_put (D := D) (ci := 1) (v := .int 1) (ty := .boolean) (C := RX1) (T := TX1) (N := 8) hx hb hts in_r_init tyX1 tyX1_ok nmX1 hown hK hP hD hS 0 rfl rfl 4 (by decide) (hts (.fieldLink RX1 27 "SliceChecksModel" "in" "Z") (by decide +kernel)) (fun _ h9 => h9) rfl (by decide +kernel) (by decide) (by decide) (Nat.le_of_ble_eq_true rfl) dX1_init_33 (fun H locs hP hD hS => ?_)
  have hP : va_P D vwCl [(q, .inr (1, [.int 32, .long 79764919, .long 4294967295, .long 4294967295, .int 1, .int 0, .null, .int 0]))] H := hP
  have hD : va_D A [(q, .inr (1, [.int 32, .long 79764919, .long 4294967295, .long 4294967295, .int 1, .int 0, .null, .int 0]))] := hD
  refine lv_aload_n hx hb dX1_init_36 rfl (lv_at hl 0 rfl) ?_
  refine lv_iconst (v := 1) hx hb dX1_init_37 (by decide) ?_
  refine va_put (D := D) (ci := 1) (v := .int 1) (ty := .boolean) (C := RX1) (T := TX1) (N := 8) hx hb hts in_r_init tyX1 tyX1_ok nmX1 hown hK hP hD hS 0 rfl rfl 5 (by decide) (hts (.fieldLink RX1 31 "SliceChecksModel" "out" "Z") (by decide +kernel)) (fun _ h9 => h9) rfl (by decide +kernel) (by decide) (by decide) (Nat.le_of_ble_eq_true rfl) dX1_init_38 (fun H locs hP hD hS => ?_)
  have hP : va_P D vwCl [(q, .inr (1, [.int 32, .long 79764919, .long 4294967295, .long 4294967295, .int 1, .int 1, .null, .int 0]))] H := hP
  have hD : va_D A [(q, .inr (1, [.int 32, .long 79764919, .long 4294967295, .long 4294967295, .int 1, .int 1, .null, .int 0]))] := hD
  refine lv_aload_n hx hb dX1_init_41 rfl (lv_at hl 0 rfl) ?_
  refine lv_sipush (v := 5000) hx hb dX1_init_42 (by decide) ?_
  refine va_newa (atype := .int) (a0 := (5000, .inl (fun _ => 0))) (N' := 5000) hx hb (hts (.arrayClass .int) (by decide +kernel)) rfl hK hP hD hS hA (fun _ => rfl) (by decide) (by decide) (by decide) (Nat.le_of_ble_eq_true rfl) (Nat.le_of_ble_eq_true rfl) dX1_init_45 (fun b1 k4 H hK hP hD hS => ?_)
  have hP : va_P D vwCl [(q, .inr (1, [.int 32, .long 79764919, .long 4294967295, .long 4294967295, .int 1, .int 1, .null, .int 0])), (b1, .inl (k4, 5000, .inl (fun _ => 0)))] H := hP
  have hD : va_D A [(q, .inr (1, [.int 32, .long 79764919, .long 4294967295, .long 4294967295, .int 1, .int 1, .null, .int 0])), (b1, .inl (k4, 5000, .inl (fun _ => 0)))] := hD
  have hK : va_K D vwCl [(k4, .int)] s := hK
  refine va_putF (D := D) (ci := 1) (v := .ref b1) (ty := .array .int) (C := RX1) (T := TX1) (N := 8) hx hb hts in_r_init tyX1 tyX1_ok nmX1 hown hK hP hD hS 0 rfl rfl 6 (by decide) (hts (.fieldLink RX1 34 "SliceChecksModel" "bytes" "[I") (by decide +kernel)) (fun _ h9 => h9) rfl hin rfl (by decide +kernel) rfl rfl (Nat.le_of_ble_eq_true rfl) dX1_init_47 (fun H locs hP hD hS => ?_)
  have hP : va_P D vwCl [(q, .inr (1, [.int 32, .long 79764919, .long 4294967295, .long 4294967295, .int 1, .int 1, .ref b1, .int 0])), (b1, .inl (k4, 5000, .inl (fun _ => 0)))] H := hP
  have hD : va_D A [(q, .inr (1, [.int 32, .long 79764919, .long 4294967295, .long 4294967295, .int 1, .int 1, .ref b1, .int 0])), (b1, .inl (k4, 5000, .inl (fun _ => 0)))] := hD
  have hP : va_P D vwCl (mw q b1 k4 (fun _ => 0) 32 79764919 4294967295 4294967295 1 1 0) H := hP
  have hD : va_D A (mw q b1 k4 (fun _ => 0) 32 79764919 4294967295 4294967295 1 1 0) := hD
  refine W.widen (k := 1) (n := 5000) (by decide) (by decide) ?_
  exact W.vret hx hb hr (fun t ht hW => ⟨⟨(), rfl, trivial, b1, k4, by rw [ht]; exact hP, va_K.moved hW.alike hK, hD⟩, hS.F ht⟩) hS.2.2 dX1_init_50
