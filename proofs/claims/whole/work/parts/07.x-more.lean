/-! Contracts, laid by wip/whole/gen.py. -/
theorem in_c_dividendFrom : ∀ w ∈ wsX00, w ∈ wsX0_dividendFrom := fun _ h => List.mem_cons_of_mem _ (List.mem_append_right _ h)
set_option maxHeartbeats 4000000 in
set_option maxRecDepth 100000 in
theorem c_dividendFrom {l : Launch} {D : va_G} {o a1 a2 a3 : Nat} {k1 k2 k3 : ClassId} {row : Nat → Int64} {dv : Nat → Int64} {sl : Nat → Int64} {nb : Nat} {wd : Nat} {po : Int64} {tp : Int64} {fi : Int64} {la : Int64} {bi : Int32} {bo : Int32} {sz : Nat} (j : Nat) (hj : j ≤ 40000) : Met l yX0_dividendFrom wsX0_dividendFrom ({ frames := 0, cells := 0, slots := 0, locals := 0 }) (va_Pc [.ref o, .int (nI j)] (pRO D vwCl (xt k1 k2 k3) (xw o a1 a2 a3 k1 k2 k3 row dv sl nb wd po tp fi la bi bo) sz)) (roL sz (mDvF dv j)) 0 0 (fun q : Nat => sz ≤ q) := by
  refine Met.ofW (cc := cX0_dividendFrom) (maxL := 4) (ret := (some .long)) (by decide) rfl ?_
  intro p e s m args below meth c s₁ B hml hv
  obtain ⟨rfl, hsz, hP, hK⟩ := hv
  have hsz : s.heap.size = sz := hsz
  have hx := B.exec
  have hb := B.bytes
  have hr := B.returns
  have hts := atoms_spec (ws := wsX0_dividendFrom) B.pre
  have hown : s.vm.findClass RX0 = some m.cls := findClass_of_methodNamed B.named
  have hlocks := B.notSynchronized
  subst hsz
  have hA : ∀ q : Nat, s.heap.size ≤ q → (fun q : Nat => s.heap.size ≤ q) q := fun _ h => h
  have hS : va_S (fun q : Nat => s.heap.size ≤ q) s.heap s.heap [] := va_S.rf
  have hl := lv_entry ([.ref o, .int (nI j)]) (n := 4) (Nat.le_of_ble_eq_true rfl)
  rw [lg_entry_eq]
  generalize (lg_sl ([.ref o, .int (nI j)]) ++ List.replicate (4 - (lg_sl ([.ref o, .int (nI j)])).length) Slot.unset).toArray = ls at hl ⊢
  have hl : lv_has ls 4 [(0, .ref o), (1, .int (nI j))] := hl
  suffices key : ∀ (H : Heap) (locs : List Loc), va_P D vwCl (xw o a1 a2 a3 k1 k2 k3 row dv sl nb wd po tp fi la bi bo) H → va_S (fun q : Nat => s.heap.size ≤ q) s.heap H locs → W p l e (headSpec wsX0_dividendFrom { frames := 0, cells := 0, slots := 0, locals := 0 }).room s m ([.ref o, .int (nI j)] : List Value).toArray below meth c H locs 0 0 (MQ below (roL s.heap.size (mDvF dv j)) ([.ref o, .int (nI j)] : List Value).toArray s 0 0 (fun q : Nat => s.heap.size ≤ q)) (F0 m 0 ls []) from key s.heap [] hP hS
  intro H locs hP hS
  refine lv_iload_n hx hb dX0_dividendFrom_0 rfl (lv_at hl 1 rfl) ?_
  refine lv_bipush (v := 64) hx hb dX0_dividendFrom_1 (by decide) ?_
  refine lv_idiv hx hb dX0_dividendFrom_3 (by decide) ?_
  refine du_rwi (y := nI (j / 64)) (du_div64 (by omega)) ?_
  refine lv_istore_n (lv' := [(2, .int (nI (j / 64))), (0, .ref o), (1, .int (nI j))]) hx hb dX0_dividendFrom_4 rfl hl (by decide) rfl (fun ls hl => ?_)
  refine lv_iload_n hx hb dX0_dividendFrom_5 rfl (lv_at hl 2 rfl) ?_
  refine lv_bipush (v := 64) hx hb dX0_dividendFrom_6 (by decide) ?_
  refine lv_irem hx hb dX0_dividendFrom_8 (by decide) ?_
  refine du_rwi (y := nI (j % 64)) (du_rem64 (by omega)) ?_
  refine lv_istore_n (lv' := [(3, .int (nI (j % 64))), (2, .int (nI (j / 64))), (0, .ref o), (1, .int (nI j))]) hx hb dX0_dividendFrom_9 rfl hl (by decide) rfl (fun ls hl => ?_)
  refine lv_iload_n hx hb dX0_dividendFrom_10 rfl (lv_at hl 0 rfl) ?_
  refine lv_if_ne (tgt := 23) hx hb dX0_dividendFrom_11 (by decide) (fun c_11 => ?_) (fun c_11 => ?_)
  ·
    have hj64 : j % 64 ≠ 0 := fun h => c_11 (by rw [h]; rfl)
    refine lv_aload_n hx hb dX0_dividendFrom_23 rfl (lv_at hl 2 rfl) ?_
    refine va_get (D := D) (ci := 0) (v := .ref a2) (C := RX0) (T := TX0) (N := 11) hx hb hts in_c_dividendFrom hown hK hP 0 rfl rfl 1 (by decide) (hts (.fieldLink RX0 13 "SliceChecks" "dividend" "[J") (by decide +kernel)) (fun _ h9 => h9) rfl dX0_dividendFrom_24 ?_
    refine lv_iload_n hx hb dX0_dividendFrom_27 rfl (lv_at hl 1 rfl) ?_
    refine va_lald hx hb hK hP 2 1 rfl rfl (i := nI (j / 64)) (vp_in_nI (by omega) (by omega)) dX0_dividendFrom_28 ?_
    refine lv_iload_n hx hb dX0_dividendFrom_29 rfl (lv_at hl 0 rfl) ?_
    refine lv_lshl (v := jshl (dv (nI (j / 64)).toNatClampNeg) (nI (j % 64))) hx hb dX0_dividendFrom_30 rfl ?_
    refine lv_aload_n hx hb dX0_dividendFrom_31 rfl (lv_at hl 2 rfl) ?_
    refine va_get (D := D) (ci := 0) (v := .ref a2) (C := RX0) (T := TX0) (N := 11) hx hb hts in_c_dividendFrom hown hK hP 0 rfl rfl 1 (by decide) (hts (.fieldLink RX0 13 "SliceChecks" "dividend" "[J") (by decide +kernel)) (fun _ h9 => h9) rfl dX0_dividendFrom_32 ?_
    refine lv_iload_n hx hb dX0_dividendFrom_35 rfl (lv_at hl 1 rfl) ?_
    refine lv_iconst (v := 1) hx hb dX0_dividendFrom_36 (by decide) ?_
    refine lv_iadd hx hb dX0_dividendFrom_37 ?_
    refine va_lald hx hb hK hP 2 1 rfl rfl (i := (nI (j / 64)) + 1) (by rw [nI_1]; exact vp_in_nI (by omega) (by omega)) dX0_dividendFrom_38 ?_
    refine lv_bipush (v := 64) hx hb dX0_dividendFrom_39 (by decide) ?_
    refine lv_iload_n hx hb dX0_dividendFrom_41 rfl (lv_at hl 0 rfl) ?_
    refine lv_isub hx hb dX0_dividendFrom_42 ?_
    refine lv_lushr (v := jushr (dv ((nI (j / 64)) + 1).toNatClampNeg) (64 - (nI (j % 64)))) hx hb dX0_dividendFrom_43 rfl ?_
    refine lv_lor hx hb dX0_dividendFrom_44 ?_
    exact W.lret (v := ((jshl (dv (nI (j / 64)).toNatClampNeg) (nI (j % 64))) ||| (jushr (dv ((nI (j / 64)) + 1).toNatClampNeg) (64 - (nI (j % 64)))))) hx hb hr (fun t ht hW => ⟨⟨((jshl (dv (nI (j / 64)).toNatClampNeg) (nI (j % 64))) ||| (jushr (dv ((nI (j / 64)) + 1).toNatClampNeg) (64 - (nI (j % 64))))), (), rfl, by first | rw [mDvF, if_pos c_11] | rw [mDvF, if_neg c_11], trivial⟩, hS.F ht⟩) hS.2.2 dX0_dividendFrom_45
  ·
    refine lv_aload_n hx hb dX0_dividendFrom_14 rfl (lv_at hl 2 rfl) ?_
    refine va_get (D := D) (ci := 0) (v := .ref a2) (C := RX0) (T := TX0) (N := 11) hx hb hts in_c_dividendFrom hown hK hP 0 rfl rfl 1 (by decide) (hts (.fieldLink RX0 13 "SliceChecks" "dividend" "[J") (by decide +kernel)) (fun _ h9 => h9) rfl dX0_dividendFrom_15 ?_
    refine lv_iload_n hx hb dX0_dividendFrom_18 rfl (lv_at hl 1 rfl) ?_
    refine va_lald hx hb hK hP 2 1 rfl rfl (i := nI (j / 64)) (vp_in_nI (by omega) (by omega)) dX0_dividendFrom_19 ?_
    refine lv_goto (tgt := 45) hx hb dX0_dividendFrom_20 (by decide) ?_
    exact W.lret (v := (dv (nI (j / 64)).toNatClampNeg)) hx hb hr (fun t ht hW => ⟨⟨(dv (nI (j / 64)).toNatClampNeg), (), rfl, by first | rw [mDvF, if_pos c_11] | rw [mDvF, if_neg c_11], trivial⟩, hS.F ht⟩) hS.2.2 dX0_dividendFrom_45
theorem in_c_addPolynomialAt : ∀ w ∈ wsX00, w ∈ wsX0_addPolynomialAt := fun _ h => List.mem_cons_of_mem _ (List.mem_append_right _ h)
set_option maxHeartbeats 4000000 in
set_option maxRecDepth 100000 in
theorem c_addPolynomialAt {l : Launch} {D : va_G} {o a1 a2 a3 : Nat} {k1 k2 k3 : ClassId} {row : Nat → Int64} {dv : Nat → Int64} {sl : Nat → Int64} {nb : Nat} {wd : Nat} {po : Int64} {tp : Int64} {fi : Int64} {la : Int64} {bi : Int32} {bo : Int32} {sz : Nat} (j : Nat) (hj : j < 40000) : Met l yX0_addPolynomialAt wsX0_addPolynomialAt ({ frames := 0, cells := 0, slots := 0, locals := 0 }) (va_Pc [.ref o, .int (nI j)] (pMU D vwCl (xt k1 k2 k3) (xw o a1 a2 a3 k1 k2 k3 row dv sl nb wd po tp fi la bi bo) sz)) (muV D vwCl (xw o a1 a2 a3 k1 k2 k3 row dv sl nb wd po tp fi la bi bo) (xw o a1 a2 a3 k1 k2 k3 row (mAdd dv tp j) sl nb wd po tp fi la bi bo) sz) 0 0 (va_A (xw o a1 a2 a3 k1 k2 k3 row dv sl nb wd po tp fi la bi bo) sz) := by
  refine Met.ofW (cc := cX0_addPolynomialAt) (maxL := 4) (ret := none) (by decide) rfl ?_
  intro p e s m args below meth c s₁ B hml hv
  obtain ⟨rfl, hsz, hP, hK, hD0⟩ := hv
  have hsz : s.heap.size = sz := hsz
  have hx := B.exec
  have hb := B.bytes
  have hr := B.returns
  have hts := atoms_spec (ws := wsX0_addPolynomialAt) B.pre
  have hown : s.vm.findClass RX0 = some m.cls := findClass_of_methodNamed B.named
  have hlocks := B.notSynchronized
  subst hsz
  have hD0 := hD0.self (sz := s.heap.size)
  have hA : ∀ q9 : Nat, s.heap.size ≤ q9 → va_A (xw o a1 a2 a3 k1 k2 k3 row dv sl nb wd po tp fi la bi bo) s.heap.size q9 := fun q9 h => Or.inr h
  unfold muV
  generalize va_A (xw o a1 a2 a3 k1 k2 k3 row dv sl nb wd po tp fi la bi bo) s.heap.size = A at hD0 hA ⊢
  have hD := hD0
  have hS : va_S A s.heap s.heap [] := va_S.rf
  have hl := lv_entry ([.ref o, .int (nI j)]) (n := 4) (Nat.le_of_ble_eq_true rfl)
  rw [lg_entry_eq]
  generalize (lg_sl ([.ref o, .int (nI j)]) ++ List.replicate (4 - (lg_sl ([.ref o, .int (nI j)])).length) Slot.unset).toArray = ls at hl ⊢
  have hl : lv_has ls 4 [(0, .ref o), (1, .int (nI j))] := hl
  suffices key : ∀ (H : Heap) (locs : List Loc), va_P D vwCl (xw o a1 a2 a3 k1 k2 k3 row dv sl nb wd po tp fi la bi bo) H → va_S A s.heap H locs → W p l e (headSpec wsX0_addPolynomialAt { frames := 0, cells := 0, slots := 0, locals := 0 }).room s m ([.ref o, .int (nI j)] : List Value).toArray below meth c H locs 0 0 (MQ below (va_Qv (fun (_ : Unit) => True) (fun _ t9 => va_P D vwCl (xw o a1 a2 a3 k1 k2 k3 row (mAdd dv tp j) sl nb wd po tp fi la bi bo) t9.heap) A) ([.ref o, .int (nI j)] : List Value).toArray s 0 0 A) (F0 m 0 ls []) from key s.heap [] hP hS
  intro H locs hP hS
  refine lv_aload_n hx hb dX0_addPolynomialAt_0 rfl (lv_at hl 0 rfl) ?_
  refine va_get (D := D) (ci := 0) (v := .ref a2) (C := RX0) (T := TX0) (N := 11) hx hb hts in_c_addPolynomialAt hown hK hP 0 rfl rfl 1 (by decide) (hts (.fieldLink RX0 13 "SliceChecks" "dividend" "[J") (by decide +kernel)) (fun _ h9 => h9) rfl dX0_addPolynomialAt_1 ?_
  refine lv_iload_n hx hb dX0_addPolynomialAt_4 rfl (lv_at hl 1 rfl) ?_
  refine lv_bipush (v := 64) hx hb dX0_addPolynomialAt_5 (by decide) ?_
  refine lv_idiv hx hb dX0_addPolynomialAt_7 (by decide) ?_
  refine du_rwi (y := nI (j / 64)) (du_div64 (by omega)) ?_
  refine lv_dup2_11 hx hb dX0_addPolynomialAt_8 rfl rfl ?_
  refine va_lald hx hb hK hP 2 1 rfl rfl (i := nI (j / 64)) (vp_in_nI (by omega) (by omega)) dX0_addPolynomialAt_9 ?_
  refine lv_lconst (v := 1) hx hb dX0_addPolynomialAt_10 (by decide) ?_
  refine lv_bipush (v := 63) hx hb dX0_addPolynomialAt_11 (by decide) ?_
  refine lv_iload_n hx hb dX0_addPolynomialAt_13 rfl (lv_at hl 1 rfl) ?_
  refine lv_bipush (v := 64) hx hb dX0_addPolynomialAt_14 (by decide) ?_
  refine lv_irem hx hb dX0_addPolynomialAt_16 (by decide) ?_
  refine du_rwi (y := nI (j % 64)) (du_rem64 (by omega)) ?_
  refine lv_isub hx hb dX0_addPolynomialAt_17 ?_
  refine lv_lshl (v := jshl 1 (63 - (nI (j % 64)))) hx hb dX0_addPolynomialAt_18 rfl ?_
  refine lv_lxor hx hb dX0_addPolynomialAt_19 ?_
  refine va_last hx hb hK hP hD hS 2 1 rfl rfl (i := nI (j / 64)) (x := (dv (nI (j / 64)).toNatClampNeg) ^^^ (jshl 1 (63 - (nI (j % 64))))) (vp_in_nI (by omega) (by omega)) dX0_addPolynomialAt_20 (fun H locs hP hD hS => ?_)
  have hP : va_P D vwCl (xw o a1 a2 a3 k1 k2 k3 row (mAd1 dv j) sl nb wd po tp fi la bi bo) H := hP
  have hD : va_D A (xw o a1 a2 a3 k1 k2 k3 row (mAd1 dv j) sl nb wd po tp fi la bi bo) := hD
  refine lv_iload_n hx hb dX0_addPolynomialAt_21 rfl (lv_at hl 1 rfl) ?_
  refine lv_iconst (v := 1) hx hb dX0_addPolynomialAt_22 (by decide) ?_
  refine lv_iadd hx hb dX0_addPolynomialAt_23 ?_
  refine du_rwi (y := nI (j + 1)) (nI_1 j) ?_
  refine lv_bipush (v := 64) hx hb dX0_addPolynomialAt_24 (by decide) ?_
  refine lv_idiv hx hb dX0_addPolynomialAt_26 (by decide) ?_
  refine du_rwi (y := nI ((j + 1) / 64)) (du_div64 (by omega)) ?_
  refine lv_istore_n (lv' := [(2, .int (nI ((j + 1) / 64))), (0, .ref o), (1, .int (nI j))]) hx hb dX0_addPolynomialAt_27 rfl hl (by decide) rfl (fun ls hl => ?_)
  refine lv_iload_n hx hb dX0_addPolynomialAt_28 rfl (lv_at hl 2 rfl) ?_
  refine lv_iconst (v := 1) hx hb dX0_addPolynomialAt_29 (by decide) ?_
  refine lv_iadd hx hb dX0_addPolynomialAt_30 ?_
  refine du_rwi (y := nI (j + 1)) (nI_1 j) ?_
  refine lv_bipush (v := 64) hx hb dX0_addPolynomialAt_31 (by decide) ?_
  refine lv_irem hx hb dX0_addPolynomialAt_33 (by decide) ?_
  refine du_rwi (y := nI ((j + 1) % 64)) (du_rem64 (by omega)) ?_
  refine lv_istore_n (lv' := [(3, .int (nI ((j + 1) % 64))), (2, .int (nI ((j + 1) / 64))), (0, .ref o), (1, .int (nI j))]) hx hb dX0_addPolynomialAt_34 rfl hl (by decide) rfl (fun ls hl => ?_)
  refine lv_aload_n hx hb dX0_addPolynomialAt_35 rfl (lv_at hl 2 rfl) ?_
  refine va_get (D := D) (ci := 0) (v := .ref a2) (C := RX0) (T := TX0) (N := 11) hx hb hts in_c_addPolynomialAt hown hK hP 0 rfl rfl 1 (by decide) (hts (.fieldLink RX0 13 "SliceChecks" "dividend" "[J") (by decide +kernel)) (fun _ h9 => h9) rfl dX0_addPolynomialAt_36 ?_
  refine lv_iload_n hx hb dX0_addPolynomialAt_39 rfl (lv_at hl 1 rfl) ?_
  refine lv_dup2_11 hx hb dX0_addPolynomialAt_40 rfl rfl ?_
  refine va_lald hx hb hK hP 2 1 rfl rfl (i := nI ((j + 1) / 64)) (vp_in_nI (by omega) (by omega)) dX0_addPolynomialAt_41 ?_
  refine lv_aload_n hx hb dX0_addPolynomialAt_42 rfl (lv_at hl 2 rfl) ?_
  refine va_get (D := D) (ci := 0) (v := .long tp) (C := RX0) (T := TX0) (N := 11) hx hb hts in_c_addPolynomialAt hown hK hP 0 rfl rfl 6 (by decide) (hts (.fieldLink RX0 49 "SliceChecks" "topPolynomial" "J") (by decide +kernel)) (fun _ h9 => h9) rfl dX0_addPolynomialAt_43 ?_
  refine lv_iload_n hx hb dX0_addPolynomialAt_46 rfl (lv_at hl 0 rfl) ?_
  refine lv_lushr (v := jushr tp (nI ((j + 1) % 64))) hx hb dX0_addPolynomialAt_47 rfl ?_
  refine lv_lxor hx hb dX0_addPolynomialAt_48 ?_
  refine va_last hx hb hK hP hD hS 2 1 rfl rfl (i := nI ((j + 1) / 64)) (x := ((mAd1 dv j) (nI ((j + 1) / 64)).toNatClampNeg) ^^^ (jushr tp (nI ((j + 1) % 64)))) (vp_in_nI (by omega) (by omega)) dX0_addPolynomialAt_49 (fun H locs hP hD hS => ?_)
  have hP : va_P D vwCl (xw o a1 a2 a3 k1 k2 k3 row (mAd2 dv tp j) sl nb wd po tp fi la bi bo) H := hP
  have hD : va_D A (xw o a1 a2 a3 k1 k2 k3 row (mAd2 dv tp j) sl nb wd po tp fi la bi bo) := hD
  refine lv_iload_n hx hb dX0_addPolynomialAt_50 rfl (lv_at hl 0 rfl) ?_
  refine lv_if_eq (tgt := 74) hx hb dX0_addPolynomialAt_51 (by decide) (fun c_51 => ?_) (fun c_51 => ?_)
  ·
    have hPf : va_P D vwCl (xw o a1 a2 a3 k1 k2 k3 row (mAdd dv tp j) sl nb wd po tp fi la bi bo) H := by first | (rw [mAdd, if_pos c_51]; exact hP) | (rw [mAdd, if_neg c_51]; exact hP)
    exact W.vret hx hb hr (fun t ht hW => ⟨⟨(), rfl, trivial, by show va_P _ _ _ t.heap; rw [ht]; exact hPf⟩, hS.F ht⟩) hS.2.2 dX0_addPolynomialAt_74
  ·
    have hj64 : (j + 1) % 64 ≠ 0 := fun h => c_51 (by rw [h]; rfl)
    refine lv_aload_n hx hb dX0_addPolynomialAt_54 rfl (lv_at hl 2 rfl) ?_
    refine va_get (D := D) (ci := 0) (v := .ref a2) (C := RX0) (T := TX0) (N := 11) hx hb hts in_c_addPolynomialAt hown hK hP 0 rfl rfl 1 (by decide) (hts (.fieldLink RX0 13 "SliceChecks" "dividend" "[J") (by decide +kernel)) (fun _ h9 => h9) rfl dX0_addPolynomialAt_55 ?_
    refine lv_iload_n hx hb dX0_addPolynomialAt_58 rfl (lv_at hl 1 rfl) ?_
    refine lv_iconst (v := 1) hx hb dX0_addPolynomialAt_59 (by decide) ?_
    refine lv_iadd hx hb dX0_addPolynomialAt_60 ?_
    refine lv_dup2_11 hx hb dX0_addPolynomialAt_61 rfl rfl ?_
    refine va_lald hx hb hK hP 2 1 rfl rfl (i := (nI ((j + 1) / 64)) + 1) (by rw [nI_1]; exact vp_in_nI (by omega) (by omega)) dX0_addPolynomialAt_62 ?_
    refine lv_aload_n hx hb dX0_addPolynomialAt_63 rfl (lv_at hl 2 rfl) ?_
    refine va_get (D := D) (ci := 0) (v := .long tp) (C := RX0) (T := TX0) (N := 11) hx hb hts in_c_addPolynomialAt hown hK hP 0 rfl rfl 6 (by decide) (hts (.fieldLink RX0 49 "SliceChecks" "topPolynomial" "J") (by decide +kernel)) (fun _ h9 => h9) rfl dX0_addPolynomialAt_64 ?_
    refine lv_bipush (v := 64) hx hb dX0_addPolynomialAt_67 (by decide) ?_
    refine lv_iload_n hx hb dX0_addPolynomialAt_69 rfl (lv_at hl 0 rfl) ?_
    refine lv_isub hx hb dX0_addPolynomialAt_70 ?_
    refine lv_lshl (v := jshl tp (64 - (nI ((j + 1) % 64)))) hx hb dX0_addPolynomialAt_71 rfl ?_
    refine lv_lxor hx hb dX0_addPolynomialAt_72 ?_
    refine va_last hx hb hK hP hD hS 2 1 rfl rfl (i := (nI ((j + 1) / 64)) + 1) (x := ((mAd2 dv tp j) ((nI ((j + 1) / 64)) + 1).toNatClampNeg) ^^^ (jshl tp (64 - (nI ((j + 1) % 64))))) (by rw [nI_1]; exact vp_in_nI (by omega) (by omega)) dX0_addPolynomialAt_73 (fun H locs hP hD hS => ?_)
    have hP : va_P D vwCl (xw o a1 a2 a3 k1 k2 k3 row (vp_updL (mAd2 dv tp j) ((nI ((j + 1) / 64)) + 1).toNatClampNeg (((mAd2 dv tp j) ((nI ((j + 1) / 64)) + 1).toNatClampNeg) ^^^ (jshl tp (64 - (nI ((j + 1) % 64)))))) sl nb wd po tp fi la bi bo) H := hP
    have hD : va_D A (xw o a1 a2 a3 k1 k2 k3 row (vp_updL (mAd2 dv tp j) ((nI ((j + 1) / 64)) + 1).toNatClampNeg (((mAd2 dv tp j) ((nI ((j + 1) / 64)) + 1).toNatClampNeg) ^^^ (jshl tp (64 - (nI ((j + 1) % 64)))))) sl nb wd po tp fi la bi bo) := hD
    have hPf : va_P D vwCl (xw o a1 a2 a3 k1 k2 k3 row (mAdd dv tp j) sl nb wd po tp fi la bi bo) H := by first | (rw [mAdd, if_pos c_51]; exact hP) | (rw [mAdd, if_neg c_51]; exact hP)
    exact W.vret hx hb hr (fun t ht hW => ⟨⟨(), rfl, trivial, by show va_P _ _ _ t.heap; rw [ht]; exact hPf⟩, hS.F ht⟩) hS.2.2 dX0_addPolynomialAt_74
theorem in_c_byDividing : ∀ w ∈ wsX00, w ∈ wsX0_byDividing := fun _ h => List.mem_cons_of_mem _ (List.mem_append_right _ h)
set_option maxHeartbeats 4000000 in
set_option maxRecDepth 100000 in
theorem c_byDividing {l : Launch} {D : va_G} {o a1 a2 a3 : Nat} {k1 k2 k3 : ClassId} {row : Nat → Int64} {dv : Nat → Int64} {sl : Nat → Int64} {nb : Nat} {wd : Nat} {po : Int64} {tp : Int64} {fi : Int64} {la : Int64} {bi : Int32} {bo : Int32} {sz : Nat}  (hn : nb ≤ 5000) : Met l yX0_byDividing wsX0_byDividing ({ frames := 1, cells := 0, slots := 0, locals := 23 }) (va_Pc [.ref o] (pMU D vwCl (xt k1 k2 k3) (xw o a1 a2 a3 k1 k2 k3 row dv sl nb wd po tp fi la bi bo) sz)) (muL D vwCl (xw o a1 a2 a3 k1 k2 k3 row dv sl nb wd po tp fi la bi bo) (xw o a1 a2 a3 k1 k2 k3 row (mDvN row dv (mTop (nI wd) fi) tp (nb * 8)) sl nb wd po tp fi la bi bo) sz (mDvF (mDvN row dv (mTop (nI wd) fi) tp (nb * 8)) (nb * 8))) 0 0 (va_A (xw o a1 a2 a3 k1 k2 k3 row dv sl nb wd po tp fi la bi bo) sz) := by
  refine Met.ofW (cc := cX0_byDividing) (maxL := 3) (ret := (some .long)) (by decide) rfl ?_
  intro p e s m args below meth c s₁ B hml hv
  obtain ⟨rfl, hsz, hP, hK, hD0⟩ := hv
  have hsz : s.heap.size = sz := hsz
  have hx := B.exec
  have hb := B.bytes
  have hr := B.returns
  have hts := atoms_spec (ws := wsX0_byDividing) B.pre
  have hown : s.vm.findClass RX0 = some m.cls := findClass_of_methodNamed B.named
  have hlocks := B.notSynchronized
  subst hsz
  have hD0 := hD0.self (sz := s.heap.size)
  have hA : ∀ q9 : Nat, s.heap.size ≤ q9 → va_A (xw o a1 a2 a3 k1 k2 k3 row dv sl nb wd po tp fi la bi bo) s.heap.size q9 := fun q9 h => Or.inr h
  unfold muL
  generalize va_A (xw o a1 a2 a3 k1 k2 k3 row dv sl nb wd po tp fi la bi bo) s.heap.size = A at hD0 hA ⊢
  have hD := hD0
  have hS : va_S A s.heap s.heap [] := va_S.rf
  have hl := lv_entry ([.ref o]) (n := 3) (Nat.le_of_ble_eq_true rfl)
  rw [lg_entry_eq]
  generalize (lg_sl ([.ref o]) ++ List.replicate (3 - (lg_sl ([.ref o])).length) Slot.unset).toArray = ls at hl ⊢
  have hl : lv_has ls 3 [(0, .ref o)] := hl
  suffices key : ∀ (H : Heap) (locs : List Loc), va_P D vwCl (xw o a1 a2 a3 k1 k2 k3 row dv sl nb wd po tp fi la bi bo) H → va_S A s.heap H locs → W p l e (headSpec wsX0_byDividing { frames := 1, cells := 0, slots := 0, locals := 23 }).room s m ([.ref o] : List Value).toArray below meth c H locs 0 0 (MQ below (va_Ql (fun r (_ : Unit) => r = mDvF (mDvN row dv (mTop (nI wd) fi) tp (nb * 8)) (nb * 8)) (fun _ t9 => va_P D vwCl (xw o a1 a2 a3 k1 k2 k3 row (mDvN row dv (mTop (nI wd) fi) tp (nb * 8)) sl nb wd po tp fi la bi bo) t9.heap) A) ([.ref o] : List Value).toArray s 0 0 A) (F0 m 0 ls []) from key s.heap [] hP hS
  intro H locs hP hS
  refine lv_aload_n hx hb dX0_byDividing_0 rfl (lv_at hl 0 rfl) ?_
  refine va_get (D := D) (ci := 0) (v := .ref a1) (C := RX0) (T := TX0) (N := 11) hx hb hts in_c_byDividing hown hK hP 0 rfl rfl 0 (by decide) (hts (.fieldLink RX0 9 "SliceChecks" "row" "[J") (by decide +kernel)) (fun _ h9 => h9) rfl dX0_byDividing_1 ?_
  refine lv_iconst (v := 0) hx hb dX0_byDividing_4 (by decide) ?_
  refine lv_aload_n hx hb dX0_byDividing_5 rfl (lv_at hl 0 rfl) ?_
  refine va_get (D := D) (ci := 0) (v := .ref a2) (C := RX0) (T := TX0) (N := 11) hx hb hts in_c_byDividing hown hK hP 0 rfl rfl 1 (by decide) (hts (.fieldLink RX0 13 "SliceChecks" "dividend" "[J") (by decide +kernel)) (fun _ h9 => h9) rfl dX0_byDividing_6 ?_
  refine lv_iconst (v := 0) hx hb dX0_byDividing_9 (by decide) ?_
  refine lv_sipush (v := 625) hx hb dX0_byDividing_10 (by decide) ?_
  refine va_copyl hx hb (by rw [hml, hl.1]) hown (hts (.methodLink RX0 163 arraycopyName) (by decide +kernel)) (hts (.native arraycopyName) (by decide +kernel)) (hts (.static arraycopyName) (by decide +kernel)) (hts (.initialized "java/lang/System") (by decide +kernel)) hK hP hD hS 1 2 0 1 (ty := .long) rfl rfl rfl rfl rfl (sp := 0) (dp := 0) (n := 625) (by decide) (by decide) (by decide) (by decide) (by decide) (fun _ _ => rfl) (Nat.le_of_ble_eq_true rfl) (Nat.le_of_ble_eq_true rfl) dX0_byDividing_13 (fun H locs hP hD hS => ?_)
  have hP : va_P D vwCl (xw o a1 a2 a3 k1 k2 k3 row (mDvA row dv) sl nb wd po tp fi la bi bo) H := hP
  have hD : va_D A (xw o a1 a2 a3 k1 k2 k3 row (mDvA row dv) sl nb wd po tp fi la bi bo) := hD
  refine lv_aload_n hx hb dX0_byDividing_16 rfl (lv_at hl 0 rfl) ?_
  refine va_get (D := D) (ci := 0) (v := .ref a2) (C := RX0) (T := TX0) (N := 11) hx hb hts in_c_byDividing hown hK hP 0 rfl rfl 1 (by decide) (hts (.fieldLink RX0 13 "SliceChecks" "dividend" "[J") (by decide +kernel)) (fun _ h9 => h9) rfl dX0_byDividing_17 ?_
  refine lv_sipush (v := 625) hx hb dX0_byDividing_20 (by decide) ?_
  refine lv_lconst (v := 0) hx hb dX0_byDividing_23 (by decide) ?_
  refine va_last hx hb hK hP hD hS 2 1 rfl rfl (i := 625) (x := 0) (vp_in_nI (n := 625) (by decide) (by decide)) dX0_byDividing_24 (fun H locs hP hD hS => ?_)
  have hP : va_P D vwCl (xw o a1 a2 a3 k1 k2 k3 row (mDvB row dv) sl nb wd po tp fi la bi bo) H := hP
  have hD : va_D A (xw o a1 a2 a3 k1 k2 k3 row (mDvB row dv) sl nb wd po tp fi la bi bo) := hD
  refine lv_aload_n hx hb dX0_byDividing_25 rfl (lv_at hl 0 rfl) ?_
  refine va_get (D := D) (ci := 0) (v := .ref a2) (C := RX0) (T := TX0) (N := 11) hx hb hts in_c_byDividing hown hK hP 0 rfl rfl 1 (by decide) (hts (.fieldLink RX0 13 "SliceChecks" "dividend" "[J") (by decide +kernel)) (fun _ h9 => h9) rfl dX0_byDividing_26 ?_
  refine lv_iconst (v := 0) hx hb dX0_byDividing_29 (by decide) ?_
  refine lv_dup2_11 hx hb dX0_byDividing_30 rfl rfl ?_
  refine va_lald hx hb hK hP 2 1 rfl rfl (i := 0) (vp_in_nI (n := 0) (by decide) (by decide)) dX0_byDividing_31 ?_
  refine lv_aload_n hx hb dX0_byDividing_32 rfl (lv_at hl 0 rfl) ?_
  refine lv_aload_n hx hb dX0_byDividing_33 rfl (lv_at hl 0 rfl) ?_
  refine va_get (D := D) (ci := 0) (v := .long fi) (C := RX0) (T := TX0) (N := 11) hx hb hts in_c_byDividing hown hK hP 0 rfl rfl 7 (by decide) (hts (.fieldLink RX0 52 "SliceChecks" "first" "J") (by decide +kernel)) (fun _ h9 => h9) rfl dX0_byDividing_34 ?_
  refine ro_l (va_runV (As := [.long fi]) (rest := [.long ((mDvB row dv) (0 : Int32).toNatClampNeg), .int 0, .ref a2]) ⟨hx, hb, hml, hown, hts⟩ (c_atTop (sz := H.size) fi) (cwV 1 hts gX0_byDividing_X0_atTop rfl rfl rfl (by decide +kernel) ⟨Nat.le_of_ble_eq_true rfl, Nat.le_of_ble_eq_true rfl⟩) (preV_RO hP hK 0 (ci := 0) rfl rfl) rfl rfl hl.1 rfl (lv_room (Nat.le_of_ble_eq_true rfl)) dX0_byDividing_37 ⟨Nat.le_of_ble_eq_true rfl, Nat.le_of_ble_eq_true rfl⟩) hS hA hP (fun H locs hP hS => ?_)
  refine lv_lxor hx hb dX0_byDividing_40 ?_
  refine va_last hx hb hK hP hD hS 2 1 rfl rfl (i := 0) (x := ((mDvB row dv) (0 : Int32).toNatClampNeg) ^^^ (mTop (nI wd) fi)) (vp_in_nI (n := 0) (by decide) (by decide)) dX0_byDividing_41 (fun H locs hP hD hS => ?_)
  have hP : va_P D vwCl (xw o a1 a2 a3 k1 k2 k3 row (mDv0 row dv (mTop (nI wd) fi)) sl nb wd po tp fi la bi bo) H := hP
  have hD : va_D A (xw o a1 a2 a3 k1 k2 k3 row (mDv0 row dv (mTop (nI wd) fi)) sl nb wd po tp fi la bi bo) := hD
  refine lv_aload_n hx hb dX0_byDividing_42 rfl (lv_at hl 0 rfl) ?_
  refine ro_i (va_runV (As := []) (rest := []) ⟨hx, hb, hml, hown, hts⟩ (c_bitsOfRow (sz := H.size) ) (cwV 0 hts gX0_byDividing_X0_bitsOfRow rfl rfl rfl (by decide +kernel) ⟨Nat.le_of_ble_eq_true rfl, Nat.le_of_ble_eq_true rfl⟩) (preV_RO hP hK 0 (ci := 0) rfl rfl) rfl rfl hl.1 rfl (lv_room (Nat.le_of_ble_eq_true rfl)) dX0_byDividing_43 ⟨Nat.le_of_ble_eq_true rfl, Nat.le_of_ble_eq_true rfl⟩) hS hA hP (fun H locs hP hS => ?_)
  refine lv_istore_n (lv' := [(1, .int (nI (nb * 8))), (0, .ref o)]) hx hb dX0_byDividing_46 rfl hl (by decide) rfl (fun ls hl => ?_)
  refine lv_iconst (v := 0) hx hb dX0_byDividing_47 (by decide) ?_
  refine lv_istore_n (lv' := [(2, .int 0), (1, .int (nI (nb * 8))), (0, .ref o)]) hx hb dX0_byDividing_48 rfl hl (by decide) rfl (fun ls hl => ?_)
  have lp_49 : ∀ (k i : Nat), i ≤ nb * 8 → nb * 8 < i + k → ∀ (H : Heap) (locs : List Loc), va_P D vwCl (xw o a1 a2 a3 k1 k2 k3 row (mDvN row dv (mTop (nI wd) fi) tp i) sl nb wd po tp fi la bi bo) H → va_S A s.heap H locs → ∀ ls : Array Slot, lv_has ls 3 [(2, .int (nI i)), (1, .int (nI (nb * 8))), (0, .ref o)] → W p l e (headSpec wsX0_byDividing { frames := 1, cells := 0, slots := 0, locals := 23 }).room s m ([.ref o] : List Value).toArray below meth c H locs 0 0 (MQ below (va_Ql (fun r (_ : Unit) => r = mDvF (mDvN row dv (mTop (nI wd) fi) tp (nb * 8)) (nb * 8)) (fun _ t9 => va_P D vwCl (xw o a1 a2 a3 k1 k2 k3 row (mDvN row dv (mTop (nI wd) fi) tp (nb * 8)) sl nb wd po tp fi la bi bo) t9.heap) A) ([.ref o] : List Value).toArray s 0 0 A) (F0 m 49 ls []) := by
    intro k
    induction k with
    | zero =>
      intro i h1 h2
      exact absurd h2 (by omega)
    | succ k ih =>
      intro i hi hk H locs hP hS ls hl
      have hD : va_D A (xw o a1 a2 a3 k1 k2 k3 row (mDvN row dv (mTop (nI wd) fi) tp i) sl nb wd po tp fi la bi bo) := du_same hD0 rfl
      refine lv_iload_n hx hb dX0_byDividing_49 rfl (lv_at hl 0 rfl) ?_
      refine lv_iload_n hx hb dX0_byDividing_50 rfl (lv_at hl 1 rfl) ?_
      refine lv_icmp_ge (tgt := 84) hx hb dX0_byDividing_51 (by decide) (fun c_51 => ?_) (fun c_51 => ?_)
      ·
        have hiN := du_ge (by omega) hi c_51
        refine lv_aload_n hx hb dX0_byDividing_84 rfl (lv_at hl 2 rfl) ?_
        refine lv_iload_n hx hb dX0_byDividing_85 rfl (lv_at hl 1 rfl) ?_
        refine ro_l (va_runV (As := [.int (nI (nb * 8))]) (rest := []) ⟨hx, hb, hml, hown, hts⟩ (c_dividendFrom (sz := H.size) (nb * 8) (by omega)) (cwV 1 hts gX0_byDividing_X0_dividendFrom rfl rfl rfl (by decide +kernel) ⟨Nat.le_of_ble_eq_true rfl, Nat.le_of_ble_eq_true rfl⟩) (preV_RO hP hK 0 (ci := 0) rfl rfl) rfl rfl hl.1 rfl (lv_room (Nat.le_of_ble_eq_true rfl)) dX0_byDividing_86 ⟨Nat.le_of_ble_eq_true rfl, Nat.le_of_ble_eq_true rfl⟩) hS hA hP (fun H locs hP hS => ?_)
        have hPf : va_P D vwCl (xw o a1 a2 a3 k1 k2 k3 row (mDvN row dv (mTop (nI wd) fi) tp (nb * 8)) sl nb wd po tp fi la bi bo) H := by subst hiN; exact hP
        exact W.lret (v := (mDvF (mDvN row dv (mTop (nI wd) fi) tp i) (nb * 8))) hx hb hr (fun t ht hW => ⟨⟨(mDvF (mDvN row dv (mTop (nI wd) fi) tp i) (nb * 8)), (), rfl, by subst hiN; rfl, by show va_P _ _ _ t.heap; rw [ht]; exact hPf⟩, hS.F ht⟩) hS.2.2 dX0_byDividing_89
      ·
        have hlt := du_lt (by omega) hi c_51
        refine lv_aload_n hx hb dX0_byDividing_54 rfl (lv_at hl 2 rfl) ?_
        refine va_get (D := D) (ci := 0) (v := .ref a2) (C := RX0) (T := TX0) (N := 11) hx hb hts in_c_byDividing hown hK hP 0 rfl rfl 1 (by decide) (hts (.fieldLink RX0 13 "SliceChecks" "dividend" "[J") (by decide +kernel)) (fun _ h9 => h9) rfl dX0_byDividing_55 ?_
        refine lv_iload_n hx hb dX0_byDividing_58 rfl (lv_at hl 0 rfl) ?_
        refine lv_bipush (v := 64) hx hb dX0_byDividing_59 (by decide) ?_
        refine lv_idiv hx hb dX0_byDividing_61 (by decide) ?_
        refine du_rwi (y := nI (i / 64)) (du_div64 (by omega)) ?_
        refine va_lald hx hb hK hP 2 1 rfl rfl (i := nI (i / 64)) (vp_in_nI (by omega) (by omega)) dX0_byDividing_62 ?_
        refine lv_iload_n hx hb dX0_byDividing_63 rfl (lv_at hl 0 rfl) ?_
        refine lv_bipush (v := 64) hx hb dX0_byDividing_64 (by decide) ?_
        refine lv_irem hx hb dX0_byDividing_66 (by decide) ?_
        refine du_rwi (y := nI (i % 64)) (du_rem64 (by omega)) ?_
        refine lv_lshl (v := jshl ((mDvN row dv (mTop (nI wd) fi) tp i) (nI (i / 64)).toNatClampNeg) (nI (i % 64))) hx hb dX0_byDividing_67 rfl ?_
        refine lv_lconst (v := 0) hx hb dX0_byDividing_68 (by decide) ?_
        refine W.lcmp hx hb dX0_byDividing_69 ?_
        refine lv_if_ge (tgt := 78) hx hb dX0_byDividing_70 (by decide) (fun c_70 => ?_) (fun c_70 => ?_)
        ·
          have dv_e : mDvN row dv (mTop (nI wd) fi) tp i = mDvN row dv (mTop (nI wd) fi) tp (i + 1) := by rw [mDvN, if_pos c_70]
          refine lv_iinc (v := nI (i + 1)) (lv' := [(2, .int (nI (i + 1))), (1, .int (nI (nb * 8))), (0, .ref o)]) hx hb dX0_byDividing_78 hl (k := 0) rfl (nI_1 i) (by decide) rfl (fun ls hl => ?_)
          refine lv_goto (tgt := 49) hx hb dX0_byDividing_81 (by decide) ?_
          exact ih (i + 1) (by omega) (by omega) H locs (by rw [dv_e] at hP; exact hP) hS ls (lv_sub hl [0, 1, 2] rfl)
        ·
          have dv_e : mAdd (mDvN row dv (mTop (nI wd) fi) tp i) tp i = mDvN row dv (mTop (nI wd) fi) tp (i + 1) := by rw [mDvN, if_neg c_70]
          refine lv_aload_n hx hb dX0_byDividing_73 rfl (lv_at hl 2 rfl) ?_
          refine lv_iload_n hx hb dX0_byDividing_74 rfl (lv_at hl 0 rfl) ?_
          refine mu_v (wr := []) (ws := (xw o a1 a2 a3 k1 k2 k3 row (mDvN row dv (mTop (nI wd) fi) tp i) sl nb wd po tp fi la bi bo)) (ws' := (xw o a1 a2 a3 k1 k2 k3 row (mAdd (mDvN row dv (mTop (nI wd) fi) tp i) tp i) sl nb wd po tp fi la bi bo)) (va_runV (As := [.int (nI i)]) (rest := []) ⟨hx, hb, hml, hown, hts⟩ (c_addPolynomialAt (sz := H.size) i (by omega)) (cwV 1 hts gX0_byDividing_X0_addPolynomialAt rfl rfl rfl (by decide +kernel) ⟨Nat.le_of_ble_eq_true rfl, Nat.le_of_ble_eq_true rfl⟩) (preV_MU hP hK hD 0 (ci := 0) rfl rfl) rfl rfl hl.1 rfl (lv_room (Nat.le_of_ble_eq_true rfl)) dX0_byDividing_75 ⟨Nat.le_of_ble_eq_true rfl, Nat.le_of_ble_eq_true rfl⟩) hS hA (by rw [List.append_nil]; exact hP) (by rw [List.append_nil]; exact hD) rfl (fun H locs hP hD hS => ?_)
          rw [List.append_nil] at hP hD
          refine lv_iinc (v := nI (i + 1)) (lv' := [(2, .int (nI (i + 1))), (1, .int (nI (nb * 8))), (0, .ref o)]) hx hb dX0_byDividing_78 hl (k := 0) rfl (nI_1 i) (by decide) rfl (fun ls hl => ?_)
          refine lv_goto (tgt := 49) hx hb dX0_byDividing_81 (by decide) ?_
          exact ih (i + 1) (by omega) (by omega) H locs (by rw [dv_e] at hP; exact hP) hS ls (lv_sub hl [0, 1, 2] rfl)
  exact lp_49 ((nb * 8) + 1 - 0) 0 (by omega) (by omega) H locs (hP) hS ls (lv_sub hl [0, 1, 2] rfl)
theorem in_c_check : ∀ w ∈ wsX00, w ∈ wsX0_check := fun _ h => List.mem_cons_of_mem _ (List.mem_append_right _ h)
set_option maxHeartbeats 4000000 in
set_option maxRecDepth 100000 in
theorem c_check {l : Launch} {D : va_G} {o a1 a2 a3 : Nat} {k1 k2 k3 : ClassId} {row : Nat → Int64} {dv : Nat → Int64} {sl : Nat → Int64} {nb : Nat} {wd : Nat} {po : Int64} {tp : Int64} {fi : Int64} {la : Int64} {bi : Int32} {bo : Int32} {sz : Nat} (y : Int32) (hn : nb ≤ 5000) (hy : ¬ y = 3) : Met l yX0_check wsX0_check ({ frames := 4, cells := 0, slots := 0, locals := 95 }) (va_Pc [.ref o, .int y] (pRO D vwCl (xt k1 k2 k3) (xw o a1 a2 a3 k1 k2 k3 row dv sl nb wd po tp fi la bi bo) sz)) (roL sz (mChk row sl nb (nI wd) bo tp fi la y)) 0 0 (fun q : Nat => sz ≤ q) := by
  refine Met.ofW (cc := cX0_check) (maxL := 2) (ret := (some .long)) (by decide) rfl ?_
  intro p e s m args below meth c s₁ B hml hv
  obtain ⟨rfl, hsz, hP, hK⟩ := hv
  have hsz : s.heap.size = sz := hsz
  have hx := B.exec
  have hb := B.bytes
  have hr := B.returns
  have hts := atoms_spec (ws := wsX0_check) B.pre
  have hown : s.vm.findClass RX0 = some m.cls := findClass_of_methodNamed B.named
  have hlocks := B.notSynchronized
  subst hsz
  have hA : ∀ q : Nat, s.heap.size ≤ q → (fun q : Nat => s.heap.size ≤ q) q := fun _ h => h
  have hS : va_S (fun q : Nat => s.heap.size ≤ q) s.heap s.heap [] := va_S.rf
  have hl := lv_entry ([.ref o, .int y]) (n := 2) (Nat.le_of_ble_eq_true rfl)
  rw [lg_entry_eq]
  generalize (lg_sl ([.ref o, .int y]) ++ List.replicate (2 - (lg_sl ([.ref o, .int y])).length) Slot.unset).toArray = ls at hl ⊢
  have hl : lv_has ls 2 [(0, .ref o), (1, .int y)] := hl
  suffices key : ∀ (H : Heap) (locs : List Loc), va_P D vwCl (xw o a1 a2 a3 k1 k2 k3 row dv sl nb wd po tp fi la bi bo) H → va_S (fun q : Nat => s.heap.size ≤ q) s.heap H locs → W p l e (headSpec wsX0_check { frames := 4, cells := 0, slots := 0, locals := 95 }).room s m ([.ref o, .int y] : List Value).toArray below meth c H locs 0 0 (MQ below (roL s.heap.size (mChk row sl nb (nI wd) bo tp fi la y)) ([.ref o, .int y] : List Value).toArray s 0 0 (fun q : Nat => s.heap.size ≤ q)) (F0 m 0 ls []) from key s.heap [] hP hS
  intro H locs hP hS
  refine lv_iload_n hx hb dX0_check_0 rfl (lv_at hl 1 rfl) ?_
  rcases du_sw y (0) with s_0 | s_0
  ·
    refine lv_tableIn (tgt := 32) hx hb dX0_check_1 (by rw [s_0]; decide) (by rw [s_0]; decide) (by rw [s_0]; rfl) (by decide) ?_
    refine lv_aload_n hx hb dX0_check_32 rfl (lv_at hl 0 rfl) ?_
    refine lv_aload_n hx hb dX0_check_33 rfl (lv_at hl 0 rfl) ?_
    refine ro_l (va_runV (As := []) (rest := [.ref o]) ⟨hx, hb, hml, hown, hts⟩ (c_bitByBit (sz := H.size) (hn)) (cwV 0 hts gX0_check_X0_bitByBit rfl rfl rfl (by decide +kernel) ⟨Nat.le_of_ble_eq_true rfl, Nat.le_of_ble_eq_true rfl⟩) (preV_RO hP hK 0 (ci := 0) rfl rfl) rfl rfl hl.1 rfl (lv_room (Nat.le_of_ble_eq_true rfl)) dX0_check_34 ⟨Nat.le_of_ble_eq_true rfl, Nat.le_of_ble_eq_true rfl⟩) hS hA hP (fun H locs hP hS => ?_)
    refine ro_l (va_runV (As := [.long (mBbN row tp (mTop (nI wd) fi) nb)]) (rest := []) ⟨hx, hb, hml, hown, hts⟩ (c_checkOf (sz := H.size) (mBbN row tp (mTop (nI wd) fi) nb)) (cwV 1 hts gX0_check_X0_checkOf rfl rfl rfl (by decide +kernel) ⟨Nat.le_of_ble_eq_true rfl, Nat.le_of_ble_eq_true rfl⟩) (preV_RO hP hK 0 (ci := 0) rfl rfl) rfl rfl hl.1 rfl (lv_room (Nat.le_of_ble_eq_true rfl)) dX0_check_37 ⟨Nat.le_of_ble_eq_true rfl, Nat.le_of_ble_eq_true rfl⟩) hS hA hP (fun H locs hP hS => ?_)
    exact W.lret (v := (mCheck (nI wd) bo la (mBbN row tp (mTop (nI wd) fi) nb))) hx hb hr (fun t ht hW => ⟨⟨(mCheck (nI wd) bo la (mBbN row tp (mTop (nI wd) fi) nb)), (), rfl, by first | rw [mChk, if_pos s_0] | rw [mChk, if_neg s_0, if_pos s_1] | rw [mChk, if_neg s_0, if_neg s_1, if_pos s_2] | rw [mChk, if_neg s_0, if_neg s_1, if_neg s_2], trivial⟩, hS.F ht⟩) hS.2.2 dX0_check_40
  rcases du_sw y (1) with s_1 | s_1
  ·
    refine lv_tableIn (tgt := 41) hx hb dX0_check_1 (by rw [s_1]; decide) (by rw [s_1]; decide) (by rw [s_1]; rfl) (by decide) ?_
    refine lv_aload_n hx hb dX0_check_41 rfl (lv_at hl 0 rfl) ?_
    refine lv_aload_n hx hb dX0_check_42 rfl (lv_at hl 0 rfl) ?_
    refine lv_aload_n hx hb dX0_check_43 rfl (lv_at hl 0 rfl) ?_
    refine lv_aload_n hx hb dX0_check_44 rfl (lv_at hl 0 rfl) ?_
    refine va_get (D := D) (ci := 0) (v := .long fi) (C := RX0) (T := TX0) (N := 11) hx hb hts in_c_check hown hK hP 0 rfl rfl 7 (by decide) (hts (.fieldLink RX0 52 "SliceChecks" "first" "J") (by decide +kernel)) (fun _ h9 => h9) rfl dX0_check_45 ?_
    refine ro_l (va_runV (As := [.long fi]) (rest := [.ref o, .ref o]) ⟨hx, hb, hml, hown, hts⟩ (c_atTop (sz := H.size) fi) (cwV 1 hts gX0_check_X0_atTop rfl rfl rfl (by decide +kernel) ⟨Nat.le_of_ble_eq_true rfl, Nat.le_of_ble_eq_true rfl⟩) (preV_RO hP hK 0 (ci := 0) rfl rfl) rfl rfl hl.1 rfl (lv_room (Nat.le_of_ble_eq_true rfl)) dX0_check_48 ⟨Nat.le_of_ble_eq_true rfl, Nat.le_of_ble_eq_true rfl⟩) hS hA hP (fun H locs hP hS => ?_)
    refine lv_iconst (v := 0) hx hb dX0_check_51 (by decide) ?_
    refine du_rwi (y := nI 0) (rfl) ?_
    refine lv_aload_n hx hb dX0_check_52 rfl (lv_at hl 0 rfl) ?_
    refine va_get (D := D) (ci := 0) (v := .int (nI nb)) (C := RX0) (T := TX0) (N := 11) hx hb hts in_c_check hown hK hP 0 rfl rfl 3 (by decide) (hts (.fieldLink RX0 68 "SliceChecks" "bytes" "I") (by decide +kernel)) (fun _ h9 => h9) rfl dX0_check_53 ?_
    refine ro_l (va_runV (As := [.long (mTop (nI wd) fi), .int (nI 0), .int (nI nb)]) (rest := [.ref o]) ⟨hx, hb, hml, hown, hts⟩ (c_byteByByte (sz := H.size) (mTop (nI wd) fi) 0 nb (by omega) (hn)) (cwV 3 hts gX0_check_X0_byteByByte rfl rfl rfl (by decide +kernel) ⟨Nat.le_of_ble_eq_true rfl, Nat.le_of_ble_eq_true rfl⟩) (preV_RO hP hK 0 (ci := 0) rfl rfl) rfl rfl hl.1 rfl (lv_room (Nat.le_of_ble_eq_true rfl)) dX0_check_56 ⟨Nat.le_of_ble_eq_true rfl, Nat.le_of_ble_eq_true rfl⟩) hS hA hP (fun H locs hP hS => ?_)
    refine ro_l (va_runV (As := [.long (mYy row sl (mTop (nI wd) fi) 0 nb)]) (rest := []) ⟨hx, hb, hml, hown, hts⟩ (c_checkOf (sz := H.size) (mYy row sl (mTop (nI wd) fi) 0 nb)) (cwV 1 hts gX0_check_X0_checkOf rfl rfl rfl (by decide +kernel) ⟨Nat.le_of_ble_eq_true rfl, Nat.le_of_ble_eq_true rfl⟩) (preV_RO hP hK 0 (ci := 0) rfl rfl) rfl rfl hl.1 rfl (lv_room (Nat.le_of_ble_eq_true rfl)) dX0_check_59 ⟨Nat.le_of_ble_eq_true rfl, Nat.le_of_ble_eq_true rfl⟩) hS hA hP (fun H locs hP hS => ?_)
    exact W.lret (v := (mCheck (nI wd) bo la (mYy row sl (mTop (nI wd) fi) 0 nb))) hx hb hr (fun t ht hW => ⟨⟨(mCheck (nI wd) bo la (mYy row sl (mTop (nI wd) fi) 0 nb)), (), rfl, by first | rw [mChk, if_pos s_0] | rw [mChk, if_neg s_0, if_pos s_1] | rw [mChk, if_neg s_0, if_neg s_1, if_pos s_2] | rw [mChk, if_neg s_0, if_neg s_1, if_neg s_2], trivial⟩, hS.F ht⟩) hS.2.2 dX0_check_62
  rcases du_sw y (2) with s_2 | s_2
  ·
    refine lv_tableIn (tgt := 63) hx hb dX0_check_1 (by rw [s_2]; decide) (by rw [s_2]; decide) (by rw [s_2]; rfl) (by decide) ?_
    refine lv_aload_n hx hb dX0_check_63 rfl (lv_at hl 0 rfl) ?_
    refine lv_aload_n hx hb dX0_check_64 rfl (lv_at hl 0 rfl) ?_
    refine lv_iconst (v := 0) hx hb dX0_check_65 (by decide) ?_
    refine du_rwi (y := nI 0) (rfl) ?_
    refine lv_aload_n hx hb dX0_check_66 rfl (lv_at hl 0 rfl) ?_
    refine va_get (D := D) (ci := 0) (v := .int (nI nb)) (C := RX0) (T := TX0) (N := 11) hx hb hts in_c_check hown hK hP 0 rfl rfl 3 (by decide) (hts (.fieldLink RX0 68 "SliceChecks" "bytes" "I") (by decide +kernel)) (fun _ h9 => h9) rfl dX0_check_67 ?_
    refine ro_l (va_runV (As := [.int (nI 0), .int (nI nb)]) (rest := [.ref o]) ⟨hx, hb, hml, hown, hts⟩ (c_eightAtOnce (sz := H.size) 0 nb (by omega) (hn)) (cwV 2 hts gX0_check_X0_eightAtOnce rfl rfl rfl (by decide +kernel) ⟨Nat.le_of_ble_eq_true rfl, Nat.le_of_ble_eq_true rfl⟩) (preV_RO hP hK 0 (ci := 0) rfl rfl) rfl rfl hl.1 rfl (lv_room (Nat.le_of_ble_eq_true rfl)) dX0_check_70 ⟨Nat.le_of_ble_eq_true rfl, Nat.le_of_ble_eq_true rfl⟩) hS hA hP (fun H locs hP hS => ?_)
    refine ro_l (va_runV (As := [.long (mEi row sl (mTop (nI wd) fi) 0 nb)]) (rest := []) ⟨hx, hb, hml, hown, hts⟩ (c_checkOf (sz := H.size) (mEi row sl (mTop (nI wd) fi) 0 nb)) (cwV 1 hts gX0_check_X0_checkOf rfl rfl rfl (by decide +kernel) ⟨Nat.le_of_ble_eq_true rfl, Nat.le_of_ble_eq_true rfl⟩) (preV_RO hP hK 0 (ci := 0) rfl rfl) rfl rfl hl.1 rfl (lv_room (Nat.le_of_ble_eq_true rfl)) dX0_check_73 ⟨Nat.le_of_ble_eq_true rfl, Nat.le_of_ble_eq_true rfl⟩) hS hA hP (fun H locs hP hS => ?_)
    exact W.lret (v := (mCheck (nI wd) bo la (mEi row sl (mTop (nI wd) fi) 0 nb))) hx hb hr (fun t ht hW => ⟨⟨(mCheck (nI wd) bo la (mEi row sl (mTop (nI wd) fi) 0 nb)), (), rfl, by first | rw [mChk, if_pos s_0] | rw [mChk, if_neg s_0, if_pos s_1] | rw [mChk, if_neg s_0, if_neg s_1, if_pos s_2] | rw [mChk, if_neg s_0, if_neg s_1, if_neg s_2], trivial⟩, hS.F ht⟩) hS.2.2 dX0_check_76
  rcases du_sw y (3) with s_3 | s_3
  ·
    exact absurd s_3 hy
  refine lv_tableOut (tgt := 86) hx hb dX0_check_1 (by have n_0 := du_ne (n := 0) (by decide) s_0; have n_1 := du_ne (n := 1) (by decide) s_1; have n_2 := du_ne (n := 2) (by decide) s_2; have n_3 := du_ne (n := 3) (by decide) s_3; omega) (by decide) ?_
  refine lv_lconst (v := 0) hx hb dX0_check_86 (by decide) ?_
  exact W.lret (v := 0) hx hb hr (fun t ht hW => ⟨⟨0, (), rfl, by first | rw [mChk, if_pos s_0] | rw [mChk, if_neg s_0, if_pos s_1] | rw [mChk, if_neg s_0, if_neg s_1, if_pos s_2] | rw [mChk, if_neg s_0, if_neg s_1, if_neg s_2], trivial⟩, hS.F ht⟩) hS.2.2 dX0_check_87
theorem in_c_check3 : ∀ w ∈ wsX00, w ∈ wsX0_check := fun _ h => List.mem_cons_of_mem _ (List.mem_append_right _ h)
set_option maxHeartbeats 4000000 in
set_option maxRecDepth 100000 in
theorem c_check3 {l : Launch} {D : va_G} {o a1 a2 a3 : Nat} {k1 k2 k3 : ClassId} {row : Nat → Int64} {dv : Nat → Int64} {sl : Nat → Int64} {nb : Nat} {wd : Nat} {po : Int64} {tp : Int64} {fi : Int64} {la : Int64} {bi : Int32} {bo : Int32} {sz : Nat} (y : Int32) (hn : nb ≤ 5000) (hy : y = 3) : Met l yX0_check wsX0_check ({ frames := 2, cells := 0, slots := 0, locals := 49 }) (va_Pc [.ref o, .int y] (pMU D vwCl (xt k1 k2 k3) (xw o a1 a2 a3 k1 k2 k3 row dv sl nb wd po tp fi la bi bo) sz)) (muL D vwCl (xw o a1 a2 a3 k1 k2 k3 row dv sl nb wd po tp fi la bi bo) (xw o a1 a2 a3 k1 k2 k3 row (mDvN row dv (mTop (nI wd) fi) tp (nb * 8)) sl nb wd po tp fi la bi bo) sz (mChk3 row dv nb (nI wd) bo tp fi la)) 0 0 (va_A (xw o a1 a2 a3 k1 k2 k3 row dv sl nb wd po tp fi la bi bo) sz) := by
  refine Met.ofW (cc := cX0_check) (maxL := 2) (ret := (some .long)) (by decide) rfl ?_
  intro p e s m args below meth c s₁ B hml hv
  obtain ⟨rfl, hsz, hP, hK, hD0⟩ := hv
  have hsz : s.heap.size = sz := hsz
  have hx := B.exec
  have hb := B.bytes
  have hr := B.returns
  have hts := atoms_spec (ws := wsX0_check) B.pre
  have hown : s.vm.findClass RX0 = some m.cls := findClass_of_methodNamed B.named
  have hlocks := B.notSynchronized
  subst hsz
  have hD0 := hD0.self (sz := s.heap.size)
  have hA : ∀ q9 : Nat, s.heap.size ≤ q9 → va_A (xw o a1 a2 a3 k1 k2 k3 row dv sl nb wd po tp fi la bi bo) s.heap.size q9 := fun q9 h => Or.inr h
  unfold muL
  generalize va_A (xw o a1 a2 a3 k1 k2 k3 row dv sl nb wd po tp fi la bi bo) s.heap.size = A at hD0 hA ⊢
  have hD := hD0
  have hS : va_S A s.heap s.heap [] := va_S.rf
  have hl := lv_entry ([.ref o, .int y]) (n := 2) (Nat.le_of_ble_eq_true rfl)
  rw [lg_entry_eq]
  generalize (lg_sl ([.ref o, .int y]) ++ List.replicate (2 - (lg_sl ([.ref o, .int y])).length) Slot.unset).toArray = ls at hl ⊢
  have hl : lv_has ls 2 [(0, .ref o), (1, .int y)] := hl
  suffices key : ∀ (H : Heap) (locs : List Loc), va_P D vwCl (xw o a1 a2 a3 k1 k2 k3 row dv sl nb wd po tp fi la bi bo) H → va_S A s.heap H locs → W p l e (headSpec wsX0_check { frames := 2, cells := 0, slots := 0, locals := 49 }).room s m ([.ref o, .int y] : List Value).toArray below meth c H locs 0 0 (MQ below (va_Ql (fun r (_ : Unit) => r = mChk3 row dv nb (nI wd) bo tp fi la) (fun _ t9 => va_P D vwCl (xw o a1 a2 a3 k1 k2 k3 row (mDvN row dv (mTop (nI wd) fi) tp (nb * 8)) sl nb wd po tp fi la bi bo) t9.heap) A) ([.ref o, .int y] : List Value).toArray s 0 0 A) (F0 m 0 ls []) from key s.heap [] hP hS
  intro H locs hP hS
  refine lv_iload_n hx hb dX0_check_0 rfl (lv_at hl 1 rfl) ?_
  rcases du_sw y (0) with s_0 | s_0
  ·
    exact absurd (s_0.symm.trans hy) (by decide)
  rcases du_sw y (1) with s_1 | s_1
  ·
    exact absurd (s_1.symm.trans hy) (by decide)
  rcases du_sw y (2) with s_2 | s_2
  ·
    exact absurd (s_2.symm.trans hy) (by decide)
  rcases du_sw y (3) with s_3 | s_3
  ·
    refine lv_tableIn (tgt := 77) hx hb dX0_check_1 (by rw [s_3]; decide) (by rw [s_3]; decide) (by rw [s_3]; rfl) (by decide) ?_
    refine lv_aload_n hx hb dX0_check_77 rfl (lv_at hl 0 rfl) ?_
    refine lv_aload_n hx hb dX0_check_78 rfl (lv_at hl 0 rfl) ?_
    refine mu_l (wr := []) (ws := (xw o a1 a2 a3 k1 k2 k3 row dv sl nb wd po tp fi la bi bo)) (ws' := (xw o a1 a2 a3 k1 k2 k3 row (mDvN row dv (mTop (nI wd) fi) tp (nb * 8)) sl nb wd po tp fi la bi bo)) (va_runV (As := []) (rest := [.ref o]) ⟨hx, hb, hml, hown, hts⟩ (c_byDividing (sz := H.size) (hn)) (cwV 0 hts gX0_check_X0_byDividing rfl rfl rfl (by decide +kernel) ⟨Nat.le_of_ble_eq_true rfl, Nat.le_of_ble_eq_true rfl⟩) (preV_MU hP hK hD 0 (ci := 0) rfl rfl) rfl rfl hl.1 rfl (lv_room (Nat.le_of_ble_eq_true rfl)) dX0_check_79 ⟨Nat.le_of_ble_eq_true rfl, Nat.le_of_ble_eq_true rfl⟩) hS hA (by rw [List.append_nil]; exact hP) (by rw [List.append_nil]; exact hD) rfl (fun H locs hP hD hS => ?_)
    rw [List.append_nil] at hP hD
    refine ro_l (va_runV (As := [.long (mDvF (mDvN row dv (mTop (nI wd) fi) tp (nb * 8)) (nb * 8))]) (rest := []) ⟨hx, hb, hml, hown, hts⟩ (c_checkOf (sz := H.size) (mDvF (mDvN row dv (mTop (nI wd) fi) tp (nb * 8)) (nb * 8))) (cwV 1 hts gX0_check_X0_checkOf rfl rfl rfl (by decide +kernel) ⟨Nat.le_of_ble_eq_true rfl, Nat.le_of_ble_eq_true rfl⟩) (preV_RO hP hK 0 (ci := 0) rfl rfl) rfl rfl hl.1 rfl (lv_room (Nat.le_of_ble_eq_true rfl)) dX0_check_82 ⟨Nat.le_of_ble_eq_true rfl, Nat.le_of_ble_eq_true rfl⟩) hS hA hP (fun H locs hP hS => ?_)
    have hPf : va_P D vwCl (xw o a1 a2 a3 k1 k2 k3 row (mDvN row dv (mTop (nI wd) fi) tp (nb * 8)) sl nb wd po tp fi la bi bo) H := by exact hP
    exact W.lret (v := (mCheck (nI wd) bo la (mDvF (mDvN row dv (mTop (nI wd) fi) tp (nb * 8)) (nb * 8)))) hx hb hr (fun t ht hW => ⟨⟨(mCheck (nI wd) bo la (mDvF (mDvN row dv (mTop (nI wd) fi) tp (nb * 8)) (nb * 8))), (), rfl, rfl, by show va_P _ _ _ t.heap; rw [ht]; exact hPf⟩, hS.F ht⟩) hS.2.2 dX0_check_85
  exact absurd hy s_3
theorem in_c_part : ∀ w ∈ wsX00, w ∈ wsX0_part := fun _ h => List.mem_cons_of_mem _ (List.mem_append_right _ h)
set_option maxHeartbeats 4000000 in
set_option maxRecDepth 100000 in
theorem c_part {l : Launch} {D : va_G} {o a1 a2 a3 : Nat} {k1 k2 k3 : ClassId} {row : Nat → Int64} {dv : Nat → Int64} {sl : Nat → Int64} {nb : Nat} {wd : Nat} {po : Int64} {tp : Int64} {fi : Int64} {la : Int64} {bi : Int32} {bo : Int32} {sz : Nat} (x : Int32) (y : Int32) (hn : nb ≤ 5000) : Met l yX0_part wsX0_part ({ frames := 4, cells := 0, slots := 0, locals := 95 }) (va_Pc [.ref o, .int x, .int y] (pRO D vwCl (xt k1 k2 k3) (xw o a1 a2 a3 k1 k2 k3 row dv sl nb wd po tp fi la bi bo) sz)) (roL sz (mPart row sl nb (nI wd) bo fi la x y)) 0 0 (fun q : Nat => sz ≤ q) := by
  refine Met.ofW (cc := cX0_part) (maxL := 3) (ret := (some .long)) (by decide) rfl ?_
  intro p e s m args below meth c s₁ B hml hv
  obtain ⟨rfl, hsz, hP, hK⟩ := hv
  have hsz : s.heap.size = sz := hsz
  have hx := B.exec
  have hb := B.bytes
  have hr := B.returns
  have hts := atoms_spec (ws := wsX0_part) B.pre
  have hown : s.vm.findClass RX0 = some m.cls := findClass_of_methodNamed B.named
  have hlocks := B.notSynchronized
  subst hsz
  have hA : ∀ q : Nat, s.heap.size ≤ q → (fun q : Nat => s.heap.size ≤ q) q := fun _ h => h
  have hS : va_S (fun q : Nat => s.heap.size ≤ q) s.heap s.heap [] := va_S.rf
  have hl := lv_entry ([.ref o, .int x, .int y]) (n := 3) (Nat.le_of_ble_eq_true rfl)
  rw [lg_entry_eq]
  generalize (lg_sl ([.ref o, .int x, .int y]) ++ List.replicate (3 - (lg_sl ([.ref o, .int x, .int y])).length) Slot.unset).toArray = ls at hl ⊢
  have hl : lv_has ls 3 [(0, .ref o), (1, .int x), (2, .int y)] := hl
  suffices key : ∀ (H : Heap) (locs : List Loc), va_P D vwCl (xw o a1 a2 a3 k1 k2 k3 row dv sl nb wd po tp fi la bi bo) H → va_S (fun q : Nat => s.heap.size ≤ q) s.heap H locs → W p l e (headSpec wsX0_part { frames := 4, cells := 0, slots := 0, locals := 95 }).room s m ([.ref o, .int x, .int y] : List Value).toArray below meth c H locs 0 0 (MQ below (roL s.heap.size (mPart row sl nb (nI wd) bo fi la x y)) ([.ref o, .int x, .int y] : List Value).toArray s 0 0 (fun q : Nat => s.heap.size ≤ q)) (F0 m 0 ls []) from key s.heap [] hP hS
  intro H locs hP hS
  refine lv_iload_n hx hb dX0_part_0 rfl (lv_at hl 1 rfl) ?_
  refine lv_if_lt (tgt := 17) hx hb dX0_part_1 (by decide) (fun c_1 => ?_) (fun c_1 => ?_)
  ·
    refine lv_lconst (v := 0) hx hb dX0_part_17 (by decide) ?_
    exact W.lret (v := 0) hx hb hr (fun t ht hW => ⟨⟨0, (), rfl, by first | rw [mPart, if_pos c_1] | rw [mPart, if_neg c_1, if_pos c_6] | rw [mPart, if_neg c_1, if_neg c_6, if_pos c_14] | rw [mPart, if_neg c_1, if_neg c_6, if_neg c_14], trivial⟩, hS.F ht⟩) hS.2.2 dX0_part_18
  ·
    refine lv_iload_n hx hb dX0_part_4 rfl (lv_at hl 1 rfl) ?_
    refine lv_iload_n hx hb dX0_part_5 rfl (lv_at hl 2 rfl) ?_
    refine lv_icmp_gt (tgt := 17) hx hb dX0_part_6 (by decide) (fun c_6 => ?_) (fun c_6 => ?_)
    ·
      refine lv_lconst (v := 0) hx hb dX0_part_17 (by decide) ?_
      exact W.lret (v := 0) hx hb hr (fun t ht hW => ⟨⟨0, (), rfl, by first | rw [mPart, if_pos c_1] | rw [mPart, if_neg c_1, if_pos c_6] | rw [mPart, if_neg c_1, if_neg c_6, if_pos c_14] | rw [mPart, if_neg c_1, if_neg c_6, if_neg c_14], trivial⟩, hS.F ht⟩) hS.2.2 dX0_part_18
    ·
      refine lv_iload_n hx hb dX0_part_9 rfl (lv_at hl 2 rfl) ?_
      refine lv_aload_n hx hb dX0_part_10 rfl (lv_at hl 0 rfl) ?_
      refine va_get (D := D) (ci := 0) (v := .int (nI nb)) (C := RX0) (T := TX0) (N := 11) hx hb hts in_c_part hown hK hP 0 rfl rfl 3 (by decide) (hts (.fieldLink RX0 68 "SliceChecks" "bytes" "I") (by decide +kernel)) (fun _ h9 => h9) rfl dX0_part_11 ?_
      refine lv_icmp_le (tgt := 19) hx hb dX0_part_14 (by decide) (fun c_14 => ?_) (fun c_14 => ?_)
      ·
        have hx1 := du_nn c_1
        have hy1 : ¬ y < 0 := du_nn2 c_1 c_6
        have hy2 := du_nn hy1
        have hy3 : y.toNatClampNeg ≤ nb := du_cle hy1 c_14 (by omega)
        have hx3 : x.toNatClampNeg ≤ y.toNatClampNeg := du_cl2 c_6
        refine lv_aload_n hx hb dX0_part_19 rfl (lv_at hl 0 rfl) ?_
        refine lv_aload_n hx hb dX0_part_20 rfl (lv_at hl 0 rfl) ?_
        refine lv_iload_n hx hb dX0_part_21 rfl (lv_at hl 1 rfl) ?_
        refine du_rwi (y := nI x.toNatClampNeg) (hx1) ?_
        refine lv_iload_n hx hb dX0_part_22 rfl (lv_at hl 2 rfl) ?_
        refine du_rwi (y := nI y.toNatClampNeg) (hy2) ?_
        refine ro_l (va_runV (As := [.int (nI x.toNatClampNeg), .int (nI y.toNatClampNeg)]) (rest := [.ref o]) ⟨hx, hb, hml, hown, hts⟩ (c_eightAtOnce (sz := H.size) x.toNatClampNeg y.toNatClampNeg (by omega) (by omega)) (cwV 2 hts gX0_part_X0_eightAtOnce rfl rfl rfl (by decide +kernel) ⟨Nat.le_of_ble_eq_true rfl, Nat.le_of_ble_eq_true rfl⟩) (preV_RO hP hK 0 (ci := 0) rfl rfl) rfl rfl hl.1 rfl (lv_room (Nat.le_of_ble_eq_true rfl)) dX0_part_23 ⟨Nat.le_of_ble_eq_true rfl, Nat.le_of_ble_eq_true rfl⟩) hS hA hP (fun H locs hP hS => ?_)
        refine ro_l (va_runV (As := [.long (mEi row sl (mTop (nI wd) fi) x.toNatClampNeg y.toNatClampNeg)]) (rest := []) ⟨hx, hb, hml, hown, hts⟩ (c_checkOf (sz := H.size) (mEi row sl (mTop (nI wd) fi) x.toNatClampNeg y.toNatClampNeg)) (cwV 1 hts gX0_part_X0_checkOf rfl rfl rfl (by decide +kernel) ⟨Nat.le_of_ble_eq_true rfl, Nat.le_of_ble_eq_true rfl⟩) (preV_RO hP hK 0 (ci := 0) rfl rfl) rfl rfl hl.1 rfl (lv_room (Nat.le_of_ble_eq_true rfl)) dX0_part_26 ⟨Nat.le_of_ble_eq_true rfl, Nat.le_of_ble_eq_true rfl⟩) hS hA hP (fun H locs hP hS => ?_)
        exact W.lret (v := (mCheck (nI wd) bo la (mEi row sl (mTop (nI wd) fi) x.toNatClampNeg y.toNatClampNeg))) hx hb hr (fun t ht hW => ⟨⟨(mCheck (nI wd) bo la (mEi row sl (mTop (nI wd) fi) x.toNatClampNeg y.toNatClampNeg)), (), rfl, by first | rw [mPart, if_pos c_1] | rw [mPart, if_neg c_1, if_pos c_6] | rw [mPart, if_neg c_1, if_neg c_6, if_pos c_14] | rw [mPart, if_neg c_1, if_neg c_6, if_neg c_14], trivial⟩, hS.F ht⟩) hS.2.2 dX0_part_29
      ·
        refine lv_lconst (v := 0) hx hb dX0_part_17 (by decide) ?_
        exact W.lret (v := 0) hx hb hr (fun t ht hW => ⟨⟨0, (), rfl, by first | rw [mPart, if_pos c_1] | rw [mPart, if_neg c_1, if_pos c_6] | rw [mPart, if_neg c_1, if_neg c_6, if_pos c_14] | rw [mPart, if_neg c_1, if_neg c_6, if_neg c_14], trivial⟩, hS.F ht⟩) hS.2.2 dX0_part_18
theorem in_c_joined : ∀ w ∈ wsX00, w ∈ wsX0_joined := fun _ h => List.mem_cons_of_mem _ (List.mem_append_right _ h)
set_option maxHeartbeats 4000000 in
set_option maxRecDepth 100000 in
theorem c_joined {l : Launch} {D : va_G} {o a1 a2 a3 : Nat} {k1 k2 k3 : ClassId} {row : Nat → Int64} {dv : Nat → Int64} {sl : Nat → Int64} {nb : Nat} {wd : Nat} {po : Int64} {tp : Int64} {fi : Int64} {la : Int64} {bi : Int32} {bo : Int32} {sz : Nat} (x : Int64) (y : Int64) (n : Int32) (hw : wd ≤ 64) : Met l yX0_joined wsX0_joined ({ frames := 3, cells := 0, slots := 0, locals := 81 }) (va_Pc [.ref o, .long x, .long y, .int n] (pRO D vwCl (xt k1 k2 k3) (xw o a1 a2 a3 k1 k2 k3 row dv sl nb wd po tp fi la bi bo) sz)) (roL sz (mJoin (nI wd) bo tp fi la x y n)) 0 0 (fun q : Nat => sz ≤ q) := by
  refine Met.ofW (cc := cX0_joined) (maxL := 8) (ret := (some .long)) (by decide) rfl ?_
  intro p e s m args below meth c s₁ B hml hv
  obtain ⟨rfl, hsz, hP, hK⟩ := hv
  have hsz : s.heap.size = sz := hsz
  have hx := B.exec
  have hb := B.bytes
  have hr := B.returns
  have hts := atoms_spec (ws := wsX0_joined) B.pre
  have hown : s.vm.findClass RX0 = some m.cls := findClass_of_methodNamed B.named
  have hlocks := B.notSynchronized
  subst hsz
  have hA : ∀ q : Nat, s.heap.size ≤ q → (fun q : Nat => s.heap.size ≤ q) q := fun _ h => h
  have hS : va_S (fun q : Nat => s.heap.size ≤ q) s.heap s.heap [] := va_S.rf
  have hl := lv_entry ([.ref o, .long x, .long y, .int n]) (n := 8) (Nat.le_of_ble_eq_true rfl)
  rw [lg_entry_eq]
  generalize (lg_sl ([.ref o, .long x, .long y, .int n]) ++ List.replicate (8 - (lg_sl ([.ref o, .long x, .long y, .int n])).length) Slot.unset).toArray = ls at hl ⊢
  have hl : lv_has ls 8 [(0, .ref o), (1, .long x), (3, .long y), (5, .int n)] := hl
  suffices key : ∀ (H : Heap) (locs : List Loc), va_P D vwCl (xw o a1 a2 a3 k1 k2 k3 row dv sl nb wd po tp fi la bi bo) H → va_S (fun q : Nat => s.heap.size ≤ q) s.heap H locs → W p l e (headSpec wsX0_joined { frames := 3, cells := 0, slots := 0, locals := 81 }).room s m ([.ref o, .long x, .long y, .int n] : List Value).toArray below meth c H locs 0 0 (MQ below (roL s.heap.size (mJoin (nI wd) bo tp fi la x y n)) ([.ref o, .long x, .long y, .int n] : List Value).toArray s 0 0 (fun q : Nat => s.heap.size ≤ q)) (F0 m 0 ls []) from key s.heap [] hP hS
  intro H locs hP hS
  refine lv_iload hx hb dX0_joined_0 (lv_at hl 3 rfl) ?_
  refine lv_if_ge (tgt := 7) hx hb dX0_joined_2 (by decide) (fun c_2 => ?_) (fun c_2 => ?_)
  ·
    refine lv_aload_n hx hb dX0_joined_7 rfl (lv_at hl 0 rfl) ?_
    refine lv_lload_n hx hb dX0_joined_8 rfl (lv_at hl 1 rfl) ?_
    refine ro_l (va_runV (As := [.long x]) (rest := []) ⟨hx, hb, hml, hown, hts⟩ (c_registerOf (sz := H.size) x) (cwV 1 hts gX0_joined_X0_registerOf rfl rfl rfl (by decide +kernel) ⟨Nat.le_of_ble_eq_true rfl, Nat.le_of_ble_eq_true rfl⟩) (preV_RO hP hK 0 (ci := 0) rfl rfl) rfl rfl hl.1 rfl (lv_room (Nat.le_of_ble_eq_true rfl)) dX0_joined_9 ⟨Nat.le_of_ble_eq_true rfl, Nat.le_of_ble_eq_true rfl⟩) hS hA hP (fun H locs hP hS => ?_)
    refine lv_aload_n hx hb dX0_joined_12 rfl (lv_at hl 0 rfl) ?_
    refine lv_aload_n hx hb dX0_joined_13 rfl (lv_at hl 0 rfl) ?_
    refine va_get (D := D) (ci := 0) (v := .long fi) (C := RX0) (T := TX0) (N := 11) hx hb hts in_c_joined hown hK hP 0 rfl rfl 7 (by decide) (hts (.fieldLink RX0 52 "SliceChecks" "first" "J") (by decide +kernel)) (fun _ h9 => h9) rfl dX0_joined_14 ?_
    refine ro_l (va_runV (As := [.long fi]) (rest := [.long (mReg (nI wd) bo la x)]) ⟨hx, hb, hml, hown, hts⟩ (c_atTop (sz := H.size) fi) (cwV 1 hts gX0_joined_X0_atTop rfl rfl rfl (by decide +kernel) ⟨Nat.le_of_ble_eq_true rfl, Nat.le_of_ble_eq_true rfl⟩) (preV_RO hP hK 0 (ci := 0) rfl rfl) rfl rfl hl.1 rfl (lv_room (Nat.le_of_ble_eq_true rfl)) dX0_joined_17 ⟨Nat.le_of_ble_eq_true rfl, Nat.le_of_ble_eq_true rfl⟩) hS hA hP (fun H locs hP hS => ?_)
    refine lv_lxor hx hb dX0_joined_20 ?_
    refine lv_lstore (lv' := [(6, .long ((mReg (nI wd) bo la x) ^^^ (mTop (nI wd) fi))), (0, .ref o), (1, .long x), (3, .long y), (5, .int n)]) hx hb dX0_joined_21 hl (by decide) rfl (fun ls hl => ?_)
    refine lv_aload_n hx hb dX0_joined_23 rfl (lv_at hl 1 rfl) ?_
    refine lv_aload_n hx hb dX0_joined_24 rfl (lv_at hl 1 rfl) ?_
    refine lv_lload_n hx hb dX0_joined_25 rfl (lv_at hl 3 rfl) ?_
    refine ro_l (va_runV (As := [.long y]) (rest := [.ref o]) ⟨hx, hb, hml, hown, hts⟩ (c_registerOf (sz := H.size) y) (cwV 1 hts gX0_joined_X0_registerOf rfl rfl rfl (by decide +kernel) ⟨Nat.le_of_ble_eq_true rfl, Nat.le_of_ble_eq_true rfl⟩) (preV_RO hP hK 0 (ci := 0) rfl rfl) rfl rfl hl.1 rfl (lv_room (Nat.le_of_ble_eq_true rfl)) dX0_joined_26 ⟨Nat.le_of_ble_eq_true rfl, Nat.le_of_ble_eq_true rfl⟩) hS hA hP (fun H locs hP hS => ?_)
    refine lv_aload_n hx hb dX0_joined_29 rfl (lv_at hl 1 rfl) ?_
    refine lv_lload hx hb dX0_joined_30 (lv_at hl 0 rfl) ?_
    refine lv_iload hx hb dX0_joined_32 (lv_at hl 4 rfl) ?_
    refine lv_i2l (v := n.toInt64) hx hb dX0_joined_34 rfl ?_
    refine lv_ldc2 hx hb hown (hts (.constantLong RX0 110 8) (by decide +kernel)) dX0_joined_35 ?_
    refine lv_lmul hx hb dX0_joined_38 ?_
    refine ro_l (va_runV (As := [.long ((mReg (nI wd) bo la x) ^^^ (mTop (nI wd) fi)), .long (n.toInt64 * 8)]) (rest := [.long (mReg (nI wd) bo la y), .ref o]) ⟨hx, hb, hml, hown, hts⟩ (c_behindZeros (sz := H.size) ((mReg (nI wd) bo la x) ^^^ (mTop (nI wd) fi)) (n.toInt64 * 8) (hw)) (cwV 2 hts gX0_joined_X0_behindZeros rfl rfl rfl (by decide +kernel) ⟨Nat.le_of_ble_eq_true rfl, Nat.le_of_ble_eq_true rfl⟩) (preV_RO hP hK 0 (ci := 0) rfl rfl) rfl rfl hl.1 rfl (lv_room (Nat.le_of_ble_eq_true rfl)) dX0_joined_39 ⟨Nat.le_of_ble_eq_true rfl, Nat.le_of_ble_eq_true rfl⟩) hS hA hP (fun H locs hP hS => ?_)
    refine lv_lxor hx hb dX0_joined_42 ?_
    refine ro_l (va_runV (As := [.long ((mReg (nI wd) bo la y) ^^^ (mZeros (nI wd) tp ((mReg (nI wd) bo la x) ^^^ (mTop (nI wd) fi)) (n.toInt64 * 8)))]) (rest := []) ⟨hx, hb, hml, hown, hts⟩ (c_checkOf (sz := H.size) ((mReg (nI wd) bo la y) ^^^ (mZeros (nI wd) tp ((mReg (nI wd) bo la x) ^^^ (mTop (nI wd) fi)) (n.toInt64 * 8)))) (cwV 1 hts gX0_joined_X0_checkOf rfl rfl rfl (by decide +kernel) ⟨Nat.le_of_ble_eq_true rfl, Nat.le_of_ble_eq_true rfl⟩) (preV_RO hP hK 0 (ci := 0) rfl rfl) rfl rfl hl.1 rfl (lv_room (Nat.le_of_ble_eq_true rfl)) dX0_joined_43 ⟨Nat.le_of_ble_eq_true rfl, Nat.le_of_ble_eq_true rfl⟩) hS hA hP (fun H locs hP hS => ?_)
    exact W.lret (v := (mCheck (nI wd) bo la ((mReg (nI wd) bo la y) ^^^ (mZeros (nI wd) tp ((mReg (nI wd) bo la x) ^^^ (mTop (nI wd) fi)) (n.toInt64 * 8))))) hx hb hr (fun t ht hW => ⟨⟨(mCheck (nI wd) bo la ((mReg (nI wd) bo la y) ^^^ (mZeros (nI wd) tp ((mReg (nI wd) bo la x) ^^^ (mTop (nI wd) fi)) (n.toInt64 * 8)))), (), rfl, by first | rw [mJoin, if_pos c_2] | rw [mJoin, if_neg c_2], trivial⟩, hS.F ht⟩) hS.2.2 dX0_joined_46
  ·
    refine lv_lconst (v := 0) hx hb dX0_joined_5 (by decide) ?_
    exact W.lret (v := 0) hx hb hr (fun t ht hW => ⟨⟨0, (), rfl, by first | rw [mJoin, if_pos c_2] | rw [mJoin, if_neg c_2], trivial⟩, hS.F ht⟩) hS.2.2 dX0_joined_6
theorem in_c_entry : ∀ w ∈ wsX00, w ∈ wsX0_entry := fun _ h => List.mem_cons_of_mem _ (List.mem_append_right _ h)
set_option maxHeartbeats 4000000 in
set_option maxRecDepth 100000 in
theorem c_entry {l : Launch} {D : va_G} {o a1 a2 a3 : Nat} {k1 k2 k3 : ClassId} {row : Nat → Int64} {dv : Nat → Int64} {sl : Nat → Int64} {nb : Nat} {wd : Nat} {po : Int64} {tp : Int64} {fi : Int64} {la : Int64} {bi : Int32} {bo : Int32} {sz : Nat} (k : Int32) (b : Int32)  : Met l yX0_entry wsX0_entry ({ frames := 2, cells := 0, slots := 0, locals := 46 }) (va_Pc [.ref o, .int k, .int b] (pRO D vwCl (xt k1 k2 k3) (xw o a1 a2 a3 k1 k2 k3 row dv sl nb wd po tp fi la bi bo) sz)) (roL sz (mEntry sl (nI wd) bi k b)) 0 0 (fun q : Nat => sz ≤ q) := by
  refine Met.ofW (cc := cX0_entry) (maxL := 3) (ret := (some .long)) (by decide) rfl ?_
  intro p e s m args below meth c s₁ B hml hv
  obtain ⟨rfl, hsz, hP, hK⟩ := hv
  have hsz : s.heap.size = sz := hsz
  have hx := B.exec
  have hb := B.bytes
  have hr := B.returns
  have hts := atoms_spec (ws := wsX0_entry) B.pre
  have hown : s.vm.findClass RX0 = some m.cls := findClass_of_methodNamed B.named
  have hlocks := B.notSynchronized
  subst hsz
  have hA : ∀ q : Nat, s.heap.size ≤ q → (fun q : Nat => s.heap.size ≤ q) q := fun _ h => h
  have hS : va_S (fun q : Nat => s.heap.size ≤ q) s.heap s.heap [] := va_S.rf
  have hl := lv_entry ([.ref o, .int k, .int b]) (n := 3) (Nat.le_of_ble_eq_true rfl)
  rw [lg_entry_eq]
  generalize (lg_sl ([.ref o, .int k, .int b]) ++ List.replicate (3 - (lg_sl ([.ref o, .int k, .int b])).length) Slot.unset).toArray = ls at hl ⊢
  have hl : lv_has ls 3 [(0, .ref o), (1, .int k), (2, .int b)] := hl
  suffices key : ∀ (H : Heap) (locs : List Loc), va_P D vwCl (xw o a1 a2 a3 k1 k2 k3 row dv sl nb wd po tp fi la bi bo) H → va_S (fun q : Nat => s.heap.size ≤ q) s.heap H locs → W p l e (headSpec wsX0_entry { frames := 2, cells := 0, slots := 0, locals := 46 }).room s m ([.ref o, .int k, .int b] : List Value).toArray below meth c H locs 0 0 (MQ below (roL s.heap.size (mEntry sl (nI wd) bi k b)) ([.ref o, .int k, .int b] : List Value).toArray s 0 0 (fun q : Nat => s.heap.size ≤ q)) (F0 m 0 ls []) from key s.heap [] hP hS
  intro H locs hP hS
  refine lv_iload_n hx hb dX0_entry_0 rfl (lv_at hl 1 rfl) ?_
  refine lv_if_lt (tgt := 17) hx hb dX0_entry_1 (by decide) (fun c_1 => ?_) (fun c_1 => ?_)
  ·
    refine lv_lconst (v := 0) hx hb dX0_entry_17 (by decide) ?_
    exact W.lret (v := 0) hx hb hr (fun t ht hW => ⟨⟨0, (), rfl, by first | rw [mEntry, if_pos c_1] | rw [mEntry, if_neg c_1, if_pos c_7] | rw [mEntry, if_neg c_1, if_neg c_7, if_neg c_14] | rw [mEntry, if_neg c_1, if_neg c_7, if_pos c_14], trivial⟩, hS.F ht⟩) hS.2.2 dX0_entry_18
  ·
    refine lv_iload_n hx hb dX0_entry_4 rfl (lv_at hl 1 rfl) ?_
    refine lv_bipush (v := 8) hx hb dX0_entry_5 (by decide) ?_
    refine lv_icmp_ge (tgt := 17) hx hb dX0_entry_7 (by decide) (fun c_7 => ?_) (fun c_7 => ?_)
    ·
      refine lv_lconst (v := 0) hx hb dX0_entry_17 (by decide) ?_
      exact W.lret (v := 0) hx hb hr (fun t ht hW => ⟨⟨0, (), rfl, by first | rw [mEntry, if_pos c_1] | rw [mEntry, if_neg c_1, if_pos c_7] | rw [mEntry, if_neg c_1, if_neg c_7, if_neg c_14] | rw [mEntry, if_neg c_1, if_neg c_7, if_pos c_14], trivial⟩, hS.F ht⟩) hS.2.2 dX0_entry_18
    ·
      refine lv_iload_n hx hb dX0_entry_10 rfl (lv_at hl 2 rfl) ?_
      refine ro_i (va_runS (As := [.int b]) (rest := []) ⟨hx, hb, hml, hown, hts⟩ (c_isByte (sz := H.size) b) (va_cwS 1 hts gX0_entry_X0_isByte rfl rfl rfl (by decide +kernel) ⟨Nat.le_of_ble_eq_true rfl, Nat.le_of_ble_eq_true rfl⟩) preS_ST rfl rfl hl.1 rfl (lv_room (Nat.le_of_ble_eq_true rfl)) dX0_entry_11 ⟨Nat.le_of_ble_eq_true rfl, Nat.le_of_ble_eq_true rfl⟩) hS hA hP (fun H locs hP hS => ?_)
      refine lv_if_ne (tgt := 19) hx hb dX0_entry_14 (by decide) (fun c_14 => ?_) (fun c_14 => ?_)
      ·
        refine lv_aload_n hx hb dX0_entry_19 rfl (lv_at hl 0 rfl) ?_
        refine lv_aload_n hx hb dX0_entry_20 rfl (lv_at hl 0 rfl) ?_
        refine va_get (D := D) (ci := 0) (v := .ref a3) (C := RX0) (T := TX0) (N := 11) hx hb hts in_c_entry hown hK hP 0 rfl rfl 2 (by decide) (hts (.fieldLink RX0 16 "SliceChecks" "slices" "[J") (by decide +kernel)) (fun _ h9 => h9) rfl dX0_entry_21 ?_
        refine lv_iload_n hx hb dX0_entry_24 rfl (lv_at hl 1 rfl) ?_
        refine lv_sipush (v := 256) hx hb dX0_entry_25 (by decide) ?_
        refine lv_imul hx hb dX0_entry_28 ?_
        refine lv_aload_n hx hb dX0_entry_29 rfl (lv_at hl 0 rfl) ?_
        refine lv_iload_n hx hb dX0_entry_30 rfl (lv_at hl 2 rfl) ?_
        refine ro_l (va_runV (As := [.int b]) (rest := [.int (k * 256), .ref a3, .ref o]) ⟨hx, hb, hml, hown, hts⟩ (c_asItComes (sz := H.size) b) (cwV 1 hts gX0_entry_X0_asItComes rfl rfl rfl (by decide +kernel) ⟨Nat.le_of_ble_eq_true rfl, Nat.le_of_ble_eq_true rfl⟩) (preV_RO hP hK 0 (ci := 0) rfl rfl) rfl rfl hl.1 rfl (lv_room (Nat.le_of_ble_eq_true rfl)) dX0_entry_31 ⟨Nat.le_of_ble_eq_true rfl, Nat.le_of_ble_eq_true rfl⟩) hS hA hP (fun H locs hP hS => ?_)
        refine lv_l2i (v := (mCome bi b).toInt32) hx hb dX0_entry_34 rfl ?_
        refine lv_iadd hx hb dX0_entry_35 ?_
        refine va_lald hx hb hK hP 3 2 rfl rfl (i := (k * 256) + ((mCome bi b).toInt32)) (du_eix c_1 c_7 c_14) dX0_entry_36 ?_
        refine ro_l (va_runV (As := [.long (sl ((k * 256) + ((mCome bi b).toInt32)).toNatClampNeg)]) (rest := []) ⟨hx, hb, hml, hown, hts⟩ (c_fromTop (sz := H.size) (sl ((k * 256) + ((mCome bi b).toInt32)).toNatClampNeg)) (cwV 1 hts gX0_entry_X0_fromTop rfl rfl rfl (by decide +kernel) ⟨Nat.le_of_ble_eq_true rfl, Nat.le_of_ble_eq_true rfl⟩) (preV_RO hP hK 0 (ci := 0) rfl rfl) rfl rfl hl.1 rfl (lv_room (Nat.le_of_ble_eq_true rfl)) dX0_entry_37 ⟨Nat.le_of_ble_eq_true rfl, Nat.le_of_ble_eq_true rfl⟩) hS hA hP (fun H locs hP hS => ?_)
        exact W.lret (v := (mFrom (nI wd) (sl ((k * 256) + ((mCome bi b).toInt32)).toNatClampNeg))) hx hb hr (fun t ht hW => ⟨⟨(mFrom (nI wd) (sl ((k * 256) + ((mCome bi b).toInt32)).toNatClampNeg)), (), rfl, by first | rw [mEntry, if_pos c_1] | rw [mEntry, if_neg c_1, if_pos c_7] | rw [mEntry, if_neg c_1, if_neg c_7, if_neg c_14] | rw [mEntry, if_neg c_1, if_neg c_7, if_pos c_14], trivial⟩, hS.F ht⟩) hS.2.2 dX0_entry_40
      ·
        refine lv_lconst (v := 0) hx hb dX0_entry_17 (by decide) ?_
        exact W.lret (v := 0) hx hb hr (fun t ht hW => ⟨⟨0, (), rfl, by first | rw [mEntry, if_pos c_1] | rw [mEntry, if_neg c_1, if_pos c_7] | rw [mEntry, if_neg c_1, if_neg c_7, if_neg c_14] | rw [mEntry, if_neg c_1, if_neg c_7, if_pos c_14], trivial⟩, hS.F ht⟩) hS.2.2 dX0_entry_18
theorem in_c_zeros : ∀ w ∈ wsX00, w ∈ wsX0_zeros := fun _ h => List.mem_cons_of_mem _ (List.mem_append_right _ h)
set_option maxHeartbeats 4000000 in
set_option maxRecDepth 100000 in
theorem c_zeros {l : Launch} {D : va_G} {o a1 a2 a3 : Nat} {k1 k2 k3 : ClassId} {row : Nat → Int64} {dv : Nat → Int64} {sl : Nat → Int64} {nb : Nat} {wd : Nat} {po : Int64} {tp : Int64} {fi : Int64} {la : Int64} {bi : Int32} {bo : Int32} {sz : Nat} (x : Int64) (n : Int32) (hw : wd ≤ 64) : Met l yX0_zeros wsX0_zeros ({ frames := 3, cells := 0, slots := 0, locals := 81 }) (va_Pc [.ref o, .long x, .int n] (pRO D vwCl (xt k1 k2 k3) (xw o a1 a2 a3 k1 k2 k3 row dv sl nb wd po tp fi la bi bo) sz)) (roL sz (mZer (nI wd) tp x n)) 0 0 (fun q : Nat => sz ≤ q) := by
  refine Met.ofW (cc := cX0_zeros) (maxL := 4) (ret := (some .long)) (by decide) rfl ?_
  intro p e s m args below meth c s₁ B hml hv
  obtain ⟨rfl, hsz, hP, hK⟩ := hv
  have hsz : s.heap.size = sz := hsz
  have hx := B.exec
  have hb := B.bytes
  have hr := B.returns
  have hts := atoms_spec (ws := wsX0_zeros) B.pre
  have hown : s.vm.findClass RX0 = some m.cls := findClass_of_methodNamed B.named
  have hlocks := B.notSynchronized
  subst hsz
  have hA : ∀ q : Nat, s.heap.size ≤ q → (fun q : Nat => s.heap.size ≤ q) q := fun _ h => h
  have hS : va_S (fun q : Nat => s.heap.size ≤ q) s.heap s.heap [] := va_S.rf
  have hl := lv_entry ([.ref o, .long x, .int n]) (n := 4) (Nat.le_of_ble_eq_true rfl)
  rw [lg_entry_eq]
  generalize (lg_sl ([.ref o, .long x, .int n]) ++ List.replicate (4 - (lg_sl ([.ref o, .long x, .int n])).length) Slot.unset).toArray = ls at hl ⊢
  have hl : lv_has ls 4 [(0, .ref o), (1, .long x), (3, .int n)] := hl
  suffices key : ∀ (H : Heap) (locs : List Loc), va_P D vwCl (xw o a1 a2 a3 k1 k2 k3 row dv sl nb wd po tp fi la bi bo) H → va_S (fun q : Nat => s.heap.size ≤ q) s.heap H locs → W p l e (headSpec wsX0_zeros { frames := 3, cells := 0, slots := 0, locals := 81 }).room s m ([.ref o, .long x, .int n] : List Value).toArray below meth c H locs 0 0 (MQ below (roL s.heap.size (mZer (nI wd) tp x n)) ([.ref o, .long x, .int n] : List Value).toArray s 0 0 (fun q : Nat => s.heap.size ≤ q)) (F0 m 0 ls []) from key s.heap [] hP hS
  intro H locs hP hS
  refine lv_iload_n hx hb dX0_zeros_0 rfl (lv_at hl 2 rfl) ?_
  refine lv_if_lt (tgt := 10) hx hb dX0_zeros_1 (by decide) (fun c_1 => ?_) (fun c_1 => ?_)
  ·
    refine lv_lconst (v := 0) hx hb dX0_zeros_10 (by decide) ?_
    exact W.lret (v := 0) hx hb hr (fun t ht hW => ⟨⟨0, (), rfl, by first | rw [mZer, if_pos c_1] | rw [mZer, if_neg c_1, if_pos c_7] | rw [mZer, if_neg c_1, if_neg c_7], trivial⟩, hS.F ht⟩) hS.2.2 dX0_zeros_11
  ·
    refine lv_iload_n hx hb dX0_zeros_4 rfl (lv_at hl 2 rfl) ?_
    refine lv_ldc hx hb hown (hts (.constant RX0 119 1000000) (by decide +kernel)) dX0_zeros_5 ?_
    refine lv_icmp_le (tgt := 12) hx hb dX0_zeros_7 (by decide) (fun c_7 => ?_) (fun c_7 => ?_)
    ·
      refine lv_aload_n hx hb dX0_zeros_12 rfl (lv_at hl 0 rfl) ?_
      refine lv_aload_n hx hb dX0_zeros_13 rfl (lv_at hl 0 rfl) ?_
      refine lv_aload_n hx hb dX0_zeros_14 rfl (lv_at hl 0 rfl) ?_
      refine lv_lload_n hx hb dX0_zeros_15 rfl (lv_at hl 1 rfl) ?_
      refine ro_l (va_runV (As := [.long x]) (rest := [.ref o, .ref o]) ⟨hx, hb, hml, hown, hts⟩ (c_atTop (sz := H.size) x) (cwV 1 hts gX0_zeros_X0_atTop rfl rfl rfl (by decide +kernel) ⟨Nat.le_of_ble_eq_true rfl, Nat.le_of_ble_eq_true rfl⟩) (preV_RO hP hK 0 (ci := 0) rfl rfl) rfl rfl hl.1 rfl (lv_room (Nat.le_of_ble_eq_true rfl)) dX0_zeros_16 ⟨Nat.le_of_ble_eq_true rfl, Nat.le_of_ble_eq_true rfl⟩) hS hA hP (fun H locs hP hS => ?_)
      refine lv_iload_n hx hb dX0_zeros_19 rfl (lv_at hl 2 rfl) ?_
      refine lv_i2l (v := n.toInt64) hx hb dX0_zeros_20 rfl ?_
      refine ro_l (va_runV (As := [.long (mTop (nI wd) x), .long n.toInt64]) (rest := [.ref o]) ⟨hx, hb, hml, hown, hts⟩ (c_behindZeros (sz := H.size) (mTop (nI wd) x) n.toInt64 (hw)) (cwV 2 hts gX0_zeros_X0_behindZeros rfl rfl rfl (by decide +kernel) ⟨Nat.le_of_ble_eq_true rfl, Nat.le_of_ble_eq_true rfl⟩) (preV_RO hP hK 0 (ci := 0) rfl rfl) rfl rfl hl.1 rfl (lv_room (Nat.le_of_ble_eq_true rfl)) dX0_zeros_21 ⟨Nat.le_of_ble_eq_true rfl, Nat.le_of_ble_eq_true rfl⟩) hS hA hP (fun H locs hP hS => ?_)
      refine ro_l (va_runV (As := [.long (mZeros (nI wd) tp (mTop (nI wd) x) n.toInt64)]) (rest := []) ⟨hx, hb, hml, hown, hts⟩ (c_fromTop (sz := H.size) (mZeros (nI wd) tp (mTop (nI wd) x) n.toInt64)) (cwV 1 hts gX0_zeros_X0_fromTop rfl rfl rfl (by decide +kernel) ⟨Nat.le_of_ble_eq_true rfl, Nat.le_of_ble_eq_true rfl⟩) (preV_RO hP hK 0 (ci := 0) rfl rfl) rfl rfl hl.1 rfl (lv_room (Nat.le_of_ble_eq_true rfl)) dX0_zeros_24 ⟨Nat.le_of_ble_eq_true rfl, Nat.le_of_ble_eq_true rfl⟩) hS hA hP (fun H locs hP hS => ?_)
      exact W.lret (v := (mFrom (nI wd) (mZeros (nI wd) tp (mTop (nI wd) x) n.toInt64))) hx hb hr (fun t ht hW => ⟨⟨(mFrom (nI wd) (mZeros (nI wd) tp (mTop (nI wd) x) n.toInt64)), (), rfl, by first | rw [mZer, if_pos c_1] | rw [mZer, if_neg c_1, if_pos c_7] | rw [mZer, if_neg c_1, if_neg c_7], trivial⟩, hS.F ht⟩) hS.2.2 dX0_zeros_27
    ·
      refine lv_lconst (v := 0) hx hb dX0_zeros_10 (by decide) ?_
      exact W.lret (v := 0) hx hb hr (fun t ht hW => ⟨⟨0, (), rfl, by first | rw [mZer, if_pos c_1] | rw [mZer, if_neg c_1, if_pos c_7] | rw [mZer, if_neg c_1, if_neg c_7], trivial⟩, hS.F ht⟩) hS.2.2 dX0_zeros_11
theorem in_c_round : ∀ w ∈ wsX00, w ∈ wsX0_round := fun _ h => List.mem_cons_of_mem _ (List.mem_append_right _ h)
set_option maxHeartbeats 4000000 in
set_option maxRecDepth 100000 in
theorem c_round {l : Launch} {D : va_G} {o a1 a2 a3 : Nat} {k1 k2 k3 : ClassId} {row : Nat → Int64} {dv : Nat → Int64} {sl : Nat → Int64} {nb : Nat} {wd : Nat} {po : Int64} {tp : Int64} {fi : Int64} {la : Int64} {bi : Int32} {bo : Int32} {sz : Nat}   : Met l yX0_round wsX0_round ({ frames := 1, cells := 0, slots := 0, locals := 25 }) (va_Pc [.ref o] (pRO D vwCl (xt k1 k2 k3) (xw o a1 a2 a3 k1 k2 k3 row dv sl nb wd po tp fi la bi bo) sz)) (roI sz (mRound (nI wd) tp)) 0 0 (fun q : Nat => sz ≤ q) := by
  refine Met.ofW (cc := cX0_round) (maxL := 6) (ret := (some .int)) (by decide) rfl ?_
  intro p e s m args below meth c s₁ B hml hv
  obtain ⟨rfl, hsz, hP, hK⟩ := hv
  have hsz : s.heap.size = sz := hsz
  have hx := B.exec
  have hb := B.bytes
  have hr := B.returns
  have hts := atoms_spec (ws := wsX0_round) B.pre
  have hown : s.vm.findClass RX0 = some m.cls := findClass_of_methodNamed B.named
  have hlocks := B.notSynchronized
  subst hsz
  have hA : ∀ q : Nat, s.heap.size ≤ q → (fun q : Nat => s.heap.size ≤ q) q := fun _ h => h
  have hS : va_S (fun q : Nat => s.heap.size ≤ q) s.heap s.heap [] := va_S.rf
  have hl := lv_entry ([.ref o]) (n := 6) (Nat.le_of_ble_eq_true rfl)
  rw [lg_entry_eq]
  generalize (lg_sl ([.ref o]) ++ List.replicate (6 - (lg_sl ([.ref o])).length) Slot.unset).toArray = ls at hl ⊢
  have hl : lv_has ls 6 [(0, .ref o)] := hl
  suffices key : ∀ (H : Heap) (locs : List Loc), va_P D vwCl (xw o a1 a2 a3 k1 k2 k3 row dv sl nb wd po tp fi la bi bo) H → va_S (fun q : Nat => s.heap.size ≤ q) s.heap H locs → W p l e (headSpec wsX0_round { frames := 1, cells := 0, slots := 0, locals := 25 }).room s m ([.ref o] : List Value).toArray below meth c H locs 0 0 (MQ below (roI s.heap.size (mRound (nI wd) tp)) ([.ref o] : List Value).toArray s 0 0 (fun q : Nat => s.heap.size ≤ q)) (F0 m 0 ls []) from key s.heap [] hP hS
  intro H locs hP hS
  refine lv_aload_n hx hb dX0_round_0 rfl (lv_at hl 0 rfl) ?_
  refine lv_lconst (v := 1) hx hb dX0_round_1 (by decide) ?_
  refine ro_l (va_runV (As := [.long 1]) (rest := []) ⟨hx, hb, hml, hown, hts⟩ (c_atTop (sz := H.size) 1) (cwV 1 hts gX0_round_X0_atTop rfl rfl rfl (by decide +kernel) ⟨Nat.le_of_ble_eq_true rfl, Nat.le_of_ble_eq_true rfl⟩) (preV_RO hP hK 0 (ci := 0) rfl rfl) rfl rfl hl.1 rfl (lv_room (Nat.le_of_ble_eq_true rfl)) dX0_round_2 ⟨Nat.le_of_ble_eq_true rfl, Nat.le_of_ble_eq_true rfl⟩) hS hA hP (fun H locs hP hS => ?_)
  refine lv_lstore_n (lv' := [(1, .long (mTop (nI wd) 1)), (0, .ref o)]) hx hb dX0_round_5 rfl hl (by decide) rfl (fun ls hl => ?_)
  refine lv_lload_n hx hb dX0_round_6 rfl (lv_at hl 0 rfl) ?_
  refine lv_lstore_n (lv' := [(3, .long (mTop (nI wd) 1)), (1, .long (mTop (nI wd) 1)), (0, .ref o)]) hx hb dX0_round_7 rfl hl (by decide) rfl (fun ls hl => ?_)
  refine lv_iconst (v := 1) hx hb dX0_round_8 (by decide) ?_
  refine lv_istore (lv' := [(5, .int 1), (3, .long (mTop (nI wd) 1)), (1, .long (mTop (nI wd) 1)), (0, .ref o)]) hx hb dX0_round_9 hl (by decide) rfl (fun ls hl => ?_)
  have lp_11 : ∀ (k i : Nat), i ≤ 4096 → 4096 < i + k → firstAt (fun i => decide (mRdN (nI wd) tp i = mTop (nI wd) 1)) i (4096 - i) = mRound (nI wd) tp → ∀ (H : Heap) (locs : List Loc), va_P D vwCl (xw o a1 a2 a3 k1 k2 k3 row dv sl nb wd po tp fi la bi bo) H → va_S (fun q : Nat => s.heap.size ≤ q) s.heap H locs → ∀ ls : Array Slot, lv_has ls 6 [(5, .int (nI (i + 1))), (3, .long (mRdN (nI wd) tp i)), (1, .long (mTop (nI wd) 1)), (0, .ref o)] → W p l e (headSpec wsX0_round { frames := 1, cells := 0, slots := 0, locals := 25 }).room s m ([.ref o] : List Value).toArray below meth c H locs 0 0 (MQ below (roI s.heap.size (mRound (nI wd) tp)) ([.ref o] : List Value).toArray s 0 0 (fun q : Nat => s.heap.size ≤ q)) (F0 m 11 ls []) := by
    intro k
    induction k with
    | zero =>
      intro i h1 h2
      exact absurd h2 (by omega)
    | succ k ih =>
      intro i hi hk hfr H locs hP hS ls hl
      refine lv_iload hx hb dX0_round_11 (lv_at hl 0 rfl) ?_
      refine lv_sipush (v := 4096) hx hb dX0_round_13 (by decide) ?_
      refine lv_icmp_gt (tgt := 41) hx hb dX0_round_16 (by decide) (fun c_16 => ?_) (fun c_16 => ?_)
      ·
        have hiN : i = 4096 := du_rd1 hi c_16
        refine lv_iconst (v := (-1)) hx hb dX0_round_41 (by decide) ?_
        exact W.iret (v := (-1)) hx hb hr (fun t ht hW => ⟨⟨(-1), (), rfl, by rw [← hfr, hiN]; rfl, trivial⟩, hS.F ht⟩) hS.2.2 dX0_round_42
      ·
        have hlt : i < 4096 := du_rd2 hi c_16
        refine lv_aload_n hx hb dX0_round_19 rfl (lv_at hl 3 rfl) ?_
        refine lv_lload_n hx hb dX0_round_20 rfl (lv_at hl 1 rfl) ?_
        refine lv_iconst (v := 0) hx hb dX0_round_21 (by decide) ?_
        refine ro_l (va_runV (As := [.long (mRdN (nI wd) tp i), .int 0]) (rest := []) ⟨hx, hb, hml, hown, hts⟩ (c_behindBit (sz := H.size) (mRdN (nI wd) tp i) 0) (cwV 2 hts gX0_round_X0_behindBit rfl rfl rfl (by decide +kernel) ⟨Nat.le_of_ble_eq_true rfl, Nat.le_of_ble_eq_true rfl⟩) (preV_RO hP hK 0 (ci := 0) rfl rfl) rfl rfl hl.1 rfl (lv_room (Nat.le_of_ble_eq_true rfl)) dX0_round_22 ⟨Nat.le_of_ble_eq_true rfl, Nat.le_of_ble_eq_true rfl⟩) hS hA hP (fun H locs hP hS => ?_)
        refine du_rwl (y := mRdN (nI wd) tp (i + 1)) (rfl) ?_
        refine lv_lstore_n (lv' := [(3, .long (mRdN (nI wd) tp (i + 1))), (5, .int (nI (i + 1))), (1, .long (mTop (nI wd) 1)), (0, .ref o)]) hx hb dX0_round_25 rfl hl (by decide) rfl (fun ls hl => ?_)
        refine lv_lload_n hx hb dX0_round_26 rfl (lv_at hl 0 rfl) ?_
        refine lv_lload_n hx hb dX0_round_27 rfl (lv_at hl 2 rfl) ?_
        refine W.lcmp hx hb dX0_round_28 ?_
        refine lv_if_ne (tgt := 35) hx hb dX0_round_29 (by decide) (fun c_29 => ?_) (fun c_29 => ?_)
        ·
          have hfr2 : firstAt (fun i => decide (mRdN (nI wd) tp i = mTop (nI wd) 1)) (i + 1) (4096 - (i + 1)) = mRound (nI wd) tp := by rw [← hfr, du_fn hlt]; exact (if_neg (by simpa using fun h => c_29 ((lg_cmp_eq _ _).mpr h))).symm
          refine lv_iinc (v := nI (i + 1 + 1)) (lv' := [(5, .int (nI (i + 1 + 1))), (3, .long (mRdN (nI wd) tp (i + 1))), (1, .long (mTop (nI wd) 1)), (0, .ref o)]) hx hb dX0_round_35 hl (k := 1) rfl (nI_1 _) (by decide) rfl (fun ls hl => ?_)
          refine lv_goto (tgt := 11) hx hb dX0_round_38 (by decide) ?_
          exact ih (i + 1) (by omega) (by omega) (hfr2) H locs (hP) hS ls (lv_sub hl [0, 1, 2, 3] rfl)
        ·
          have hfr2 : nI (i + 1) = mRound (nI wd) tp := by rw [← hfr, du_fn hlt]; exact (if_pos (by simpa using (lg_cmp_eq _ _).mp c_29)).symm
          refine lv_iload hx hb dX0_round_32 (lv_at hl 1 rfl) ?_
          exact W.iret (v := (nI (i + 1))) hx hb hr (fun t ht hW => ⟨⟨(nI (i + 1)), (), rfl, hfr2, trivial⟩, hS.F ht⟩) hS.2.2 dX0_round_34
  exact lp_11 (4096 + 1 - 0) 0 (by omega) (by omega) (rfl) H locs (hP) hS ls (lv_sub hl [0, 1, 2, 3] rfl)
theorem in_c_count : ∀ w ∈ wsX00, w ∈ wsX0_count := fun _ h => List.mem_cons_of_mem _ (List.mem_append_right _ h)
set_option maxHeartbeats 4000000 in
set_option maxRecDepth 100000 in
theorem c_count {l : Launch} {D : va_G} {o a1 a2 a3 : Nat} {k1 k2 k3 : ClassId} {row : Nat → Int64} {dv : Nat → Int64} {sl : Nat → Int64} {nb : Nat} {wd : Nat} {po : Int64} {tp : Int64} {fi : Int64} {la : Int64} {bi : Int32} {bo : Int32} {sz : Nat} (x : Int32)  : Met l yX0_count wsX0_count ({ frames := 0, cells := 0, slots := 0, locals := 0 }) (va_Pc [.ref o, .int x] (pRO D vwCl (xt k1 k2 k3) (xw o a1 a2 a3 k1 k2 k3 row dv sl nb wd po tp fi la bi bo) sz)) (roI sz (cCount nb wd bi bo x)) 0 0 (fun q : Nat => sz ≤ q) := by
  refine Met.ofW (cc := cX0_count) (maxL := 2) (ret := (some .int)) (by decide) rfl ?_
  intro p e s m args below meth c s₁ B hml hv
  obtain ⟨rfl, hsz, hP, hK⟩ := hv
  have hsz : s.heap.size = sz := hsz
  have hx := B.exec
  have hb := B.bytes
  have hr := B.returns
  have hts := atoms_spec (ws := wsX0_count) B.pre
  have hown : s.vm.findClass RX0 = some m.cls := findClass_of_methodNamed B.named
  have hlocks := B.notSynchronized
  subst hsz
  have hA : ∀ q : Nat, s.heap.size ≤ q → (fun q : Nat => s.heap.size ≤ q) q := fun _ h => h
  have hS : va_S (fun q : Nat => s.heap.size ≤ q) s.heap s.heap [] := va_S.rf
  have hl := lv_entry ([.ref o, .int x]) (n := 2) (Nat.le_of_ble_eq_true rfl)
  rw [lg_entry_eq]
  generalize (lg_sl ([.ref o, .int x]) ++ List.replicate (2 - (lg_sl ([.ref o, .int x])).length) Slot.unset).toArray = ls at hl ⊢
  have hl : lv_has ls 2 [(0, .ref o), (1, .int x)] := hl
  suffices key : ∀ (H : Heap) (locs : List Loc), va_P D vwCl (xw o a1 a2 a3 k1 k2 k3 row dv sl nb wd po tp fi la bi bo) H → va_S (fun q : Nat => s.heap.size ≤ q) s.heap H locs → W p l e (headSpec wsX0_count { frames := 0, cells := 0, slots := 0, locals := 0 }).room s m ([.ref o, .int x] : List Value).toArray below meth c H locs 0 0 (MQ below (roI s.heap.size (cCount nb wd bi bo x)) ([.ref o, .int x] : List Value).toArray s 0 0 (fun q : Nat => s.heap.size ≤ q)) (F0 m 0 ls []) from key s.heap [] hP hS
  intro H locs hP hS
  refine lv_iload_n hx hb dX0_count_0 rfl (lv_at hl 1 rfl) ?_
  rcases du_sw x (0) with s_0 | s_0
  ·
    refine lv_tableIn (tgt := 32) hx hb dX0_count_1 (by rw [s_0]; decide) (by rw [s_0]; decide) (by rw [s_0]; rfl) (by decide) ?_
    refine lv_aload_n hx hb dX0_count_32 rfl (lv_at hl 0 rfl) ?_
    refine va_get (D := D) (ci := 0) (v := .int (nI nb)) (C := RX0) (T := TX0) (N := 11) hx hb hts in_c_count hown hK hP 0 rfl rfl 3 (by decide) (hts (.fieldLink RX0 68 "SliceChecks" "bytes" "I") (by decide +kernel)) (fun _ h9 => h9) rfl dX0_count_33 ?_
    exact W.iret (v := (nI nb)) hx hb hr (fun t ht hW => ⟨⟨(nI nb), (), rfl, by first | rw [cCount, if_pos s_0] | rw [cCount, if_neg s_0, if_pos s_1] | rw [cCount, if_neg s_0, if_neg s_1, if_pos s_2, if_pos c_46] | rw [cCount, if_neg s_0, if_neg s_1, if_pos s_2, if_neg c_46] | rw [cCount, if_neg s_0, if_neg s_1, if_neg s_2, if_pos s_3, if_pos c_59] | rw [cCount, if_neg s_0, if_neg s_1, if_neg s_2, if_pos s_3, if_neg c_59] | rw [cCount, if_neg s_0, if_neg s_1, if_neg s_2, if_neg s_3], trivial⟩, hS.F ht⟩) hS.2.2 dX0_count_36
  rcases du_sw x (1) with s_1 | s_1
  ·
    refine lv_tableIn (tgt := 37) hx hb dX0_count_1 (by rw [s_1]; decide) (by rw [s_1]; decide) (by rw [s_1]; rfl) (by decide) ?_
    refine lv_aload_n hx hb dX0_count_37 rfl (lv_at hl 0 rfl) ?_
    refine va_get (D := D) (ci := 0) (v := .int (nI wd)) (C := RX0) (T := TX0) (N := 11) hx hb hts in_c_count hown hK hP 0 rfl rfl 4 (by decide) (hts (.fieldLink RX0 34 "SliceChecks" "width" "I") (by decide +kernel)) (fun _ h9 => h9) rfl dX0_count_38 ?_
    exact W.iret (v := (nI wd)) hx hb hr (fun t ht hW => ⟨⟨(nI wd), (), rfl, by first | rw [cCount, if_pos s_0] | rw [cCount, if_neg s_0, if_pos s_1] | rw [cCount, if_neg s_0, if_neg s_1, if_pos s_2, if_pos c_46] | rw [cCount, if_neg s_0, if_neg s_1, if_pos s_2, if_neg c_46] | rw [cCount, if_neg s_0, if_neg s_1, if_neg s_2, if_pos s_3, if_pos c_59] | rw [cCount, if_neg s_0, if_neg s_1, if_neg s_2, if_pos s_3, if_neg c_59] | rw [cCount, if_neg s_0, if_neg s_1, if_neg s_2, if_neg s_3], trivial⟩, hS.F ht⟩) hS.2.2 dX0_count_41
  rcases du_sw x (2) with s_2 | s_2
  ·
    refine lv_tableIn (tgt := 42) hx hb dX0_count_1 (by rw [s_2]; decide) (by rw [s_2]; decide) (by rw [s_2]; rfl) (by decide) ?_
    refine lv_aload_n hx hb dX0_count_42 rfl (lv_at hl 0 rfl) ?_
    refine va_get (D := D) (ci := 0) (v := .int bi) (C := RX0) (T := TX0) (N := 11) hx hb hts in_c_count hown hK hP 0 rfl rfl 9 (by decide) (hts (.fieldLink RX0 27 "SliceChecks" "in" "Z") (by decide +kernel)) (fun _ h9 => h9) rfl dX0_count_43 ?_
    refine lv_if_eq (tgt := 53) hx hb dX0_count_46 (by decide) (fun c_46 => ?_) (fun c_46 => ?_)
    ·
      refine lv_iconst (v := 0) hx hb dX0_count_53 (by decide) ?_
      exact W.iret (v := 0) hx hb hr (fun t ht hW => ⟨⟨0, (), rfl, by first | rw [cCount, if_pos s_0] | rw [cCount, if_neg s_0, if_pos s_1] | rw [cCount, if_neg s_0, if_neg s_1, if_pos s_2, if_pos c_46] | rw [cCount, if_neg s_0, if_neg s_1, if_pos s_2, if_neg c_46] | rw [cCount, if_neg s_0, if_neg s_1, if_neg s_2, if_pos s_3, if_pos c_59] | rw [cCount, if_neg s_0, if_neg s_1, if_neg s_2, if_pos s_3, if_neg c_59] | rw [cCount, if_neg s_0, if_neg s_1, if_neg s_2, if_neg s_3], trivial⟩, hS.F ht⟩) hS.2.2 dX0_count_54
    ·
      refine lv_iconst (v := 1) hx hb dX0_count_49 (by decide) ?_
      refine lv_goto (tgt := 54) hx hb dX0_count_50 (by decide) ?_
      exact W.iret (v := 1) hx hb hr (fun t ht hW => ⟨⟨1, (), rfl, by first | rw [cCount, if_pos s_0] | rw [cCount, if_neg s_0, if_pos s_1] | rw [cCount, if_neg s_0, if_neg s_1, if_pos s_2, if_pos c_46] | rw [cCount, if_neg s_0, if_neg s_1, if_pos s_2, if_neg c_46] | rw [cCount, if_neg s_0, if_neg s_1, if_neg s_2, if_pos s_3, if_pos c_59] | rw [cCount, if_neg s_0, if_neg s_1, if_neg s_2, if_pos s_3, if_neg c_59] | rw [cCount, if_neg s_0, if_neg s_1, if_neg s_2, if_neg s_3], trivial⟩, hS.F ht⟩) hS.2.2 dX0_count_54
  rcases du_sw x (3) with s_3 | s_3
  ·
    refine lv_tableIn (tgt := 55) hx hb dX0_count_1 (by rw [s_3]; decide) (by rw [s_3]; decide) (by rw [s_3]; rfl) (by decide) ?_
    refine lv_aload_n hx hb dX0_count_55 rfl (lv_at hl 0 rfl) ?_
    refine va_get (D := D) (ci := 0) (v := .int bo) (C := RX0) (T := TX0) (N := 11) hx hb hts in_c_count hown hK hP 0 rfl rfl 10 (by decide) (hts (.fieldLink RX0 55 "SliceChecks" "out" "Z") (by decide +kernel)) (fun _ h9 => h9) rfl dX0_count_56 ?_
    refine lv_if_eq (tgt := 66) hx hb dX0_count_59 (by decide) (fun c_59 => ?_) (fun c_59 => ?_)
    ·
      refine lv_iconst (v := 0) hx hb dX0_count_66 (by decide) ?_
      exact W.iret (v := 0) hx hb hr (fun t ht hW => ⟨⟨0, (), rfl, by first | rw [cCount, if_pos s_0] | rw [cCount, if_neg s_0, if_pos s_1] | rw [cCount, if_neg s_0, if_neg s_1, if_pos s_2, if_pos c_46] | rw [cCount, if_neg s_0, if_neg s_1, if_pos s_2, if_neg c_46] | rw [cCount, if_neg s_0, if_neg s_1, if_neg s_2, if_pos s_3, if_pos c_59] | rw [cCount, if_neg s_0, if_neg s_1, if_neg s_2, if_pos s_3, if_neg c_59] | rw [cCount, if_neg s_0, if_neg s_1, if_neg s_2, if_neg s_3], trivial⟩, hS.F ht⟩) hS.2.2 dX0_count_67
    ·
      refine lv_iconst (v := 1) hx hb dX0_count_62 (by decide) ?_
      refine lv_goto (tgt := 67) hx hb dX0_count_63 (by decide) ?_
      exact W.iret (v := 1) hx hb hr (fun t ht hW => ⟨⟨1, (), rfl, by first | rw [cCount, if_pos s_0] | rw [cCount, if_neg s_0, if_pos s_1] | rw [cCount, if_neg s_0, if_neg s_1, if_pos s_2, if_pos c_46] | rw [cCount, if_neg s_0, if_neg s_1, if_pos s_2, if_neg c_46] | rw [cCount, if_neg s_0, if_neg s_1, if_neg s_2, if_pos s_3, if_pos c_59] | rw [cCount, if_neg s_0, if_neg s_1, if_neg s_2, if_pos s_3, if_neg c_59] | rw [cCount, if_neg s_0, if_neg s_1, if_neg s_2, if_neg s_3], trivial⟩, hS.F ht⟩) hS.2.2 dX0_count_67
  refine lv_tableOut (tgt := 68) hx hb dX0_count_1 (by have n_0 := du_ne (n := 0) (by decide) s_0; have n_1 := du_ne (n := 1) (by decide) s_1; have n_2 := du_ne (n := 2) (by decide) s_2; have n_3 := du_ne (n := 3) (by decide) s_3; omega) (by decide) ?_
  refine lv_iconst (v := (-1)) hx hb dX0_count_68 (by decide) ?_
  exact W.iret (v := (-1)) hx hb hr (fun t ht hW => ⟨⟨(-1), (), rfl, by first | rw [cCount, if_pos s_0] | rw [cCount, if_neg s_0, if_pos s_1] | rw [cCount, if_neg s_0, if_neg s_1, if_pos s_2, if_pos c_46] | rw [cCount, if_neg s_0, if_neg s_1, if_pos s_2, if_neg c_46] | rw [cCount, if_neg s_0, if_neg s_1, if_neg s_2, if_pos s_3, if_pos c_59] | rw [cCount, if_neg s_0, if_neg s_1, if_neg s_2, if_pos s_3, if_neg c_59] | rw [cCount, if_neg s_0, if_neg s_1, if_neg s_2, if_neg s_3], trivial⟩, hS.F ht⟩) hS.2.2 dX0_count_69
theorem in_c_told : ∀ w ∈ wsX00, w ∈ wsX0_told := fun _ h => List.mem_cons_of_mem _ (List.mem_append_right _ h)
set_option maxHeartbeats 4000000 in
set_option maxRecDepth 100000 in
theorem c_told {l : Launch} {D : va_G} {o a1 a2 a3 : Nat} {k1 k2 k3 : ClassId} {row : Nat → Int64} {dv : Nat → Int64} {sl : Nat → Int64} {nb : Nat} {wd : Nat} {po : Int64} {tp : Int64} {fi : Int64} {la : Int64} {bi : Int32} {bo : Int32} {sz : Nat} (x : Int32)  : Met l yX0_told wsX0_told ({ frames := 0, cells := 0, slots := 0, locals := 0 }) (va_Pc [.ref o, .int x] (pRO D vwCl (xt k1 k2 k3) (xw o a1 a2 a3 k1 k2 k3 row dv sl nb wd po tp fi la bi bo) sz)) (roL sz (cTold po fi la x)) 0 0 (fun q : Nat => sz ≤ q) := by
  refine Met.ofW (cc := cX0_told) (maxL := 2) (ret := (some .long)) (by decide) rfl ?_
  intro p e s m args below meth c s₁ B hml hv
  obtain ⟨rfl, hsz, hP, hK⟩ := hv
  have hsz : s.heap.size = sz := hsz
  have hx := B.exec
  have hb := B.bytes
  have hr := B.returns
  have hts := atoms_spec (ws := wsX0_told) B.pre
  have hown : s.vm.findClass RX0 = some m.cls := findClass_of_methodNamed B.named
  have hlocks := B.notSynchronized
  subst hsz
  have hA : ∀ q : Nat, s.heap.size ≤ q → (fun q : Nat => s.heap.size ≤ q) q := fun _ h => h
  have hS : va_S (fun q : Nat => s.heap.size ≤ q) s.heap s.heap [] := va_S.rf
  have hl := lv_entry ([.ref o, .int x]) (n := 2) (Nat.le_of_ble_eq_true rfl)
  rw [lg_entry_eq]
  generalize (lg_sl ([.ref o, .int x]) ++ List.replicate (2 - (lg_sl ([.ref o, .int x])).length) Slot.unset).toArray = ls at hl ⊢
  have hl : lv_has ls 2 [(0, .ref o), (1, .int x)] := hl
  suffices key : ∀ (H : Heap) (locs : List Loc), va_P D vwCl (xw o a1 a2 a3 k1 k2 k3 row dv sl nb wd po tp fi la bi bo) H → va_S (fun q : Nat => s.heap.size ≤ q) s.heap H locs → W p l e (headSpec wsX0_told { frames := 0, cells := 0, slots := 0, locals := 0 }).room s m ([.ref o, .int x] : List Value).toArray below meth c H locs 0 0 (MQ below (roL s.heap.size (cTold po fi la x)) ([.ref o, .int x] : List Value).toArray s 0 0 (fun q : Nat => s.heap.size ≤ q)) (F0 m 0 ls []) from key s.heap [] hP hS
  intro H locs hP hS
  refine lv_iload_n hx hb dX0_told_0 rfl (lv_at hl 1 rfl) ?_
  rcases du_sw x (0) with s_0 | s_0
  ·
    refine lv_tableIn (tgt := 28) hx hb dX0_told_1 (by rw [s_0]; decide) (by rw [s_0]; decide) (by rw [s_0]; rfl) (by decide) ?_
    refine lv_aload_n hx hb dX0_told_28 rfl (lv_at hl 0 rfl) ?_
    refine va_get (D := D) (ci := 0) (v := .long po) (C := RX0) (T := TX0) (N := 11) hx hb hts in_c_told hown hK hP 0 rfl rfl 5 (by decide) (hts (.fieldLink RX0 42 "SliceChecks" "polynomial" "J") (by decide +kernel)) (fun _ h9 => h9) rfl dX0_told_29 ?_
    exact W.lret (v := po) hx hb hr (fun t ht hW => ⟨⟨po, (), rfl, by first | rw [cTold, if_pos s_0] | rw [cTold, if_neg s_0, if_pos s_1] | rw [cTold, if_neg s_0, if_neg s_1, if_pos s_2] | rw [cTold, if_neg s_0, if_neg s_1, if_neg s_2], trivial⟩, hS.F ht⟩) hS.2.2 dX0_told_32
  rcases du_sw x (1) with s_1 | s_1
  ·
    refine lv_tableIn (tgt := 33) hx hb dX0_told_1 (by rw [s_1]; decide) (by rw [s_1]; decide) (by rw [s_1]; rfl) (by decide) ?_
    refine lv_aload_n hx hb dX0_told_33 rfl (lv_at hl 0 rfl) ?_
    refine va_get (D := D) (ci := 0) (v := .long fi) (C := RX0) (T := TX0) (N := 11) hx hb hts in_c_told hown hK hP 0 rfl rfl 7 (by decide) (hts (.fieldLink RX0 52 "SliceChecks" "first" "J") (by decide +kernel)) (fun _ h9 => h9) rfl dX0_told_34 ?_
    exact W.lret (v := fi) hx hb hr (fun t ht hW => ⟨⟨fi, (), rfl, by first | rw [cTold, if_pos s_0] | rw [cTold, if_neg s_0, if_pos s_1] | rw [cTold, if_neg s_0, if_neg s_1, if_pos s_2] | rw [cTold, if_neg s_0, if_neg s_1, if_neg s_2], trivial⟩, hS.F ht⟩) hS.2.2 dX0_told_37
  rcases du_sw x (2) with s_2 | s_2
  ·
    refine lv_tableIn (tgt := 38) hx hb dX0_told_1 (by rw [s_2]; decide) (by rw [s_2]; decide) (by rw [s_2]; rfl) (by decide) ?_
    refine lv_aload_n hx hb dX0_told_38 rfl (lv_at hl 0 rfl) ?_
    refine va_get (D := D) (ci := 0) (v := .long la) (C := RX0) (T := TX0) (N := 11) hx hb hts in_c_told hown hK hP 0 rfl rfl 8 (by decide) (hts (.fieldLink RX0 58 "SliceChecks" "last" "J") (by decide +kernel)) (fun _ h9 => h9) rfl dX0_told_39 ?_
    exact W.lret (v := la) hx hb hr (fun t ht hW => ⟨⟨la, (), rfl, by first | rw [cTold, if_pos s_0] | rw [cTold, if_neg s_0, if_pos s_1] | rw [cTold, if_neg s_0, if_neg s_1, if_pos s_2] | rw [cTold, if_neg s_0, if_neg s_1, if_neg s_2], trivial⟩, hS.F ht⟩) hS.2.2 dX0_told_42
  refine lv_tableOut (tgt := 43) hx hb dX0_told_1 (by have n_0 := du_ne (n := 0) (by decide) s_0; have n_1 := du_ne (n := 1) (by decide) s_1; have n_2 := du_ne (n := 2) (by decide) s_2; omega) (by decide) ?_
  refine lv_lconst (v := 0) hx hb dX0_told_43 (by decide) ?_
  exact W.lret (v := 0) hx hb hr (fun t ht hW => ⟨⟨0, (), rfl, by first | rw [cTold, if_pos s_0] | rw [cTold, if_neg s_0, if_pos s_1] | rw [cTold, if_neg s_0, if_neg s_1, if_pos s_2] | rw [cTold, if_neg s_0, if_neg s_1, if_neg s_2], trivial⟩, hS.F ht⟩) hS.2.2 dX0_told_44
theorem in_c_fillSlices : ∀ w ∈ wsX00, w ∈ wsX0_fillSlices := fun _ h => List.mem_cons_of_mem _ (List.mem_append_right _ h)
set_option maxHeartbeats 4000000 in
set_option maxRecDepth 100000 in
theorem c_fillSlices {l : Launch} {D : va_G} {o a1 a2 a3 : Nat} {k1 k2 k3 : ClassId} {row : Nat → Int64} {dv : Nat → Int64} {sl : Nat → Int64} {nb : Nat} {wd : Nat} {po : Int64} {tp : Int64} {fi : Int64} {la : Int64} {bi : Int32} {bo : Int32} {sz : Nat}   : Met l yX0_fillSlices wsX0_fillSlices ({ frames := 2, cells := 0, slots := 0, locals := 51 }) (va_Pc [.ref o] (pMU D vwCl (xt k1 k2 k3) (xw o a1 a2 a3 k1 k2 k3 row dv sl nb wd po tp fi la bi bo) sz)) (muV D vwCl (xw o a1 a2 a3 k1 k2 k3 row dv sl nb wd po tp fi la bi bo) (xw o a1 a2 a3 k1 k2 k3 row dv (mFill tp sl) nb wd po tp fi la bi bo) sz) 0 0 (va_A (xw o a1 a2 a3 k1 k2 k3 row dv sl nb wd po tp fi la bi bo) sz) := by
  refine Met.ofW (cc := cX0_fillSlices) (maxL := 2) (ret := none) (by decide) rfl ?_
  intro p e s m args below meth c s₁ B hml hv
  obtain ⟨rfl, hsz, hP, hK, hD0⟩ := hv
  have hsz : s.heap.size = sz := hsz
  have hx := B.exec
  have hb := B.bytes
  have hr := B.returns
  have hts := atoms_spec (ws := wsX0_fillSlices) B.pre
  have hown : s.vm.findClass RX0 = some m.cls := findClass_of_methodNamed B.named
  have hlocks := B.notSynchronized
  subst hsz
  have hD0 := hD0.self (sz := s.heap.size)
  have hA : ∀ q9 : Nat, s.heap.size ≤ q9 → va_A (xw o a1 a2 a3 k1 k2 k3 row dv sl nb wd po tp fi la bi bo) s.heap.size q9 := fun q9 h => Or.inr h
  unfold muV
  generalize va_A (xw o a1 a2 a3 k1 k2 k3 row dv sl nb wd po tp fi la bi bo) s.heap.size = A at hD0 hA ⊢
  have hD := hD0
  have hS : va_S A s.heap s.heap [] := va_S.rf
  have hl := lv_entry ([.ref o]) (n := 2) (Nat.le_of_ble_eq_true rfl)
  rw [lg_entry_eq]
  generalize (lg_sl ([.ref o]) ++ List.replicate (2 - (lg_sl ([.ref o])).length) Slot.unset).toArray = ls at hl ⊢
  have hl : lv_has ls 2 [(0, .ref o)] := hl
  suffices key : ∀ (H : Heap) (locs : List Loc), va_P D vwCl (xw o a1 a2 a3 k1 k2 k3 row dv sl nb wd po tp fi la bi bo) H → va_S A s.heap H locs → W p l e (headSpec wsX0_fillSlices { frames := 2, cells := 0, slots := 0, locals := 51 }).room s m ([.ref o] : List Value).toArray below meth c H locs 0 0 (MQ below (va_Qv (fun (_ : Unit) => True) (fun _ t9 => va_P D vwCl (xw o a1 a2 a3 k1 k2 k3 row dv (mFill tp sl) nb wd po tp fi la bi bo) t9.heap) A) ([.ref o] : List Value).toArray s 0 0 A) (F0 m 0 ls []) from key s.heap [] hP hS
  intro H locs hP hS
  refine lv_iconst (v := 0) hx hb dX0_fillSlices_0 (by decide) ?_
  refine lv_istore_n (lv' := [(1, .int 0), (0, .ref o)]) hx hb dX0_fillSlices_1 rfl hl (by decide) rfl (fun ls hl => ?_)
  have lp_2 : ∀ (k i : Nat), i ≤ 256 → 256 < i + k → ∀ (H : Heap) (locs : List Loc), va_P D vwCl (xw o a1 a2 a3 k1 k2 k3 row dv (mFl1 tp sl i) nb wd po tp fi la bi bo) H → va_S A s.heap H locs → ∀ ls : Array Slot, lv_has ls 2 [(1, .int (nI i)), (0, .ref o)] → W p l e (headSpec wsX0_fillSlices { frames := 2, cells := 0, slots := 0, locals := 51 }).room s m ([.ref o] : List Value).toArray below meth c H locs 0 0 (MQ below (va_Qv (fun (_ : Unit) => True) (fun _ t9 => va_P D vwCl (xw o a1 a2 a3 k1 k2 k3 row dv (mFill tp sl) nb wd po tp fi la bi bo) t9.heap) A) ([.ref o] : List Value).toArray s 0 0 A) (F0 m 2 ls []) := by
    intro k
    induction k with
    | zero =>
      intro i h1 h2
      exact absurd h2 (by omega)
    | succ k ih =>
      intro i hi hk H locs hP hS ls hl
      have hD : va_D A (xw o a1 a2 a3 k1 k2 k3 row dv (mFl1 tp sl i) nb wd po tp fi la bi bo) := du_same hD0 rfl
      refine lv_iload_n hx hb dX0_fillSlices_2 rfl (lv_at hl 0 rfl) ?_
      refine lv_sipush (v := 256) hx hb dX0_fillSlices_3 (by decide) ?_
      refine lv_icmp_ge (tgt := 27) hx hb dX0_fillSlices_6 (by decide) (fun c_6 => ?_) (fun c_6 => ?_)
      ·
        have hiN := du_ge (N := 256) (by omega) hi c_6
        refine lv_sipush (v := 256) hx hb dX0_fillSlices_27 (by decide) ?_
        refine lv_istore_n (lv' := [(1, .int 256), (0, .ref o)]) hx hb dX0_fillSlices_30 rfl hl (by decide) rfl (fun ls hl => ?_)
        have lp_31 : ∀ (k i : Nat), i ≤ 1792 → 1792 < i + k → ∀ (H : Heap) (locs : List Loc), va_P D vwCl (xw o a1 a2 a3 k1 k2 k3 row dv (mFl2 tp sl i) nb wd po tp fi la bi bo) H → va_S A s.heap H locs → ∀ ls : Array Slot, lv_has ls 2 [(1, .int (nI (256 + i))), (0, .ref o)] → W p l e (headSpec wsX0_fillSlices { frames := 2, cells := 0, slots := 0, locals := 51 }).room s m ([.ref o] : List Value).toArray below meth c H locs 0 0 (MQ below (va_Qv (fun (_ : Unit) => True) (fun _ t9 => va_P D vwCl (xw o a1 a2 a3 k1 k2 k3 row dv (mFill tp sl) nb wd po tp fi la bi bo) t9.heap) A) ([.ref o] : List Value).toArray s 0 0 A) (F0 m 31 ls []) := by
          intro k
          induction k with
          | zero =>
            intro i h1 h2
            exact absurd h2 (by omega)
          | succ k ih =>
            intro i hi hk H locs hP hS ls hl
            have hD : va_D A (xw o a1 a2 a3 k1 k2 k3 row dv (mFl2 tp sl i) nb wd po tp fi la bi bo) := du_same hD0 rfl
            refine lv_iload_n hx hb dX0_fillSlices_31 rfl (lv_at hl 0 rfl) ?_
            refine lv_aload_n hx hb dX0_fillSlices_32 rfl (lv_at hl 1 rfl) ?_
            refine va_get (D := D) (ci := 0) (v := .ref a3) (C := RX0) (T := TX0) (N := 11) hx hb hts in_c_fillSlices hown hK hP 0 rfl rfl 2 (by decide) (hts (.fieldLink RX0 16 "SliceChecks" "slices" "[J") (by decide +kernel)) (fun _ h9 => h9) rfl dX0_fillSlices_33 ?_
            refine va_alen hx hb hK hP 3 2 rfl rfl (v := 2048) rfl dX0_fillSlices_36 ?_
            refine lv_icmp_ge (tgt := 67) hx hb dX0_fillSlices_37 (by decide) (fun c_37 => ?_) (fun c_37 => ?_)
            ·
              have hiN : i = 1792 := du_fs1 hi c_37
              have hPf : va_P D vwCl (xw o a1 a2 a3 k1 k2 k3 row dv (mFill tp sl) nb wd po tp fi la bi bo) H := by subst hiN; exact hP
              exact W.vret hx hb hr (fun t ht hW => ⟨⟨(), rfl, trivial, by show va_P _ _ _ t.heap; rw [ht]; exact hPf⟩, hS.F ht⟩) hS.2.2 dX0_fillSlices_67
            ·
              have hlt : i < 1792 := du_fs2 hi c_37
              refine lv_aload_n hx hb dX0_fillSlices_40 rfl (lv_at hl 1 rfl) ?_
              refine va_get (D := D) (ci := 0) (v := .ref a3) (C := RX0) (T := TX0) (N := 11) hx hb hts in_c_fillSlices hown hK hP 0 rfl rfl 2 (by decide) (hts (.fieldLink RX0 16 "SliceChecks" "slices" "[J") (by decide +kernel)) (fun _ h9 => h9) rfl dX0_fillSlices_41 ?_
              refine lv_iload_n hx hb dX0_fillSlices_44 rfl (lv_at hl 0 rfl) ?_
              refine lv_aload_n hx hb dX0_fillSlices_45 rfl (lv_at hl 1 rfl) ?_
              refine lv_aload_n hx hb dX0_fillSlices_46 rfl (lv_at hl 1 rfl) ?_
              refine va_get (D := D) (ci := 0) (v := .ref a3) (C := RX0) (T := TX0) (N := 11) hx hb hts in_c_fillSlices hown hK hP 0 rfl rfl 2 (by decide) (hts (.fieldLink RX0 16 "SliceChecks" "slices" "[J") (by decide +kernel)) (fun _ h9 => h9) rfl dX0_fillSlices_47 ?_
              refine lv_iload_n hx hb dX0_fillSlices_50 rfl (lv_at hl 0 rfl) ?_
              refine lv_sipush (v := 256) hx hb dX0_fillSlices_51 (by decide) ?_
              refine lv_isub hx hb dX0_fillSlices_54 ?_
              refine va_lald hx hb hK hP 3 2 rfl rfl (i := (nI (256 + i)) - 256) (by rw [du_fs3]; exact vp_in_nI (by omega) (by omega)) dX0_fillSlices_55 ?_
              refine lv_iconst (v := 0) hx hb dX0_fillSlices_56 (by decide) ?_
              refine ro_l (va_runV (As := [.long ((mFl2 tp sl i) ((nI (256 + i)) - 256).toNatClampNeg), .int 0]) (rest := [.int (nI (256 + i)), .ref a3]) ⟨hx, hb, hml, hown, hts⟩ (c_behindByteByTable (sz := H.size) ((mFl2 tp sl i) ((nI (256 + i)) - 256).toNatClampNeg) 0 (du_tix0 _)) (cwV 2 hts gX0_fillSlices_X0_behindByteByTable rfl rfl rfl (by decide +kernel) ⟨Nat.le_of_ble_eq_true rfl, Nat.le_of_ble_eq_true rfl⟩) (preV_RO hP hK 0 (ci := 0) rfl rfl) rfl rfl hl.1 rfl (lv_room (Nat.le_of_ble_eq_true rfl)) dX0_fillSlices_57 ⟨Nat.le_of_ble_eq_true rfl, Nat.le_of_ble_eq_true rfl⟩) hS hA hP (fun H locs hP hS => ?_)
              refine va_last hx hb hK hP hD hS 3 2 rfl rfl (i := nI (256 + i)) (x := mTab (mFl2 tp sl i) ((mFl2 tp sl i) ((nI (256 + i)) - 256).toNatClampNeg) 0) (vp_in_nI (by omega) (by omega)) dX0_fillSlices_60 (fun H locs hP hD hS => ?_)
              have hP : va_P D vwCl (xw o a1 a2 a3 k1 k2 k3 row dv (mFl2 tp sl (i + 1)) nb wd po tp fi la bi bo) H := hP
              have hD : va_D A (xw o a1 a2 a3 k1 k2 k3 row dv (mFl2 tp sl (i + 1)) nb wd po tp fi la bi bo) := hD
              refine lv_iinc (v := nI (256 + (i + 1))) (lv' := [(1, .int (nI (256 + (i + 1)))), (0, .ref o)]) hx hb dX0_fillSlices_61 hl (k := 0) rfl (nI_1 _) (by decide) rfl (fun ls hl => ?_)
              refine lv_goto (tgt := 31) hx hb dX0_fillSlices_64 (by decide) ?_
              exact ih (i + 1) (by omega) (by omega) H locs (hP) hS ls (lv_sub hl [0, 1] rfl)
        exact lp_31 (1792 + 1 - 0) 0 (by omega) (by omega) H locs (by subst hiN; exact hP) hS ls (lv_sub hl [0, 1] rfl)
      ·
        have hlt := du_lt (N := 256) (by omega) hi c_6
        refine lv_aload_n hx hb dX0_fillSlices_9 rfl (lv_at hl 1 rfl) ?_
        refine va_get (D := D) (ci := 0) (v := .ref a3) (C := RX0) (T := TX0) (N := 11) hx hb hts in_c_fillSlices hown hK hP 0 rfl rfl 2 (by decide) (hts (.fieldLink RX0 16 "SliceChecks" "slices" "[J") (by decide +kernel)) (fun _ h9 => h9) rfl dX0_fillSlices_10 ?_
        refine lv_iload_n hx hb dX0_fillSlices_13 rfl (lv_at hl 0 rfl) ?_
        refine lv_aload_n hx hb dX0_fillSlices_14 rfl (lv_at hl 1 rfl) ?_
        refine lv_lconst (v := 0) hx hb dX0_fillSlices_15 (by decide) ?_
        refine lv_iload_n hx hb dX0_fillSlices_16 rfl (lv_at hl 0 rfl) ?_
        refine ro_l (va_runV (As := [.long 0, .int (nI i)]) (rest := [.int (nI i), .ref a3]) ⟨hx, hb, hml, hown, hts⟩ (c_behindByte (sz := H.size) 0 (nI i)) (cwV 2 hts gX0_fillSlices_X0_behindByte rfl rfl rfl (by decide +kernel) ⟨Nat.le_of_ble_eq_true rfl, Nat.le_of_ble_eq_true rfl⟩) (preV_RO hP hK 0 (ci := 0) rfl rfl) rfl rfl hl.1 rfl (lv_room (Nat.le_of_ble_eq_true rfl)) dX0_fillSlices_17 ⟨Nat.le_of_ble_eq_true rfl, Nat.le_of_ble_eq_true rfl⟩) hS hA hP (fun H locs hP hS => ?_)
        refine va_last hx hb hK hP hD hS 3 2 rfl rfl (i := nI i) (x := mByte tp 0 (nI i)) (vp_in_nI (by omega) (by omega)) dX0_fillSlices_20 (fun H locs hP hD hS => ?_)
        have hP : va_P D vwCl (xw o a1 a2 a3 k1 k2 k3 row dv (mFl1 tp sl (i + 1)) nb wd po tp fi la bi bo) H := hP
        have hD : va_D A (xw o a1 a2 a3 k1 k2 k3 row dv (mFl1 tp sl (i + 1)) nb wd po tp fi la bi bo) := hD
        refine lv_iinc (v := nI (i + 1)) (lv' := [(1, .int (nI (i + 1))), (0, .ref o)]) hx hb dX0_fillSlices_21 hl (k := 0) rfl (nI_1 i) (by decide) rfl (fun ls hl => ?_)
        refine lv_goto (tgt := 2) hx hb dX0_fillSlices_24 (by decide) ?_
        exact ih (i + 1) (by omega) (by omega) H locs (hP) hS ls (lv_sub hl [0, 1] rfl)
  exact lp_2 (256 + 1 - 0) 0 (by omega) (by omega) H locs (hP) hS ls (lv_sub hl [0, 1] rfl)
theorem in_c_turnBytesOfRow : ∀ w ∈ wsX00, w ∈ wsX0_turnBytesOfRow := fun _ h => List.mem_cons_of_mem _ (List.mem_append_right _ h)
set_option maxHeartbeats 4000000 in
set_option maxRecDepth 100000 in
theorem c_turnBytesOfRow {l : Launch} {D : va_G} {o a1 a2 a3 : Nat} {k1 k2 k3 : ClassId} {row : Nat → Int64} {dv : Nat → Int64} {sl : Nat → Int64} {nb : Nat} {wd : Nat} {po : Int64} {tp : Int64} {fi : Int64} {la : Int64} {bi : Int32} {bo : Int32} {sz : Nat}  (hn : nb ≤ 5000) : Met l yX0_turnBytesOfRow wsX0_turnBytesOfRow ({ frames := 1, cells := 0, slots := 0, locals := 25 }) (va_Pc [.ref o] (pMU D vwCl (xt k1 k2 k3) (xw o a1 a2 a3 k1 k2 k3 row dv sl nb wd po tp fi la bi bo) sz)) (muV D vwCl (xw o a1 a2 a3 k1 k2 k3 row dv sl nb wd po tp fi la bi bo) (xw o a1 a2 a3 k1 k2 k3 (mTrN row ((nb + 7) / 8)) dv sl nb wd po tp fi la bi bo) sz) 0 0 (va_A (xw o a1 a2 a3 k1 k2 k3 row dv sl nb wd po tp fi la bi bo) sz) := by
  refine Met.ofW (cc := cX0_turnBytesOfRow) (maxL := 3) (ret := none) (by decide) rfl ?_
  intro p e s m args below meth c s₁ B hml hv
  obtain ⟨rfl, hsz, hP, hK, hD0⟩ := hv
  have hsz : s.heap.size = sz := hsz
  have hx := B.exec
  have hb := B.bytes
  have hr := B.returns
  have hts := atoms_spec (ws := wsX0_turnBytesOfRow) B.pre
  have hown : s.vm.findClass RX0 = some m.cls := findClass_of_methodNamed B.named
  have hlocks := B.notSynchronized
  subst hsz
  have hD0 := hD0.self (sz := s.heap.size)
  have hA : ∀ q9 : Nat, s.heap.size ≤ q9 → va_A (xw o a1 a2 a3 k1 k2 k3 row dv sl nb wd po tp fi la bi bo) s.heap.size q9 := fun q9 h => Or.inr h
  unfold muV
  generalize va_A (xw o a1 a2 a3 k1 k2 k3 row dv sl nb wd po tp fi la bi bo) s.heap.size = A at hD0 hA ⊢
  have hD := hD0
  have hS : va_S A s.heap s.heap [] := va_S.rf
  have hl := lv_entry ([.ref o]) (n := 3) (Nat.le_of_ble_eq_true rfl)
  rw [lg_entry_eq]
  generalize (lg_sl ([.ref o]) ++ List.replicate (3 - (lg_sl ([.ref o])).length) Slot.unset).toArray = ls at hl ⊢
  have hl : lv_has ls 3 [(0, .ref o)] := hl
  suffices key : ∀ (H : Heap) (locs : List Loc), va_P D vwCl (xw o a1 a2 a3 k1 k2 k3 row dv sl nb wd po tp fi la bi bo) H → va_S A s.heap H locs → W p l e (headSpec wsX0_turnBytesOfRow { frames := 1, cells := 0, slots := 0, locals := 25 }).room s m ([.ref o] : List Value).toArray below meth c H locs 0 0 (MQ below (va_Qv (fun (_ : Unit) => True) (fun _ t9 => va_P D vwCl (xw o a1 a2 a3 k1 k2 k3 (mTrN row ((nb + 7) / 8)) dv sl nb wd po tp fi la bi bo) t9.heap) A) ([.ref o] : List Value).toArray s 0 0 A) (F0 m 0 ls []) from key s.heap [] hP hS
  intro H locs hP hS
  refine lv_aload_n hx hb dX0_turnBytesOfRow_0 rfl (lv_at hl 0 rfl) ?_
  refine va_get (D := D) (ci := 0) (v := .int (nI nb)) (C := RX0) (T := TX0) (N := 11) hx hb hts in_c_turnBytesOfRow hown hK hP 0 rfl rfl 3 (by decide) (hts (.fieldLink RX0 68 "SliceChecks" "bytes" "I") (by decide +kernel)) (fun _ h9 => h9) rfl dX0_turnBytesOfRow_1 ?_
  refine lv_bipush (v := 8) hx hb dX0_turnBytesOfRow_4 (by decide) ?_
  refine lv_iadd hx hb dX0_turnBytesOfRow_6 ?_
  refine lv_iconst (v := 1) hx hb dX0_turnBytesOfRow_7 (by decide) ?_
  refine lv_isub hx hb dX0_turnBytesOfRow_8 ?_
  refine lv_bipush (v := 8) hx hb dX0_turnBytesOfRow_9 (by decide) ?_
  refine lv_idiv hx hb dX0_turnBytesOfRow_11 (by decide) ?_
  refine du_rwi (y := nI ((nb + 7) / 8)) (by rw [show nI nb + 8 - 1 = nI (nb + 7) from du_a7 nb]; exact du_div8 (by omega)) ?_
  refine lv_istore_n (lv' := [(1, .int (nI ((nb + 7) / 8))), (0, .ref o)]) hx hb dX0_turnBytesOfRow_12 rfl hl (by decide) rfl (fun ls hl => ?_)
  refine lv_iconst (v := 0) hx hb dX0_turnBytesOfRow_13 (by decide) ?_
  refine lv_istore_n (lv' := [(2, .int 0), (1, .int (nI ((nb + 7) / 8))), (0, .ref o)]) hx hb dX0_turnBytesOfRow_14 rfl hl (by decide) rfl (fun ls hl => ?_)
  have lp_15 : ∀ (k i : Nat), i ≤ (nb + 7) / 8 → (nb + 7) / 8 < i + k → ∀ (H : Heap) (locs : List Loc), va_P D vwCl (xw o a1 a2 a3 k1 k2 k3 (mTrN row i) dv sl nb wd po tp fi la bi bo) H → va_S A s.heap H locs → ∀ ls : Array Slot, lv_has ls 3 [(2, .int (nI i)), (1, .int (nI ((nb + 7) / 8))), (0, .ref o)] → W p l e (headSpec wsX0_turnBytesOfRow { frames := 1, cells := 0, slots := 0, locals := 25 }).room s m ([.ref o] : List Value).toArray below meth c H locs 0 0 (MQ below (va_Qv (fun (_ : Unit) => True) (fun _ t9 => va_P D vwCl (xw o a1 a2 a3 k1 k2 k3 (mTrN row ((nb + 7) / 8)) dv sl nb wd po tp fi la bi bo) t9.heap) A) ([.ref o] : List Value).toArray s 0 0 A) (F0 m 15 ls []) := by
    intro k
    induction k with
    | zero =>
      intro i h1 h2
      exact absurd h2 (by omega)
    | succ k ih =>
      intro i hi hk H locs hP hS ls hl
      have hD : va_D A (xw o a1 a2 a3 k1 k2 k3 (mTrN row i) dv sl nb wd po tp fi la bi bo) := du_same hD0 rfl
      refine lv_iload_n hx hb dX0_turnBytesOfRow_15 rfl (lv_at hl 0 rfl) ?_
      refine lv_iload_n hx hb dX0_turnBytesOfRow_16 rfl (lv_at hl 1 rfl) ?_
      refine lv_icmp_ge (tgt := 41) hx hb dX0_turnBytesOfRow_17 (by decide) (fun c_17 => ?_) (fun c_17 => ?_)
      ·
        have hiN := du_ge (by omega) hi c_17
        have hPf : va_P D vwCl (xw o a1 a2 a3 k1 k2 k3 (mTrN row ((nb + 7) / 8)) dv sl nb wd po tp fi la bi bo) H := by subst hiN; exact hP
        exact W.vret hx hb hr (fun t ht hW => ⟨⟨(), rfl, trivial, by show va_P _ _ _ t.heap; rw [ht]; exact hPf⟩, hS.F ht⟩) hS.2.2 dX0_turnBytesOfRow_41
      ·
        have hlt := du_lt (by omega) hi c_17
        refine lv_aload_n hx hb dX0_turnBytesOfRow_20 rfl (lv_at hl 2 rfl) ?_
        refine va_get (D := D) (ci := 0) (v := .ref a1) (C := RX0) (T := TX0) (N := 11) hx hb hts in_c_turnBytesOfRow hown hK hP 0 rfl rfl 0 (by decide) (hts (.fieldLink RX0 9 "SliceChecks" "row" "[J") (by decide +kernel)) (fun _ h9 => h9) rfl dX0_turnBytesOfRow_21 ?_
        refine lv_iload_n hx hb dX0_turnBytesOfRow_24 rfl (lv_at hl 0 rfl) ?_
        refine lv_aload_n hx hb dX0_turnBytesOfRow_25 rfl (lv_at hl 2 rfl) ?_
        refine va_get (D := D) (ci := 0) (v := .ref a1) (C := RX0) (T := TX0) (N := 11) hx hb hts in_c_turnBytesOfRow hown hK hP 0 rfl rfl 0 (by decide) (hts (.fieldLink RX0 9 "SliceChecks" "row" "[J") (by decide +kernel)) (fun _ h9 => h9) rfl dX0_turnBytesOfRow_26 ?_
        refine lv_iload_n hx hb dX0_turnBytesOfRow_29 rfl (lv_at hl 0 rfl) ?_
        refine va_lald hx hb hK hP 1 0 rfl rfl (i := nI i) (vp_in_nI (by omega) (by omega)) dX0_turnBytesOfRow_30 ?_
        refine ro_l (va_runS (As := [.long ((mTrN row i) (nI i).toNatClampNeg)]) (rest := [.int (nI i), .ref a1]) ⟨hx, hb, hml, hown, hts⟩ (c_bytesTurned (sz := H.size) ((mTrN row i) (nI i).toNatClampNeg)) (va_cwS 1 hts gX0_turnBytesOfRow_X0_bytesTurned rfl rfl rfl (by decide +kernel) ⟨Nat.le_of_ble_eq_true rfl, Nat.le_of_ble_eq_true rfl⟩) preS_ST rfl rfl hl.1 rfl (lv_room (Nat.le_of_ble_eq_true rfl)) dX0_turnBytesOfRow_31 ⟨Nat.le_of_ble_eq_true rfl, Nat.le_of_ble_eq_true rfl⟩) hS hA hP (fun H locs hP hS => ?_)
        refine va_last hx hb hK hP hD hS 1 0 rfl rfl (i := nI i) (x := mBT ((mTrN row i) (nI i).toNatClampNeg)) (vp_in_nI (by omega) (by omega)) dX0_turnBytesOfRow_34 (fun H locs hP hD hS => ?_)
        have hP : va_P D vwCl (xw o a1 a2 a3 k1 k2 k3 (mTrN row (i + 1)) dv sl nb wd po tp fi la bi bo) H := hP
        have hD : va_D A (xw o a1 a2 a3 k1 k2 k3 (mTrN row (i + 1)) dv sl nb wd po tp fi la bi bo) := hD
        refine lv_iinc (v := nI (i + 1)) (lv' := [(2, .int (nI (i + 1))), (1, .int (nI ((nb + 7) / 8))), (0, .ref o)]) hx hb dX0_turnBytesOfRow_35 hl (k := 0) rfl (nI_1 i) (by decide) rfl (fun ls hl => ?_)
        refine lv_goto (tgt := 15) hx hb dX0_turnBytesOfRow_38 (by decide) ?_
        exact ih (i + 1) (by omega) (by omega) H locs (hP) hS ls (lv_sub hl [0, 1, 2] rfl)
  exact lp_15 (((nb + 7) / 8) + 1 - 0) 0 (by omega) (by omega) H locs (hP) hS ls (lv_sub hl [0, 1, 2] rfl)
