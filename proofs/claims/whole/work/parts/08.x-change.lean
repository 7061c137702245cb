/-! Contracts, laid by wip/whole/gen.py. -/
theorem in_c_kind_no : ∀ w ∈ wsX00, w ∈ wsX0_kind := fun _ h => List.mem_cons_of_mem _ (List.mem_append_right _ h)
set_option maxHeartbeats 4000000 in
set_option maxRecDepth 100000 in
theorem c_kind_no {l : Launch} {D : va_G} {o a1 a2 a3 : Nat} {k1 k2 k3 : ClassId} {row : Nat → Int64} {dv : Nat → Int64} {sl : Nat → Int64} {nb : Nat} {wd : Nat} {po : Int64} {tp : Int64} {fi : Int64} {la : Int64} {bi : Int32} {bo : Int32} {sz : Nat} (y : Int32) (p0 : Int64) (f0 : Int64) (i0 : Int32) (o0 : Int32) (l0 : Int64) (hno : y < 1 ∨ 64 < y) : Met l yX0_kind wsX0_kind ({ frames := 0, cells := 0, slots := 0, locals := 0 }) (va_Pc [.ref o, .int y, .long p0, .long f0, .int i0, .int o0, .long l0] (pRO D vwCl (xt k1 k2 k3) (xw o a1 a2 a3 k1 k2 k3 row dv sl nb wd po tp fi la bi bo) sz)) (roI sz 0) 0 0 (fun q : Nat => sz ≤ q) := by
  refine Met.ofW (cc := cX0_kind) (maxL := 10) (ret := (some .boolean)) (by decide) rfl ?_
  intro p e s m args below meth c s₁ B hml hv
  obtain ⟨rfl, hsz, hP, hK⟩ := hv
  have hsz : s.heap.size = sz := hsz
  have hx := B.exec
  have hb := B.bytes
  have hr := B.returns
  have hts := atoms_spec (ws := wsX0_kind) B.pre
  have hown : s.vm.findClass RX0 = some m.cls := findClass_of_methodNamed B.named
  have hlocks := B.notSynchronized
  subst hsz
  have hA : ∀ q : Nat, s.heap.size ≤ q → (fun q : Nat => s.heap.size ≤ q) q := fun _ h => h
  have hS : va_S (fun q : Nat => s.heap.size ≤ q) s.heap s.heap [] := va_S.rf
  have hl := lv_entry ([.ref o, .int y, .long p0, .long f0, .int i0, .int o0, .long l0]) (n := 10) (Nat.le_of_ble_eq_true rfl)
  rw [lg_entry_eq]
  generalize (lg_sl ([.ref o, .int y, .long p0, .long f0, .int i0, .int o0, .long l0]) ++ List.replicate (10 - (lg_sl ([.ref o, .int y, .long p0, .long f0, .int i0, .int o0, .long l0])).length) Slot.unset).toArray = ls at hl ⊢
  have hl : lv_has ls 10 [(0, .ref o), (1, .int y), (2, .long p0), (4, .long f0), (6, .int i0), (7, .int o0), (8, .long l0)] := hl
  suffices key : ∀ (H : Heap) (locs : List Loc), va_P D vwCl (xw o a1 a2 a3 k1 k2 k3 row dv sl nb wd po tp fi la bi bo) H → va_S (fun q : Nat => s.heap.size ≤ q) s.heap H locs → W p l e (headSpec wsX0_kind { frames := 0, cells := 0, slots := 0, locals := 0 }).room s m ([.ref o, .int y, .long p0, .long f0, .int i0, .int o0, .long l0] : List Value).toArray below meth c H locs 0 0 (MQ below (roI s.heap.size 0) ([.ref o, .int y, .long p0, .long f0, .int i0, .int o0, .long l0] : List Value).toArray s 0 0 (fun q : Nat => s.heap.size ≤ q)) (F0 m 0 ls []) from key s.heap [] hP hS
  intro H locs hP hS
  refine lv_iload_n hx hb dX0_kind_0 rfl (lv_at hl 1 rfl) ?_
  refine lv_iconst (v := 1) hx hb dX0_kind_1 (by decide) ?_
  refine lv_icmp_lt (tgt := 11) hx hb dX0_kind_2 (by decide) (fun c_2 => ?_) (fun c_2 => ?_)
  ·
    refine lv_iconst (v := 0) hx hb dX0_kind_11 (by decide) ?_
    exact W.zret (v := 0) hx hb hr (by decide) (fun t ht hW => ⟨⟨0, (), rfl, rfl, trivial⟩, hS.F ht⟩) hS.2.2 dX0_kind_12
  ·
    refine lv_iload_n hx hb dX0_kind_5 rfl (lv_at hl 1 rfl) ?_
    refine lv_bipush (v := 64) hx hb dX0_kind_6 (by decide) ?_
    refine lv_icmp_le (tgt := 13) hx hb dX0_kind_8 (by decide) (fun c_8 => ?_) (fun c_8 => ?_)
    ·
      exact hno.elim (fun h => absurd h c_2) (fun h => absurd h (Int32.not_lt.mpr c_8))
    ·
      refine lv_iconst (v := 0) hx hb dX0_kind_11 (by decide) ?_
      exact W.zret (v := 0) hx hb hr (by decide) (fun t ht hW => ⟨⟨0, (), rfl, rfl, trivial⟩, hS.F ht⟩) hS.2.2 dX0_kind_12
theorem in_c_kind : ∀ w ∈ wsX00, w ∈ wsX0_kind := fun _ h => List.mem_cons_of_mem _ (List.mem_append_right _ h)
set_option maxHeartbeats 4000000 in
set_option maxRecDepth 100000 in
theorem c_kind {l : Launch} {D : va_G} {o a1 a2 a3 : Nat} {k1 k2 k3 : ClassId} {row : Nat → Int64} {dv : Nat → Int64} {sl : Nat → Int64} {nb : Nat} {wd : Nat} {po : Int64} {tp : Int64} {fi : Int64} {la : Int64} {bi : Int32} {bo : Int32} {sz : Nat} (v : Nat) (p0 : Int64) (f0 : Int64) (i0 : Int32) (o0 : Int32) (l0 : Int64) (hv1 : 1 ≤ v) (hv : v ≤ 64) (hn : nb ≤ 5000) (hi0 : i0 = 0 ∨ i0 = 1) (ho0 : o0 = 0 ∨ o0 = 1) : Met l yX0_kind wsX0_kind ({ frames := 3, cells := 0, slots := 0, locals := 72 }) (va_Pc [.ref o, .int (nI v), .long p0, .long f0, .int i0, .int o0, .long l0] (pMU D vwCl (xt k1 k2 k3) (xw o a1 a2 a3 k1 k2 k3 row dv sl nb wd po tp fi la bi bo) sz)) (muI D vwCl (xw o a1 a2 a3 k1 k2 k3 row dv sl nb wd po tp fi la bi bo) (xw o a1 a2 a3 k1 k2 k3 (if bi = i0 then row else mTrN row ((nb + 7) / 8)) dv (mFill (mTop (nI v) p0) sl) nb v (mLow (nI v) p0) (mTop (nI v) p0) (mLow (nI v) f0) (mLow (nI v) l0) i0 o0) sz 1) 0 0 (va_A (xw o a1 a2 a3 k1 k2 k3 row dv sl nb wd po tp fi la bi bo) sz) := by
  refine Met.ofW (cc := cX0_kind) (maxL := 10) (ret := (some .boolean)) (by decide) rfl ?_
  intro p e s m args below meth c s₁ B hml hv
  obtain ⟨rfl, hsz, hP, hK, hD0⟩ := hv
  have hsz : s.heap.size = sz := hsz
  have hx := B.exec
  have hb := B.bytes
  have hr := B.returns
  have hts := atoms_spec (ws := wsX0_kind) B.pre
  have hown : s.vm.findClass RX0 = some m.cls := findClass_of_methodNamed B.named
  have hlocks := B.notSynchronized
  subst hsz
  have hD0 := hD0.self (sz := s.heap.size)
  have hA : ∀ q9 : Nat, s.heap.size ≤ q9 → va_A (xw o a1 a2 a3 k1 k2 k3 row dv sl nb wd po tp fi la bi bo) s.heap.size q9 := fun q9 h => Or.inr h
  unfold muI
  generalize va_A (xw o a1 a2 a3 k1 k2 k3 row dv sl nb wd po tp fi la bi bo) s.heap.size = A at hD0 hA ⊢
  have hD := hD0
  have hS : va_S A s.heap s.heap [] := va_S.rf
  have hl := lv_entry ([.ref o, .int (nI v), .long p0, .long f0, .int i0, .int o0, .long l0]) (n := 10) (Nat.le_of_ble_eq_true rfl)
  rw [lg_entry_eq]
  generalize (lg_sl ([.ref o, .int (nI v), .long p0, .long f0, .int i0, .int o0, .long l0]) ++ List.replicate (10 - (lg_sl ([.ref o, .int (nI v), .long p0, .long f0, .int i0, .int o0, .long l0])).length) Slot.unset).toArray = ls at hl ⊢
  have hl : lv_has ls 10 [(0, .ref o), (1, .int (nI v)), (2, .long p0), (4, .long f0), (6, .int i0), (7, .int o0), (8, .long l0)] := hl
  suffices key : ∀ (H : Heap) (locs : List Loc), va_P D vwCl (xw o a1 a2 a3 k1 k2 k3 row dv sl nb wd po tp fi la bi bo) H → va_S A s.heap H locs → W p l e (headSpec wsX0_kind { frames := 3, cells := 0, slots := 0, locals := 72 }).room s m ([.ref o, .int (nI v), .long p0, .long f0, .int i0, .int o0, .long l0] : List Value).toArray below meth c H locs 0 0 (MQ below (va_Qi (fun r (_ : Unit) => r = 1) (fun _ t9 => va_P D vwCl (xw o a1 a2 a3 k1 k2 k3 (if bi = i0 then row else mTrN row ((nb + 7) / 8)) dv (mFill (mTop (nI v) p0) sl) nb v (mLow (nI v) p0) (mTop (nI v) p0) (mLow (nI v) f0) (mLow (nI v) l0) i0 o0) t9.heap) A) ([.ref o, .int (nI v), .long p0, .long f0, .int i0, .int o0, .long l0] : List Value).toArray s 0 0 A) (F0 m 0 ls []) from key s.heap [] hP hS
  intro H locs hP hS
  refine lv_iload_n hx hb dX0_kind_0 rfl (lv_at hl 1 rfl) ?_
  refine lv_iconst (v := 1) hx hb dX0_kind_1 (by decide) ?_
  refine lv_icmp_lt (tgt := 11) hx hb dX0_kind_2 (by decide) (fun c_2 => ?_) (fun c_2 => ?_)
  ·
    exact absurd c_2 (du_n1 hv1 (by omega))
  ·
    refine lv_iload_n hx hb dX0_kind_5 rfl (lv_at hl 1 rfl) ?_
    refine lv_bipush (v := 64) hx hb dX0_kind_6 (by decide) ?_
    refine lv_icmp_le (tgt := 13) hx hb dX0_kind_8 (by decide) (fun c_8 => ?_) (fun c_8 => ?_)
    ·
      refine lv_aload_n hx hb dX0_kind_13 rfl (lv_at hl 0 rfl) ?_
      refine va_get (D := D) (ci := 0) (v := .int bi) (C := RX0) (T := TX0) (N := 11) hx hb hts in_c_kind hown hK hP 0 rfl rfl 9 (by decide) (hts (.fieldLink RX0 27 "SliceChecks" "in" "Z") (by decide +kernel)) (fun _ h9 => h9) rfl dX0_kind_14 ?_
      refine lv_iload hx hb dX0_kind_17 (lv_at hl 4 rfl) ?_
      refine lv_icmp_eq (tgt := 26) hx hb dX0_kind_19 (by decide) (fun c_19 => ?_) (fun c_19 => ?_)
      ·
        refine lv_aload_n hx hb dX0_kind_26 rfl (lv_at hl 0 rfl) ?_
        refine lv_iload_n hx hb dX0_kind_27 rfl (lv_at hl 1 rfl) ?_
        refine va_put (D := D) (ci := 0) (v := .int (nI v)) (ty := .int) (C := RX0) (T := TX0) (N := 11) hx hb hts in_c_kind tyX0 tyX0_ok nmX0 hown hK hP hD hS 0 rfl rfl 4 (by decide) (hts (.fieldLink RX0 34 "SliceChecks" "width" "I") (by decide +kernel)) (fun _ h9 => h9) rfl (by decide +kernel) rfl rfl (Nat.le_of_ble_eq_true rfl) dX0_kind_28 (fun H locs hP hD hS => ?_)
        have hP : va_P D vwCl (xw o a1 a2 a3 k1 k2 k3 row dv sl nb v po tp fi la bi bo) H := hP
        have hD : va_D A (xw o a1 a2 a3 k1 k2 k3 row dv sl nb v po tp fi la bi bo) := hD
        refine lv_aload_n hx hb dX0_kind_31 rfl (lv_at hl 0 rfl) ?_
        refine lv_aload_n hx hb dX0_kind_32 rfl (lv_at hl 0 rfl) ?_
        refine lv_lload_n hx hb dX0_kind_33 rfl (lv_at hl 2 rfl) ?_
        refine ro_l (va_runV (As := [.long p0]) (rest := [.ref o]) ⟨hx, hb, hml, hown, hts⟩ (c_lowerBits (sz := H.size) p0) (cwV 1 hts gX0_kind_X0_lowerBits rfl rfl rfl (by decide +kernel) ⟨Nat.le_of_ble_eq_true rfl, Nat.le_of_ble_eq_true rfl⟩) (preV_RO hP hK 0 (ci := 0) rfl rfl) rfl rfl hl.1 rfl (lv_room (Nat.le_of_ble_eq_true rfl)) dX0_kind_34 ⟨Nat.le_of_ble_eq_true rfl, Nat.le_of_ble_eq_true rfl⟩) hS hA hP (fun H locs hP hS => ?_)
        refine va_put (D := D) (ci := 0) (v := .long (mLow (nI v) p0)) (ty := .long) (C := RX0) (T := TX0) (N := 11) hx hb hts in_c_kind tyX0 tyX0_ok nmX0 hown hK hP hD hS 0 rfl rfl 5 (by decide) (hts (.fieldLink RX0 42 "SliceChecks" "polynomial" "J") (by decide +kernel)) (fun _ h9 => h9) rfl (by decide +kernel) rfl rfl (Nat.le_of_ble_eq_true rfl) dX0_kind_37 (fun H locs hP hD hS => ?_)
        have hP : va_P D vwCl (xw o a1 a2 a3 k1 k2 k3 row dv sl nb v (mLow (nI v) p0) tp fi la bi bo) H := hP
        have hD : va_D A (xw o a1 a2 a3 k1 k2 k3 row dv sl nb v (mLow (nI v) p0) tp fi la bi bo) := hD
        refine lv_aload_n hx hb dX0_kind_40 rfl (lv_at hl 0 rfl) ?_
        refine lv_aload_n hx hb dX0_kind_41 rfl (lv_at hl 0 rfl) ?_
        refine lv_lload_n hx hb dX0_kind_42 rfl (lv_at hl 2 rfl) ?_
        refine ro_l (va_runV (As := [.long p0]) (rest := [.ref o]) ⟨hx, hb, hml, hown, hts⟩ (c_atTop (sz := H.size) p0) (cwV 1 hts gX0_kind_X0_atTop rfl rfl rfl (by decide +kernel) ⟨Nat.le_of_ble_eq_true rfl, Nat.le_of_ble_eq_true rfl⟩) (preV_RO hP hK 0 (ci := 0) rfl rfl) rfl rfl hl.1 rfl (lv_room (Nat.le_of_ble_eq_true rfl)) dX0_kind_43 ⟨Nat.le_of_ble_eq_true rfl, Nat.le_of_ble_eq_true rfl⟩) hS hA hP (fun H locs hP hS => ?_)
        refine va_put (D := D) (ci := 0) (v := .long (mTop (nI v) p0)) (ty := .long) (C := RX0) (T := TX0) (N := 11) hx hb hts in_c_kind tyX0 tyX0_ok nmX0 hown hK hP hD hS 0 rfl rfl 6 (by decide) (hts (.fieldLink RX0 49 "SliceChecks" "topPolynomial" "J") (by decide +kernel)) (fun _ h9 => h9) rfl (by decide +kernel) rfl rfl (Nat.le_of_ble_eq_true rfl) dX0_kind_46 (fun H locs hP hD hS => ?_)
        have hP : va_P D vwCl (xw o a1 a2 a3 k1 k2 k3 row dv sl nb v (mLow (nI v) p0) (mTop (nI v) p0) fi la bi bo) H := hP
        have hD : va_D A (xw o a1 a2 a3 k1 k2 k3 row dv sl nb v (mLow (nI v) p0) (mTop (nI v) p0) fi la bi bo) := hD
        refine lv_aload_n hx hb dX0_kind_49 rfl (lv_at hl 0 rfl) ?_
        refine lv_aload_n hx hb dX0_kind_50 rfl (lv_at hl 0 rfl) ?_
        refine lv_lload hx hb dX0_kind_51 (lv_at hl 3 rfl) ?_
        refine ro_l (va_runV (As := [.long f0]) (rest := [.ref o]) ⟨hx, hb, hml, hown, hts⟩ (c_lowerBits (sz := H.size) f0) (cwV 1 hts gX0_kind_X0_lowerBits rfl rfl rfl (by decide +kernel) ⟨Nat.le_of_ble_eq_true rfl, Nat.le_of_ble_eq_true rfl⟩) (preV_RO hP hK 0 (ci := 0) rfl rfl) rfl rfl hl.1 rfl (lv_room (Nat.le_of_ble_eq_true rfl)) dX0_kind_53 ⟨Nat.le_of_ble_eq_true rfl, Nat.le_of_ble_eq_true rfl⟩) hS hA hP (fun H locs hP hS => ?_)
        refine va_put (D := D) (ci := 0) (v := .long (mLow (nI v) f0)) (ty := .long) (C := RX0) (T := TX0) (N := 11) hx hb hts in_c_kind tyX0 tyX0_ok nmX0 hown hK hP hD hS 0 rfl rfl 7 (by decide) (hts (.fieldLink RX0 52 "SliceChecks" "first" "J") (by decide +kernel)) (fun _ h9 => h9) rfl (by decide +kernel) rfl rfl (Nat.le_of_ble_eq_true rfl) dX0_kind_56 (fun H locs hP hD hS => ?_)
        have hP : va_P D vwCl (xw o a1 a2 a3 k1 k2 k3 row dv sl nb v (mLow (nI v) p0) (mTop (nI v) p0) (mLow (nI v) f0) la bi bo) H := hP
        have hD : va_D A (xw o a1 a2 a3 k1 k2 k3 row dv sl nb v (mLow (nI v) p0) (mTop (nI v) p0) (mLow (nI v) f0) la bi bo) := hD
        refine lv_aload_n hx hb dX0_kind_59 rfl (lv_at hl 0 rfl) ?_
        refine lv_iload hx hb dX0_kind_60 (lv_at hl 4 rfl) ?_
        refine va_put (D := D) (ci := 0) (v := .int i0) (ty := .boolean) (C := RX0) (T := TX0) (N := 11) hx hb hts in_c_kind tyX0 tyX0_ok nmX0 hown hK hP hD hS 0 rfl rfl 9 (by decide) (hts (.fieldLink RX0 27 "SliceChecks" "in" "Z") (by decide +kernel)) (fun _ h9 => h9) rfl (by decide +kernel) (du_nz hi0) (du_fz hi0) (Nat.le_of_ble_eq_true rfl) dX0_kind_62 (fun H locs hP hD hS => ?_)
        have hP : va_P D vwCl (xw o a1 a2 a3 k1 k2 k3 row dv sl nb v (mLow (nI v) p0) (mTop (nI v) p0) (mLow (nI v) f0) la i0 bo) H := hP
        have hD : va_D A (xw o a1 a2 a3 k1 k2 k3 row dv sl nb v (mLow (nI v) p0) (mTop (nI v) p0) (mLow (nI v) f0) la i0 bo) := hD
        refine lv_aload_n hx hb dX0_kind_65 rfl (lv_at hl 0 rfl) ?_
        refine lv_iload hx hb dX0_kind_66 (lv_at hl 5 rfl) ?_
        refine va_put (D := D) (ci := 0) (v := .int o0) (ty := .boolean) (C := RX0) (T := TX0) (N := 11) hx hb hts in_c_kind tyX0 tyX0_ok nmX0 hown hK hP hD hS 0 rfl rfl 10 (by decide) (hts (.fieldLink RX0 55 "SliceChecks" "out" "Z") (by decide +kernel)) (fun _ h9 => h9) rfl (by decide +kernel) (du_nz ho0) (du_fz ho0) (Nat.le_of_ble_eq_true rfl) dX0_kind_68 (fun H locs hP hD hS => ?_)
        have hP : va_P D vwCl (xw o a1 a2 a3 k1 k2 k3 row dv sl nb v (mLow (nI v) p0) (mTop (nI v) p0) (mLow (nI v) f0) la i0 o0) H := hP
        have hD : va_D A (xw o a1 a2 a3 k1 k2 k3 row dv sl nb v (mLow (nI v) p0) (mTop (nI v) p0) (mLow (nI v) f0) la i0 o0) := hD
        refine lv_aload_n hx hb dX0_kind_71 rfl (lv_at hl 0 rfl) ?_
        refine lv_aload_n hx hb dX0_kind_72 rfl (lv_at hl 0 rfl) ?_
        refine lv_lload hx hb dX0_kind_73 (lv_at hl 6 rfl) ?_
        refine ro_l (va_runV (As := [.long l0]) (rest := [.ref o]) ⟨hx, hb, hml, hown, hts⟩ (c_lowerBits (sz := H.size) l0) (cwV 1 hts gX0_kind_X0_lowerBits rfl rfl rfl (by decide +kernel) ⟨Nat.le_of_ble_eq_true rfl, Nat.le_of_ble_eq_true rfl⟩) (preV_RO hP hK 0 (ci := 0) rfl rfl) rfl rfl hl.1 rfl (lv_room (Nat.le_of_ble_eq_true rfl)) dX0_kind_75 ⟨Nat.le_of_ble_eq_true rfl, Nat.le_of_ble_eq_true rfl⟩) hS hA hP (fun H locs hP hS => ?_)
        refine va_put (D := D) (ci := 0) (v := .long (mLow (nI v) l0)) (ty := .long) (C := RX0) (T := TX0) (N := 11) hx hb hts in_c_kind tyX0 tyX0_ok nmX0 hown hK hP hD hS 0 rfl rfl 8 (by decide) (hts (.fieldLink RX0 58 "SliceChecks" "last" "J") (by decide +kernel)) (fun _ h9 => h9) rfl (by decide +kernel) rfl rfl (Nat.le_of_ble_eq_true rfl) dX0_kind_78 (fun H locs hP hD hS => ?_)
        have hP : va_P D vwCl (xw o a1 a2 a3 k1 k2 k3 row dv sl nb v (mLow (nI v) p0) (mTop (nI v) p0) (mLow (nI v) f0) (mLow (nI v) l0) i0 o0) H := hP
        have hD : va_D A (xw o a1 a2 a3 k1 k2 k3 row dv sl nb v (mLow (nI v) p0) (mTop (nI v) p0) (mLow (nI v) f0) (mLow (nI v) l0) i0 o0) := hD
        refine lv_aload_n hx hb dX0_kind_81 rfl (lv_at hl 0 rfl) ?_
        refine mu_v (wr := []) (ws := (xw o a1 a2 a3 k1 k2 k3 row dv sl nb v (mLow (nI v) p0) (mTop (nI v) p0) (mLow (nI v) f0) (mLow (nI v) l0) i0 o0)) (ws' := (xw o a1 a2 a3 k1 k2 k3 row dv (mFill (mTop (nI v) p0) sl) nb v (mLow (nI v) p0) (mTop (nI v) p0) (mLow (nI v) f0) (mLow (nI v) l0) i0 o0)) (va_runV (As := []) (rest := []) ⟨hx, hb, hml, hown, hts⟩ (c_fillSlices (sz := H.size) ) (cwV 0 hts gX0_kind_X0_fillSlices rfl rfl rfl (by decide +kernel) ⟨Nat.le_of_ble_eq_true rfl, Nat.le_of_ble_eq_true rfl⟩) (preV_MU hP hK hD 0 (ci := 0) rfl rfl) rfl rfl hl.1 rfl (lv_room (Nat.le_of_ble_eq_true rfl)) dX0_kind_82 ⟨Nat.le_of_ble_eq_true rfl, Nat.le_of_ble_eq_true rfl⟩) hS hA (by rw [List.append_nil]; exact hP) (by rw [List.append_nil]; exact hD) rfl (fun H locs hP hD hS => ?_)
        rw [List.append_nil] at hP hD
        refine lv_iconst (v := 1) hx hb dX0_kind_85 (by decide) ?_
        have hPf : va_P D vwCl (xw o a1 a2 a3 k1 k2 k3 (if bi = i0 then row else mTrN row ((nb + 7) / 8)) dv (mFill (mTop (nI v) p0) sl) nb v (mLow (nI v) p0) (mTop (nI v) p0) (mLow (nI v) f0) (mLow (nI v) l0) i0 o0) H := by first | (rw [if_pos c_19]; exact hP) | (rw [if_neg c_19]; exact hP)
        exact W.zret (v := 1) hx hb hr (by decide) (fun t ht hW => ⟨⟨1, (), rfl, rfl, by show va_P _ _ _ t.heap; rw [ht]; exact hPf⟩, hS.F ht⟩) hS.2.2 dX0_kind_86
      ·
        refine lv_aload_n hx hb dX0_kind_22 rfl (lv_at hl 0 rfl) ?_
        refine mu_v (wr := []) (ws := (xw o a1 a2 a3 k1 k2 k3 row dv sl nb wd po tp fi la bi bo)) (ws' := (xw o a1 a2 a3 k1 k2 k3 (mTrN row ((nb + 7) / 8)) dv sl nb wd po tp fi la bi bo)) (va_runV (As := []) (rest := []) ⟨hx, hb, hml, hown, hts⟩ (c_turnBytesOfRow (sz := H.size) (hn)) (cwV 0 hts gX0_kind_X0_turnBytesOfRow rfl rfl rfl (by decide +kernel) ⟨Nat.le_of_ble_eq_true rfl, Nat.le_of_ble_eq_true rfl⟩) (preV_MU hP hK hD 0 (ci := 0) rfl rfl) rfl rfl hl.1 rfl (lv_room (Nat.le_of_ble_eq_true rfl)) dX0_kind_23 ⟨Nat.le_of_ble_eq_true rfl, Nat.le_of_ble_eq_true rfl⟩) hS hA (by rw [List.append_nil]; exact hP) (by rw [List.append_nil]; exact hD) rfl (fun H locs hP hD hS => ?_)
        rw [List.append_nil] at hP hD
        refine lv_aload_n hx hb dX0_kind_26 rfl (lv_at hl 0 rfl) ?_
        refine lv_iload_n hx hb dX0_kind_27 rfl (lv_at hl 1 rfl) ?_
        refine va_put (D := D) (ci := 0) (v := .int (nI v)) (ty := .int) (C := RX0) (T := TX0) (N := 11) hx hb hts in_c_kind tyX0 tyX0_ok nmX0 hown hK hP hD hS 0 rfl rfl 4 (by decide) (hts (.fieldLink RX0 34 "SliceChecks" "width" "I") (by decide +kernel)) (fun _ h9 => h9) rfl (by decide +kernel) rfl rfl (Nat.le_of_ble_eq_true rfl) dX0_kind_28 (fun H locs hP hD hS => ?_)
        have hP : va_P D vwCl (xw o a1 a2 a3 k1 k2 k3 (mTrN row ((nb + 7) / 8)) dv sl nb v po tp fi la bi bo) H := hP
        have hD : va_D A (xw o a1 a2 a3 k1 k2 k3 (mTrN row ((nb + 7) / 8)) dv sl nb v po tp fi la bi bo) := hD
        refine lv_aload_n hx hb dX0_kind_31 rfl (lv_at hl 0 rfl) ?_
        refine lv_aload_n hx hb dX0_kind_32 rfl (lv_at hl 0 rfl) ?_
        refine lv_lload_n hx hb dX0_kind_33 rfl (lv_at hl 2 rfl) ?_
        refine ro_l (va_runV (As := [.long p0]) (rest := [.ref o]) ⟨hx, hb, hml, hown, hts⟩ (c_lowerBits (sz := H.size) p0) (cwV 1 hts gX0_kind_X0_lowerBits rfl rfl rfl (by decide +kernel) ⟨Nat.le_of_ble_eq_true rfl, Nat.le_of_ble_eq_true rfl⟩) (preV_RO hP hK 0 (ci := 0) rfl rfl) rfl rfl hl.1 rfl (lv_room (Nat.le_of_ble_eq_true rfl)) dX0_kind_34 ⟨Nat.le_of_ble_eq_true rfl, Nat.le_of_ble_eq_true rfl⟩) hS hA hP (fun H locs hP hS => ?_)
        refine va_put (D := D) (ci := 0) (v := .long (mLow (nI v) p0)) (ty := .long) (C := RX0) (T := TX0) (N := 11) hx hb hts in_c_kind tyX0 tyX0_ok nmX0 hown hK hP hD hS 0 rfl rfl 5 (by decide) (hts (.fieldLink RX0 42 "SliceChecks" "polynomial" "J") (by decide +kernel)) (fun _ h9 => h9) rfl (by decide +kernel) rfl rfl (Nat.le_of_ble_eq_true rfl) dX0_kind_37 (fun H locs hP hD hS => ?_)
        have hP : va_P D vwCl (xw o a1 a2 a3 k1 k2 k3 (mTrN row ((nb + 7) / 8)) dv sl nb v (mLow (nI v) p0) tp fi la bi bo) H := hP
        have hD : va_D A (xw o a1 a2 a3 k1 k2 k3 (mTrN row ((nb + 7) / 8)) dv sl nb v (mLow (nI v) p0) tp fi la bi bo) := hD
        refine lv_aload_n hx hb dX0_kind_40 rfl (lv_at hl 0 rfl) ?_
        refine lv_aload_n hx hb dX0_kind_41 rfl (lv_at hl 0 rfl) ?_
        refine lv_lload_n hx hb dX0_kind_42 rfl (lv_at hl 2 rfl) ?_
        refine ro_l (va_runV (As := [.long p0]) (rest := [.ref o]) ⟨hx, hb, hml, hown, hts⟩ (c_atTop (sz := H.size) p0) (cwV 1 hts gX0_kind_X0_atTop rfl rfl rfl (by decide +kernel) ⟨Nat.le_of_ble_eq_true rfl, Nat.le_of_ble_eq_true rfl⟩) (preV_RO hP hK 0 (ci := 0) rfl rfl) rfl rfl hl.1 rfl (lv_room (Nat.le_of_ble_eq_true rfl)) dX0_kind_43 ⟨Nat.le_of_ble_eq_true rfl, Nat.le_of_ble_eq_true rfl⟩) hS hA hP (fun H locs hP hS => ?_)
        refine va_put (D := D) (ci := 0) (v := .long (mTop (nI v) p0)) (ty := .long) (C := RX0) (T := TX0) (N := 11) hx hb hts in_c_kind tyX0 tyX0_ok nmX0 hown hK hP hD hS 0 rfl rfl 6 (by decide) (hts (.fieldLink RX0 49 "SliceChecks" "topPolynomial" "J") (by decide +kernel)) (fun _ h9 => h9) rfl (by decide +kernel) rfl rfl (Nat.le_of_ble_eq_true rfl) dX0_kind_46 (fun H locs hP hD hS => ?_)
        have hP : va_P D vwCl (xw o a1 a2 a3 k1 k2 k3 (mTrN row ((nb + 7) / 8)) dv sl nb v (mLow (nI v) p0) (mTop (nI v) p0) fi la bi bo) H := hP
        have hD : va_D A (xw o a1 a2 a3 k1 k2 k3 (mTrN row ((nb + 7) / 8)) dv sl nb v (mLow (nI v) p0) (mTop (nI v) p0) fi la bi bo) := hD
        refine lv_aload_n hx hb dX0_kind_49 rfl (lv_at hl 0 rfl) ?_
        refine lv_aload_n hx hb dX0_kind_50 rfl (lv_at hl 0 rfl) ?_
        refine lv_lload hx hb dX0_kind_51 (lv_at hl 3 rfl) ?_
        refine ro_l (va_runV (As := [.long f0]) (rest := [.ref o]) ⟨hx, hb, hml, hown, hts⟩ (c_lowerBits (sz := H.size) f0) (cwV 1 hts gX0_kind_X0_lowerBits rfl rfl rfl (by decide +kernel) ⟨Nat.le_of_ble_eq_true rfl, Nat.le_of_ble_eq_true rfl⟩) (preV_RO hP hK 0 (ci := 0) rfl rfl) rfl rfl hl.1 rfl (lv_room (Nat.le_of_ble_eq_true rfl)) dX0_kind_53 ⟨Nat.le_of_ble_eq_true rfl, Nat.le_of_ble_eq_true rfl⟩) hS hA hP (fun H locs hP hS => ?_)
        refine va_put (D := D) (ci := 0) (v := .long (mLow (nI v) f0)) (ty := .long) (C := RX0) (T := TX0) (N := 11) hx hb hts in_c_kind tyX0 tyX0_ok nmX0 hown hK hP hD hS 0 rfl rfl 7 (by decide) (hts (.fieldLink RX0 52 "SliceChecks" "first" "J") (by decide +kernel)) (fun _ h9 => h9) rfl (by decide +kernel) rfl rfl (Nat.le_of_ble_eq_true rfl) dX0_kind_56 (fun H locs hP hD hS => ?_)
        have hP : va_P D vwCl (xw o a1 a2 a3 k1 k2 k3 (mTrN row ((nb + 7) / 8)) dv sl nb v (mLow (nI v) p0) (mTop (nI v) p0) (mLow (nI v) f0) la bi bo) H := hP
        have hD : va_D A (xw o a1 a2 a3 k1 k2 k3 (mTrN row ((nb + 7) / 8)) dv sl nb v (mLow (nI v) p0) (mTop (nI v) p0) (mLow (nI v) f0) la bi bo) := hD
        refine lv_aload_n hx hb dX0_kind_59 rfl (lv_at hl 0 rfl) ?_
        refine lv_iload hx hb dX0_kind_60 (lv_at hl 4 rfl) ?_
        refine va_put (D := D) (ci := 0) (v := .int i0) (ty := .boolean) (C := RX0) (T := TX0) (N := 11) hx hb hts in_c_kind tyX0 tyX0_ok nmX0 hown hK hP hD hS 0 rfl rfl 9 (by decide) (hts (.fieldLink RX0 27 "SliceChecks" "in" "Z") (by decide +kernel)) (fun _ h9 => h9) rfl (by decide +kernel) (du_nz hi0) (du_fz hi0) (Nat.le_of_ble_eq_true rfl) dX0_kind_62 (fun H locs hP hD hS => ?_)
        have hP : va_P D vwCl (xw o a1 a2 a3 k1 k2 k3 (mTrN row ((nb + 7) / 8)) dv sl nb v (mLow (nI v) p0) (mTop (nI v) p0) (mLow (nI v) f0) la i0 bo) H := hP
        have hD : va_D A (xw o a1 a2 a3 k1 k2 k3 (mTrN row ((nb + 7) / 8)) dv sl nb v (mLow (nI v) p0) (mTop (nI v) p0) (mLow (nI v) f0) la i0 bo) := hD
        refine lv_aload_n hx hb dX0_kind_65 rfl (lv_at hl 0 rfl) ?_
        refine lv_iload hx hb dX0_kind_66 (lv_at hl 5 rfl) ?_
        refine va_put (D := D) (ci := 0) (v := .int o0) (ty := .boolean) (C := RX0) (T := TX0) (N := 11) hx hb hts in_c_kind tyX0 tyX0_ok nmX0 hown hK hP hD hS 0 rfl rfl 10 (by decide) (hts (.fieldLink RX0 55 "SliceChecks" "out" "Z") (by decide +kernel)) (fun _ h9 => h9) rfl (by decide +kernel) (du_nz ho0) (du_fz ho0) (Nat.le_of_ble_eq_true rfl) dX0_kind_68 (fun H locs hP hD hS => ?_)
        have hP : va_P D vwCl (xw o a1 a2 a3 k1 k2 k3 (mTrN row ((nb + 7) / 8)) dv sl nb v (mLow (nI v) p0) (mTop (nI v) p0) (mLow (nI v) f0) la i0 o0) H := hP
        have hD : va_D A (xw o a1 a2 a3 k1 k2 k3 (mTrN row ((nb + 7) / 8)) dv sl nb v (mLow (nI v) p0) (mTop (nI v) p0) (mLow (nI v) f0) la i0 o0) := hD
        refine lv_aload_n hx hb dX0_kind_71 rfl (lv_at hl 0 rfl) ?_
        refine lv_aload_n hx hb dX0_kind_72 rfl (lv_at hl 0 rfl) ?_
        refine lv_lload hx hb dX0_kind_73 (lv_at hl 6 rfl) ?_
        refine ro_l (va_runV (As := [.long l0]) (rest := [.ref o]) ⟨hx, hb, hml, hown, hts⟩ (c_lowerBits (sz := H.size) l0) (cwV 1 hts gX0_kind_X0_lowerBits rfl rfl rfl (by decide +kernel) ⟨Nat.le_of_ble_eq_true rfl, Nat.le_of_ble_eq_true rfl⟩) (preV_RO hP hK 0 (ci := 0) rfl rfl) rfl rfl hl.1 rfl (lv_room (Nat.le_of_ble_eq_true rfl)) dX0_kind_75 ⟨Nat.le_of_ble_eq_true rfl, Nat.le_of_ble_eq_true rfl⟩) hS hA hP (fun H locs hP hS => ?_)
        refine va_put (D := D) (ci := 0) (v := .long (mLow (nI v) l0)) (ty := .long) (C := RX0) (T := TX0) (N := 11) hx hb hts in_c_kind tyX0 tyX0_ok nmX0 hown hK hP hD hS 0 rfl rfl 8 (by decide) (hts (.fieldLink RX0 58 "SliceChecks" "last" "J") (by decide +kernel)) (fun _ h9 => h9) rfl (by decide +kernel) rfl rfl (Nat.le_of_ble_eq_true rfl) dX0_kind_78 (fun H locs hP hD hS => ?_)
        have hP : va_P D vwCl (xw o a1 a2 a3 k1 k2 k3 (mTrN row ((nb + 7) / 8)) dv sl nb v (mLow (nI v) p0) (mTop (nI v) p0) (mLow (nI v) f0) (mLow (nI v) l0) i0 o0) H := hP
        have hD : va_D A (xw o a1 a2 a3 k1 k2 k3 (mTrN row ((nb + 7) / 8)) dv sl nb v (mLow (nI v) p0) (mTop (nI v) p0) (mLow (nI v) f0) (mLow (nI v) l0) i0 o0) := hD
        refine lv_aload_n hx hb dX0_kind_81 rfl (lv_at hl 0 rfl) ?_
        refine mu_v (wr := []) (ws := (xw o a1 a2 a3 k1 k2 k3 (mTrN row ((nb + 7) / 8)) dv sl nb v (mLow (nI v) p0) (mTop (nI v) p0) (mLow (nI v) f0) (mLow (nI v) l0) i0 o0)) (ws' := (xw o a1 a2 a3 k1 k2 k3 (mTrN row ((nb + 7) / 8)) dv (mFill (mTop (nI v) p0) sl) nb v (mLow (nI v) p0) (mTop (nI v) p0) (mLow (nI v) f0) (mLow (nI v) l0) i0 o0)) (va_runV (As := []) (rest := []) ⟨hx, hb, hml, hown, hts⟩ (c_fillSlices (sz := H.size) ) (cwV 0 hts gX0_kind_X0_fillSlices rfl rfl rfl (by decide +kernel) ⟨Nat.le_of_ble_eq_true rfl, Nat.le_of_ble_eq_true rfl⟩) (preV_MU hP hK hD 0 (ci := 0) rfl rfl) rfl rfl hl.1 rfl (lv_room (Nat.le_of_ble_eq_true rfl)) dX0_kind_82 ⟨Nat.le_of_ble_eq_true rfl, Nat.le_of_ble_eq_true rfl⟩) hS hA (by rw [List.append_nil]; exact hP) (by rw [List.append_nil]; exact hD) rfl (fun H locs hP hD hS => ?_)
        rw [List.append_nil] at hP hD
        refine lv_iconst (v := 1) hx hb dX0_kind_85 (by decide) ?_
        have hPf : va_P D vwCl (xw o a1 a2 a3 k1 k2 k3 (if bi = i0 then row else mTrN row ((nb + 7) / 8)) dv (mFill (mTop (nI v) p0) sl) nb v (mLow (nI v) p0) (mTop (nI v) p0) (mLow (nI v) f0) (mLow (nI v) l0) i0 o0) H := by first | (rw [if_pos c_19]; exact hP) | (rw [if_neg c_19]; exact hP)
        exact W.zret (v := 1) hx hb hr (by decide) (fun t ht hW => ⟨⟨1, (), rfl, rfl, by show va_P _ _ _ t.heap; rw [ht]; exact hPf⟩, hS.F ht⟩) hS.2.2 dX0_kind_86
    ·
      exact absurd (nI_le (b := 64) hv (by decide)) c_8
theorem in_c_feed_no : ∀ w ∈ wsX00, w ∈ wsX0_feed := fun _ h => List.mem_cons_of_mem _ (List.mem_append_right _ h)
set_option maxHeartbeats 4000000 in
set_option maxRecDepth 100000 in
theorem c_feed_no {l : Launch} {D : va_G} {o a1 a2 a3 : Nat} {k1 k2 k3 : ClassId} {row : Nat → Int64} {dv : Nat → Int64} {sl : Nat → Int64} {nb : Nat} {wd : Nat} {po : Int64} {tp : Int64} {fi : Int64} {la : Int64} {bi : Int32} {bo : Int32} {sz : Nat} (b : Int32) (t : Int32) (hn : nb ≤ 5000) (hno : mIsB b = 0 ∨ t < 1 ∨ nI (5000 - nb) < t) : Met l yX0_feed wsX0_feed ({ frames := 1, cells := 0, slots := 0, locals := 20 }) (va_Pc [.ref o, .int b, .int t] (pRO D vwCl (xt k1 k2 k3) (xw o a1 a2 a3 k1 k2 k3 row dv sl nb wd po tp fi la bi bo) sz)) (roI sz 0) 0 0 (fun q : Nat => sz ≤ q) := by
  refine Met.ofW (cc := cX0_feed) (maxL := 6) (ret := (some .boolean)) (by decide) rfl ?_
  intro p e s m args below meth c s₁ B hml hv
  obtain ⟨rfl, hsz, hP, hK⟩ := hv
  have hsz : s.heap.size = sz := hsz
  have hx := B.exec
  have hb := B.bytes
  have hr := B.returns
  have hts := atoms_spec (ws := wsX0_feed) B.pre
  have hown : s.vm.findClass RX0 = some m.cls := findClass_of_methodNamed B.named
  have hlocks := B.notSynchronized
  subst hsz
  have hA : ∀ q : Nat, s.heap.size ≤ q → (fun q : Nat => s.heap.size ≤ q) q := fun _ h => h
  have hS : va_S (fun q : Nat => s.heap.size ≤ q) s.heap s.heap [] := va_S.rf
  have hl := lv_entry ([.ref o, .int b, .int t]) (n := 6) (Nat.le_of_ble_eq_true rfl)
  rw [lg_entry_eq]
  generalize (lg_sl ([.ref o, .int b, .int t]) ++ List.replicate (6 - (lg_sl ([.ref o, .int b, .int t])).length) Slot.unset).toArray = ls at hl ⊢
  have hl : lv_has ls 6 [(0, .ref o), (1, .int b), (2, .int t)] := hl
  suffices key : ∀ (H : Heap) (locs : List Loc), va_P D vwCl (xw o a1 a2 a3 k1 k2 k3 row dv sl nb wd po tp fi la bi bo) H → va_S (fun q : Nat => s.heap.size ≤ q) s.heap H locs → W p l e (headSpec wsX0_feed { frames := 1, cells := 0, slots := 0, locals := 20 }).room s m ([.ref o, .int b, .int t] : List Value).toArray below meth c H locs 0 0 (MQ below (roI s.heap.size 0) ([.ref o, .int b, .int t] : List Value).toArray s 0 0 (fun q : Nat => s.heap.size ≤ q)) (F0 m 0 ls []) from key s.heap [] hP hS
  intro H locs hP hS
  refine lv_iload_n hx hb dX0_feed_0 rfl (lv_at hl 1 rfl) ?_
  refine ro_i (va_runS (As := [.int b]) (rest := []) ⟨hx, hb, hml, hown, hts⟩ (c_isByte (sz := H.size) b) (va_cwS 1 hts gX0_feed_X0_isByte rfl rfl rfl (by decide +kernel) ⟨Nat.le_of_ble_eq_true rfl, Nat.le_of_ble_eq_true rfl⟩) preS_ST rfl rfl hl.1 rfl (lv_room (Nat.le_of_ble_eq_true rfl)) dX0_feed_1 ⟨Nat.le_of_ble_eq_true rfl, Nat.le_of_ble_eq_true rfl⟩) hS hA hP (fun H locs hP hS => ?_)
  refine lv_if_eq (tgt := 24) hx hb dX0_feed_4 (by decide) (fun c_4 => ?_) (fun c_4 => ?_)
  ·
    refine lv_iconst (v := 0) hx hb dX0_feed_24 (by decide) ?_
    exact W.zret (v := 0) hx hb hr (by decide) (fun t ht hW => ⟨⟨0, (), rfl, rfl, trivial⟩, hS.F ht⟩) hS.2.2 dX0_feed_25
  ·
    refine lv_iload_n hx hb dX0_feed_7 rfl (lv_at hl 2 rfl) ?_
    refine lv_iconst (v := 1) hx hb dX0_feed_8 (by decide) ?_
    refine lv_icmp_lt (tgt := 24) hx hb dX0_feed_9 (by decide) (fun c_9 => ?_) (fun c_9 => ?_)
    ·
      refine lv_iconst (v := 0) hx hb dX0_feed_24 (by decide) ?_
      exact W.zret (v := 0) hx hb hr (by decide) (fun t ht hW => ⟨⟨0, (), rfl, rfl, trivial⟩, hS.F ht⟩) hS.2.2 dX0_feed_25
    ·
      refine lv_iload_n hx hb dX0_feed_12 rfl (lv_at hl 2 rfl) ?_
      refine lv_sipush (v := 5000) hx hb dX0_feed_13 (by decide) ?_
      refine lv_aload_n hx hb dX0_feed_16 rfl (lv_at hl 0 rfl) ?_
      refine va_get (D := D) (ci := 0) (v := .int (nI nb)) (C := RX0) (T := TX0) (N := 11) hx hb hts in_c_feed_no hown hK hP 0 rfl rfl 3 (by decide) (hts (.fieldLink RX0 68 "SliceChecks" "bytes" "I") (by decide +kernel)) (fun _ h9 => h9) rfl dX0_feed_17 ?_
      refine lv_isub hx hb dX0_feed_20 ?_
      refine du_rwi (y := nI (5000 - nb)) (pk_sub (a := 5000) hn) ?_
      refine lv_icmp_le (tgt := 26) hx hb dX0_feed_21 (by decide) (fun c_21 => ?_) (fun c_21 => ?_)
      ·
        exact hno.elim (fun h => absurd h c_4) (fun h => h.elim (fun h => absurd h c_9) (fun h => absurd h (Int32.not_lt.mpr c_21)))
      ·
        refine lv_iconst (v := 0) hx hb dX0_feed_24 (by decide) ?_
        exact W.zret (v := 0) hx hb hr (by decide) (fun t ht hW => ⟨⟨0, (), rfl, rfl, trivial⟩, hS.F ht⟩) hS.2.2 dX0_feed_25
theorem in_c_feed : ∀ w ∈ wsX00, w ∈ wsX0_feed := fun _ h => List.mem_cons_of_mem _ (List.mem_append_right _ h)
set_option maxHeartbeats 4000000 in
set_option maxRecDepth 100000 in
theorem c_feed {l : Launch} {D : va_G} {o a1 a2 a3 : Nat} {k1 k2 k3 : ClassId} {row : Nat → Int64} {dv : Nat → Int64} {sl : Nat → Int64} {nb : Nat} {wd : Nat} {po : Int64} {tp : Int64} {fi : Int64} {la : Int64} {bi : Int32} {bo : Int32} {sz : Nat} (b : Nat) (t : Nat) (hn : nb ≤ 5000) (hb8 : b < 256) (ht1 : 1 ≤ t) (ht : t ≤ 5000 - nb) : Met l yX0_feed wsX0_feed ({ frames := 2, cells := 0, slots := 0, locals := 46 }) (va_Pc [.ref o, .int (nI b), .int (nI t)] (pMU D vwCl (xt k1 k2 k3) (xw o a1 a2 a3 k1 k2 k3 row dv sl nb wd po tp fi la bi bo) sz)) (muI D vwCl (xw o a1 a2 a3 k1 k2 k3 row dv sl nb wd po tp fi la bi bo) (xw o a1 a2 a3 k1 k2 k3 (mFeN row (mCome bi (nI b)) nb t) dv sl (nb + t) wd po tp fi la bi bo) sz 1) 0 0 (va_A (xw o a1 a2 a3 k1 k2 k3 row dv sl nb wd po tp fi la bi bo) sz) := by
  refine Met.ofW (cc := cX0_feed) (maxL := 6) (ret := (some .boolean)) (by decide) rfl ?_
  intro p e s m args below meth c s₁ B hml hv
  obtain ⟨rfl, hsz, hP, hK, hD0⟩ := hv
  have hsz : s.heap.size = sz := hsz
  have hx := B.exec
  have hb := B.bytes
  have hr := B.returns
  have hts := atoms_spec (ws := wsX0_feed) B.pre
  have hown : s.vm.findClass RX0 = some m.cls := findClass_of_methodNamed B.named
  have hlocks := B.notSynchronized
  subst hsz
  have hD0 := hD0.self (sz := s.heap.size)
  have hA : ∀ q9 : Nat, s.heap.size ≤ q9 → va_A (xw o a1 a2 a3 k1 k2 k3 row dv sl nb wd po tp fi la bi bo) s.heap.size q9 := fun q9 h => Or.inr h
  unfold muI
  generalize va_A (xw o a1 a2 a3 k1 k2 k3 row dv sl nb wd po tp fi la bi bo) s.heap.size = A at hD0 hA ⊢
  have hD := hD0
  have hS : va_S A s.heap s.heap [] := va_S.rf
  have hl := lv_entry ([.ref o, .int (nI b), .int (nI t)]) (n := 6) (Nat.le_of_ble_eq_true rfl)
  rw [lg_entry_eq]
  generalize (lg_sl ([.ref o, .int (nI b), .int (nI t)]) ++ List.replicate (6 - (lg_sl ([.ref o, .int (nI b), .int (nI t)])).length) Slot.unset).toArray = ls at hl ⊢
  have hl : lv_has ls 6 [(0, .ref o), (1, .int (nI b)), (2, .int (nI t))] := hl
  suffices key : ∀ (H : Heap) (locs : List Loc), va_P D vwCl (xw o a1 a2 a3 k1 k2 k3 row dv sl nb wd po tp fi la bi bo) H → va_S A s.heap H locs → W p l e (headSpec wsX0_feed { frames := 2, cells := 0, slots := 0, locals := 46 }).room s m ([.ref o, .int (nI b), .int (nI t)] : List Value).toArray below meth c H locs 0 0 (MQ below (va_Qi (fun r (_ : Unit) => r = 1) (fun _ t9 => va_P D vwCl (xw o a1 a2 a3 k1 k2 k3 (mFeN row (mCome bi (nI b)) nb t) dv sl (nb + t) wd po tp fi la bi bo) t9.heap) A) ([.ref o, .int (nI b), .int (nI t)] : List Value).toArray s 0 0 A) (F0 m 0 ls []) from key s.heap [] hP hS
  intro H locs hP hS
  refine lv_iload_n hx hb dX0_feed_0 rfl (lv_at hl 1 rfl) ?_
  refine ro_i (va_runS (As := [.int (nI b)]) (rest := []) ⟨hx, hb, hml, hown, hts⟩ (c_isByte (sz := H.size) (nI b)) (va_cwS 1 hts gX0_feed_X0_isByte rfl rfl rfl (by decide +kernel) ⟨Nat.le_of_ble_eq_true rfl, Nat.le_of_ble_eq_true rfl⟩) preS_ST rfl rfl hl.1 rfl (lv_room (Nat.le_of_ble_eq_true rfl)) dX0_feed_1 ⟨Nat.le_of_ble_eq_true rfl, Nat.le_of_ble_eq_true rfl⟩) hS hA hP (fun H locs hP hS => ?_)
  refine lv_if_eq (tgt := 24) hx hb dX0_feed_4 (by decide) (fun c_4 => ?_) (fun c_4 => ?_)
  ·
    exact absurd c_4 (du_isb hb8)
  ·
    refine lv_iload_n hx hb dX0_feed_7 rfl (lv_at hl 2 rfl) ?_
    refine lv_iconst (v := 1) hx hb dX0_feed_8 (by decide) ?_
    refine lv_icmp_lt (tgt := 24) hx hb dX0_feed_9 (by decide) (fun c_9 => ?_) (fun c_9 => ?_)
    ·
      exact absurd c_9 (du_n1 ht1 (by omega))
    ·
      refine lv_iload_n hx hb dX0_feed_12 rfl (lv_at hl 2 rfl) ?_
      refine lv_sipush (v := 5000) hx hb dX0_feed_13 (by decide) ?_
      refine lv_aload_n hx hb dX0_feed_16 rfl (lv_at hl 0 rfl) ?_
      refine va_get (D := D) (ci := 0) (v := .int (nI nb)) (C := RX0) (T := TX0) (N := 11) hx hb hts in_c_feed hown hK hP 0 rfl rfl 3 (by decide) (hts (.fieldLink RX0 68 "SliceChecks" "bytes" "I") (by decide +kernel)) (fun _ h9 => h9) rfl dX0_feed_17 ?_
      refine lv_isub hx hb dX0_feed_20 ?_
      refine du_rwi (y := nI (5000 - nb)) (pk_sub (a := 5000) hn) ?_
      refine lv_icmp_le (tgt := 26) hx hb dX0_feed_21 (by decide) (fun c_21 => ?_) (fun c_21 => ?_)
      ·
        refine lv_aload_n hx hb dX0_feed_26 rfl (lv_at hl 0 rfl) ?_
        refine lv_iload_n hx hb dX0_feed_27 rfl (lv_at hl 1 rfl) ?_
        refine ro_l (va_runV (As := [.int (nI b)]) (rest := []) ⟨hx, hb, hml, hown, hts⟩ (c_asItComes (sz := H.size) (nI b)) (cwV 1 hts gX0_feed_X0_asItComes rfl rfl rfl (by decide +kernel) ⟨Nat.le_of_ble_eq_true rfl, Nat.le_of_ble_eq_true rfl⟩) (preV_RO hP hK 0 (ci := 0) rfl rfl) rfl rfl hl.1 rfl (lv_room (Nat.le_of_ble_eq_true rfl)) dX0_feed_28 ⟨Nat.le_of_ble_eq_true rfl, Nat.le_of_ble_eq_true rfl⟩) hS hA hP (fun H locs hP hS => ?_)
        refine lv_lstore_n (lv' := [(3, .long (mCome bi (nI b))), (0, .ref o), (1, .int (nI b)), (2, .int (nI t))]) hx hb dX0_feed_31 rfl hl (by decide) rfl (fun ls hl => ?_)
        refine lv_iconst (v := 0) hx hb dX0_feed_32 (by decide) ?_
        refine lv_istore (lv' := [(5, .int 0), (3, .long (mCome bi (nI b))), (0, .ref o), (1, .int (nI b)), (2, .int (nI t))]) hx hb dX0_feed_33 hl (by decide) rfl (fun ls hl => ?_)
        have lp_35 : ∀ (k i : Nat), i ≤ t → t < i + k → ∀ (H : Heap) (locs : List Loc), va_P D vwCl (xw o a1 a2 a3 k1 k2 k3 (mFeN row (mCome bi (nI b)) nb i) dv sl (nb + i) wd po tp fi la bi bo) H → va_S A s.heap H locs → ∀ ls : Array Slot, lv_has ls 6 [(5, .int (nI i)), (3, .long (mCome bi (nI b))), (0, .ref o), (1, .int (nI b)), (2, .int (nI t))] → W p l e (headSpec wsX0_feed { frames := 2, cells := 0, slots := 0, locals := 46 }).room s m ([.ref o, .int (nI b), .int (nI t)] : List Value).toArray below meth c H locs 0 0 (MQ below (va_Qi (fun r (_ : Unit) => r = 1) (fun _ t9 => va_P D vwCl (xw o a1 a2 a3 k1 k2 k3 (mFeN row (mCome bi (nI b)) nb t) dv sl (nb + t) wd po tp fi la bi bo) t9.heap) A) ([.ref o, .int (nI b), .int (nI t)] : List Value).toArray s 0 0 A) (F0 m 35 ls []) := by
          intro k
          induction k with
          | zero =>
            intro i h1 h2
            exact absurd h2 (by omega)
          | succ k ih =>
            intro i hi hk H locs hP hS ls hl
            have hD : va_D A (xw o a1 a2 a3 k1 k2 k3 (mFeN row (mCome bi (nI b)) nb i) dv sl (nb + i) wd po tp fi la bi bo) := du_same hD0 rfl
            refine lv_iload hx hb dX0_feed_35 (lv_at hl 0 rfl) ?_
            refine lv_iload_n hx hb dX0_feed_37 rfl (lv_at hl 4 rfl) ?_
            refine lv_icmp_ge (tgt := 81) hx hb dX0_feed_38 (by decide) (fun c_38 => ?_) (fun c_38 => ?_)
            ·
              have hiN := du_ge (by omega) hi c_38
              refine lv_iconst (v := 1) hx hb dX0_feed_81 (by decide) ?_
              have hPf : va_P D vwCl (xw o a1 a2 a3 k1 k2 k3 (mFeN row (mCome bi (nI b)) nb t) dv sl (nb + t) wd po tp fi la bi bo) H := by rw [← hiN]; exact hP
              exact W.zret (v := 1) hx hb hr (by decide) (fun t ht hW => ⟨⟨1, (), rfl, rfl, by show va_P _ _ _ t.heap; rw [ht]; exact hPf⟩, hS.F ht⟩) hS.2.2 dX0_feed_82
            ·
              have hlt := du_lt (by omega) hi c_38
              refine lv_aload_n hx hb dX0_feed_41 rfl (lv_at hl 2 rfl) ?_
              refine va_get (D := D) (ci := 0) (v := .ref a1) (C := RX0) (T := TX0) (N := 11) hx hb hts in_c_feed hown hK hP 0 rfl rfl 0 (by decide) (hts (.fieldLink RX0 9 "SliceChecks" "row" "[J") (by decide +kernel)) (fun _ h9 => h9) rfl dX0_feed_42 ?_
              refine lv_aload_n hx hb dX0_feed_45 rfl (lv_at hl 2 rfl) ?_
              refine va_get (D := D) (ci := 0) (v := .int (nI (nb + i))) (C := RX0) (T := TX0) (N := 11) hx hb hts in_c_feed hown hK hP 0 rfl rfl 3 (by decide) (hts (.fieldLink RX0 68 "SliceChecks" "bytes" "I") (by decide +kernel)) (fun _ h9 => h9) rfl dX0_feed_46 ?_
              refine lv_bipush (v := 8) hx hb dX0_feed_49 (by decide) ?_
              refine lv_idiv hx hb dX0_feed_51 (by decide) ?_
              refine du_rwi (y := nI ((nb + i) / 8)) (du_div8 (by omega)) ?_
              refine lv_dup2_11 hx hb dX0_feed_52 rfl rfl ?_
              refine va_lald hx hb hK hP 1 0 rfl rfl (i := nI ((nb + i) / 8)) (vp_in_nI (by omega) (by omega)) dX0_feed_53 ?_
              refine lv_lload_n hx hb dX0_feed_54 rfl (lv_at hl 1 rfl) ?_
              refine lv_aload_n hx hb dX0_feed_55 rfl (lv_at hl 2 rfl) ?_
              refine va_get (D := D) (ci := 0) (v := .int (nI (nb + i))) (C := RX0) (T := TX0) (N := 11) hx hb hts in_c_feed hown hK hP 0 rfl rfl 3 (by decide) (hts (.fieldLink RX0 68 "SliceChecks" "bytes" "I") (by decide +kernel)) (fun _ h9 => h9) rfl dX0_feed_56 ?_
              refine ro_i (va_runS (As := [.int (nI (nb + i))]) (rest := [.long (mCome bi (nI b)), .long ((mFeN row (mCome bi (nI b)) nb i) (nI ((nb + i) / 8)).toNatClampNeg), .int (nI ((nb + i) / 8)), .ref a1]) ⟨hx, hb, hml, hown, hts⟩ (c_shiftOfByte (sz := H.size) (nI (nb + i))) (va_cwS 1 hts gX0_feed_X0_shiftOfByte rfl rfl rfl (by decide +kernel) ⟨Nat.le_of_ble_eq_true rfl, Nat.le_of_ble_eq_true rfl⟩) preS_ST rfl rfl hl.1 rfl (lv_room (Nat.le_of_ble_eq_true rfl)) dX0_feed_59 ⟨Nat.le_of_ble_eq_true rfl, Nat.le_of_ble_eq_true rfl⟩) hS hA hP (fun H locs hP hS => ?_)
              refine lv_lshl (v := jshl (mCome bi (nI b)) (mSh (nI (nb + i)))) hx hb dX0_feed_62 rfl ?_
              refine lv_lor hx hb dX0_feed_63 ?_
              refine va_last hx hb hK hP hD hS 1 0 rfl rfl (i := nI ((nb + i) / 8)) (x := ((mFeN row (mCome bi (nI b)) nb i) (nI ((nb + i) / 8)).toNatClampNeg) ||| (jshl (mCome bi (nI b)) (mSh (nI (nb + i))))) (vp_in_nI (by omega) (by omega)) dX0_feed_64 (fun H locs hP hD hS => ?_)
              have hP : va_P D vwCl (xw o a1 a2 a3 k1 k2 k3 (mFeN row (mCome bi (nI b)) nb (i + 1)) dv sl (nb + i) wd po tp fi la bi bo) H := hP
              have hD : va_D A (xw o a1 a2 a3 k1 k2 k3 (mFeN row (mCome bi (nI b)) nb (i + 1)) dv sl (nb + i) wd po tp fi la bi bo) := hD
              refine lv_aload_n hx hb dX0_feed_65 rfl (lv_at hl 2 rfl) ?_
              refine lv_dup hx hb dX0_feed_66 rfl ?_
              refine va_get (D := D) (ci := 0) (v := .int (nI (nb + i))) (C := RX0) (T := TX0) (N := 11) hx hb hts in_c_feed hown hK hP 0 rfl rfl 3 (by decide) (hts (.fieldLink RX0 68 "SliceChecks" "bytes" "I") (by decide +kernel)) (fun _ h9 => h9) rfl dX0_feed_67 ?_
              refine lv_iconst (v := 1) hx hb dX0_feed_70 (by decide) ?_
              refine lv_iadd hx hb dX0_feed_71 ?_
              refine du_rwi (y := nI (nb + (i + 1))) (nI_1 (nb + i)) ?_
              refine va_put (D := D) (ci := 0) (v := .int (nI (nb + (i + 1)))) (ty := .int) (C := RX0) (T := TX0) (N := 11) hx hb hts in_c_feed tyX0 tyX0_ok nmX0 hown hK hP hD hS 0 rfl rfl 3 (by decide) (hts (.fieldLink RX0 68 "SliceChecks" "bytes" "I") (by decide +kernel)) (fun _ h9 => h9) rfl (by decide +kernel) rfl rfl (Nat.le_of_ble_eq_true rfl) dX0_feed_72 (fun H locs hP hD hS => ?_)
              have hP : va_P D vwCl (xw o a1 a2 a3 k1 k2 k3 (mFeN row (mCome bi (nI b)) nb (i + 1)) dv sl (nb + (i + 1)) wd po tp fi la bi bo) H := hP
              have hD : va_D A (xw o a1 a2 a3 k1 k2 k3 (mFeN row (mCome bi (nI b)) nb (i + 1)) dv sl (nb + (i + 1)) wd po tp fi la bi bo) := hD
              refine lv_iinc (v := nI (i + 1)) (lv' := [(5, .int (nI (i + 1))), (3, .long (mCome bi (nI b))), (0, .ref o), (1, .int (nI b)), (2, .int (nI t))]) hx hb dX0_feed_75 hl (k := 0) rfl (nI_1 i) (by decide) rfl (fun ls hl => ?_)
              refine lv_goto (tgt := 35) hx hb dX0_feed_78 (by decide) ?_
              exact ih (i + 1) (by omega) (by omega) H locs (hP) hS ls (lv_sub hl [0, 1, 2, 3, 4] rfl)
        exact lp_35 (t + 1 - 0) 0 (by omega) (by omega) H locs (hP) hS ls (lv_sub hl [0, 1, 2, 3, 4] rfl)
      ·
        exact absurd (nI_le ht (by omega)) c_21
theorem in_c_clear : ∀ w ∈ wsX00, w ∈ wsX0_clear := fun _ h => List.mem_cons_of_mem _ (List.mem_append_right _ h)
set_option maxHeartbeats 4000000 in
set_option maxRecDepth 100000 in
theorem c_clear {l : Launch} {D : va_G} {o a1 a2 a3 : Nat} {k1 k2 k3 : ClassId} {row : Nat → Int64} {dv : Nat → Int64} {sl : Nat → Int64} {nb : Nat} {wd : Nat} {po : Int64} {tp : Int64} {fi : Int64} {la : Int64} {bi : Int32} {bo : Int32} {sz : Nat}   : Met l yX0_clear wsX0_clear ({ frames := 1, cells := 0, slots := 0, locals := 24 }) (va_Pc [.ref o] (pMU D vwCl (xt k1 k2 k3) (xw o a1 a2 a3 k1 k2 k3 row dv sl nb wd po tp fi la bi bo) sz)) (muV D vwCl (xw o a1 a2 a3 k1 k2 k3 row dv sl nb wd po tp fi la bi bo) (xw o a1 a2 a3 k1 k2 k3 (mAFN row 0 625) dv sl 0 wd po tp fi la bi bo) sz) 0 0 (va_A (xw o a1 a2 a3 k1 k2 k3 row dv sl nb wd po tp fi la bi bo) sz) := by
  refine Met.ofW (cc := cX0_clear) (maxL := 1) (ret := none) (by decide) rfl ?_
  intro p e s m args below meth c s₁ B hml hv
  obtain ⟨rfl, hsz, hP, hK, hD0⟩ := hv
  have hsz : s.heap.size = sz := hsz
  have hx := B.exec
  have hb := B.bytes
  have hr := B.returns
  have hts := atoms_spec (ws := wsX0_clear) B.pre
  have hown : s.vm.findClass RX0 = some m.cls := findClass_of_methodNamed B.named
  have hlocks := B.notSynchronized
  subst hsz
  have hD0 := hD0.self (sz := s.heap.size)
  have hA : ∀ q9 : Nat, s.heap.size ≤ q9 → va_A (xw o a1 a2 a3 k1 k2 k3 row dv sl nb wd po tp fi la bi bo) s.heap.size q9 := fun q9 h => Or.inr h
  unfold muV
  generalize va_A (xw o a1 a2 a3 k1 k2 k3 row dv sl nb wd po tp fi la bi bo) s.heap.size = A at hD0 hA ⊢
  have hD := hD0
  have hS : va_S A s.heap s.heap [] := va_S.rf
  have hl := lv_entry ([.ref o]) (n := 1) (Nat.le_of_ble_eq_true rfl)
  rw [lg_entry_eq]
  generalize (lg_sl ([.ref o]) ++ List.replicate (1 - (lg_sl ([.ref o])).length) Slot.unset).toArray = ls at hl ⊢
  have hl : lv_has ls 1 [(0, .ref o)] := hl
  suffices key : ∀ (H : Heap) (locs : List Loc), va_P D vwCl (xw o a1 a2 a3 k1 k2 k3 row dv sl nb wd po tp fi la bi bo) H → va_S A s.heap H locs → W p l e (headSpec wsX0_clear { frames := 1, cells := 0, slots := 0, locals := 24 }).room s m ([.ref o] : List Value).toArray below meth c H locs 0 0 (MQ below (va_Qv (fun (_ : Unit) => True) (fun _ t9 => va_P D vwCl (xw o a1 a2 a3 k1 k2 k3 (mAFN row 0 625) dv sl 0 wd po tp fi la bi bo) t9.heap) A) ([.ref o] : List Value).toArray s 0 0 A) (F0 m 0 ls []) from key s.heap [] hP hS
  intro H locs hP hS
  refine lv_aload_n hx hb dX0_clear_0 rfl (lv_at hl 0 rfl) ?_
  refine va_get (D := D) (ci := 0) (v := .ref a1) (C := RX0) (T := TX0) (N := 11) hx hb hts in_c_clear hown hK hP 0 rfl rfl 0 (by decide) (hts (.fieldLink RX0 9 "SliceChecks" "row" "[J") (by decide +kernel)) (fun _ h9 => h9) rfl dX0_clear_1 ?_
  refine lv_lconst (v := 0) hx hb dX0_clear_4 (by decide) ?_
  have hPc := hP.sub (ws' := jw a1 k1 row) [1] rfl
  have hDc := hD.sub (ws' := jw a1 k1 row) [1] (by decide) rfl
  have hKc := hK.sub (tys' := jt k1) [0] rfl
  refine mu_v (ws := jw a1 k1 row) (ws' := jw a1 k1 (mAFN row 0 625)) (va_runS (As := [.ref a1, .long 0]) (rest := []) ⟨hx, hb, hml, hown, hts⟩ (c_fill (sz := H.size) 0) (va_cwS 2 hts gX0_clear_J7_fill_d0a16 rfl rfl rfl (by decide +kernel) ⟨Nat.le_of_ble_eq_true rfl, Nat.le_of_ble_eq_true rfl⟩) (preS_MU hPc hKc hDc) rfl rfl hl.1 rfl (lv_room (Nat.le_of_ble_eq_true rfl)) dX0_clear_5 ⟨Nat.le_of_ble_eq_true rfl, Nat.le_of_ble_eq_true rfl⟩) hS hA (hP.sub [1, 0, 2, 3] rfl) (hD.sub [1, 0, 2, 3] (by decide) rfl) rfl (fun H locs hP hD hS => ?_)
  have hP : va_P D vwCl (xw o a1 a2 a3 k1 k2 k3 (mAFN row 0 625) dv sl nb wd po tp fi la bi bo) H := hP.sub [1, 0, 2, 3] rfl
  have hD : va_D A (xw o a1 a2 a3 k1 k2 k3 (mAFN row 0 625) dv sl nb wd po tp fi la bi bo) := hD.sub [1, 0, 2, 3] (by decide) rfl
  refine lv_aload_n hx hb dX0_clear_8 rfl (lv_at hl 0 rfl) ?_
  refine lv_iconst (v := 0) hx hb dX0_clear_9 (by decide) ?_
  refine du_rwi (y := nI 0) (rfl) ?_
  refine va_put (D := D) (ci := 0) (v := .int (nI 0)) (ty := .int) (C := RX0) (T := TX0) (N := 11) hx hb hts in_c_clear tyX0 tyX0_ok nmX0 hown hK hP hD hS 0 rfl rfl 3 (by decide) (hts (.fieldLink RX0 68 "SliceChecks" "bytes" "I") (by decide +kernel)) (fun _ h9 => h9) rfl (by decide +kernel) rfl rfl (Nat.le_of_ble_eq_true rfl) dX0_clear_10 (fun H locs hP hD hS => ?_)
  have hP : va_P D vwCl (xw o a1 a2 a3 k1 k2 k3 (mAFN row 0 625) dv sl 0 wd po tp fi la bi bo) H := hP
  have hD : va_D A (xw o a1 a2 a3 k1 k2 k3 (mAFN row 0 625) dv sl 0 wd po tp fi la bi bo) := hD
  have hPf : va_P D vwCl (xw o a1 a2 a3 k1 k2 k3 (mAFN row 0 625) dv sl 0 wd po tp fi la bi bo) H := by exact hP
  exact W.vret hx hb hr (fun t ht hW => ⟨⟨(), rfl, trivial, by show va_P _ _ _ t.heap; rw [ht]; exact hPf⟩, hS.F ht⟩) hS.2.2 dX0_clear_13
theorem in_c_flip_no : ∀ w ∈ wsX00, w ∈ wsX0_flip := fun _ h => List.mem_cons_of_mem _ (List.mem_append_right _ h)
set_option maxHeartbeats 4000000 in
set_option maxRecDepth 100000 in
theorem c_flip_no {l : Launch} {D : va_G} {o a1 a2 a3 : Nat} {k1 k2 k3 : ClassId} {row : Nat → Int64} {dv : Nat → Int64} {sl : Nat → Int64} {nb : Nat} {wd : Nat} {po : Int64} {tp : Int64} {fi : Int64} {la : Int64} {bi : Int32} {bo : Int32} {sz : Nat} (y : Int32) (hno : y < 0 ∨ nI (nb * 8) ≤ y) : Met l yX0_flip wsX0_flip ({ frames := 1, cells := 0, slots := 0, locals := 20 }) (va_Pc [.ref o, .int y] (pRO D vwCl (xt k1 k2 k3) (xw o a1 a2 a3 k1 k2 k3 row dv sl nb wd po tp fi la bi bo) sz)) (roI sz 0) 0 0 (fun q : Nat => sz ≤ q) := by
  refine Met.ofW (cc := cX0_flip) (maxL := 2) (ret := (some .boolean)) (by decide) rfl ?_
  intro p e s m args below meth c s₁ B hml hv
  obtain ⟨rfl, hsz, hP, hK⟩ := hv
  have hsz : s.heap.size = sz := hsz
  have hx := B.exec
  have hb := B.bytes
  have hr := B.returns
  have hts := atoms_spec (ws := wsX0_flip) B.pre
  have hown : s.vm.findClass RX0 = some m.cls := findClass_of_methodNamed B.named
  have hlocks := B.notSynchronized
  subst hsz
  have hA : ∀ q : Nat, s.heap.size ≤ q → (fun q : Nat => s.heap.size ≤ q) q := fun _ h => h
  have hS : va_S (fun q : Nat => s.heap.size ≤ q) s.heap s.heap [] := va_S.rf
  have hl := lv_entry ([.ref o, .int y]) (n := 2) (Nat.le_of_ble_eq_true rfl)
  rw [lg_entry_eq]
  generalize (lg_sl ([.ref o, .int y]) ++ List.replicate (2 - (lg_sl ([.ref o, .int y])).length) Slot.unset).toArray = ls at hl ⊢
  have hl : lv_has ls 2 [(0, .ref o), (1, .int y)] := hl
  suffices key : ∀ (H : Heap) (locs : List Loc), va_P D vwCl (xw o a1 a2 a3 k1 k2 k3 row dv sl nb wd po tp fi la bi bo) H → va_S (fun q : Nat => s.heap.size ≤ q) s.heap H locs → W p l e (headSpec wsX0_flip { frames := 1, cells := 0, slots := 0, locals := 20 }).room s m ([.ref o, .int y] : List Value).toArray below meth c H locs 0 0 (MQ below (roI s.heap.size 0) ([.ref o, .int y] : List Value).toArray s 0 0 (fun q : Nat => s.heap.size ≤ q)) (F0 m 0 ls []) from key s.heap [] hP hS
  intro H locs hP hS
  refine lv_iload_n hx hb dX0_flip_0 rfl (lv_at hl 1 rfl) ?_
  refine lv_if_lt (tgt := 12) hx hb dX0_flip_1 (by decide) (fun c_1 => ?_) (fun c_1 => ?_)
  ·
    refine lv_iconst (v := 0) hx hb dX0_flip_12 (by decide) ?_
    exact W.zret (v := 0) hx hb hr (by decide) (fun t ht hW => ⟨⟨0, (), rfl, rfl, trivial⟩, hS.F ht⟩) hS.2.2 dX0_flip_13
  ·
    refine lv_iload_n hx hb dX0_flip_4 rfl (lv_at hl 1 rfl) ?_
    refine lv_aload_n hx hb dX0_flip_5 rfl (lv_at hl 0 rfl) ?_
    refine ro_i (va_runV (As := []) (rest := [.int y]) ⟨hx, hb, hml, hown, hts⟩ (c_bitsOfRow (sz := H.size) ) (cwV 0 hts gX0_flip_X0_bitsOfRow rfl rfl rfl (by decide +kernel) ⟨Nat.le_of_ble_eq_true rfl, Nat.le_of_ble_eq_true rfl⟩) (preV_RO hP hK 0 (ci := 0) rfl rfl) rfl rfl hl.1 rfl (lv_room (Nat.le_of_ble_eq_true rfl)) dX0_flip_6 ⟨Nat.le_of_ble_eq_true rfl, Nat.le_of_ble_eq_true rfl⟩) hS hA hP (fun H locs hP hS => ?_)
    refine lv_icmp_lt (tgt := 14) hx hb dX0_flip_9 (by decide) (fun c_9 => ?_) (fun c_9 => ?_)
    ·
      exact hno.elim (fun h => absurd h c_1) (fun h => absurd c_9 (Int32.not_lt.mpr h))
    ·
      refine lv_iconst (v := 0) hx hb dX0_flip_12 (by decide) ?_
      exact W.zret (v := 0) hx hb hr (by decide) (fun t ht hW => ⟨⟨0, (), rfl, rfl, trivial⟩, hS.F ht⟩) hS.2.2 dX0_flip_13
theorem in_c_flip : ∀ w ∈ wsX00, w ∈ wsX0_flip := fun _ h => List.mem_cons_of_mem _ (List.mem_append_right _ h)
set_option maxHeartbeats 4000000 in
set_option maxRecDepth 100000 in
theorem c_flip {l : Launch} {D : va_G} {o a1 a2 a3 : Nat} {k1 k2 k3 : ClassId} {row : Nat → Int64} {dv : Nat → Int64} {sl : Nat → Int64} {nb : Nat} {wd : Nat} {po : Int64} {tp : Int64} {fi : Int64} {la : Int64} {bi : Int32} {bo : Int32} {sz : Nat} (j : Nat) (hn : nb ≤ 5000) (hj : j < nb * 8) : Met l yX0_flip wsX0_flip ({ frames := 1, cells := 0, slots := 0, locals := 20 }) (va_Pc [.ref o, .int (nI j)] (pMU D vwCl (xt k1 k2 k3) (xw o a1 a2 a3 k1 k2 k3 row dv sl nb wd po tp fi la bi bo) sz)) (muI D vwCl (xw o a1 a2 a3 k1 k2 k3 row dv sl nb wd po tp fi la bi bo) (xw o a1 a2 a3 k1 k2 k3 (mFlip row j) dv sl nb wd po tp fi la bi bo) sz 1) 0 0 (va_A (xw o a1 a2 a3 k1 k2 k3 row dv sl nb wd po tp fi la bi bo) sz) := by
  refine Met.ofW (cc := cX0_flip) (maxL := 2) (ret := (some .boolean)) (by decide) rfl ?_
  intro p e s m args below meth c s₁ B hml hv
  obtain ⟨rfl, hsz, hP, hK, hD0⟩ := hv
  have hsz : s.heap.size = sz := hsz
  have hx := B.exec
  have hb := B.bytes
  have hr := B.returns
  have hts := atoms_spec (ws := wsX0_flip) B.pre
  have hown : s.vm.findClass RX0 = some m.cls := findClass_of_methodNamed B.named
  have hlocks := B.notSynchronized
  subst hsz
  have hD0 := hD0.self (sz := s.heap.size)
  have hA : ∀ q9 : Nat, s.heap.size ≤ q9 → va_A (xw o a1 a2 a3 k1 k2 k3 row dv sl nb wd po tp fi la bi bo) s.heap.size q9 := fun q9 h => Or.inr h
  unfold muI
  generalize va_A (xw o a1 a2 a3 k1 k2 k3 row dv sl nb wd po tp fi la bi bo) s.heap.size = A at hD0 hA ⊢
  have hD := hD0
  have hS : va_S A s.heap s.heap [] := va_S.rf
  have hl := lv_entry ([.ref o, .int (nI j)]) (n := 2) (Nat.le_of_ble_eq_true rfl)
  rw [lg_entry_eq]
  generalize (lg_sl ([.ref o, .int (nI j)]) ++ List.replicate (2 - (lg_sl ([.ref o, .int (nI j)])).length) Slot.unset).toArray = ls at hl ⊢
  have hl : lv_has ls 2 [(0, .ref o), (1, .int (nI j))] := hl
  suffices key : ∀ (H : Heap) (locs : List Loc), va_P D vwCl (xw o a1 a2 a3 k1 k2 k3 row dv sl nb wd po tp fi la bi bo) H → va_S A s.heap H locs → W p l e (headSpec wsX0_flip { frames := 1, cells := 0, slots := 0, locals := 20 }).room s m ([.ref o, .int (nI j)] : List Value).toArray below meth c H locs 0 0 (MQ below (va_Qi (fun r (_ : Unit) => r = 1) (fun _ t9 => va_P D vwCl (xw o a1 a2 a3 k1 k2 k3 (mFlip row j) dv sl nb wd po tp fi la bi bo) t9.heap) A) ([.ref o, .int (nI j)] : List Value).toArray s 0 0 A) (F0 m 0 ls []) from key s.heap [] hP hS
  intro H locs hP hS
  refine lv_iload_n hx hb dX0_flip_0 rfl (lv_at hl 1 rfl) ?_
  refine lv_if_lt (tgt := 12) hx hb dX0_flip_1 (by decide) (fun c_1 => ?_) (fun c_1 => ?_)
  ·
    exact absurd c_1 (nI_pos (by omega))
  ·
    refine lv_iload_n hx hb dX0_flip_4 rfl (lv_at hl 1 rfl) ?_
    refine lv_aload_n hx hb dX0_flip_5 rfl (lv_at hl 0 rfl) ?_
    refine ro_i (va_runV (As := []) (rest := [.int (nI j)]) ⟨hx, hb, hml, hown, hts⟩ (c_bitsOfRow (sz := H.size) ) (cwV 0 hts gX0_flip_X0_bitsOfRow rfl rfl rfl (by decide +kernel) ⟨Nat.le_of_ble_eq_true rfl, Nat.le_of_ble_eq_true rfl⟩) (preV_RO hP hK 0 (ci := 0) rfl rfl) rfl rfl hl.1 rfl (lv_room (Nat.le_of_ble_eq_true rfl)) dX0_flip_6 ⟨Nat.le_of_ble_eq_true rfl, Nat.le_of_ble_eq_true rfl⟩) hS hA hP (fun H locs hP hS => ?_)
    refine lv_icmp_lt (tgt := 14) hx hb dX0_flip_9 (by decide) (fun c_9 => ?_) (fun c_9 => ?_)
    ·
      refine lv_aload_n hx hb dX0_flip_14 rfl (lv_at hl 0 rfl) ?_
      refine va_get (D := D) (ci := 0) (v := .ref a1) (C := RX0) (T := TX0) (N := 11) hx hb hts in_c_flip hown hK hP 0 rfl rfl 0 (by decide) (hts (.fieldLink RX0 9 "SliceChecks" "row" "[J") (by decide +kernel)) (fun _ h9 => h9) rfl dX0_flip_15 ?_
      refine lv_iload_n hx hb dX0_flip_18 rfl (lv_at hl 1 rfl) ?_
      refine lv_bipush (v := 64) hx hb dX0_flip_19 (by decide) ?_
      refine lv_idiv hx hb dX0_flip_21 (by decide) ?_
      refine du_rwi (y := nI (j / 64)) (du_div64 (by omega)) ?_
      refine lv_dup2_11 hx hb dX0_flip_22 rfl rfl ?_
      refine va_lald hx hb hK hP 1 0 rfl rfl (i := nI (j / 64)) (vp_in_nI (by omega) (by omega)) dX0_flip_23 ?_
      refine lv_lconst (v := 1) hx hb dX0_flip_24 (by decide) ?_
      refine lv_bipush (v := 63) hx hb dX0_flip_25 (by decide) ?_
      refine lv_iload_n hx hb dX0_flip_27 rfl (lv_at hl 1 rfl) ?_
      refine lv_bipush (v := 64) hx hb dX0_flip_28 (by decide) ?_
      refine lv_irem hx hb dX0_flip_30 (by decide) ?_
      refine du_rwi (y := nI (j % 64)) (du_rem64 (by omega)) ?_
      refine lv_isub hx hb dX0_flip_31 ?_
      refine lv_lshl (v := jshl 1 (63 - (nI (j % 64)))) hx hb dX0_flip_32 rfl ?_
      refine lv_lxor hx hb dX0_flip_33 ?_
      refine va_last hx hb hK hP hD hS 1 0 rfl rfl (i := nI (j / 64)) (x := (row (nI (j / 64)).toNatClampNeg) ^^^ (jshl 1 (63 - (nI (j % 64))))) (vp_in_nI (by omega) (by omega)) dX0_flip_34 (fun H locs hP hD hS => ?_)
      have hP : va_P D vwCl (xw o a1 a2 a3 k1 k2 k3 (mFlip row j) dv sl nb wd po tp fi la bi bo) H := hP
      have hD : va_D A (xw o a1 a2 a3 k1 k2 k3 (mFlip row j) dv sl nb wd po tp fi la bi bo) := hD
      refine lv_iconst (v := 1) hx hb dX0_flip_35 (by decide) ?_
      have hPf : va_P D vwCl (xw o a1 a2 a3 k1 k2 k3 (mFlip row j) dv sl nb wd po tp fi la bi bo) H := by exact hP
      exact W.zret (v := 1) hx hb hr (by decide) (fun t ht hW => ⟨⟨1, (), rfl, rfl, by show va_P _ _ _ t.heap; rw [ht]; exact hPf⟩, hS.F ht⟩) hS.2.2 dX0_flip_36
    ·
      exact absurd (nI_lt hj (by omega)) c_9
theorem in_c_holds : ∀ w ∈ wsX00, w ∈ wsX0_holds := fun _ h => List.mem_cons_of_mem _ (List.mem_append_right _ h)
set_option maxHeartbeats 4000000 in
set_option maxRecDepth 100000 in
theorem c_holds {l : Launch} {D : va_G} {o a1 a2 a3 : Nat} {k1 k2 k3 : ClassId} {row : Nat → Int64} {dv : Nat → Int64} {sl : Nat → Int64} {nb : Nat} {wd : Nat} {po : Int64} {tp : Int64} {fi : Int64} {la : Int64} {bi : Int32} {bo : Int32} {sz : Nat}  (hw : wd ≤ 64) (hn : nb ≤ 5000) (h1 : mChk row sl nb (nI wd) bo tp fi la 1 = mChk row sl nb (nI wd) bo tp fi la 0) (h2 : mChk row sl nb (nI wd) bo tp fi la 2 = mChk row sl nb (nI wd) bo tp fi la 0) (h3 : mChk3 row dv nb (nI wd) bo tp fi la = mChk row sl nb (nI wd) bo tp fi la 0) (hj : ∀ c : Nat, c ≤ 70 → c ≤ nb → mJoin (nI wd) bo tp fi la (mPart row sl nb (nI wd) bo fi la 0 (nI c)) (mPart row sl nb (nI wd) bo fi la (nI c) (nI nb)) (nI nb - nI c) = mChk row sl nb (nI wd) bo tp fi la 0) : Met l yX0_holds wsX0_holds ({ frames := 5, cells := 0, slots := 0, locals := 117 }) (va_Pc [.ref o] (pMU D vwCl (xt k1 k2 k3) (xw o a1 a2 a3 k1 k2 k3 row dv sl nb wd po tp fi la bi bo) sz)) (muI D vwCl (xw o a1 a2 a3 k1 k2 k3 row dv sl nb wd po tp fi la bi bo) (xw o a1 a2 a3 k1 k2 k3 row (mDvN row dv (mTop (nI wd) fi) tp (nb * 8)) sl nb wd po tp fi la bi bo) sz 1) 0 0 (va_A (xw o a1 a2 a3 k1 k2 k3 row dv sl nb wd po tp fi la bi bo) sz) := by
  refine Met.ofW (cc := cX0_holds) (maxL := 4) (ret := (some .boolean)) (by decide) rfl ?_
  intro p e s m args below meth c s₁ B hml hv
  obtain ⟨rfl, hsz, hP, hK, hD0⟩ := hv
  have hsz : s.heap.size = sz := hsz
  have hx := B.exec
  have hb := B.bytes
  have hr := B.returns
  have hts := atoms_spec (ws := wsX0_holds) B.pre
  have hown : s.vm.findClass RX0 = some m.cls := findClass_of_methodNamed B.named
  have hlocks := B.notSynchronized
  subst hsz
  have hD0 := hD0.self (sz := s.heap.size)
  have hA : ∀ q9 : Nat, s.heap.size ≤ q9 → va_A (xw o a1 a2 a3 k1 k2 k3 row dv sl nb wd po tp fi la bi bo) s.heap.size q9 := fun q9 h => Or.inr h
  unfold muI
  generalize va_A (xw o a1 a2 a3 k1 k2 k3 row dv sl nb wd po tp fi la bi bo) s.heap.size = A at hD0 hA ⊢
  have hD := hD0
  have hS : va_S A s.heap s.heap [] := va_S.rf
  have hl := lv_entry ([.ref o]) (n := 4) (Nat.le_of_ble_eq_true rfl)
  rw [lg_entry_eq]
  generalize (lg_sl ([.ref o]) ++ List.replicate (4 - (lg_sl ([.ref o])).length) Slot.unset).toArray = ls at hl ⊢
  have hl : lv_has ls 4 [(0, .ref o)] := hl
  suffices key : ∀ (H : Heap) (locs : List Loc), va_P D vwCl (xw o a1 a2 a3 k1 k2 k3 row dv sl nb wd po tp fi la bi bo) H → va_S A s.heap H locs → W p l e (headSpec wsX0_holds { frames := 5, cells := 0, slots := 0, locals := 117 }).room s m ([.ref o] : List Value).toArray below meth c H locs 0 0 (MQ below (va_Qi (fun r (_ : Unit) => r = 1) (fun _ t9 => va_P D vwCl (xw o a1 a2 a3 k1 k2 k3 row (mDvN row dv (mTop (nI wd) fi) tp (nb * 8)) sl nb wd po tp fi la bi bo) t9.heap) A) ([.ref o] : List Value).toArray s 0 0 A) (F0 m 0 ls []) from key s.heap [] hP hS
  intro H locs hP hS
  refine lv_aload_n hx hb dX0_holds_0 rfl (lv_at hl 0 rfl) ?_
  refine lv_iconst (v := 0) hx hb dX0_holds_1 (by decide) ?_
  refine ro_l (va_runV (As := [.int 0]) (rest := []) ⟨hx, hb, hml, hown, hts⟩ (c_check (sz := H.size) 0 (hn) (by decide)) (cwV 1 hts gX0_holds_X0_check rfl rfl rfl (by decide +kernel) ⟨Nat.le_of_ble_eq_true rfl, Nat.le_of_ble_eq_true rfl⟩) (preV_RO hP hK 0 (ci := 0) rfl rfl) rfl rfl hl.1 rfl (lv_room (Nat.le_of_ble_eq_true rfl)) dX0_holds_2 ⟨Nat.le_of_ble_eq_true rfl, Nat.le_of_ble_eq_true rfl⟩) hS hA hP (fun H locs hP hS => ?_)
  refine lv_lstore_n (lv' := [(1, .long (mChk row sl nb (nI wd) bo tp fi la 0)), (0, .ref o)]) hx hb dX0_holds_5 rfl hl (by decide) rfl (fun ls hl => ?_)
  refine lv_aload_n hx hb dX0_holds_6 rfl (lv_at hl 1 rfl) ?_
  refine lv_iconst (v := 1) hx hb dX0_holds_7 (by decide) ?_
  refine ro_l (va_runV (As := [.int 1]) (rest := []) ⟨hx, hb, hml, hown, hts⟩ (c_check (sz := H.size) 1 (hn) (by decide)) (cwV 1 hts gX0_holds_X0_check rfl rfl rfl (by decide +kernel) ⟨Nat.le_of_ble_eq_true rfl, Nat.le_of_ble_eq_true rfl⟩) (preV_RO hP hK 0 (ci := 0) rfl rfl) rfl rfl hl.1 rfl (lv_room (Nat.le_of_ble_eq_true rfl)) dX0_holds_8 ⟨Nat.le_of_ble_eq_true rfl, Nat.le_of_ble_eq_true rfl⟩) hS hA hP (fun H locs hP hS => ?_)
  refine lv_lload_n hx hb dX0_holds_11 rfl (lv_at hl 0 rfl) ?_
  refine W.lcmp hx hb dX0_holds_12 ?_
  refine lv_if_ne (tgt := 36) hx hb dX0_holds_13 (by decide) (fun c_13 => ?_) (fun c_13 => ?_)
  ·
    exact absurd ((lg_cmp_eq _ _).mpr h1) c_13
  ·
    refine lv_aload_n hx hb dX0_holds_16 rfl (lv_at hl 1 rfl) ?_
    refine lv_iconst (v := 2) hx hb dX0_holds_17 (by decide) ?_
    refine ro_l (va_runV (As := [.int 2]) (rest := []) ⟨hx, hb, hml, hown, hts⟩ (c_check (sz := H.size) 2 (hn) (by decide)) (cwV 1 hts gX0_holds_X0_check rfl rfl rfl (by decide +kernel) ⟨Nat.le_of_ble_eq_true rfl, Nat.le_of_ble_eq_true rfl⟩) (preV_RO hP hK 0 (ci := 0) rfl rfl) rfl rfl hl.1 rfl (lv_room (Nat.le_of_ble_eq_true rfl)) dX0_holds_18 ⟨Nat.le_of_ble_eq_true rfl, Nat.le_of_ble_eq_true rfl⟩) hS hA hP (fun H locs hP hS => ?_)
    refine lv_lload_n hx hb dX0_holds_21 rfl (lv_at hl 0 rfl) ?_
    refine W.lcmp hx hb dX0_holds_22 ?_
    refine lv_if_ne (tgt := 36) hx hb dX0_holds_23 (by decide) (fun c_23 => ?_) (fun c_23 => ?_)
    ·
      exact absurd ((lg_cmp_eq _ _).mpr h2) c_23
    ·
      refine lv_aload_n hx hb dX0_holds_26 rfl (lv_at hl 1 rfl) ?_
      refine lv_iconst (v := 3) hx hb dX0_holds_27 (by decide) ?_
      refine mu_l (wr := []) (ws := (xw o a1 a2 a3 k1 k2 k3 row dv sl nb wd po tp fi la bi bo)) (ws' := (xw o a1 a2 a3 k1 k2 k3 row (mDvN row dv (mTop (nI wd) fi) tp (nb * 8)) sl nb wd po tp fi la bi bo)) (va_runV (As := [.int 3]) (rest := []) ⟨hx, hb, hml, hown, hts⟩ (c_check3 (sz := H.size) 3 (hn) (rfl)) (cwV 1 hts gX0_holds_X0_check rfl rfl rfl (by decide +kernel) ⟨Nat.le_of_ble_eq_true rfl, Nat.le_of_ble_eq_true rfl⟩) (preV_MU hP hK hD 0 (ci := 0) rfl rfl) rfl rfl hl.1 rfl (lv_room (Nat.le_of_ble_eq_true rfl)) dX0_holds_28 ⟨Nat.le_of_ble_eq_true rfl, Nat.le_of_ble_eq_true rfl⟩) hS hA (by rw [List.append_nil]; exact hP) (by rw [List.append_nil]; exact hD) rfl (fun H locs hP hD hS => ?_)
      rw [List.append_nil] at hP hD
      refine lv_lload_n hx hb dX0_holds_31 rfl (lv_at hl 0 rfl) ?_
      refine W.lcmp hx hb dX0_holds_32 ?_
      refine lv_if_eq (tgt := 38) hx hb dX0_holds_33 (by decide) (fun c_33 => ?_) (fun c_33 => ?_)
      ·
        refine lv_iconst (v := 0) hx hb dX0_holds_38 (by decide) ?_
        refine lv_istore_n (lv' := [(3, .int 0), (1, .long (mChk row sl nb (nI wd) bo tp fi la 0)), (0, .ref o)]) hx hb dX0_holds_39 rfl hl (by decide) rfl (fun ls hl => ?_)
        have lp_40 : ∀ (k i : Nat), i ≤ 11 → 11 < i + k → ∀ (H : Heap) (locs : List Loc), va_P D vwCl (xw o a1 a2 a3 k1 k2 k3 row (mDvN row dv (mTop (nI wd) fi) tp (nb * 8)) sl nb wd po tp fi la bi bo) H → va_S A s.heap H locs → ∀ ls : Array Slot, lv_has ls 4 [(3, .int (nI (7 * i))), (1, .long (mChk row sl nb (nI wd) bo tp fi la 0)), (0, .ref o)] → W p l e (headSpec wsX0_holds { frames := 5, cells := 0, slots := 0, locals := 117 }).room s m ([.ref o] : List Value).toArray below meth c H locs 0 0 (MQ below (va_Qi (fun r (_ : Unit) => r = 1) (fun _ t9 => va_P D vwCl (xw o a1 a2 a3 k1 k2 k3 row (mDvN row dv (mTop (nI wd) fi) tp (nb * 8)) sl nb wd po tp fi la bi bo) t9.heap) A) ([.ref o] : List Value).toArray s 0 0 A) (F0 m 40 ls []) := by
          intro k
          induction k with
          | zero =>
            intro i h1 h2
            exact absurd h2 (by omega)
          | succ k ih =>
            intro i hi hk H locs hP hS ls hl
            have hD : va_D A (xw o a1 a2 a3 k1 k2 k3 row (mDvN row dv (mTop (nI wd) fi) tp (nb * 8)) sl nb wd po tp fi la bi bo) := du_same hD0 rfl
            refine lv_iload_n hx hb dX0_holds_40 rfl (lv_at hl 0 rfl) ?_
            refine lv_bipush (v := 70) hx hb dX0_holds_41 (by decide) ?_
            refine lv_icmp_gt (tgt := 92) hx hb dX0_holds_43 (by decide) (fun c_43 => ?_) (fun c_43 => ?_)
            ·
              refine lv_iconst (v := 1) hx hb dX0_holds_92 (by decide) ?_
              have hPf : va_P D vwCl (xw o a1 a2 a3 k1 k2 k3 row (mDvN row dv (mTop (nI wd) fi) tp (nb * 8)) sl nb wd po tp fi la bi bo) H := by exact hP
              exact W.zret (v := 1) hx hb hr (by decide) (fun t ht hW => ⟨⟨1, (), rfl, rfl, by show va_P _ _ _ t.heap; rw [ht]; exact hPf⟩, hS.F ht⟩) hS.2.2 dX0_holds_93
            ·
              have h43 : 7 * i ≤ 70 := du_le7 hi c_43
              refine lv_iload_n hx hb dX0_holds_46 rfl (lv_at hl 0 rfl) ?_
              refine lv_aload_n hx hb dX0_holds_47 rfl (lv_at hl 2 rfl) ?_
              refine va_get (D := D) (ci := 0) (v := .int (nI nb)) (C := RX0) (T := TX0) (N := 11) hx hb hts in_c_holds hown hK hP 0 rfl rfl 3 (by decide) (hts (.fieldLink RX0 68 "SliceChecks" "bytes" "I") (by decide +kernel)) (fun _ h9 => h9) rfl dX0_holds_48 ?_
              refine lv_icmp_gt (tgt := 92) hx hb dX0_holds_51 (by decide) (fun c_51 => ?_) (fun c_51 => ?_)
              ·
                refine lv_iconst (v := 1) hx hb dX0_holds_92 (by decide) ?_
                have hPf : va_P D vwCl (xw o a1 a2 a3 k1 k2 k3 row (mDvN row dv (mTop (nI wd) fi) tp (nb * 8)) sl nb wd po tp fi la bi bo) H := by exact hP
                exact W.zret (v := 1) hx hb hr (by decide) (fun t ht hW => ⟨⟨1, (), rfl, rfl, by show va_P _ _ _ t.heap; rw [ht]; exact hPf⟩, hS.F ht⟩) hS.2.2 dX0_holds_93
              ·
                have h51 : 7 * i ≤ nb := du_nlt (by omega) (by omega) c_51
                refine lv_aload_n hx hb dX0_holds_54 rfl (lv_at hl 2 rfl) ?_
                refine lv_aload_n hx hb dX0_holds_55 rfl (lv_at hl 2 rfl) ?_
                refine lv_iconst (v := 0) hx hb dX0_holds_56 (by decide) ?_
                refine lv_iload_n hx hb dX0_holds_57 rfl (lv_at hl 0 rfl) ?_
                refine ro_l (va_runV (As := [.int 0, .int (nI (7 * i))]) (rest := [.ref o]) ⟨hx, hb, hml, hown, hts⟩ (c_part (sz := H.size) 0 (nI (7 * i)) (hn)) (cwV 2 hts gX0_holds_X0_part rfl rfl rfl (by decide +kernel) ⟨Nat.le_of_ble_eq_true rfl, Nat.le_of_ble_eq_true rfl⟩) (preV_RO hP hK 0 (ci := 0) rfl rfl) rfl rfl hl.1 rfl (lv_room (Nat.le_of_ble_eq_true rfl)) dX0_holds_58 ⟨Nat.le_of_ble_eq_true rfl, Nat.le_of_ble_eq_true rfl⟩) hS hA hP (fun H locs hP hS => ?_)
                refine lv_aload_n hx hb dX0_holds_61 rfl (lv_at hl 2 rfl) ?_
                refine lv_iload_n hx hb dX0_holds_62 rfl (lv_at hl 0 rfl) ?_
                refine lv_aload_n hx hb dX0_holds_63 rfl (lv_at hl 2 rfl) ?_
                refine va_get (D := D) (ci := 0) (v := .int (nI nb)) (C := RX0) (T := TX0) (N := 11) hx hb hts in_c_holds hown hK hP 0 rfl rfl 3 (by decide) (hts (.fieldLink RX0 68 "SliceChecks" "bytes" "I") (by decide +kernel)) (fun _ h9 => h9) rfl dX0_holds_64 ?_
                refine ro_l (va_runV (As := [.int (nI (7 * i)), .int (nI nb)]) (rest := [.long (mPart row sl nb (nI wd) bo fi la 0 (nI (7 * i))), .ref o]) ⟨hx, hb, hml, hown, hts⟩ (c_part (sz := H.size) (nI (7 * i)) (nI nb) (hn)) (cwV 2 hts gX0_holds_X0_part rfl rfl rfl (by decide +kernel) ⟨Nat.le_of_ble_eq_true rfl, Nat.le_of_ble_eq_true rfl⟩) (preV_RO hP hK 0 (ci := 0) rfl rfl) rfl rfl hl.1 rfl (lv_room (Nat.le_of_ble_eq_true rfl)) dX0_holds_67 ⟨Nat.le_of_ble_eq_true rfl, Nat.le_of_ble_eq_true rfl⟩) hS hA hP (fun H locs hP hS => ?_)
                refine lv_aload_n hx hb dX0_holds_70 rfl (lv_at hl 2 rfl) ?_
                refine va_get (D := D) (ci := 0) (v := .int (nI nb)) (C := RX0) (T := TX0) (N := 11) hx hb hts in_c_holds hown hK hP 0 rfl rfl 3 (by decide) (hts (.fieldLink RX0 68 "SliceChecks" "bytes" "I") (by decide +kernel)) (fun _ h9 => h9) rfl dX0_holds_71 ?_
                refine lv_iload_n hx hb dX0_holds_74 rfl (lv_at hl 0 rfl) ?_
                refine lv_isub hx hb dX0_holds_75 ?_
                refine ro_l (va_runV (As := [.long (mPart row sl nb (nI wd) bo fi la 0 (nI (7 * i))), .long (mPart row sl nb (nI wd) bo fi la (nI (7 * i)) (nI nb)), .int ((nI nb) - (nI (7 * i)))]) (rest := []) ⟨hx, hb, hml, hown, hts⟩ (c_joined (sz := H.size) (mPart row sl nb (nI wd) bo fi la 0 (nI (7 * i))) (mPart row sl nb (nI wd) bo fi la (nI (7 * i)) (nI nb)) ((nI nb) - (nI (7 * i))) (hw)) (cwV 3 hts gX0_holds_X0_joined rfl rfl rfl (by decide +kernel) ⟨Nat.le_of_ble_eq_true rfl, Nat.le_of_ble_eq_true rfl⟩) (preV_RO hP hK 0 (ci := 0) rfl rfl) rfl rfl hl.1 rfl (lv_room (Nat.le_of_ble_eq_true rfl)) dX0_holds_76 ⟨Nat.le_of_ble_eq_true rfl, Nat.le_of_ble_eq_true rfl⟩) hS hA hP (fun H locs hP hS => ?_)
                refine lv_lload_n hx hb dX0_holds_79 rfl (lv_at hl 1 rfl) ?_
                refine W.lcmp hx hb dX0_holds_80 ?_
                refine lv_if_eq (tgt := 86) hx hb dX0_holds_81 (by decide) (fun c_81 => ?_) (fun c_81 => ?_)
                ·
                  refine lv_iinc (v := nI (7 * (i + 1))) (lv' := [(3, .int (nI (7 * (i + 1)))), (1, .long (mChk row sl nb (nI wd) bo tp fi la 0)), (0, .ref o)]) hx hb dX0_holds_86 hl (k := 0) rfl (nI_add (7 * i) 7) (by decide) rfl (fun ls hl => ?_)
                  refine lv_goto (tgt := 40) hx hb dX0_holds_89 (by decide) ?_
                  exact ih (i + 1) (by omega) (by omega) H locs (hP) hS ls (lv_sub hl [0, 1, 2] rfl)
                ·
                  exact absurd ((lg_cmp_eq _ _).mpr (hj (7 * i) h43 h51)) c_81
        exact lp_40 (11 + 1 - 0) 0 (by omega) (by omega) H locs (hP) hS ls (lv_sub hl [0, 1, 2] rfl)
      ·
        exact absurd ((lg_cmp_eq _ _).mpr h3) c_33
