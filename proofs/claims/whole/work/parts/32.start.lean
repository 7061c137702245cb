/-! The law's loop, its start; laid by wip/whole/gen_start.py. -/
theorem du_lw {i L : Nat} (hLb : L ≤ 5120) (hi : i ≤ L + 10) (c : ¬ (Int32.ofNat L - 10 < nI i)) : i + 10 ≤ L := by
  rw [Int32.lt_iff_toInt_lt, nI_toInt (by omega)] at c
  have e : (Int32.ofNat L - 10).toInt = (L : Int) - 10 := pk_sub_toInt (a := L) (b := 10) (by omega) (by decide)
  rw [e] at c
  omega
set_option maxHeartbeats 4000000 in
set_option maxRecDepth 100000 in
/-- THE LAW'S LOOP -/
theorem law_loop {p : Program} {l : Launch} {e : Env} {s : State} {m : MethodId} {below : List Frame} {meth : Method} {c : Code} {b L : Nat} {xs : Nat → Int32} {D : va_G} {o a1 a2 a3 q b1 : Nat} {k1 k2 k3 k4 : ClassId} (C0 : lw_At p s m meth c b L xs) (hK : va_K D vwCl (xt k1 k2 k3 ++ mt k4) s) (hDa : ∀ ws : va_W, ws.map Prod.fst = [o, a1, a2, a3, q, b1] → va_D (fun q9 : Nat => s.heap.size ≤ q9) ws) (hLb : L ≤ 5120) : ∀ (n i : Nat), L + 10 < i + n → i ≤ L + 10 → lwG p l e s m below meth c b D o a1 a2 a3 q b1 k1 k2 k3 k4 i 18 := by
  obtain ⟨hx, hb, hr, hml, hown, hts, hX, hbl, hlocks, hgv⟩ := id C0
  have hA : ∀ q9 : Nat, s.heap.size ≤ q9 → (fun q9 : Nat => s.heap.size ≤ q9) q9 := fun _ h => h
  have hbA : ¬ (fun q9 : Nat => s.heap.size ≤ q9) b := Nat.not_le.mpr hbl
  intro n
  induction n with
  | zero =>
    intro i h1 h2
    exact absurd h1 (by omega)
  | succ n ih =>
    intro i hfu hil row dv sl by8 B nb wd po tp fi la bi bo hR H locs hP hS ls hl
    refine lv_iload_n hx hb dL_law_18 rfl (lv_at hl 3 rfl) ?_
    refine lv_aload_n hx hb dL_law_19 rfl (lv_at hl 0 rfl) ?_
    refine va_slen hx hb hX hbl hbA hS dL_law_20 ?_
    refine lv_bipush (v := 10) hx hb dL_law_21 (by decide) ?_
    refine lv_isub hx hb dL_law_23 ?_
    refine lv_icmp_gt (tgt := 709) hx hb dL_law_24 (by decide) (fun c_24 => ?_) (fun c_24 => ?_)
    · refine lv_iconst (v := 1) hx hb dL_law_709 (by decide) ?_
      refine va_forget (fun q9 hq => hS.2.2 q9 hq) ?_
      exact lw_ret hx hb hr hlocks dL_law_710
    · have hiL : i + 10 ≤ L := du_lw hLb hil c_24
      have kk : lwG p l e s m below meth c b D o a1 a2 a3 q b1 k1 k2 k3 k4 i 703 := by
        intro row dv sl by8 B nb wd po tp fi la bi bo hR H locs hP hS ls hl
        refine lv_iinc (v := nI (i + 10)) (lv' := [(3, .int (nI (i + 10))), (0, .ref b), (1, .ref o), (2, .ref q)]) hx hb dL_law_703 hl (k := 3) rfl (nI_add i 10) (by decide) rfl (fun ls hl => ?_)
        refine lv_goto (tgt := 18) hx hb dL_law_706 (by decide) ?_
        exact ih (i + 10) (by omega) (by omega) row dv sl by8 B nb wd po tp fi la bi bo hR H locs hP hS ls (lv_sub hl [1, 2, 3, 0] rfl)
      refine lv_aload_n hx hb dL_law_27 rfl (lv_at hl 0 rfl) ?_
      refine lv_iload_n hx hb dL_law_28 rfl (lv_at hl 3 rfl) ?_
      refine va_sld hx hb hX hbl hbA hS (i := nI i) (du_sb0 hiL hLb) dL_law_29 ?_
      refine lv_bipush (v := 15) hx hb dL_law_30 (by decide) ?_
      refine lv_iand hx hb dL_law_32 ?_
      generalize xs (nI i).toNatClampNeg &&& 15 = y
      rcases du_sw y 0 with s_0 | s_0
      · refine lv_tableIn (tgt := 100) hx hb dL_law_33 (by rw [s_0]; decide) (by rw [s_0]; decide) (by rw [s_0]; rfl) (by decide) ?_
        exact law_kind C0 hK hDa hLb hiL kk row dv sl by8 B nb wd po tp fi la bi bo hR H locs hP hS ls hl
      rcases du_sw y 1 with s_1 | s_1
      · refine lv_tableIn (tgt := 303) hx hb dL_law_33 (by rw [s_1]; decide) (by rw [s_1]; decide) (by rw [s_1]; rfl) (by decide) ?_
        exact law_feed C0 hK hDa hLb hiL kk row dv sl by8 B nb wd po tp fi la bi bo hR H locs hP hS ls hl
      rcases du_sw y 2 with s_2 | s_2
      · refine lv_tableIn (tgt := 336) hx hb dL_law_33 (by rw [s_2]; decide) (by rw [s_2]; decide) (by rw [s_2]; rfl) (by decide) ?_
        exact law_clear C0 hK hDa hLb hiL kk row dv sl by8 B nb wd po tp fi la bi bo hR H locs hP hS ls hl
      rcases du_sw y 3 with s_3 | s_3
      · refine lv_tableIn (tgt := 347) hx hb dL_law_33 (by rw [s_3]; decide) (by rw [s_3]; decide) (by rw [s_3]; rfl) (by decide) ?_
        exact law_flip C0 hK hDa hLb hiL kk row dv sl by8 B nb wd po tp fi la bi bo hR H locs hP hS ls hl
      rcases du_sw y 4 with s_4 | s_4
      · refine lv_tableIn (tgt := 370) hx hb dL_law_33 (by rw [s_4]; decide) (by rw [s_4]; decide) (by rw [s_4]; rfl) (by decide) ?_
        exact law_check C0 hK hDa hLb hiL kk row dv sl by8 B nb wd po tp fi la bi bo hR H locs hP hS ls hl
      rcases du_sw y 5 with s_5 | s_5
      · refine lv_tableIn (tgt := 394) hx hb dL_law_33 (by rw [s_5]; decide) (by rw [s_5]; decide) (by rw [s_5]; rfl) (by decide) ?_
        exact law_part C0 hK hDa hLb hiL kk row dv sl by8 B nb wd po tp fi la bi bo hR H locs hP hS ls hl
      rcases du_sw y 6 with s_6 | s_6
      · refine lv_tableIn (tgt := 428) hx hb dL_law_33 (by rw [s_6]; decide) (by rw [s_6]; decide) (by rw [s_6]; rfl) (by decide) ?_
        exact law_joined C0 hK hDa hLb hiL kk row dv sl by8 B nb wd po tp fi la bi bo hR H locs hP hS ls hl
      rcases du_sw y 7 with s_7 | s_7
      · refine lv_tableIn (tgt := 532) hx hb dL_law_33 (by rw [s_7]; decide) (by rw [s_7]; decide) (by rw [s_7]; rfl) (by decide) ?_
        exact law_entry C0 hK hDa hLb hiL kk row dv sl by8 B nb wd po tp fi la bi bo hR H locs hP hS ls hl
      rcases du_sw y 8 with s_8 | s_8
      · refine lv_tableIn (tgt := 566) hx hb dL_law_33 (by rw [s_8]; decide) (by rw [s_8]; decide) (by rw [s_8]; rfl) (by decide) ?_
        exact law_zeros C0 hK hDa hLb hiL kk row dv sl by8 B nb wd po tp fi la bi bo hR H locs hP hS ls hl
      rcases du_sw y 9 with s_9 | s_9
      · refine lv_tableIn (tgt := 630) hx hb dL_law_33 (by rw [s_9]; decide) (by rw [s_9]; decide) (by rw [s_9]; rfl) (by decide) ?_
        exact law_round C0 hK hDa hLb hiL kk row dv sl by8 B nb wd po tp fi la bi bo hR H locs hP hS ls hl
      rcases du_sw y 10 with s_10 | s_10
      · refine lv_tableIn (tgt := 643) hx hb dL_law_33 (by rw [s_10]; decide) (by rw [s_10]; decide) (by rw [s_10]; rfl) (by decide) ?_
        exact law_holds C0 hK hDa hLb hiL kk row dv sl by8 B nb wd po tp fi la bi bo hR H locs hP hS ls hl
      rcases du_sw y 11 with s_11 | s_11
      · refine lv_tableIn (tgt := 656) hx hb dL_law_33 (by rw [s_11]; decide) (by rw [s_11]; decide) (by rw [s_11]; rfl) (by decide) ?_
        exact law_count C0 hK hDa hLb hiL kk row dv sl by8 B nb wd po tp fi la bi bo hR H locs hP hS ls hl
      rcases du_sw y 12 with s_12 | s_12
      · refine lv_tableIn (tgt := 679) hx hb dL_law_33 (by rw [s_12]; decide) (by rw [s_12]; decide) (by rw [s_12]; rfl) (by decide) ?_
        exact law_told C0 hK hDa hLb hiL kk row dv sl by8 B nb wd po tp fi la bi bo hR H locs hP hS ls hl
      refine lv_tableOut (tgt := 703) hx hb dL_law_33 (by have n_0 := du_ne (n := 0) (by decide) s_0; have n_1 := du_ne (n := 1) (by decide) s_1; have n_2 := du_ne (n := 2) (by decide) s_2; have n_3 := du_ne (n := 3) (by decide) s_3; have n_4 := du_ne (n := 4) (by decide) s_4; have n_5 := du_ne (n := 5) (by decide) s_5; have n_6 := du_ne (n := 6) (by decide) s_6; have n_7 := du_ne (n := 7) (by decide) s_7; have n_8 := du_ne (n := 8) (by decide) s_8; have n_9 := du_ne (n := 9) (by decide) s_9; have n_10 := du_ne (n := 10) (by decide) s_10; have n_11 := du_ne (n := 11) (by decide) s_11; have n_12 := du_ne (n := 12) (by decide) s_12; omega) (by decide) ?_
      exact kk row dv sl by8 B nb wd po tp fi la bi bo hR H locs hP hS ls hl
set_option maxHeartbeats 4000000 in
set_option maxRecDepth 100000 in
/-- THE LAW, from its entry -/
theorem whole_start {p : Program} {e : Env} {s : State} {m : MethodId} {below : List Frame} {meth : Method} {c : Code} (l : Launch) {b L : Nat} {xs : Nat → Int32} (hL : L ≤ 5120) (C0 : lw_At p s m meth c b L xs) : W p l e room_1 s m #[Value.ref b] below meth c s.heap [] 0 0 (lw_Z below #[Value.ref b] s) (entryFrame m ([Value.ref b] : List Value).toArray 4) := by
  obtain ⟨hx, hb, hr, hml, hown, hts, hX, hbl, hlocks, hgv⟩ := id C0
  have hown : s.vm.findClass RL = some m.cls := hown
  have hts := fun w h => hts w (wsL_law_in w h)
  have hA : ∀ q9 : Nat, s.heap.size ≤ q9 → (fun q9 : Nat => s.heap.size ≤ q9) q9 := fun _ h => h
  obtain ⟨c0, iS0, hKn0⟩ := u_known (C := RX0) (T := TX0) (N := 11) (n := 11) hts inlX0 (hts (.instantiable RX0 11) (by decide +kernel))
  obtain ⟨c1, iS1, hKn1⟩ := u_known (C := RX1) (T := TX1) (N := 8) (n := 8) hts inlX1 (hts (.instantiable RX1 8) (by decide +kernel))
  obtain ⟨D, hKc⟩ : ∃ (D : va_G), ∀ (k : Nat) (q : vw_C), vwCl[k]? = some q → u_Kn s q.1 q.2.1 q.2.2 (D.1 k) (D.2 k) := by
    refine ⟨(fun k => if k = 0 then c0 else c1, fun k => if k = 0 then iS0 else iS1), ?_⟩
    intro k q hq
    match k, hq with
    | 0, hq => cases hq; exact hKn0
    | 1, hq => cases hq; exact hKn1
    | k + 2, hq => simp [vwCl] at hq
  have hS : va_S (fun q9 : Nat => s.heap.size ≤ q9) s.heap s.heap [] := va_S.rf
  have hK : va_K D vwCl [] s := ⟨hKc, fun k q h => by simp at h⟩
  have hP : va_P D vwCl [] s.heap := fun k q h => by simp at h
  have hD : va_D (fun q9 : Nat => s.heap.size ≤ q9) [] := ⟨fun i j p q h => by simp at h, fun k q h => by simp at h⟩
  have hl := lv_entry ([.ref b]) (n := 4) (Nat.le_of_ble_eq_true rfl)
  rw [lg_entry_eq]
  generalize (lg_sl ([.ref b]) ++ List.replicate (4 - (lg_sl ([.ref b])).length) Slot.unset).toArray = ls at hl ⊢
  have hl : lv_has ls 4 [(0, .ref b)] := hl
  refine va_new (ci := 0) (fs := [.null, .null, .null, .int 0, .int 0, .long 0, .long 0, .long 0, .long 0, .int 0, .int 0]) (C := RX0) (T := TX0) (N := 11) hx hb hts inlX0 tyX0 tyX0_ok hown (hts (.classLink RL 7 RX0) (by decide +kernel)) (hts (.instantiable RX0 11) (by decide +kernel)) (hts (.initialized RX0) (by decide +kernel)) hK hP hD hS hA rfl (by decide) (Nat.le_of_ble_eq_true rfl) (Nat.le_of_ble_eq_true rfl) dL_law_0 (fun o H hP hD hS => ?_)
  have hP : va_P D vwCl [(o, .inr (0, [.null, .null, .null, .int 0, .int 0, .long 0, .long 0, .long 0, .long 0, .int 0, .int 0]))] H := hP
  have hD : va_D (fun q9 : Nat => s.heap.size ≤ q9) [(o, .inr (0, [.null, .null, .null, .int 0, .int 0, .long 0, .long 0, .long 0, .long 0, .int 0, .int 0]))] := hD
  refine lv_dup hx hb dL_law_3 rfl ?_
  have hFc := va_free (wc := [(o, .inr (0, [.null, .null, .null, .int 0, .int 0, .long 0, .long 0, .long 0, .long 0, .int 0, .int 0]))]) hD hS hA [0] rfl
  refine va_callv (va_runI (As := []) (rest := [.ref o]) ⟨hx, hb, hml, hown, hts⟩ (c_init (l := l) (D := D) (o := o) (sz := H.size)) (cwI 0 hts gL_law_X0_init rfl rfl rfl (hts (.initialized RX0) (by decide +kernel)) (hts (.methodLink RL 9 yX0_init) (by decide +kernel)) (hts (.instanceMethod yX0_init) (by decide +kernel)) rfl (by decide +kernel) ⟨Nat.le_of_ble_eq_true rfl, Nat.le_of_ble_eq_true rfl⟩) (preI_MU hP hK hD) rfl rfl hl.1 rfl (lv_room (Nat.le_of_ble_eq_true rfl)) dL_law_4 ⟨Nat.le_of_ble_eq_true rfl, Nat.le_of_ble_eq_true rfl⟩) hS (fun q _ h => hFc q h) hFc (fun u t H1 locs ht hvm hw hB hz1 hk1 hS => ?_)
  obtain ⟨a1, a2, a3, k1, k2, k3, hP1, hK1, hD1⟩ := hB
  rw [ht] at hP1
  have hK1 := va_K.moved hvm.symm hK1
  obtain ⟨hP, hD⟩ := va_join (wr := []) (w1 := xw o a1 a2 a3 k1 k2 k3 (if (0 : Int32) = 1 then (fun _ => 0) else mTrN (fun _ => 0) ((0 + 7) / 8)) (fun _ => 0) (mFill (mTop (nI 32) 79764919) (fun _ => 0)) 0 32 79764919 (mTop (nI 32) 79764919) 4294967295 4294967295 1 1) hP hD [0] [] rfl rfl (by decide) (by decide) hk1 hFc hP1 hD1
  have hK : va_K D vwCl (xt k1 k2 k3) s := hK1
  generalize H1 = H at hP hS ⊢
  have hP : va_P D vwCl (xw o a1 a2 a3 k1 k2 k3 (if (0 : Int32) = 1 then (fun _ => 0) else mTrN (fun _ => 0) ((0 + 7) / 8)) (fun _ => 0) (mFill (mTop (nI 32) 79764919) (fun _ => 0)) 0 32 79764919 (mTop (nI 32) 79764919) 4294967295 4294967295 1 1) H := hP
  have hD : va_D (fun q9 : Nat => s.heap.size ≤ q9) (xw o a1 a2 a3 k1 k2 k3 (if (0 : Int32) = 1 then (fun _ => 0) else mTrN (fun _ => 0) ((0 + 7) / 8)) (fun _ => 0) (mFill (mTop (nI 32) 79764919) (fun _ => 0)) 0 32 79764919 (mTop (nI 32) 79764919) 4294967295 4294967295 1 1) := hD
  refine lv_astore_n (lv' := [(1, .ref o), (0, .ref b)]) hx hb dL_law_7 rfl hl (by decide) rfl (fun ls hl => ?_)
  refine va_new (ci := 1) (fs := [.int 0, .long 0, .long 0, .long 0, .int 0, .int 0, .null, .int 0]) (C := RX1) (T := TX1) (N := 8) hx hb hts inlX1 tyX1 tyX1_ok hown (hts (.classLink RL 10 RX1) (by decide +kernel)) (hts (.instantiable RX1 8) (by decide +kernel)) (hts (.initialized RX1) (by decide +kernel)) hK hP hD hS hA rfl (by decide) (Nat.le_of_ble_eq_true rfl) (Nat.le_of_ble_eq_true rfl) dL_law_8 (fun q H hP hD hS => ?_)
  have hP : va_P D vwCl (xw o a1 a2 a3 k1 k2 k3 (if (0 : Int32) = 1 then (fun _ => 0) else mTrN (fun _ => 0) ((0 + 7) / 8)) (fun _ => 0) (mFill (mTop (nI 32) 79764919) (fun _ => 0)) 0 32 79764919 (mTop (nI 32) 79764919) 4294967295 4294967295 1 1 ++ [(q, .inr (1, [.int 0, .long 0, .long 0, .long 0, .int 0, .int 0, .null, .int 0]))]) H := hP
  have hD : va_D (fun q9 : Nat => s.heap.size ≤ q9) (xw o a1 a2 a3 k1 k2 k3 (if (0 : Int32) = 1 then (fun _ => 0) else mTrN (fun _ => 0) ((0 + 7) / 8)) (fun _ => 0) (mFill (mTop (nI 32) 79764919) (fun _ => 0)) 0 32 79764919 (mTop (nI 32) 79764919) 4294967295 4294967295 1 1 ++ [(q, .inr (1, [.int 0, .long 0, .long 0, .long 0, .int 0, .int 0, .null, .int 0]))]) := hD
  refine lv_dup hx hb dL_law_11 rfl ?_
  have hPc := hP.sub (ws' := [(q, .inr (1, [.int 0, .long 0, .long 0, .long 0, .int 0, .int 0, .null, .int 0]))]) [4] rfl
  have hDc := hD.sub (ws' := [(q, .inr (1, [.int 0, .long 0, .long 0, .long 0, .int 0, .int 0, .null, .int 0]))]) [4] (by decide) rfl
  have hKc := hK.sub (tys' := []) [] rfl
  have hFc := va_free (wc := [(q, .inr (1, [.int 0, .long 0, .long 0, .long 0, .int 0, .int 0, .null, .int 0]))]) hD hS hA [4] rfl
  refine va_callv (va_runI (As := []) (rest := [.ref q]) ⟨hx, hb, hml, hown, hts⟩ (r_init (l := l) (D := D) (q := q) (sz := H.size)) (cwI 0 hts gL_law_X1_init rfl rfl rfl (hts (.initialized RX1) (by decide +kernel)) (hts (.methodLink RL 12 yX1_init) (by decide +kernel)) (hts (.instanceMethod yX1_init) (by decide +kernel)) rfl (by decide +kernel) ⟨Nat.le_of_ble_eq_true rfl, Nat.le_of_ble_eq_true rfl⟩) (preI_MU hPc hKc hDc) rfl rfl hl.1 rfl (lv_room (Nat.le_of_ble_eq_true rfl)) dL_law_12 ⟨Nat.le_of_ble_eq_true rfl, Nat.le_of_ble_eq_true rfl⟩) hS (fun q _ h => hFc q h) hFc (fun u t H1 locs ht hvm hw hB hz1 hk1 hS => ?_)
  obtain ⟨b1, k4, hP1, hK1, hD1⟩ := hB
  rw [ht] at hP1
  have hK1 := va_K.moved hvm.symm hK1
  obtain ⟨hP, hD⟩ := va_join (wr := xw o a1 a2 a3 k1 k2 k3 (if (0 : Int32) = 1 then (fun _ => 0) else mTrN (fun _ => 0) ((0 + 7) / 8)) (fun _ => 0) (mFill (mTop (nI 32) 79764919) (fun _ => 0)) 0 32 79764919 (mTop (nI 32) 79764919) 4294967295 4294967295 1 1) (w1 := mw q b1 k4 (fun _ => 0) 32 79764919 4294967295 4294967295 1 1 0) hP hD [4] [0, 1, 2, 3] rfl rfl (by decide) (by decide) hk1 hFc hP1 hD1
  have hK : va_K D vwCl (xt k1 k2 k3 ++ mt k4) s := hK.app hK1
  generalize H1 = H at hP hS ⊢
  refine W.widen (k := 6) (n := 8318) (by decide) (by decide) ?_
  refine lv_astore_n (lv' := [(2, .ref q), (1, .ref o), (0, .ref b)]) hx hb dL_law_15 rfl hl (by decide) rfl (fun ls hl => ?_)
  refine lv_iconst (v := 0) hx hb dL_law_16 (by decide) ?_
  refine lv_istore_n (lv' := [(3, .int 0), (2, .ref q), (1, .ref o), (0, .ref b)]) hx hb dL_law_17 rfl hl (by decide) rfl (fun ls hl => ?_)
  exact law_loop C0 hK (fun ws h => du_same hD (by rw [h]; rfl)) hL (L + 11) 0 (by omega) (by omega) _ _ _ _ _ _ _ _ _ _ _ _ _ (rel_init _ _) _ _ hP hS ls (lv_sub hl [3, 2, 1, 0] rfl)
