set_option maxHeartbeats 4000000 in
set_option maxRecDepth 100000 in
theorem c_fill {l : Launch} {D : va_G} {a1 : Nat} {k1 : ClassId} {f : Nat → Int64} {sz : Nat} (x : Int64)  : Met l yJ7_fill_d0a16 wsJ7_fill_d0a16 ({ frames := 0, cells := 0, slots := 0, locals := 0 }) (va_Pc [.ref a1, .long x] (pMU D vwCl (jt k1) (jw a1 k1 f) sz)) (muV D vwCl (jw a1 k1 f) (jw a1 k1 (mAFN f x 625)) sz) 0 0 (va_A (jw a1 k1 f) sz) := by
  refine Met.ofW (cc := cJ7_fill_d0a16) (maxL := 5) (ret := none) (by decide) rfl ?_
  intro p e s m args below meth c s₁ B hml hv
  obtain ⟨rfl, hsz, hP, hK, hD0⟩ := hv
  have hsz : s.heap.size = sz := hsz
  have hx := B.exec
  have hb := B.bytes
  have hr := B.returns
  have hts := atoms_spec (ws := wsJ7_fill_d0a16) B.pre
  have hown : s.vm.findClass RJ7 = some m.cls := findClass_of_methodNamed B.named
  have hlocks := B.notSynchronized
  subst hsz
  have hD0 := hD0.self (sz := s.heap.size)
  have hA : ∀ q9 : Nat, s.heap.size ≤ q9 → va_A (jw a1 k1 f) s.heap.size q9 := fun q9 h => Or.inr h
  unfold muV
  generalize va_A (jw a1 k1 f) s.heap.size = A at hD0 hA ⊢
  have hD := hD0
  have hS : va_S A s.heap s.heap [] := va_S.rf
  have hl := lv_entry ([.ref a1, .long x]) (n := 5) (Nat.le_of_ble_eq_true rfl)
  rw [lg_entry_eq]
  generalize (lg_sl ([.ref a1, .long x]) ++ List.replicate (5 - (lg_sl ([.ref a1, .long x])).length) Slot.unset).toArray = ls at hl ⊢
  have hl : lv_has ls 5 [(0, .ref a1), (1, .long x)] := hl
  suffices key : ∀ (H : Heap) (locs : List Loc), va_P D vwCl (jw a1 k1 f) H → va_S A s.heap H locs → W p l e (headSpec wsJ7_fill_d0a16 { frames := 0, cells := 0, slots := 0, locals := 0 }).room s m ([.ref a1, .long x] : List Value).toArray below meth c H locs 0 0 (MQ below (va_Qv (fun (_ : Unit) => True) (fun _ t9 => va_P D vwCl (jw a1 k1 (mAFN f x 625)) t9.heap) A) ([.ref a1, .long x] : List Value).toArray s 0 0 A) (F0 m 0 ls []) from key s.heap [] hP hS
  intro H locs hP hS
  refine lv_iconst (v := 0) hx hb dJ7_fill_d0a16_0 (by decide) ?_
  refine lv_istore_n (lv' := [(3, .int 0), (0, .ref a1), (1, .long x)]) hx hb dJ7_fill_d0a16_1 rfl hl (by decide) rfl (fun ls hl => ?_)
  refine lv_aload_n hx hb dJ7_fill_d0a16_2 rfl (lv_at hl 1 rfl) ?_
  refine va_alen hx hb hK hP 0 0 rfl rfl (v := 625) rfl dJ7_fill_d0a16_3 ?_
  refine lv_istore (lv' := [(4, .int 625), (3, .int 0), (0, .ref a1), (1, .long x)]) hx hb dJ7_fill_d0a16_4 hl (by decide) rfl (fun ls hl => ?_)
  have lp_6 : ∀ (k i : Nat), i ≤ 625 → 625 < i + k → ∀ (H : Heap) (locs : List Loc), va_P D vwCl (jw a1 k1 (mAFN f x i)) H → va_S A s.heap H locs → ∀ ls : Array Slot, lv_has ls 5 [(4, .int 625), (3, .int (nI i)), (0, .ref a1), (1, .long x)] → W p l e (headSpec wsJ7_fill_d0a16 { frames := 0, cells := 0, slots := 0, locals := 0 }).room s m ([.ref a1, .long x] : List Value).toArray below meth c H locs 0 0 (MQ below (va_Qv (fun (_ : Unit) => True) (fun _ t9 => va_P D vwCl (jw a1 k1 (mAFN f x 625)) t9.heap) A) ([.ref a1, .long x] : List Value).toArray s 0 0 A) (F0 m 6 ls []) := by
    intro k
    induction k with
    | zero =>
      intro i h1 h2
      exact absurd h2 (by omega)
    | succ k ih =>
      intro i hi hk H locs hP hS ls hl
      have hD : va_D A (jw a1 k1 (mAFN f x i)) := du_same hD0 rfl
      refine lv_iload_n hx hb dJ7_fill_d0a16_6 rfl (lv_at hl 1 rfl) ?_
      refine lv_iload hx hb dJ7_fill_d0a16_7 (lv_at hl 0 rfl) ?_
      refine lv_icmp_ge (tgt := 22) hx hb dJ7_fill_d0a16_9 (by decide) (fun c_9 => ?_) (fun c_9 => ?_)
      ·
        have hiN := du_ge (N := 625) (by omega) hi c_9
        have hPf : va_P D vwCl (jw a1 k1 (mAFN f x 625)) H := by subst hiN; exact hP
        exact W.vret hx hb hr (fun t ht hW => ⟨⟨(), rfl, trivial, by show va_P _ _ _ t.heap; rw [ht]; exact hPf⟩, hS.F ht⟩) hS.2.2 dJ7_fill_d0a16_22
      ·
        have hlt := du_lt (N := 625) (by omega) hi c_9
        refine lv_aload_n hx hb dJ7_fill_d0a16_12 rfl (lv_at hl 2 rfl) ?_
        refine lv_iload_n hx hb dJ7_fill_d0a16_13 rfl (lv_at hl 1 rfl) ?_
        refine lv_lload_n hx hb dJ7_fill_d0a16_14 rfl (lv_at hl 3 rfl) ?_
        refine va_last hx hb hK hP hD hS 0 0 rfl rfl (i := nI i) (x := x) (vp_in_nI (by omega) (by omega)) dJ7_fill_d0a16_15 (fun H locs hP hD hS => ?_)
        have hP : va_P D vwCl (jw a1 k1 (mAFN f x (i + 1))) H := hP
        have hD : va_D A (jw a1 k1 (mAFN f x (i + 1))) := hD
        refine lv_iinc (v := nI (i + 1)) (lv' := [(3, .int (nI (i + 1))), (4, .int 625), (0, .ref a1), (1, .long x)]) hx hb dJ7_fill_d0a16_16 hl (k := 1) rfl (nI_1 i) (by decide) rfl (fun ls hl => ?_)
        refine lv_goto (tgt := 6) hx hb dJ7_fill_d0a16_19 (by decide) ?_
        exact ih (i + 1) (by omega) (by omega) H locs (hP) hS ls (lv_sub hl [1, 0, 2, 3] rfl)
  exact lp_6 (625 + 1 - 0) 0 (by omega) (by omega) H locs (hP) hS ls (lv_sub hl [0, 1, 2, 3] rfl)
