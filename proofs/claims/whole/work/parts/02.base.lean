/-! Base rows of mine: shifts by name, read-only contracts (nothing old changes), changing contracts (a world's own cells alone change), and how they are called. -/
def jshl (x : Int64) (y : Int32) : Int64 := x <<< (y.toInt64 &&& 63)
def jushr (x : Int64) (y : Int32) : Int64 := (x.toUInt64 >>> (y.toInt64.toUInt64 &&& Int64.toUInt64 63)).toInt64
def jshr (x : Int64) (y : Int32) : Int64 := x >>> (y.toInt64 &&& 63)
def jiushr (x y : Int32) : Int32 := (x.toUInt32 >>> (y.toUInt32 &&& Int32.toUInt32 31)).toInt32
def roL (sz : Nat) (v : Int64) : Array Value → State → Outcome → State → Prop := va_Ql (fun r (_ : Unit) => r = v) (fun _ _ => True) (fun q : Nat => sz ≤ q)
def roI (sz : Nat) (v : Int32) : Array Value → State → Outcome → State → Prop := va_Qi (fun r (_ : Unit) => r = v) (fun _ _ => True) (fun q : Nat => sz ≤ q)
def muV (D : va_G) (cl : List vw_C) (ws ws' : va_W) (sz : Nat) : Array Value → State → Outcome → State → Prop := va_Qv (fun (_ : Unit) => True) (fun _ t => va_P D cl ws' t.heap) (va_A ws sz)
def muI (D : va_G) (cl : List vw_C) (ws ws' : va_W) (sz : Nat) (v : Int32) : Array Value → State → Outcome → State → Prop := va_Qi (fun r (_ : Unit) => r = v) (fun _ t => va_P D cl ws' t.heap) (va_A ws sz)
def muL (D : va_G) (cl : List vw_C) (ws ws' : va_W) (sz : Nat) (v : Int64) : Array Value → State → Outcome → State → Prop := va_Ql (fun r (_ : Unit) => r = v) (fun _ t => va_P D cl ws' t.heap) (va_A ws sz)
/-- what a read-only method asks of its start; 'ws' may be any world -/
def pRO (D : va_G) (cl : List vw_C) (tys : List (ClassId × FieldType)) (ws : va_W) (sz : Nat) : State → Prop := fun U => U.heap.size = sz ∧ va_P D cl ws U.heap ∧ va_K D cl tys U
def pMU (D : va_G) (cl : List vw_C) (tys : List (ClassId × FieldType)) (ws : va_W) (sz : Nat) : State → Prop := fun U => U.heap.size = sz ∧ va_P D cl ws U.heap ∧ va_K D cl tys U ∧ va_D (fun _ => True) ws
/-- a static method that needs no world -/
def pST (sz : Nat) : State → Prop := fun U => U.heap.size = sz
theorem du_same {A : Nat → Prop} {ws ws' : va_W} (h : va_D A ws) (he : ws'.map Prod.fst = ws.map Prod.fst) : va_D A ws' := by
  have key : ∀ (k : Nat) (q : Nat × va_E), ws'[k]? = some q → ∃ q2, ws[k]? = some q2 ∧ q2.1 = q.1 := by
    intro k q hk
    have h1 : (ws'.map Prod.fst)[k]? = some q.1 := by rw [List.getElem?_map, hk]; rfl
    rw [he, List.getElem?_map] at h1
    cases h2 : ws[k]? with
    | none => rw [h2] at h1; cases h1
    | some q2 => rw [h2] at h1; exact ⟨q2, rfl, Option.some.inj h1⟩
  refine ⟨fun i j p q hi hj hpq => ?_, fun k q hk => ?_⟩
  · obtain ⟨p2, a1, a2⟩ := key i p hi
    obtain ⟨q2, b1, b2⟩ := key j q hj
    exact h.1 i j p2 q2 a1 b1 (by rw [a2, b2, hpq])
  · obtain ⟨q2, b1, b2⟩ := key k q hk
    rw [← b2]; exact h.2 k q2 b1
theorem du_sw (x k : Int32) : x = k ∨ ¬ x = k := Classical.em _
theorem du_ne {x k : Int32} {n : Int} (hk : k.toInt = n) (h : ¬ x = k) : x.toInt ≠ n := fun e => h (Int32.toInt_inj.mp (by rw [hk]; exact e))
section
variable {p : Program} {l : Launch} {e : Env} {R : Room} {s : State} {m : MethodId} {args : Array Value} {below : List Frame} {meth : Method} {c : Code} {H : Heap} {locs : List Loc} {cells slots : Nat} {Q : State → Prop} {pc : Nat} {ls : Array Slot} {rest st0 : List Value} {a : Array Value} {A0 : Nat → Prop} {H0 : Heap} {D : va_G} {cl : List vw_C} {ws ws' wr : va_W} {tys : List (ClassId × FieldType)}
theorem du_rwl {x y : Int64} (h : x = y) (k : W p l e R s m args below meth c H locs cells slots Q (F0 m pc ls (.long y :: rest))) : W p l e R s m args below meth c H locs cells slots Q (F0 m pc ls (.long x :: rest)) := h ▸ k
theorem du_rwi {x y : Int32} (h : x = y) (k : W p l e R s m args below meth c H locs cells slots Q (F0 m pc ls (.int y :: rest))) : W p l e R s m args below meth c H locs cells slots Q (F0 m pc ls (.int x :: rest)) := h ▸ k
theorem ro_l {v : Int64} (hr : va_Run p l e R s m args below meth c H locs cells slots 0 0 (F0 m pc ls st0) rest (roL H.size v a) (fun q : Nat => H.size ≤ q)) (hS : va_S A0 H0 H locs) (hA : ∀ q, H0.size ≤ q → A0 q) (hP : va_P D cl ws H) (kk : ∀ (H1 : Heap) (locs1 : List Loc), va_P D cl ws H1 → va_S A0 H0 H1 locs1 → W p l e R s m args below meth c H1 locs1 cells slots Q (F0 m (pc + 3) ls (.long v :: rest))) : W p l e R s m args below meth c H locs cells slots Q (F0 m pc ls st0) := by
  refine va_calll hr hS (fun q h1 h2 => absurd h2 (Nat.not_le.mpr h1)) (fun q h => hA q (Nat.le_trans hS.1 h)) (fun r u t H1 locs1 ht hvm hw hB hz hk hS1 => ?_)
  subst hw
  exact kk H1 locs1 (hP.kept (fun k q hq => hk q.1 (hP k q hq).lt (Nat.not_le.mpr (hP k q hq).lt))) hS1
theorem ro_i {v : Int32} (hr : va_Run p l e R s m args below meth c H locs cells slots 0 0 (F0 m pc ls st0) rest (roI H.size v a) (fun q : Nat => H.size ≤ q)) (hS : va_S A0 H0 H locs) (hA : ∀ q, H0.size ≤ q → A0 q) (hP : va_P D cl ws H) (kk : ∀ (H1 : Heap) (locs1 : List Loc), va_P D cl ws H1 → va_S A0 H0 H1 locs1 → W p l e R s m args below meth c H1 locs1 cells slots Q (F0 m (pc + 3) ls (.int v :: rest))) : W p l e R s m args below meth c H locs cells slots Q (F0 m pc ls st0) := by
  refine va_calli hr hS (fun q h1 h2 => absurd h2 (Nat.not_le.mpr h1)) (fun q h => hA q (Nat.le_trans hS.1 h)) (fun r u t H1 locs1 ht hvm hw hB hz hk hS1 => ?_)
  subst hw
  exact kk H1 locs1 (hP.kept (fun k q hq => hk q.1 (hP k q hq).lt (Nat.not_le.mpr (hP k q hq).lt))) hS1
/-- what is free for a changing callee is free for its caller -/
theorem mu_free {is : List Nat} (hD : va_D A0 ws) (hS : va_S A0 H0 H locs) (hA : ∀ q, H0.size ≤ q → A0 q) {wc : va_W} (hC : is.map (fun i => ws[i]?) = wc.map some) : ∀ q, va_A wc H.size q → A0 q := va_free hD hS hA is hC
theorem mu_keep (hP : va_P D cl (ws ++ wr) H) (hD : va_D A0 (ws ++ wr)) {H1 : Heap} (hk : ∀ q : Nat, q < H.size → ¬ va_A ws H.size q → H1[q]? = H[q]?) (hP1 : va_P D cl ws' H1) : va_P D cl (ws' ++ wr) H1 := by
  refine hP1.app ?_
  intro k q hq
  have hq2 : (ws ++ wr)[ws.length + k]? = some q := by rw [List.getElem?_append_right (Nat.le_add_right _ _), Nat.add_sub_cancel_left]; exact hq
  have hat := hP _ q hq2
  refine hat.kept (hk q.1 hat.lt ?_)
  rintro (⟨j, e0, hj⟩ | h)
  · have hjl : j < ws.length := (List.getElem?_eq_some_iff.mp hj).1
    have hj2 : (ws ++ wr)[j]? = some (q.1, e0) := by rw [List.getElem?_append_left hjl]; exact hj
    have := hD.1 j (ws.length + k) _ _ hj2 hq2 rfl
    omega
  · exact absurd hat.lt (Nat.not_lt.mpr h)
theorem mu_freeA (hD : va_D A0 (ws ++ wr)) (hS : va_S A0 H0 H locs) (hA : ∀ q, H0.size ≤ q → A0 q) : ∀ q, va_A ws H.size q → A0 q := by
  rintro q (⟨k, e0, hk⟩ | h)
  · have hkl : k < ws.length := (List.getElem?_eq_some_iff.mp hk).1
    exact hD.2 k (q, e0) (by rw [List.getElem?_append_left hkl]; exact hk)
  · exact hA q (Nat.le_trans hS.1 h)
theorem mu_v {mc ms : Nat} (hr : va_Run p l e R s m args below meth c H locs cells slots mc ms (F0 m pc ls st0) rest (muV D cl ws ws' H.size a) (va_A ws H.size)) (hS : va_S A0 H0 H locs) (hA : ∀ q, H0.size ≤ q → A0 q) (hP : va_P D cl (ws ++ wr) H) (hD : va_D A0 (ws ++ wr)) (he : ws'.map Prod.fst = ws.map Prod.fst) (kk : ∀ (H1 : Heap) (locs1 : List Loc), va_P D cl (ws' ++ wr) H1 → va_D A0 (ws' ++ wr) → va_S A0 H0 H1 locs1 → W p l e R s m args below meth c H1 locs1 (cells + mc) (slots + ms) Q (F0 m (pc + 3) ls rest)) : W p l e R s m args below meth c H locs cells slots Q (F0 m pc ls st0) := by
  refine va_callv hr hS (fun q _ h => mu_freeA hD hS hA q h) (mu_freeA hD hS hA) (fun u t H1 locs1 ht hvm hw hB hz hk hS1 => ?_)
  rw [ht] at hB
  exact kk H1 locs1 (mu_keep hP hD hk hB) (du_same hD (by rw [List.map_append, List.map_append, he])) hS1
theorem mu_i {mc ms : Nat} {v : Int32} (hr : va_Run p l e R s m args below meth c H locs cells slots mc ms (F0 m pc ls st0) rest (muI D cl ws ws' H.size v a) (va_A ws H.size)) (hS : va_S A0 H0 H locs) (hA : ∀ q, H0.size ≤ q → A0 q) (hP : va_P D cl (ws ++ wr) H) (hD : va_D A0 (ws ++ wr)) (he : ws'.map Prod.fst = ws.map Prod.fst) (kk : ∀ (H1 : Heap) (locs1 : List Loc), va_P D cl (ws' ++ wr) H1 → va_D A0 (ws' ++ wr) → va_S A0 H0 H1 locs1 → W p l e R s m args below meth c H1 locs1 (cells + mc) (slots + ms) Q (F0 m (pc + 3) ls (.int v :: rest))) : W p l e R s m args below meth c H locs cells slots Q (F0 m pc ls st0) := by
  refine va_calli hr hS (fun q _ h => mu_freeA hD hS hA q h) (mu_freeA hD hS hA) (fun r u t H1 locs1 ht hvm hw hB hz hk hS1 => ?_)
  subst hw
  rw [ht] at hB
  exact kk H1 locs1 (mu_keep hP hD hk hB) (du_same hD (by rw [List.map_append, List.map_append, he])) hS1
theorem mu_l {mc ms : Nat} {v : Int64} (hr : va_Run p l e R s m args below meth c H locs cells slots mc ms (F0 m pc ls st0) rest (muL D cl ws ws' H.size v a) (va_A ws H.size)) (hS : va_S A0 H0 H locs) (hA : ∀ q, H0.size ≤ q → A0 q) (hP : va_P D cl (ws ++ wr) H) (hD : va_D A0 (ws ++ wr)) (he : ws'.map Prod.fst = ws.map Prod.fst) (kk : ∀ (H1 : Heap) (locs1 : List Loc), va_P D cl (ws' ++ wr) H1 → va_D A0 (ws' ++ wr) → va_S A0 H0 H1 locs1 → W p l e R s m args below meth c H1 locs1 (cells + mc) (slots + ms) Q (F0 m (pc + 3) ls (.long v :: rest))) : W p l e R s m args below meth c H locs cells slots Q (F0 m pc ls st0) := by
  refine va_calll hr hS (fun q _ h => mu_freeA hD hS hA q h) (mu_freeA hD hS hA) (fun r u t H1 locs1 ht hvm hw hB hz hk hS1 => ?_)
  subst hw
  rw [ht] at hB
  exact kk H1 locs1 (mu_keep hP hD hk hB) (du_same hD (by rw [List.map_append, List.map_append, he])) hS1
theorem pRO_blind {av : List Value} {sz : Nat} : FrameBlind (va_Pc av (pRO D cl tys ws sz)) := fun a U g mk q => by
  obtain ⟨q0, q1, qP, qK⟩ := q
  exact ⟨q0, q1, qP, va_K.moved (u := U) (U := U.calling g mk a) (Vm.Alike.refl U.vm) qK⟩
theorem pMU_blind {av : List Value} {sz : Nat} : FrameBlind (va_Pc av (pMU D cl tys ws sz)) := fun a U g mk q => by
  obtain ⟨q0, q1, qP, qK, qD⟩ := q
  exact ⟨q0, q1, qP, va_K.moved (u := U) (U := U.calling g mk a) (Vm.Alike.refl U.vm) qK, qD⟩
theorem pST_blind {av : List Value} {sz : Nat} : FrameBlind (va_Pc av (pST sz)) := fun _ _ _ _ q => ⟨q.1, q.2⟩
theorem preV_RO {o ci : Nat} {fs : List Value} {As : List Value} {q : vw_C} (hP : va_P D cl ws H) (hK : va_K D cl tys s) (q0 : Nat) (hc : cl[ci]? = some q) (he : ws[q0]? = some (o, .inr (ci, fs))) : PreV s H q.1 o (va_Pc (.ref o :: As) (pRO D cl tys ws H.size)) As :=
  ⟨pRO_blind, va_recv hK hP hc he, fun U hU hW => ⟨rfl, by rw [hU], by rw [hU]; exact hP, va_K.moved hW.alike hK⟩⟩
theorem preV_MU {o ci : Nat} {fs : List Value} {As : List Value} {q : vw_C} (hP : va_P D cl ws H) (hK : va_K D cl tys s) (hD : va_D A0 ws) (q0 : Nat) (hc : cl[ci]? = some q) (he : ws[q0]? = some (o, .inr (ci, fs))) : PreV s H q.1 o (va_Pc (.ref o :: As) (pMU D cl tys ws H.size)) As :=
  ⟨pMU_blind, va_recv hK hP hc he, fun U hU hW => ⟨rfl, by rw [hU], by rw [hU]; exact hP, va_K.moved hW.alike hK, hD.weaken (fun _ _ _ _ => trivial)⟩⟩
theorem preI_MU {o : Nat} {As : List Value} (hP : va_P D cl ws H) (hK : va_K D cl tys s) (hD : va_D A0 ws) : PreS s H (va_Pc (.ref o :: As) (pMU D cl tys ws H.size)) (.ref o :: As) :=
  ⟨pMU_blind, fun U hU hW => ⟨rfl, by rw [hU], by rw [hU]; exact hP, va_K.moved hW.alike hK, hD.weaken (fun _ _ _ _ => trivial)⟩⟩
theorem preS_ST {As : List Value} : PreS s H (va_Pc As (pST H.size)) As :=
  ⟨pST_blind, fun U hU _ => ⟨rfl, show U.heap.size = H.size by rw [hU]⟩⟩
theorem preS_MU {As : List Value} (hP : va_P D cl ws H) (hK : va_K D cl tys s) (hD : va_D A0 ws) : PreS s H (va_Pc As (pMU D cl tys ws H.size)) As :=
  ⟨pMU_blind, fun U hU hW => ⟨rfl, by rw [hU], by rw [hU]; exact hP, va_K.moved hW.alike hK, hD.weaken (fun _ _ _ _ => trivial)⟩⟩
end
/-! The component's cells: the object, its row, its dividend, its slices. -/
abbrev xt (k1 k2 k3 : ClassId) : List (ClassId × FieldType) := [(k1, .long), (k2, .long), (k3, .long)]
abbrev xw (o a1 a2 a3 : Nat) (k1 k2 k3 : ClassId) (row dv sl : Nat → Int64) (nb wd : Nat) (po tp fi la : Int64) (bi bo : Int32) : va_W :=
  [(o, .inr (0, [.ref a1, .ref a2, .ref a3, .int (nI nb), .int (nI wd), .long po, .long tp, .long fi, .long la, .int bi, .int bo])), (a1, .inl (k1, 625, .inr (.inl row))), (a2, .inl (k2, 626, .inr (.inl dv))), (a3, .inl (k3, 2048, .inr (.inl sl)))]
abbrev jt (k1 : ClassId) : List (ClassId × FieldType) := [(k1, .long)]
abbrev jw (a1 : Nat) (k1 : ClassId) (f : Nat → Int64) : va_W := [(a1, .inl (k1, 625, .inr (.inl f)))]
