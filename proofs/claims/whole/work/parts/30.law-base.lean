/-! THE CLAIM OUT OF ONE WALK OF THE LAW'S BODY. Your part is whole_start (and what it stands on); all else here is the same for every law, but numbers. -/
def R_law : String := "SliceChecksLaw"
def lw_P (b : Addr) (xs : List Int32) (args : Array Value) (s : State) : Prop := args = #[.ref b] ∧ s.IntsAt b xs ∧ xs.length ≤ 5120 ∧ (Jvm.Cond.and given_1 narrow_1).before args s = true
def lw_Q (_ : Array Value) (s : State) (o : Outcome) (t : State) : Prop := o = .returned (some (.int 1)) ∧ Framed s o t [] 6 8318
def lw_Z (below : List Frame) (a : Array Value) (s : State) : State → Prop := fun t => ∃ o, t.status = .running ∧ Ended t below o ∧ lw_Q a s o t
/-- the law's own end, with 1 on the stack, nothing written that was there before, its room as the claim has it -/
theorem lw_ret {p : Program} {l : Launch} {e : Env} {s : State} {m : MethodId} {below : List Frame} {meth : Method} {c : Code} {b : Nat} (hx : p.tables.exec = Jvm.exec) (hb : c.code = code) (hr : meth.sig.returnType = ret) (hlocks : meth.locks = false) {pc : Nat} {H : Heap} {ls : Array Slot} (hdg : decode code pc = .ok (.ireturn, 1)) : W p l e room_1 s m #[Value.ref b] below meth c H [] 6 8318 (lw_Z below #[Value.ref b] s) (F0 m pc ls [.int 1]) := by
  intro T hT X
  obtain ⟨fs, hret, hrun, hended, hW, hframe⟩ := X.leave (v := some (.int 1)) (hlocks := hlocks) (fun h => by rw [hr] at h; cases h)
  have hmeth' : T.vm.method? m = some meth := X.method'
  refine ⟨T.setFrames fs, ?_, .returned (some (.int 1)), hrun, hended, rfl, ⟨_, rfl⟩, hW, hframe⟩
  jvm_step X.here [X.here.top, hx, hb, hdg, hmeth', hr, ret, narrow_b1]
  (try refine ⟨rfl, ?_⟩); (try refine ⟨rfl, ?_⟩)
  first | (intro acts; rw [hret _ acts rfl rfl rfl]) | rw [hret _ _ rfl rfl rfl]
  exact Steps.refl _
/-- what holds at the law's entry: the machine, the code, the tables' words (any of lw_tbl by 'hts w (by decide +kernel)'), the script of L ints xs at the cell b, what the Statement gives of the start (any of its parts by flat_of_before) -/
def lw_At (p : Program) (s : State) (m : MethodId) (meth : Method) (c : Code) (b L : Nat) (xs : Nat → Int32) : Prop :=
  p.tables.exec = Jvm.exec ∧ c.code = code ∧ meth.sig.returnType = ret ∧ c.maxLocals = 4 ∧ s.vm.findClass R_law = some m.cls ∧ (∀ w ∈ lw_tbl, w.before #[Value.ref b] s = true) ∧ va_X b L xs s s.heap ∧ b < s.heap.size ∧ meth.locks = false ∧ (Jvm.Cond.and given_1 narrow_1).before #[Value.ref b] s = true
/-! For the law's walk. -/
def iz (x : Int32) : Int32 := if x = 0 then 0 else 1
theorem iz_01 (x : Int32) : iz x = 0 ∨ iz x = 1 := by
  unfold iz
  split
  · exact Or.inl rfl
  · exact Or.inr rfl
theorem du_sb {i L : Nat} (hiL : i + 10 ≤ L) (hLb : L ≤ 5120) (k : Nat) (hk : k < 10) : vp_in (nI i + nI k) L := by
  rw [nI_add]; exact vp_in_nI (by omega) (by omega)
theorem du_sb0 {i L : Nat} (hiL : i + 10 ≤ L) (hLb : L ≤ 5120) : vp_in (nI i) L := vp_in_nI (by omega) (by omega)
theorem du_kw (y : Int32) : (y < 1 ∨ 64 < y) ∨ ∃ v : Nat, 1 ≤ v ∧ v ≤ 64 ∧ y = nI v := by
  by_cases h1 : y < 1
  · exact Or.inl (Or.inl h1)
  · by_cases h2 : 64 < y
    · exact Or.inl (Or.inr h2)
    · have h0 : ¬ y < 0 := by
        rw [Int32.lt_iff_toInt_lt] at *
        have a : (0 : Int32).toInt = 0 := by decide
        have b : (1 : Int32).toInt = 1 := by decide
        omega
      obtain ⟨j, hj, rfl⟩ := nI_of h0
      refine Or.inr ⟨j, ?_, du_nlt (a := j) (b := 64) hj (by decide) h2, rfl⟩
      exact du_nlt (a := 1) (b := j) (by decide) hj h1
theorem du_fd {nb : Nat} (hn : nb ≤ 5000) (b t : Int32) : (mIsB b = 0 ∨ t < 1 ∨ nI (5000 - nb) < t) ∨ ∃ β τ : Nat, β < 256 ∧ 1 ≤ τ ∧ τ ≤ 5000 - nb ∧ b = nI β ∧ t = nI τ := by
  by_cases h1 : mIsB b = 0
  · exact Or.inl (Or.inl h1)
  · by_cases h2 : t < 1
    · exact Or.inl (Or.inr (Or.inl h2))
    · by_cases h3 : nI (5000 - nb) < t
      · exact Or.inl (Or.inr (Or.inr h3))
      · have h0 : ¬ t < 0 := by
          rw [Int32.lt_iff_toInt_lt] at *
          have a : (0 : Int32).toInt = 0 := by decide
          have b : (1 : Int32).toInt = 1 := by decide
          omega
        obtain ⟨τ, hτ, rfl⟩ := nI_of h0
        obtain ⟨β, hβ, rfl⟩ := isB_of h1
        exact Or.inr ⟨β, τ, hβ, du_nlt (a := 1) (b := τ) (by decide) hτ h2, du_nlt hτ (by omega) h3, rfl, rfl⟩
theorem du_fl (nb : Nat) (hn : nb ≤ 5000) (y : Int32) : (y < 0 ∨ nI (nb * 8) ≤ y) ∨ ∃ j : Nat, j < nb * 8 ∧ y = nI j := by
  by_cases h1 : y < 0
  · exact Or.inl (Or.inl h1)
  · by_cases h2 : nI (nb * 8) ≤ y
    · exact Or.inl (Or.inr h2)
    · obtain ⟨j, hj, rfl⟩ := nI_of h1
      refine Or.inr ⟨j, ?_, rfl⟩
      rcases Nat.lt_or_ge j (nb * 8) with h | h
      · exact h
      · exact absurd (nI_le h hj) h2
section
variable {p : Program} {l : Launch} {e : Env} {R : Room} {s : State} {m : MethodId} {args : Array Value} {below : List Frame} {meth : Method} {c : Code} {H : Heap} {locs : List Loc} {cells slots : Nat} {Q : State → Prop} {ls : Array Slot} {rest : List Value}
theorem du_tern {cc : ByteArray} {pc t0 tj : Nat} {off off2 : Int} {x : Int32} (hx : p.tables.exec = Jvm.exec) (hb : c.code = cc) (d0 : decode cc pc = .ok (.ifCond .eq off, 3)) (d1 : decode cc (pc + 3) = .ok (.iconst 1, 1)) (d2 : decode cc (pc + 3 + 1) = .ok (.goto off2, 3)) (d3 : decode cc t0 = .ok (.iconst 0, 1)) (h0 : (pc : Int) + off = (t0 : Int)) (h1 : ((pc + 3 + 1 : Nat) : Int) + off2 = (tj : Int)) (hj : t0 + 1 = tj) (k : W p l e R s m args below meth c H locs cells slots Q (F0 m tj ls (.int (iz x) :: rest))) : W p l e R s m args below meth c H locs cells slots Q (F0 m pc ls (.int x :: rest)) := by
  subst hj
  refine lv_if_eq hx hb d0 h0 (fun hc => ?_) (fun hc => ?_)
  · refine lv_iconst (v := 0) hx hb d3 (by decide) ?_
    have e1 : iz x = 0 := if_pos hc
    rw [e1] at k
    exact k
  · refine lv_iconst (v := 1) hx hb d1 (by decide) ?_
    have e1 : iz x = 1 := if_neg hc
    rw [e1] at k
    exact lv_goto hx hb d2 h1 k
end
/-- the law stands at pc with i ints read, and the two objects stand beside each other: it comes to its end -/
def lwG (p : Program) (l : Launch) (e : Env) (s : State) (m : MethodId) (below : List Frame) (meth : Method) (c : Code) (b : Nat) (D : va_G) (o a1 a2 a3 q b1 : Nat) (k1 k2 k3 k4 : ClassId) (i pc : Nat) : Prop :=
  ∀ (row dv sl : Nat → Int64) (by8 : Nat → Int32) (B : Nat → Nat) (nb wd : Nat) (po tp fi la : Int64) (bi bo : Int32), Rel row sl by8 B nb wd po tp fi la bi bo → ∀ (H : Heap) (locs : List Loc), va_P D vwCl (xw o a1 a2 a3 k1 k2 k3 row dv sl nb wd po tp fi la bi bo ++ mw q b1 k4 by8 wd po fi la bi bo nb) H → va_S (fun q9 : Nat => s.heap.size ≤ q9) s.heap H locs → ∀ ls : Array Slot, lv_has ls 4 [(0, .ref b), (1, .ref o), (2, .ref q), (3, .int (nI i))] → W p l e room_1 s m #[Value.ref b] below meth c H locs 6 8318 (lw_Z below #[Value.ref b] s) (F0 m pc ls [])
