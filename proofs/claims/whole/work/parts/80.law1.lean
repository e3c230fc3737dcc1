/-! THE CLAIM OUT OF ONE WALK OF THE LAW'S BODY. Your part is whole_start (and what it stands on); all else here is the same for every law, but numbers. -/
def R_law : String := "RingArticlesLaw"
def lw_P (b : Addr) (xs : List Int32) (args : Array Value) (s : State) : Prop := args = #[.ref b] ∧ s.IntsAt b xs ∧ xs.length ≤ 256 ∧ (Jvm.Cond.and given_1 narrow_1).before args s = true
def lw_Q (_ : Array Value) (s : State) (o : Outcome) (t : State) : Prop := o = .returned (some (.int 1)) ∧ Framed s o t [] 600000 7302250
def lw_Z (below : List Frame) (a : Array Value) (s : State) : State → Prop := fun t => ∃ o, t.status = .running ∧ Ended t below o ∧ lw_Q a s o t
/-- the law's own end, with 1 on the stack, nothing written that was there before, its room as the claim has it -/
theorem lw_ret {p : Program} {l : Launch} {e : Env} {s : State} {m : MethodId} {below : List Frame} {meth : Method} {c : Code} {b : Nat} (hx : p.tables.exec = Jvm.exec) (hb : c.code = code) (hr : meth.sig.returnType = ret) (hlocks : meth.locks = false) {pc : Nat} {H : Heap} {ls : Array Slot} (hdg : decode code pc = .ok (.ireturn, 1)) : W p l e room_1 s m #[Value.ref b] below meth c H [] 600000 7302250 (lw_Z below #[Value.ref b] s) (F0 m pc ls [.int 1]) := by
  intro T hT X
  obtain ⟨fs, hret, hrun, hended, hW, hframe⟩ := X.leave (v := some (.int 1)) (hlocks := hlocks) (fun h => by rw [hr] at h; cases h)
  have hmeth' : T.vm.method? m = some meth := X.method'
  refine ⟨T.setFrames fs, ?_, .returned (some (.int 1)), hrun, hended, rfl, ⟨_, rfl⟩, hW, hframe⟩
  jvm_step X.here [X.here.top, hx, hb, hdg, hmeth', hr, ret, narrow_b1]
  (try refine ⟨rfl, ?_⟩); (try refine ⟨rfl, ?_⟩)
  first | (intro acts; rw [hret _ acts rfl rfl rfl]) | rw [hret _ _ rfl rfl rfl]
  exact Steps.refl _
/-- what holds at the law's entry: the machine, the code, the tables' words (any of lw_tbl by 'hts w (by decide +kernel)'), the script of L ints xs at the cell b, what the Statement gives of the start (any of its parts by flat_of_before) -/
def lw_At (p : Program) (s : State) (m : MethodId) (meth : Method) (c : Code) (b L : Nat) (xs : Nat → Int32) : Prop :=
  p.tables.exec = Jvm.exec ∧ c.code = code ∧ meth.sig.returnType = ret ∧ c.maxLocals = 4 ∧ s.vm.findClass R_law = some m.cls ∧ (∀ w ∈ lw_tbl, w.before #[Value.ref b] s = true) ∧ va_X b L xs s s.heap ∧ b < s.heap.size ∧ meth.locks = false ∧ (Jvm.Cond.and given_1 narrow_1).before #[Value.ref b] s = true
/-! ===== the law: what it knows at its start ===== -/
theorem inst_in : ∀ (ci : Nat) (r : vw_C), vwCl[ci]? = some r → Cond.instantiable r.1 r.2.2 ∈ wt
  | 0, _, h => by cases h; exact wt_of (by decide +kernel) rfl
  | 1, _, h => by cases h; exact wt_of (by decide +kernel) rfl
  | 2, _, h => by cases h; exact wt_of (by decide +kernel) rfl
  | 3, _, h => by cases h; exact wt_of (by decide +kernel) rfl
  | 4, _, h => by cases h; exact wt_of (by decide +kernel) rfl
  | 5, _, h => by cases h; exact wt_of (by decide +kernel) rfl
  | 6, _, h => by cases h; exact wt_of (by decide +kernel) rfl
  | 7, _, h => by cases h; exact wt_of (by decide +kernel) rfl
  | 8, _, h => by cases h; exact wt_of (by decide +kernel) rfl
  | _ + 9, _, h => by simp [vwCl] at h
theorem kn_start {s : State} {A : Array Value} (hts : ∀ w ∈ lw_tbl, w.before A s = true) : ∃ (dC : Nat → ClassId) (dI : Nat → Nat → Nat) (cA : FieldType → ClassId), Kn dC dI cA s := by
  have hw : ∀ w ∈ wt, w.before A s = true := fun w h => hts w (List.mem_filter.mp h).1
  have hn : ∀ w ∈ wt, va_Nw w s := fun w h => by
    rcases wd_cases (wd_all w h) with g | ⟨a, i, x, hh, rfl⟩ | ⟨C, rfl⟩
    · exact word_at (State.WarmedH.refl s) (good_of_word g) (hw w h)
    · exact va_Nw.of rfl (hw _ h)
    · exact va_AO.of (hw _ h)
  have cl : ∀ c : Nat, ∃ (q : ClassId × (Nat → Nat)), ∀ r : vw_C, vwCl[c]? = some r → u_Kn s r.1 r.2.1 r.2.2 q.1 q.2 := fun c => by
    cases e : vwCl[c]? with
    | none => exact ⟨(0, fun _ => 0), fun r h => by cases h⟩
    | some r =>
      have hi : Cond.instantiable r.1 r.2.2 ∈ wt := inst_in c r e
      obtain ⟨cC, iS, h⟩ := u_known (N := r.2.2) hw (cl_spec c r e).1 (hw _ hi)
      exact ⟨(cC, iS), fun r' h' => by cases h'; exact h⟩
  obtain ⟨a1, a2, a3, a4⟩ := arr_in
  obtain ⟨c1, k1, m1, f1, g1, h1⟩ := Cond.arrayClass_spec (hw _ a1)
  obtain ⟨c2, k2, m2, f2, g2, h2⟩ := Cond.arrayClass_spec (hw _ a2)
  obtain ⟨c3, k3, m3, f3, g3, h3⟩ := Cond.arrayClass_spec (hw _ a3)
  obtain ⟨m4, c4, k4, e4, -, g4, h4, f4⟩ := Cond.arrayOver_spec (hw _ a4)
  refine ⟨fun c => (Classical.choose (cl c)).1, fun c => (Classical.choose (cl c)).2, fun t => match t with | .int => c1 | .byte => c2 | .boolean => c3 | _ => c4, ⟨fun c q hq => Classical.choose_spec (cl c) q hq, fun k q hk => ?_⟩, hn⟩
  match k, hk with
  | 0, hk => cases hk; exact ⟨fun N z => ⟨(fun k h => by cases h), k1, g1, m1, h1⟩, f1⟩
  | 1, hk => cases hk; exact ⟨fun N z => ⟨(fun k h => by cases h), k2, g2, m2, h2⟩, f2⟩
  | 2, hk => cases hk; exact ⟨fun N z => ⟨(fun k h => by cases h), k3, g3, m3, h3⟩, f3⟩
  | 3, hk => cases hk; exact ⟨fun N z => ⟨(fun k h => by cases h), k4, g4, m4, h4⟩, k4, m4, g4, h4, e4, f4⟩
  | k + 4, hk => simp [tyL] at hk
