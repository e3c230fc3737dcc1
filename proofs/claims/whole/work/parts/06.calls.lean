/-! ===== every instruction of the machine is sound ===== -/
theorem hd_of {b : ByteArray} {pc nx n : Nat} {i : Instr} (h : decode b pc = .ok (i, nx - pc)) (hnx : pc + n = nx) : decode b pc = .ok (i, n) := by
  rw [h, ← hnx, Nat.add_sub_cancel_left]
theorem ite_F {c : Prop} [Decidable c] {A : Prop} (h : if c then False else A) : ¬ c ∧ A := by
  by_cases hc : c
  · rw [if_pos hc] at h; exact h.elim
  · rw [if_neg hc] at h; exact ⟨hc, h⟩
theorem ite_T {c : Prop} [Decidable c] {A : Prop} (h : if c then A else False) : c ∧ A := by
  by_cases hc : c
  · rw [if_pos hc] at h; exact ⟨hc, h⟩
  · rw [if_neg hc] at h; exact h.elim
theorem st_split {ρ : Nat → Nat} (st : List Value) (n : Nat) : st.map (mp ρ) = ((st.take n).reverse.map (mp ρ)).reverse ++ (st.drop n).map (mp ρ) := by
  rw [← List.map_reverse, List.reverse_reverse, ← List.map_append, List.take_append_drop]
theorem mapIdx_set_at {fs : List Value} {ρ : Nat → Nat} {M M' : AM} {L L' : AL} {a j : Nat} {v w : Value} (hv : fk ρ M' L' a j w = v) (hne : ∀ j', j' ≠ j → ∀ x, fk ρ M' L' a j' x = fk ρ M L a j' x) (hj : j < fs.length) : (fs.mapIdx (fk ρ M L a)).set j v = (fs.set j w).mapIdx (fk ρ M' L' a) := by
  apply List.ext_getElem?
  intro j'
  by_cases h : j' = j
  · subst h
    rw [List.getElem?_set_self (by simpa using hj), List.getElem?_mapIdx, List.getElem?_set_self hj]
    simp [hv]
  · rw [List.getElem?_set_ne (Ne.symm h), List.getElem?_mapIdx, List.getElem?_mapIdx, List.getElem?_set_ne (Ne.symm h)]
    cases fs[j']? with
    | none => rfl
    | some x => simp [hne j' h x]
theorem fk_um_ne {ρ : Nat → Nat} {M : AM} {L : AL} {a j j' : Nat} {x : Int32} (h : j' ≠ j) (v : Value) : fk ρ (um M a j x) L a j' v = fk ρ M L a j' v := by
  cases v <;> simp [fk, fkA, um_at, nbeq_ne h]
theorem fk_ul_ne {ρ : Nat → Nat} {M : AM} {L : AL} {a j j' : Nat} {x : Int64} (h : j' ≠ j) (v : Value) : fk ρ M (ul L a j x) a j' v = fk ρ M L a j' v := by
  cases v <;> simp [fk, fkA, ul_at, nbeq_ne h]
section SF
variable {p : Program} {l : Launch} {e : Env} {s : State} {m : MethodId} {args : Array Value} {below : List Frame} {meth : Method} {c : Code} {dC : Nat → ClassId} {dI : Nat → Nat → Nat} {cA : FieldType → ClassId} {ρ : Nat → Nat}
/-- behind a call -/
theorem call_back {E : ME} {d mc n0 mc' pc u : Nat} {Q : QT} {k : KT} {ls : Array Slot} {H : Heap} {locs : List Loc} {lv : LV} {S : AS} {M : AM} {L : AL} {st0 rest : List Value} {a : Array Value} (hk : ∀ pc lv st S M L u, k pc lv st S M L u → AW E d mc n0 Q pc lv st S M L u)
    (hC : Cx E mc n0 p s m args meth c dC dI cA ρ) (hR : Rl E mc n0 s dC dI cA ρ ls H locs lv S M L u) (hu : u + mc' ≤ mc)
    (hr : va_Run p l e (Rm d mc) s m args below meth c H locs u (1200 * u) mc' (1200 * mc') (F0 m pc ls st0) (rest.map (mp ρ)) (CQ dC dI cA ρ H.size S.length (fun r S' M' L' => k (pc + 3) lv (r.toList ++ rest) S' M' L' (u + mc')) a) (AA S.length ρ H.size)) :
    W p l e (Rm d mc) s m args below meth c H locs u (1200 * u) (MQ below (CQ dC dI cA ρ s.heap.size n0 Q) args s mc (1200 * mc) (AA n0 ρ s.heap.size)) (F0 m pc ls st0) := by
  obtain ⟨hl, hP, hD, hS, h1, h2, -⟩ := hR
  refine cq_call hr hS (AA_sub hD hS.1) fun r S' M' L' H1 locs1 hq hle hsz hP1 hD1 hS1 => ?_
  have e1 : 1200 * u + 1200 * mc' = 1200 * (u + mc') := by omega
  have e2 : (r.map (mp ρ)).toList ++ rest.map (mp ρ) = (r.toList ++ rest).map (mp ρ) := by
    cases r <;> simp
  rw [e1, e2]
  exact hk _ _ _ _ _ _ _ hq p l e s m args below meth c dC dI cA ρ hC ls H1 locs1 ⟨hl, hP1, hD1, hS1, by omega, by omega, hu⟩
theorem call_pre {E : ME} {mc n0 mc' u : Nat} {ls : Array Slot} {H : Heap} {locs : List Loc} {lv : LV} {S : AS} {M : AM} {L : AL} {as : List Value} (hC : Cx E mc n0 p s m args meth c dC dI cA ρ) (hR : Rl E mc n0 s dC dI cA ρ ls H locs lv S M L u) (hu : u + mc' ≤ mc) (U : State) (hU : U.heap = H) (hW : s.WarmedH U.vm) : CP dC dI cA ρ H.size mc' S M L as (as.map (mp ρ)).toArray U := by
  obtain ⟨hl, hP, hD, hS, h1, h2, -⟩ := hR
  refine ⟨rfl, by rw [hU], Kn.moved hW hC.2.2.2.2.2.2.2.1, by rw [hU]; exact hP, hD.weaken (fun _ _ _ _ => trivial), fun h j => ?_⟩
  have := hC.2.2.2.2.2.2.2.2 (by omega) (S.length - n0 + j)
  rw [show n0 + (S.length - n0 + j) = S.length + j by omega] at this
  rw [this]
  omega
theorem call_static {E E' : ME} {d mc n0 mc' pc u x : Nat} {nest : Bool} {Q : QT} {k : KT} {ls : Array Slot} {H : Heap} {locs : List Loc} {lv : LV} {S : AS} {M : AM} {L : AL} {st : List Value} (hk : ∀ pc lv st S M L u, k pc lv st S M L u → AW E d mc n0 Q pc lv st S M L u)
    (hC : Cx E mc n0 p s m args meth c dC dI cA ρ) (hR : Rl E mc n0 s dC dI cA ρ ls H locs lv S M L u) (hdg : decode (mB E) pc = .ok (.invokestatic x, 3)) (hm : mres (mO E) x = some (E', nest, mc')) (hs : mS E' = true) (h : doCall E' mc' d mc k (pc + 3) lv st S M L u) :
    W p l e (Rm d mc) s m args below meth c H locs u (1200 * u) (MQ below (CQ dC dI cA ρ s.heap.size n0 Q) args s mc (1200 * mc) (AA n0 ρ s.heap.size)) (F0 m pc ls (st.map (mp ρ))) := by
  unfold doCall at h
  cases d with
  | zero => exact h.elim
  | succ d' =>
    dsimp only at h
    rw [hs] at h
    obtain ⟨hb, hcw⟩ := bifF h
    simp only [cond_true, Nat.add_zero, Bool.and_eq_true, Nat.ble_eq] at hb hcw
    obtain ⟨⟨b1, b2⟩, b3⟩ := hb
    obtain ⟨hE', hM⟩ := hcw
    obtain ⟨hx, hbb, hr, hml, hown, hlk, hnm, hK, hgr⟩ := id hC
    have hts := hK.wd args
    obtain ⟨t1, t2, t3, t4, t5, t6, t7, t8⟩ := tbE_spec hE'
    obtain ⟨l1, l2⟩ := mres_spec hm
    have hlen : ((st.take (mP E')).reverse.map (mp ρ)).length = mP E' := by simp; omega
    have hroom : 2 * (F0 m pc ls (st.map (mp ρ))).monitorRoom + (((st.drop (mP E')).map (mp ρ)).map fun v => v.category).sum ≤ 8 := by
      have := map_mp_cat (ρ := ρ) (st.drop (mP E')) (by simp; omega)
      show 2 * 0 + _ ≤ 8
      omega
    cases nest with
    | false => exact call_back hk hC hR b3 (va_runS (Ts := wt) ⟨hx, hbb, hml, hown, hts⟩ (hM l dC dI cA ρ H.size) ⟨call_cb hts hE' (l2 rfl), hts _ (t6 hs)⟩ ⟨cp_blind, fun U hU hW => call_pre hC hR b3 U hU hW⟩ rfl hlen hR.1.1 (st_split st (mP E')) hroom hdg ⟨b3, by show 1200 * u + 1200 * mc' ≤ 1200 * mc; omega⟩)
    | true => exact call_back hk hC hR b3 (va_runSN (Ts := wt) ⟨hx, hbb, hml, hown, hts⟩ (hM l dC dI cA ρ H.size) ⟨call_cn hK hE' (l1 rfl), hts _ (t6 hs), trivial⟩ ⟨cp_blind, fun U hU hW => call_pre hC hR b3 U hU hW⟩ rfl hlen hR.1.1 (st_split st (mP E')) hroom hdg ⟨b3, by show 1200 * u + 1200 * mc' ≤ 1200 * mc; omega⟩)
theorem take_recv {st : List Value} {n a : Nat} (h : st[n]? = some (.ref a)) : (st.take (n + 1)).reverse = .ref a :: (st.take n).reverse := by
  rw [List.take_add_one, h]
  simp
theorem st_recv {ρ : Nat → Nat} {st : List Value} {n a : Nat} (h : st[n]? = some (.ref a)) : st.map (mp ρ) = ((st.take n).reverse.map (mp ρ)).reverse ++ .ref (ρ a) :: (st.drop (n + 1)).map (mp ρ) := by
  have h1 := st_split (ρ := ρ) st (n + 1)
  rw [take_recv h] at h1
  rw [h1]
  simp [mp]
theorem call_inst {E E' : ME} {d mc n0 mc' pc u x : Nat} {nest : Bool} {Q : QT} {k : KT} {ls : Array Slot} {H : Heap} {locs : List Loc} {lv : LV} {S : AS} {M : AM} {L : AL} {st : List Value} (hk : ∀ pc lv st S M L u, k pc lv st S M L u → AW E d mc n0 Q pc lv st S M L u)
    (hC : Cx E mc n0 p s m args meth c dC dI cA ρ) (hR : Rl E mc n0 s dC dI cA ρ ls H locs lv S M L u) (hdg : (decode (mB E) pc = .ok (.invokevirtual x, 3) ∧ (mN E').name ≠ "<init>") ∨ (decode (mB E) pc = .ok (.invokespecial x, 3) ∧ (mN E').name = "<init>" ∧ mR E' = none)) (hm : mres (mO E) x = some (E', nest, mc')) (hs : mS E' = false) (h : recvOk E' st S (doCall E' mc' d mc k (pc + 3) lv st S M L u)) :
    W p l e (Rm d mc) s m args below meth c H locs u (1200 * u) (MQ below (CQ dC dI cA ρ s.heap.size n0 Q) args s mc (1200 * mc) (AA n0 ρ s.heap.size)) (F0 m pc ls (st.map (mp ρ))) := by
  unfold recvOk at h
  split at h
  next a ha =>
    obtain ⟨ci, fs, hSa, h⟩ := objAt_inv h
    obtain ⟨hci, h⟩ := bifF h
    have hci : ci = mO E' := Nat.eq_of_beq_eq_true hci
    unfold doCall at h
    cases d with
    | zero => exact h.elim
    | succ d' =>
      dsimp only at h
      rw [hs] at h
      obtain ⟨hb, hcw⟩ := bifF h
      simp only [cond_false, Bool.and_eq_true, Nat.ble_eq] at hb hcw
      obtain ⟨⟨b1, b2⟩, b3⟩ := hb
      rw [take_recv ha] at hcw
      obtain ⟨hE', hM⟩ := hcw
      obtain ⟨hx, hbb, hr, hml, hown, hlk, hnm, hK, hgr⟩ := id hC
      have hts := hK.wd args
      obtain ⟨t1, t2, t3, t4, t5, t6, t7, t8⟩ := tbE_spec hE'
      obtain ⟨l1, l2⟩ := mres_spec hm
      have hlen : ((st.take (mP E')).reverse.map (mp ρ)).length = mP E' := by simp; omega
      have hroom : 2 * (F0 m pc ls (st.map (mp ρ))).monitorRoom + (((st.drop (mP E' + 1)).map (mp ρ)).map fun v => v.category).sum ≤ 8 := by
        have := map_mp_cat (ρ := ρ) (st.drop (mP E' + 1)) (by simp; omega)
        show 2 * 0 + _ ≤ 8
        omega
      have hrv : ∃ cellB : Cell, H[ρ a]? = some cellB ∧ cellB.vm.isStatics = false ∧ s.vm.findClass (mN E').cls = some cellB.cls := by
        have hat : (wo cA ρ S M L)[a]? = some (ρ a, .inr (ci, fs.mapIdx (fk ρ M L a))) := wo_at hSa
        have hv := hR.2.1 a _ hat
        obtain ⟨q, hq, -⟩ := hv
        have := va_recv hK.1 hR.2.1 hq hat
        rw [cl_own ci q hq, hci, ← t1] at this
        exact this
      have hpre : ∀ U : State, U.heap = H → s.WarmedH U.vm → CP dC dI cA ρ H.size mc' S M L (.ref a :: (st.take (mP E')).reverse) (Value.ref (ρ a) :: (st.take (mP E')).reverse.map (mp ρ)).toArray U := fun U hU hW => call_pre hC hR b3 U hU hW
      rcases hdg with ⟨hdg, hnn⟩ | ⟨hdg, hnn, hrt⟩
      · cases nest with
        | false => exact call_back hk hC hR b3 (va_runV (Ts := wt) ⟨hx, hbb, hml, hown, hts⟩ (hM l dC dI cA ρ H.size) ⟨call_cb hts hE' (l2 rfl), hts _ (t7 hs).1, hts _ ((t7 hs).2 hnn)⟩ ⟨cp_blind, hrv, hpre⟩ rfl hlen hR.1.1 (st_recv ha) hroom hdg ⟨b3, by show 1200 * u + 1200 * mc' ≤ 1200 * mc; omega⟩)
        | true => exact call_back hk hC hR b3 (va_runVN (Ts := wt) ⟨hx, hbb, hml, hown, hts⟩ (hM l dC dI cA ρ H.size) ⟨call_cn hK hE' (l1 rfl), hts _ (t7 hs).1, hts _ ((t7 hs).2 hnn)⟩ ⟨cp_blind, hrv, hpre⟩ rfl hlen hR.1.1 (st_recv ha) hroom hdg ⟨b3, by show 1200 * u + 1200 * mc' ≤ 1200 * mc; omega⟩)
      · cases nest with
        | false =>
          have hcb := call_cb (d' := d') (mc := mc) (mc' := mc') hts hE' (l2 rfl)
          rw [hrt] at hcb hM
          exact call_back hk hC hR b3 (va_runI (Ts := wt) ⟨hx, hbb, hml, hown, hts⟩ (hM l dC dI cA ρ H.size) ⟨hcb, hnn, hts _ (t7 hs).1⟩ ⟨cp_blind, hpre⟩ rfl hlen hR.1.1 (st_recv ha) hroom hdg ⟨b3, by show 1200 * u + 1200 * mc' ≤ 1200 * mc; omega⟩)
        | true =>
          have hcb := call_cn (args := args) (d' := d') (mc := mc) (mc' := mc') hK hE' (l1 rfl)
          rw [hrt] at hcb hM
          exact call_back hk hC hR b3 (va_runIN (Ts := wt) ⟨hx, hbb, hml, hown, hts⟩ (hM l dC dI cA ρ H.size) ⟨hcb, hnn, hts _ (t7 hs).1⟩ ⟨cp_blind, hpre⟩ rfl hlen hR.1.1 (st_recv ha) hroom hdg ⟨b3, by show 1200 * u + 1200 * mc' ≤ 1200 * mc; omega⟩)
  next => exact h.elim
end SF
