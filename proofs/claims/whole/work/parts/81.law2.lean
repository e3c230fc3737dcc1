/-! ===== the law: its calls ===== -/
def rhoL (z k : Nat) : Nat := z + k
def AL0 (s : State) : Nat → Prop := AA 0 (rhoL s.heap.size) s.heap.size
theorem AL0_iff {s : State} {q : Nat} : AL0 s q ↔ s.heap.size ≤ q := by
  unfold AL0 AA
  constructor
  · rintro (⟨k, hk, -⟩ | h)
    · exact absurd hk (Nat.not_lt_zero k)
    · exact h
  · exact Or.inr
section LW
variable {p : Program} {l : Launch} {e : Env} {s : State} {m : MethodId} {args : Array Value} {below : List Frame} {meth : Method} {c : Code} {dC : Nat → ClassId} {dI : Nat → Nat → Nat} {cA : FieldType → ClassId} {Qd : State → Prop}
/-- how the heap stands between two instructions of the law -/
def LH (s : State) (dC : Nat → ClassId) (dI : Nat → Nat → Nat) (cA : FieldType → ClassId) (S : AS) (M : AM) (L : AL) (H : Heap) (locs : List Loc) : Prop := va_P (dC, dI) vwCl (wo cA (rhoL s.heap.size) S M L) H ∧ va_D (AL0 s) (wo cA (rhoL s.heap.size) S M L) ∧ va_S (AL0 s) s.heap H locs ∧ H.size = s.heap.size + S.length
theorem lw_cb {E' : ME} {x mc' : Nat} (hts : ∀ w ∈ wt, w.before args s = true) (hE : tb_E E' = true) (hl : Cond.methodLink (ownN 9) x (mN E') ∈ wt) : CallB room_1 s args (ownN 9) x (mN E') (mB E') (mL E') (mR E') [Cond.code (mN E') (mB E') (mL E') (mR E')] (Rm 30 mc') mc' (1200 * mc') (mP E') := by
  obtain ⟨h1, h2, h3, h4, h5, h6, h7, h8⟩ := tbE_spec hE
  exact callB_of (Ts := wt) (mP E') hts (fun w hw => by rw [List.mem_singleton.mp hw]; exact ⟨h4, good_code _ _ _ _⟩) rfl rfl rfl (hts _ h5) (hts _ hl) h2 ⟨by show 30 + 1 ≤ 2048; decide, by show 8 + (mL E' + 11) + 64 * 30 ≤ 84000; omega⟩
theorem lw_pre {S : AS} {M : AM} {L : AL} {H : Heap} {locs : List Loc} {mc' : Nat} {as : List Value} (hK : Kn dC dI cA s) (hH : LH s dC dI cA S M L H locs) (U : State) (hU : U.heap = H) (hW : s.WarmedH U.vm) : CP dC dI cA (rhoL s.heap.size) H.size mc' S M L as (as.map (mp (rhoL s.heap.size))).toArray U := by
  obtain ⟨hP, hD, hS, hz⟩ := hH
  refine ⟨rfl, by rw [hU], Kn.moved hW hK, by rw [hU]; exact hP, hD.weaken (fun _ _ _ _ => trivial), fun h j => ?_⟩
  unfold rhoL
  omega
theorem lw_recv {S : AS} {M : AM} {L : AL} {H : Heap} {locs : List Loc} {a ci : Nat} {sh' : Sh} {fs : List Value} {r : vw_C} (hK : Kn dC dI cA s) (hH : LH s dC dI cA S M L H locs) (h1 : S[a]? = some sh') (h2 : eqC sh' (.inl (ci, fs))) (hr : vwCl[ci]? = some r) : ∃ cellB : Cell, H[rhoL s.heap.size a]? = some cellB ∧ cellB.vm.isStatics = false ∧ s.vm.findClass r.1 = some cellB.cls := by
  have hv := hH.1 a _ (wo_at h1)
  have hv2 := h2 cA (rhoL s.heap.size) M L a _ _ _ _ hv
  have hP : va_P (dC, dI) vwCl [(rhoL s.heap.size a, .inr (ci, fs.mapIdx (fk (rhoL s.heap.size) M L a)))] H := by
    intro k q hk
    have hz : k < 1 := (List.getElem?_eq_some_iff.mp hk).1
    rw [show k = 0 by omega] at hk
    cases hk
    exact hv2
  exact va_recv (q0 := 0) hK.1 hP hr rfl
/-- a call of the law on one of its two objects -/
theorem lw_call {E' : ME} {x pc cells slots a ci : Nat} {S : AS} {M : AM} {L : AL} {H : Heap} {locs : List Loc} {Q : QT} {ls : Array Slot} {as rest : List Value} {st0 : List Value} {sh' : Sh} {fs : List Value} (hx : p.tables.exec = Jvm.exec) (hb : c.code = code) (hml : c.maxLocals = 4) (hown : s.vm.findClass R_law = some m.cls) (hK : Kn dC dI cA s) (hls : ls.size = 4) (hH : LH s dC dI cA S M L H locs) (hcw : CW E' 30 0 (.ref a :: as) S M L Q) (has : as.map (mp (rhoL s.heap.size)) = as) (h1 : S[a]? = some sh') (h2 : eqC sh' (.inl (ci, fs))) (hci : mO E' = ci ∧ ci < 9)
    (hdg : decode code pc = .ok (.invokevirtual x, 3)) (hm : mres 9 x = some (E', false, 0)) (hs : mS E' = false) (hnn : (mN E').name ≠ "<init>") (hlen : as.length = mP E') (hst : st0 = as.reverse ++ .ref (rhoL s.heap.size a) :: rest) (hrest : (rest.map fun v => v.category).sum ≤ 8) (hc : cells ≤ 600000 ∧ slots ≤ 7302250)
    (kk : ∀ r S' M' L' H1 locs1, Q r S' M' L' → LH s dC dI cA S' M' L' H1 locs1 → W p l e room_1 s m args below meth c H1 locs1 cells slots Qd (F0 m (pc + 3) ls ((r.map (mp (rhoL s.heap.size))).toList ++ rest))) : W p l e room_1 s m args below meth c H locs cells slots Qd (F0 m pc ls st0) := by
  obtain ⟨hE', hM⟩ := hcw
  have hts := hK.wd args
  obtain ⟨t1, t2, t3, t4, t5, t6, t7, t8⟩ := tbE_spec hE'
  obtain ⟨l1, l2⟩ := mres_spec hm
  obtain ⟨r, hr⟩ : ∃ r : vw_C, vwCl[ci]? = some r := ⟨_, List.getElem?_eq_getElem (show ci < vwCl.length from hci.2)⟩
  have hrv := lw_recv hK hH h1 h2 hr
  rw [cl_own ci r hr, ← hci.1, ← t1] at hrv
  have hpre : ∀ U : State, U.heap = H → s.WarmedH U.vm → CP dC dI cA (rhoL s.heap.size) H.size 0 S M L (.ref a :: as) (Value.ref (rhoL s.heap.size a) :: as).toArray U := fun U hU hW => by
    have := lw_pre (mc' := 0) (as := .ref a :: as) hK hH U hU hW
    rw [List.map_cons, has] at this
    exact this
  have hrun := va_runV (p := p) (l := l) (e := e) (R := room_1) (s := s) (m := m) (args := args) (below := below) (meth := meth) (c := c) (H := H) (locs := locs) (cells := cells) (slots := slots) (Ts := wt) (own := ownN 9) (cc := code) (nL := 4) (b := rhoL s.heap.size a) (As := as) (rest := rest) (g := F0 m pc ls st0) (index := x) ⟨hx, hb, hml, hown, hts⟩ (hM l dC dI cA (rhoL s.heap.size) H.size) ⟨lw_cb hts hE' (l2 rfl), hts _ (t7 hs).1, hts _ ((t7 hs).2 hnn)⟩ ⟨cp_blind, hrv, hpre⟩ rfl hlen hls hst (by show 2 * 0 + _ ≤ 8; omega) hdg ⟨hc.1, by show slots + 1200 * 0 ≤ 7302250; omega⟩
  obtain ⟨hP, hD, hS, hz⟩ := id hH
  refine cq_call hrun hS (AA_sub hD hS.1) fun r S' M' L' H1 locs1 hq hle hsz hP1 hD1 hS1 => ?_
  exact kk r S' M' L' H1 locs1 hq ⟨hP1, hD1, hS1, by omega⟩
/-- a new object of the law -/
theorem lw_new {x pc cells slots ci : Nat} {S : AS} {M : AM} {L : AL} {H : Heap} {locs : List Loc} {ls : Array Slot} {rest : List Value} (hx : p.tables.exec = Jvm.exec) (hb : c.code = code) (hown : s.vm.findClass R_law = some m.cls) (hK : Kn dC dI cA s) (hH : LH s dC dI cA S M L H locs) (hz : zr M L S.length) (hdg : decode code pc = .ok (.new x, 3)) (hn : nres 9 x = some ci) (hc : cells + 1 ≤ 600000 ∧ slots + 1200 ≤ 7302250)
    (kk : ∀ H1, LH s dC dI cA (S ++ [.inl (ci, dfl ci)]) M L H1 locs → W p l e room_1 s m args below meth c H1 locs (cells + 1) (slots + 1200) Qd (F0 m (pc + 3) ls (.ref (rhoL s.heap.size S.length) :: rest))) : W p l e room_1 s m args below meth c H locs cells slots Qd (F0 m pc ls rest) := by
  obtain ⟨hP, hD, hS0, hsz⟩ := hH
  have hts := hK.wd args
  obtain ⟨w, hr1, c1, c2, c3⟩ := nres_spec hn
  obtain ⟨k1, k2, k3⟩ := cl_spec ci w hr1
  obtain ⟨n1, n2, n3⟩ := cl_dv ci w hr1
  have hKn := hK.1.1 ci _ hr1
  refine W.newcK hx hb hown (hts _ c1) (hts _ c2) (hts _ c3) rfl hdg hc.1 (by show slots + w.2.2 ≤ 7302250; omega) hKn.2.1 rfl fun H1 kC hkC e1 z1 o1 => ?_
  have hρ : rhoL s.heap.size S.length = H.size := by unfold rhoL; omega
  have hk : ∀ (k : Nat) (x : Nat × va_E), (wo cA (rhoL s.heap.size) S M L)[k]? = some x → H1[x.1]? = H[x.1]? := fun k x hx => o1 x.1 ((hP k x hx).lt)
  have he : va_at (dC, dI) vwCl (H.size, cv cA (rhoL s.heap.size) M L S.length (.inl (ci, dfl ci))) H1 := ⟨_, hr1, (u_born (tyF ci) hts k1 hKn hkC e1 k2).to (fun j hj => by
    rw [dv_ok (ρ := rhoL s.heap.size) (j := j) hz (n3 j hj)]
    simp [vp_V, dfl, n1, List.getElem?_mapIdx, hj])⟩
  have hP1 : va_P (dC, dI) vwCl (wo cA (rhoL s.heap.size) (S ++ [.inl (ci, dfl ci)]) M L) H1 := by
    rw [wo_push]
    refine (hP.kept hk).app (fun k x hx => ?_)
    have hz : k < 1 := (List.getElem?_eq_some_iff.mp hx).1
    rw [show k = 0 by omega] at hx
    cases hx
    rw [hρ]
    exact he
  have hD1 : va_D (AL0 s) (wo cA (rhoL s.heap.size) (S ++ [.inl (ci, dfl ci)]) M L) := by
    rw [wo_push]
    exact hD.push hP hρ (by rw [hρ]; exact Or.inr hS0.1)
  refine W.widen (k := cells + 1) (n := slots + 1200) (Nat.le_refl _) (by omega) ?_
  have k0 := kk H1 ⟨hP1, hD1, ⟨Nat.le_trans hS0.1 (by omega), fun x g1 g2 => (o1 x (Nat.lt_of_lt_of_le g1 hS0.1)).trans (hS0.2.1 x g1 g2), hS0.2.2⟩, by simp; omega⟩
  rw [hρ] at k0
  exact k0
/-- a constructor -/
theorem lw_init {E' : ME} {x pc cells slots a d' mc' : Nat} {S : AS} {M : AM} {L : AL} {H : Heap} {locs : List Loc} {Q : QT} {ls : Array Slot} {rest : List Value} (hx : p.tables.exec = Jvm.exec) (hb : c.code = code) (hml : c.maxLocals = 4) (hown : s.vm.findClass R_law = some m.cls) (hK : Kn dC dI cA s) (hls : ls.size = 4) (hH : LH s dC dI cA S M L H locs) (hcw : CW E' 30 mc' [.ref a] S M L Q) (hdg : decode code pc = .ok (.invokespecial x, 3)) (hm : mres 9 x = some (E', false, mc')) (hs : mS E' = false) (hnn : (mN E').name = "<init>") (hrt : mR E' = none) (hp0 : mP E' = 0) (hrest : (rest.map fun v => v.category).sum ≤ 8) (hc : cells + mc' ≤ 600000 ∧ slots + 1200 * mc' ≤ 7302250)
    (kk : ∀ r S' M' L' H1 locs1, Q r S' M' L' → LH s dC dI cA S' M' L' H1 locs1 → W p l e room_1 s m args below meth c H1 locs1 (cells + mc') (slots + 1200 * mc') Qd (F0 m (pc + 3) ls ((r.map (mp (rhoL s.heap.size))).toList ++ rest))) : W p l e room_1 s m args below meth c H locs cells slots Qd (F0 m pc ls (.ref (rhoL s.heap.size a) :: rest)) := by
  obtain ⟨hE', hM⟩ := hcw
  have hts := hK.wd args
  obtain ⟨t1, t2, t3, t4, t5, t6, t7, t8⟩ := tbE_spec hE'
  obtain ⟨l1, l2⟩ := mres_spec hm
  have hpre : ∀ U : State, U.heap = H → s.WarmedH U.vm → CP dC dI cA (rhoL s.heap.size) H.size mc' S M L [.ref a] (Value.ref (rhoL s.heap.size a) :: []).toArray U := fun U hU hW => lw_pre (mc' := mc') (as := [.ref a]) hK hH U hU hW
  have hcb := lw_cb (args := args) (mc' := mc') hts hE' (l2 rfl)
  rw [hrt] at hcb hM
  have hrun := va_runI (p := p) (l := l) (e := e) (R := room_1) (s := s) (m := m) (args := args) (below := below) (meth := meth) (c := c) (H := H) (locs := locs) (cells := cells) (slots := slots) (Ts := wt) (own := ownN 9) (cc := code) (nL := 4) (b := rhoL s.heap.size a) (As := []) (rest := rest) (g := F0 m pc ls (.ref (rhoL s.heap.size a) :: rest)) (index := x) ⟨hx, hb, hml, hown, hts⟩ (hM l dC dI cA (rhoL s.heap.size) H.size) ⟨hcb, hnn, hts _ (t7 hs).1⟩ ⟨cp_blind, hpre⟩ rfl hp0.symm hls rfl (by show 2 * 0 + _ ≤ 8; omega) hdg hc
  obtain ⟨hP, hD, hS, hz⟩ := id hH
  refine cq_call hrun hS (AA_sub hD hS.1) fun r S' M' L' H1 locs1 hq hle hsz hP1 hD1 hS1 => ?_
  exact kk r S' M' L' H1 locs1 hq ⟨hP1, hD1, hS1, by omega⟩
/-- one word of the script -/
theorem law_ld {b L pc i j cells slots : Nat} {jz : Int} {xs : Nat → Int32} {H : Heap} {locs : List Loc} {ls : Array Slot} {h1 h2 : Nat} {rest : List Value} (hx : p.tables.exec = Jvm.exec) (hb : c.code = code) (hX : va_X b L xs s s.heap) (hbl : b < s.heap.size) (hS : va_S (AL0 s) s.heap H locs) (hl : lv_has ls 4 [(3, .int (nI (4 * i))), (2, .ref h2), (1, .ref h1), (0, .ref b)]) (hL : L ≤ 256) (hij : 4 * i + j < L) (d0 : decode code pc = .ok (.aload_n 0, 1)) (d1 : decode code (pc + 1) = .ok (.iload_n 3, 1)) (d2 : decode code (pc + 2) = .ok (.iconst jz, 1)) (hj : Int32.ofInt jz = nI j) (d3 : decode code (pc + 3) = .ok (.iadd, 1)) (d4 : decode code (pc + 4) = .ok (.iaload, 1))
    (k : W p l e room_1 s m args below meth c H locs cells slots Qd (F0 m (pc + 5) ls (.int (xs (4 * i + j)) :: rest))) : W p l e room_1 s m args below meth c H locs cells slots Qd (F0 m pc ls rest) := by
  refine lv_aload_n hx hb d0 rfl (lv_at hl 3 rfl) ?_
  refine lv_iload_n hx hb d1 rfl (lv_at hl 0 rfl) ?_
  refine lv_iconst hx hb d2 hj ?_
  refine lv_iadd hx hb d3 ?_
  have e1 : nI (4 * i) + nI j = nI (4 * i + j) := nI_add _ _
  rw [e1]
  refine va_sld hx hb hX hbl (fun h => by have := AL0_iff.mp h; omega) hS (nI_in hij (by omega)) d4 ?_
  rw [nI_clamp (by omega)]
  exact k
end LW
theorem tst1 : mres 9 13 = some (E7_type, false, 0) := rfl
theorem tst2 : nres 9 7 = some 7 := rfl
theorem tst3 : mres 9 9 = some (E7_init, false, 234) := rfl
