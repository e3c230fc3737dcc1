/-! ===== the law: from its start to its end ===== -/
theorem whole_start {p : Program} {e : Env} {s : State} {m : MethodId} {below : List Frame} {meth : Method} {c : Code} (l : Launch) {b L : Nat} {xs : Nat → Int32} (hL : L ≤ 256) (C0 : lw_At p s m meth c b L xs) : W p l e room_1 s m #[Value.ref b] below meth c s.heap [] 0 0 (lw_Z below #[Value.ref b] s) (entryFrame m ([Value.ref b] : List Value).toArray 4) := by
  obtain ⟨hx, hb, hr, hml, hown, hts, hX, hbl, hlocks, -⟩ := C0
  obtain ⟨dC, dI, cA, hK⟩ := kn_start hts
  have hl := lv_entry ([Value.ref b]) (n := 4) (Nat.le_of_ble_eq_true rfl)
  rw [lg_entry_eq]
  generalize (lg_sl ([Value.ref b]) ++ List.replicate (4 - (lg_sl ([Value.ref b])).length) Slot.unset).toArray = ls at hl ⊢
  have hl : lv_has ls 4 [(0, .ref b)] := hl
  have hH0 : LH s dC dI cA [] (fun _ _ => 0) (fun _ _ => 0) s.heap [] := ⟨fun k q h => by simp [wo] at h, ⟨fun i j x y h => by simp [wo] at h, fun k q h => by simp [wo] at h⟩, va_S.rf, rfl⟩
  refine lw_new (ci := 7) hx hb hown hK hH0 ⟨fun _ => rfl, fun _ => rfl⟩ (dl_head.at 0 rfl) rfl ⟨by decide, by decide⟩ (fun H1 hH1 => ?_)
  refine lv_dup (pc := 3) hx hb (dl_head.at 1 rfl) rfl ?_
  have i1 : CW E7_init 30 234 [.ref 0] [.inl (7, dfl 7)] (fun _ _ => 0) (fun _ _ => 0) (fun r S' M' L' => r = none ∧ S' = Sk0 ∧ ((∀ k j, M' k j = cutG 235 k j) ∧ ∀ k j, L' k j = 0)) := cw_eqv (ci_cls (d := 27) ⟨fun _ _ => rfl, fun _ _ => rfl⟩) (fun r S' M' L' h => ⟨Sk0, by rw [h.2.1]; exact Sk_eq, h.1, rfl, h.2.2⟩)
  refine lw_init (pc := 4) (a := 0) (d' := 0) (rest := [.ref (rhoL s.heap.size 0)]) hx hb hml hown hK hl.1 hH1 i1 (dl_head.at 2 rfl) rfl rfl rfl rfl rfl (Nat.le_of_ble_eq_true rfl) ⟨by decide, by decide⟩ (fun r S' A LA H2 locs2 hq hH2 => ?_)
  obtain ⟨rfl, rfl, ha, la⟩ := hq
  refine lv_astore_n (pc := 7) hx hb (dl_head.at 3 rfl) rfl hl (by decide) rfl (fun ls1 hl1 => ?_)
  have hl1 : lv_has ls1 4 [(1, .ref (rhoL s.heap.size 0)), (0, .ref b)] := hl1
  have z235 : zr A LA Sk0.length := by
    rw [Sk0_len]
    exact ⟨fun j => (ha 235 j).trans (cutG_z (Nat.le_refl _)), fun j => la 235 j⟩
  refine lw_new (pc := 8) (ci := 8) hx hb hown hK hH2 z235 (dl_head.at 4 rfl) rfl ⟨by decide, by decide⟩ (fun H3 hH3 => ?_)
  refine lv_dup (pc := 11) hx hb (dl_head.at 5 rfl) rfl ?_
  have i2 : CW E8_init 30 20 [.ref Sk0.length] (Sk0 ++ [.inl (8, dfl 8)]) A LA (fun r S' M' L' => r = none ∧ LRel 0 S' M' L') := by
    refine cw_shift (X := Sm) (Y := Sm.map (shm (fun k => 235 + k))) (PM := PMm) rfl (ci_mod (d := 29) ⟨fun k j => (ha _ j).trans (cutG_z (by rw [Sk0_len]; omega)), fun k j => la _ j⟩) (by rw [Sk0_len]) (by decide) (fun Mf Lf h1 h2 => ⟨rfl, ?_⟩)
    rw [Sk0_len] at h1 h2
    exact LRel_start ha la h1 h2
  refine lw_init (pc := 12) (a := Sk0.length) (d' := 0) (rest := [.ref (rhoL s.heap.size Sk0.length)]) hx hb hml hown hK hl1.1 hH3 i2 (dl_head.at 6 rfl) rfl rfl rfl rfl rfl (Nat.le_of_ble_eq_true rfl) ⟨by decide, by decide⟩ (fun r S' B LB H4 locs4 hq hH4 => ?_)
  obtain ⟨rfl, hR⟩ := hq
  refine lv_astore_n (pc := 15) hx hb (dl_head.at 7 rfl) rfl hl1 (by decide) rfl (fun ls2 hl2 => ?_)
  refine lv_iconst (pc := 16) hx hb (dl_head.at 8 rfl) (show Int32.ofInt 0 = nI (4 * 0) by decide) ?_
  refine lv_istore_n (pc := 17) hx hb (dl_head.at 9 rfl) rfl hl2 (by decide) rfl (fun ls3 hl3 => ?_)
  have hl3 : lv_has ls3 4 [(3, .int (nI (4 * 0))), (2, .ref (rhoL s.heap.size Sk0.length)), (1, .ref (rhoL s.heap.size 0)), (0, .ref b)] := hl3
  rw [Sk0_len] at hl3
  exact law_loop hx hb hr hml hown hlocks hK hX hbl hL ⟨by decide, by decide⟩ 65 0 rfl S' B LB H4 locs4 ls3 hl3 hR hH4
set_option maxHeartbeats 4000000 in
theorem lw_walk (l : Launch) (b : Addr) (xs : List Int32) : MetFree l x (headSpec (Jvm.Cond.code x code maxLocals ret :: tables_1) room_1) (lw_P b xs) (fun _ _ _ _ _ => True) lw_Q := by
  refine MetFree.of_bodyS (code := code) (maxLocals := maxLocals) (ret := ret) (by decide) ?_ ?_
  · intro args s m h hn
    obtain ⟨meth, c, h1, h2, h3, h4, h5, h6, -, -⟩ := Cond.code_spec hn (atoms_spec (ws := Jvm.Cond.code x code maxLocals ret :: tables_1) h _ List.mem_cons_self)
    exact ⟨meth, c, h1, h2, h3, h4, h5, h6⟩
  · intro p e s m args below meth c s₁ B hml0 hP _
    obtain ⟨rfl, hx, hbd, hgv⟩ := hP
    obtain ⟨scr, harrAt, hlist, hof, hsmall⟩ := hx
    obtain ⟨hcb, hkn, -, -⟩ := State.arrayAt?_spec harrAt
    have hown : s.vm.findClass R_law = some m.cls := findClass_of_methodNamed B.named
    have hts0 : ∀ c ∈ (Jvm.Cond.code x code maxLocals ret :: tables_1), c.before #[Value.ref b] s = true := atoms_spec (ws := Jvm.Cond.code x code maxLocals ret :: tables_1) B.pre
    have hts : ∀ w ∈ lw_tbl, w.before #[Value.ref b] s = true := k2_hts_sels lw_privs (fun w hw => hts0 w (List.mem_cons_of_mem _ hw)) lw_privs_ok
    have hml : c.maxLocals = 4 := B.maxLocals_eq (hts0 _ List.mem_cons_self)
    have X₀ : Stand p l e room_1 s m #[Value.ref b] below meth c s₁ [] 0 0 := Stand.of_body B
    have hh0 : s₁.heap = s.heap := by rw [B.state]; rfl
    have hsz : scr.slots.size = xs.length := by rw [← Array.length_toList, hlist, List.length_map]
    have hval : ∀ j : Nat, j < xs.length → scr.slots[j]? = some (.int (xs.getD j 0)) := fun j hj => by
      rw [← Array.getElem?_toList, hlist]
      simp [hj]
    have hbl : b < s.heap.size := (Array.getElem?_eq_some_iff.mp hcb).1
    have hX : va_X b xs.length (fun j => xs.getD j 0) s s.heap := ⟨scr, hcb, hof, hkn, hsz, hval⟩
    have K : W p l e room_1 s m #[Value.ref b] below meth c s₁.heap [] 0 0 (lw_Z below #[Value.ref b] s) (entryFrame m ([Value.ref b] : List Value).toArray 4) := by
      rw [hh0]
      exact whole_start l hbd ⟨B.exec, B.bytes, B.returns, hml, hown, hts, hX, hbl, B.notSynchronized, hgv⟩
    obtain ⟨t, a1, o, b1, b2, b3⟩ := K s₁ rfl X₀
    exact ⟨t, o, a1, b1, b2, b3⟩
theorem lw_pre_spec {args : Array Value} {s : State} (h : (Jvm.Cond.and given_1 narrow_1).before args s = true) (hr : rest_1_c.before args s = true) : ∃ (b : Addr) (xs : List Int32), lw_P b xs args s := by
  have hs := flat_of_before _ h
  have hq := flat_of_before _ hr
  have hc : (Cond.count 1).before args s = true := hs _ (by decide +kernel)
  have harr : (Cond.arrayOf (.arg 0) .int).before args s = true := hs _ (by decide +kernel)
  have hle : (Cond.le (.length (.arg 0)) (.int 256)).before args s = true := hs _ (by decide +kernel)
  have hlen : (Cond.isInt (.length (.arg 0))).before args s = true := hq _ (by decide +kernel)
  have hall : (Cond.all (.arg 0) (.isInt (.elem (.arg 0) (.index 0)))).before args s = true := hq _ (by decide +kernel)
  obtain ⟨b, xs, hb, hx⟩ := State.ints_of_pre rfl harr hlen hall
  have hsm : xs.length < 2 ^ 31 := hx.choose_spec.2.2.2
  have hev : (Term.length (.arg 0)).eval args s none [] s = some (.int xs.length.toInt32) := hx.length_eval hb
  have hv := Cond.le_ints hev (show (Term.int 256).eval args s none [] s = some (.int 256) from rfl)
  have hd : xs.length.toInt32 ≤ 256 := by
    simpa [Cond.before, Cond.holds, hv] using hle
  have hN : xs.length ≤ 256 := (Int32.ofNat_le_ofNat hsm (by decide)).mp (show Int32.ofNat xs.length ≤ Int32.ofNat 256 from hd)
  exact ⟨b, xs, Cond.one_arg hc (show args[0]? = some (.ref b) from hb), hx, hN, h⟩
theorem lw_comes (l : Launch) : Comes l x (Jvm.Cond.code x code maxLocals ret :: tables_1) room_1 (fun tb e args s => Calls_1 tb e args s ∧ rest_1 tb e args s ∧ Pre_1 tb e args s)
    (fun _ _ args s o t => lw_Q args s o t) := by
  intro p e ha hc hk s m args below hf hfit hheap happ hpre
  obtain ⟨b, xs, hP⟩ := lw_pre_spec hpre.2.2 hpre.2.1
  obtain ⟨k, o, h1, h2, h3, hQ⟩ := lw_walk l b xs p e ha hc hk s m args below hf ((Spec.applies_iff_loose hf).mp happ).1 hP trivial
  exact ⟨k, o, h1, h2, h3, hQ⟩
theorem lw_frame {s t : State} {o : Outcome} {args : Array Value} (h : Framed s o t [] 600000 7302250) :
    Framed s o t (fieldLocs frame_1_writes args s ++ arrayLocs frame_1_arrays args s ++ staticLocs frame_1_statics s) 600000 7302250 := h
theorem lw_limb (L : Cond) (hL : ∀ (args : Array Value) (s t : State), L.after args s (.returned (some (.int 1))) t = true) :
    ArmFor flags0 classFile x code maxLocals ret World_1 tables_1 room_1 Calls_1 rest_1 Pre_1
      (fun tb e a s o t => postC L tb e a s o t ∧ Framed s o t (fieldLocs frame_1_writes a s ++ arrayLocs frame_1_arrays a s ++ staticLocs frame_1_statics s) 600000 7302250) := by
  intro l _ _ _ p e ha hc hk s m args below hf hfit hheap happ hpre
  obtain ⟨k, o, h1, h2, h3, rfl, hF⟩ := lw_comes l p e ha hc hk s m args below hf hfit hheap happ hpre
  exact ⟨k, _, h1, h2, h3, hL args s _, lw_frame hF⟩
theorem i_vc : Claimed_1_1 ∧ Claimed_1_2 := ⟨lw_limb limb_1_1 (fun args s t => by simp [limb_1_1, Cond.after, Cond.holds, Cond.value]), lw_limb limb_1_2 (fun args s t => Cond.after_iff.mpr (by
  first | (rw [show limb_1_2 = Cond.eq .result (.int 1) from rfl, Cond.eq_ints (x := 1) (y := 1) rfl rfl]; simp; done) | (simp [limb_1_2, Cond.value, Term.eval]; done)))⟩
