theorem cl_own : ∀ (ci : Nat) (r : vw_C), vwCl[ci]? = some r → r.1 = ownN ci
  | 0, _, h => by cases h; rfl
  | 1, _, h => by cases h; rfl
  | 2, _, h => by cases h; rfl
  | 3, _, h => by cases h; rfl
  | 4, _, h => by cases h; rfl
  | 5, _, h => by cases h; rfl
  | 6, _, h => by cases h; rfl
  | 7, _, h => by cases h; rfl
  | 8, _, h => by cases h; rfl
  | _ + 9, _, h => by simp [vwCl] at h
section VALq
variable {p : Program} {l : Launch} {e : Env} {R : Room} {s : State} {m : MethodId} {args : Array Value} {below : List Frame} {meth : Method} {c : Code} {H : Heap} {locs : List Loc} {cells slots : Nat} {Q : State → Prop}
variable {cc : ByteArray} {pc : Nat} {ls : Array Slot} {rest : List Value} {D : va_G} {cl : List vw_C} {A : Nat → Prop} {a : Nat} {tys : List (ClassId × FieldType)} {ws : va_W} {H0 : Heap}
theorem va_put1 (hexec : p.tables.exec = Jvm.exec) (hb : c.code = cc) {own ref C : String} {T : u_T} {N ci index : Nat} {Ts : List Cond} (hts : ∀ w ∈ Ts, w.before args s = true) (hin : ∀ w ∈ u_ws C T N, w ∈ Ts) (ty0 : Nat → FieldType) (hty : ∀ k, k < N → parseFieldDescriptor (T k).2.2.1 = some (ty0 k)) (hnm : ∀ a, a < N → ∀ b, b < N → a ≠ b → (T a).2.1 ≠ (T b).2.1) (hown : s.vm.findClass own = some m.cls) (hK : va_K D cl tys s) (hP : va_P D cl ws H) (hD : va_D A ws) (hS0 : va_S A H0 H locs) (q0 : Nat) {fs : List Value} (he : ws[q0]? = some (a, .inr (ci, fs))) (hc : cl[ci]? = some (C, T, N)) (k : Nat) (hk : k < N) (hlink : (Cond.fieldLink own index ref (T k).2.1 (T k).2.2.1).before args s = true) (hsame : ∀ x, s.fieldFound? (T k).1 (T k).2.1 (T k).2.2.1 = some x → s.fieldFound? ref (T k).2.1 (T k).2.2.1 = some x) (hfin : (T k).2.2.2 = false) {ty : FieldType} {v : Value} (hd : parseFieldDescriptor (T k).2.2.1 = some ty) (hn : narrow ty v = v) (hfit : fits ty v = true) (hl : k < fs.length)
    (hdg : decode cc pc = .ok (.putfield index, 3)) (kk : ∀ (H1 : Heap) (locs1 : List Loc), va_P D cl (ws.set q0 (a, .inr (ci, fs.set k v))) H1 → va_D A (ws.set q0 (a, .inr (ci, fs.set k v))) → va_S A H0 H1 locs1 → H1.size = H.size → W p l e R s m args below meth c H1 locs1 cells slots Q (F0 m (pc + 3) ls rest)) : W p l e R s m args below meth c H locs cells slots Q (F0 m pc ls (v :: .ref a :: rest)) := by
  have hap := va_apart (own := own) hts hin ty0 hty hnm hK hc
  obtain ⟨r, h1, cell, q1, q2, q3, q4⟩ := hP q0 _ he
  have hr : r = (C, T, N) := Option.some.inj (h1.symm.trans hc)
  subst hr
  obtain ⟨hS, hfc, kC, hkC, hkind⟩ := hK.1 ci _ hc
  obtain ⟨cf, kf, fi, f, hi, hsl⟩ := hS k hk
  have hlay := hts _ (hin _ (u_in_lay hk))
  unfold u_lay at hlay
  rw [if_neg (by rw [hfin]; decide)] at hlay
  have hst := (u_facts hfc hkC (u_lays hts hin hk) hi).1
  have h6 := u_store hfc hkC hkind hlay hi hd hn hfit
  refine W.putK hexec hb (f := f) ⟨hown, hlink, ⟨_, _, _, hsame _ hi⟩, hst⟩ (by rw [q2]; exact h6) q1 q3 (by rw [hsl]; exact k2_hasslot (q4 k hk)) rfl rfl hdg fun H' e1 e2 e3 => ?_
  rw [hsl] at e1 ⊢
  exact kk H' _ (hP.set hD he ⟨_, hc, t_OB.to (V := updV (vp_V fs) k v) ⟨_, e1, q2, q3, t_set q4 hap hk v⟩ (fun j _ => vp_updV_set hl v j)⟩ e3) (hD.set he) (hS0.put e2 e3 (hD.2 q0 _ he)) e2
theorem va_putF1 (hexec : p.tables.exec = Jvm.exec) (hb : c.code = cc) {own ref C : String} {T : u_T} {N ci index : Nat} {Ts : List Cond} (hts : ∀ w ∈ Ts, w.before args s = true) (hin : ∀ w ∈ u_ws C T N, w ∈ Ts) (ty0 : Nat → FieldType) (hty : ∀ k, k < N → parseFieldDescriptor (T k).2.2.1 = some (ty0 k)) (hnm : ∀ a, a < N → ∀ b, b < N → a ≠ b → (T a).2.1 ≠ (T b).2.1) (hown : s.vm.findClass own = some m.cls) (hK : va_K D cl tys s) (hP : va_P D cl ws H) (hD : va_D A ws) (hS0 : va_S A H0 H locs) (q0 : Nat) {fs : List Value} (he : ws[q0]? = some (a, .inr (ci, fs))) (hc : cl[ci]? = some (C, T, N)) (k : Nat) (hk : k < N) (hlink : (Cond.fieldLink own index ref (T k).2.1 (T k).2.2.1).before args s = true) (hsame : ∀ x, s.fieldFound? (T k).1 (T k).2.1 (T k).2.2.1 = some x → s.fieldFound? ref (T k).2.1 (T k).2.2.1 = some x) (hfin : (T k).2.2.2 = true) (hin2 : meth.name = "<init>") (hdecl : (T k).1 = own) {ty : FieldType} {v : Value} (hd : parseFieldDescriptor (T k).2.2.1 = some ty) (hn : narrow ty v = v) (hfit : fits ty v = true) (hl : k < fs.length)
    (hdg : decode cc pc = .ok (.putfield index, 3)) (kk : ∀ (H1 : Heap) (locs1 : List Loc), va_P D cl (ws.set q0 (a, .inr (ci, fs.set k v))) H1 → va_D A (ws.set q0 (a, .inr (ci, fs.set k v))) → va_S A H0 H1 locs1 → H1.size = H.size → W p l e R s m args below meth c H1 locs1 cells slots Q (F0 m (pc + 3) ls rest)) : W p l e R s m args below meth c H locs cells slots Q (F0 m pc ls (v :: .ref a :: rest)) := by
  have hap := va_apart (own := own) hts hin ty0 hty hnm hK hc
  obtain ⟨r, h1, cell, q1, q2, q3, q4⟩ := hP q0 _ he
  have hr : r = (C, T, N) := Option.some.inj (h1.symm.trans hc)
  subst hr
  obtain ⟨hS, hfc, kC, hkC, hkind⟩ := hK.1 ci _ hc
  obtain ⟨cf, kf, fi, f, hi, hsl⟩ := hS k hk
  have hlay := hts _ (hin _ (u_in_lay hk))
  unfold u_lay at hlay
  rw [if_pos hfin] at hlay
  have hst := (u_facts hfc hkC (u_lays hts hin hk) hi).1
  have hcf : m.cls = cf := by
    obtain ⟨_, _, c', _, _, _, -, -, hf', -, -, -, hown2, -⟩ := Cond.laysFinal_spec hlay
    have e1 : c' = cf := by have := hi.symm.trans hf'; simp at this; exact this.1.symm
    rw [hdecl] at hown2
    rw [← e1]; exact Option.some.inj (hown.symm.trans hown2)
  have h6 := u_fits hfc hkC hkind (Or.inr hlay) hi hd hn hfit
  refine W.putFinK hexec hb hown hlink (hsame _ hi) hst hcf hin2 (by rw [q2]; exact h6) q1 q3 (by rw [hsl]; exact k2_hasslot (q4 k hk)) rfl rfl hdg fun H' e1 e2 e3 => ?_
  rw [hsl] at e1 ⊢
  exact kk H' _ (hP.set hD he ⟨_, hc, t_OB.to (V := updV (vp_V fs) k v) ⟨_, e1, q2, q3, t_set q4 hap hk v⟩ (fun j _ => vp_updV_set hl v j)⟩ e3) (hD.set he) (hS0.put e2 e3 (hD.2 q0 _ he)) e2
end VALq
/-! ===== one instruction is sound ===== -/
section SE
variable {p : Program} {l : Launch} {e : Env} {s : State} {m : MethodId} {args : Array Value} {below : List Frame} {meth : Method} {c : Code} {dC : Nat → ClassId} {dI : Nat → Nat → Nat} {cA : FieldType → ClassId} {ρ : Nat → Nat}
theorem Rl.lv {E : ME} {mc n0 : Nat} {ls ls' : Array Slot} {H : Heap} {locs : List Loc} {lv lv' : LV} {S : AS} {M : AM} {L : AL} {u : Nat} (h : Rl E mc n0 s dC dI cA ρ ls H locs lv S M L u) (h' : LR ρ ls' (mL E) lv') : Rl E mc n0 s dC dI cA ρ ls' H locs lv' S M L u := ⟨h', h.2⟩
theorem ret_q {Q : QT} {n0 : Nat} {r : Option Value} {S : AS} {M : AM} {L : AL} {H : Heap} {locs : List Loc} (hQ : Q r S M L) (hP : va_P (dC, dI) vwCl (wo cA ρ S M L) H) (hD : va_D (AA n0 ρ s.heap.size) (wo cA ρ S M L)) (hS : va_S (AA n0 ρ s.heap.size) s.heap H locs) (h1 : n0 ≤ S.length) (h2 : H.size + n0 = s.heap.size + S.length) (t : State) (ht : t.heap = H) : CQ dC dI cA ρ s.heap.size n0 Q args s (.returned (r.map (mp ρ))) t :=
  ⟨⟨r, S, M, L, hQ, rfl, h1, by rw [ht]; exact h2, by rw [ht]; exact hP, hD⟩, hS.F ht⟩
/-- a store into an object's field -/
theorem put_sd {E : ME} {R : Room} {mc n0 cells slots : Nat} {Qd : State → Prop} {ls : Array Slot} {H : Heap} {locs : List Loc} {lv : LV} {S S' : AS} {M M' : AM} {L L' : AL} {u pc x a ci j : Nat} {fs fs' : List Value} {v : Value} {rest : List Value}
    (hC : Cx E mc n0 p s m args meth c dC dI cA ρ) (hR : Rl E mc n0 s dC dI cA ρ ls H locs lv S M L u) (hdg : decode (mB E) pc = .ok (.putfield x, 3)) (hf : fres (mO E) x = some (ci, j)) (hSa : S[a]? = some (.inl (ci, fs))) (hj : j < fs.length)
    (hfin : (bif finF ci j then decide ((mN E).name = "<init>") && Nat.beq ci (mO E) else true) = true) (hn : narrow (tyF ci j) (mp ρ v) = mp ρ v) (hfit : fits (tyF ci j) (mp ρ v) = true)
    (hS' : S'[a]? = some (.inl (ci, fs'))) (hset : (fs.mapIdx (fk ρ M L a)).set j (mp ρ v) = fs'.mapIdx (fk ρ M' L' a)) (hne : ∀ k, k ≠ a → S'[k]? = S[k]? ∧ M' k = M k ∧ L' k = L k) (hlen : S'.length = S.length)
    (kk : ∀ (H1 : Heap) (locs1 : List Loc), Rl E mc n0 s dC dI cA ρ ls H1 locs1 lv S' M' L' u → W p l e R s m args below meth c H1 locs1 cells slots Qd (F0 m (pc + 3) ls rest)) :
    W p l e R s m args below meth c H locs cells slots Qd (F0 m pc ls (mp ρ v :: .ref (ρ a) :: rest)) := by
  obtain ⟨hx, hb, hr, hml, hown, hlk, hnm, hK, -⟩ := hC
  obtain ⟨hl, hP, hD, hS0, h1, h2, hu⟩ := hR
  obtain ⟨r, hr1, hr2, hr3, hr4⟩ := fres_spec hf
  obtain ⟨k1, k2, k3⟩ := cl_spec ci r hr1
  have hts := hK.wd args
  have hat : (wo cA ρ S M L)[a]? = some (ρ a, .inr (ci, fs.mapIdx (fk ρ M L a))) := wo_at hSa
  have fin : ∀ (H1 : Heap) (locs1 : List Loc), va_P (dC, dI) vwCl ((wo cA ρ S M L).set a (ρ a, .inr (ci, (fs.mapIdx (fk ρ M L a)).set j (mp ρ v)))) H1 → va_D (AA n0 ρ s.heap.size) ((wo cA ρ S M L).set a (ρ a, .inr (ci, (fs.mapIdx (fk ρ M L a)).set j (mp ρ v)))) → va_S (AA n0 ρ s.heap.size) s.heap H1 locs1 → H1.size = H.size → W p l e R s m args below meth c H1 locs1 cells slots Qd (F0 m (pc + 3) ls rest) := by
    intro H1 locs1 hP1 hD1 hS1 hz
    have he : ((ρ a, .inr (ci, (fs.mapIdx (fk ρ M L a)).set j (mp ρ v))) : Nat × va_E) = (ρ a, cv cA ρ M' L' a (.inl (ci, fs'))) := by rw [hset]; rfl
    rw [he, wo_upd hSa hS' hne] at hP1 hD1
    exact kk H1 locs1 ⟨hl, hP1, hD1, hS1, by rw [hlen]; exact h1, by rw [hlen, hz]; exact h2, hu⟩
  cases hfn : (r.2.1 j).2.2.2 with
  | false =>
    refine va_put1 hx hb hts k1 (tyF ci) k2 k3 hown hK.1 hP hD hS0 a hat hr1 j hr2 (hts _ hr4) (fun _ h9 => by rw [hr3] at h9; exact h9) hfn (k2 j hr2) hn hfit (by simpa using hj) hdg fin
  | true =>
    have hff : finF ci j = true := by unfold finF; rw [hr1]; exact hfn
    rw [hff] at hfin
    simp only [cond_true, Bool.and_eq_true, decide_eq_true_eq, Nat.beq_eq] at hfin
    refine va_putF1 hx hb hts k1 (tyF ci) k2 k3 hown hK.1 hP hD hS0 a hat hr1 j hr2 (hts _ hr4) (fun _ h9 => by rw [hr3] at h9; exact h9) hfn (hnm.trans hfin.1) ?_ (k2 j hr2) hn hfit (by simpa using hj) hdg fin
    rw [hr3, ← hfin.2]
    exact cl_own ci r hr1

/-- behind a store into an array of ints, bytes or booleans -/
theorem ast_rl {E : ME} {mc n0 : Nat} {ls : Array Slot} {H H1 : Heap} {locs : List Loc} {lv : LV} {S : AS} {M : AM} {L : AL} {u a n i k : Nat} {x : Int32} {ty : FieldType} {g : Nat → Option Nat} (hR : Rl E mc n0 s dC dI cA ρ ls H locs lv S M L u) (hSa : S[a]? = some (.inr (ty, n, g))) (hty : ty = .int ∨ ty = .byte ∨ ty = .boolean)
    (e1 : H1[ρ a]? = some ((arrV (cA ty) n (fun j => .int (M a j))).setSlot i (.int x))) (z : H1.size = H.size) (oq : ∀ q : Nat, q ≠ ρ a → H1[q]? = H[q]?) : Rl E mc n0 s dC dI cA ρ ls H1 (locs ++ [⟨ρ a, k⟩]) lv S (um M a i x) L u := by
  obtain ⟨hl, hP, hD, hS0, h1, h2, hu⟩ := hR
  have hat : (wo cA ρ S M L)[a]? = some (ρ a, cv cA ρ M L a (.inr (ty, n, g))) := wo_at hSa
  have hel : va_at (dC, dI) vwCl (ρ a, cv cA ρ (um M a i x) L a (.inr (ty, n, g))) H1 := by
    have hcv : cv cA ρ (um M a i x) L a (.inr (ty, n, g)) = .inl (cA ty, n, .inl (um M a i x a)) := by
      rcases hty with rfl | rfl | rfl <;> rfl
    rw [hcv]
    show H1[ρ a]? = some (vp_cell _ _)
    rw [e1, vp_cell_i, arrV_store, um_at]
    congr 2
    funext q
    by_cases hq : q = i
    · subst hq
      simp [updV]
    · simp [updV, hq, nbeq_ne hq]
  have hP1 := hP.set hD hat hel oq
  have hD1 := hD.set (e := cv cA ρ (um M a i x) L a (.inr (ty, n, g))) hat
  rw [wo_upd hSa hSa (fun k hk => ⟨rfl, um_ne M i x hk, rfl⟩)] at hP1 hD1
  exact ⟨hl, hP1, hD1, hS0.put z oq (hD.2 a _ hat), h1, by rw [z]; exact h2, hu⟩
theorem arr_at {E : ME} {mc n0 : Nat} {ls : Array Slot} {H : Heap} {locs : List Loc} {lv : LV} {S : AS} {M : AM} {L : AL} {u a n : Nat} {ty : FieldType} {g : Nat → Option Nat} (hR : Rl E mc n0 s dC dI cA ρ ls H locs lv S M L u) (hSa : S[a]? = some (.inr (ty, n, g))) (hty : ty = .int ∨ ty = .byte ∨ ty = .boolean) : H[ρ a]? = some (arrV (cA ty) n (fun j => .int (M a j))) := by
  have := hR.2.1 a _ (wo_at hSa)
  have hcv : cv cA ρ M L a (.inr (ty, n, g)) = .inl (cA ty, n, .inl (M a)) := by
    rcases hty with rfl | rfl | rfl <;> rfl
  rw [hcv] at this
  exact this
theorem arr_ty {U : State} (hK : Kn dC dI cA U) {ty : FieldType} (hty : ty = .int ∨ ty = .byte ∨ ty = .boolean) : ArrOfT U (cA ty) ty ∧ va_RA U (cA ty) ty := by
  rcases hty with rfl | rfl | rfl
  · exact hK.1.2 0 _ rfl
  · exact hK.1.2 1 _ rfl
  · exact hK.1.2 2 _ rfl
theorem arr_ty_q {U : State} (hK : Kn dC dI cA U) : ArrOfT U (cA (.object RX2)) (.object RX2) ∧ va_RA U (cA (.object RX2)) (.object RX2) := hK.1.2 3 _ rfl
/-- a new cell, the world's next label -/
theorem new_rl {E : ME} {mc n0 : Nat} {ls : Array Slot} {H H1 : Heap} {locs : List Loc} {lv : LV} {S : AS} {M : AM} {L : AL} {u : Nat} {sh : Sh} (hC : Cx E mc n0 p s m args meth c dC dI cA ρ) (hR : Rl E mc n0 s dC dI cA ρ ls H locs lv S M L u) (hu : u < mc)
    (z : H1.size = H.size + 1) (oq : ∀ q : Nat, q < H.size → H1[q]? = H[q]?) (he : va_at (dC, dI) vwCl (H.size, cv cA ρ M L S.length sh) H1) : Rl E mc n0 s dC dI cA ρ ls H1 locs lv (S ++ [sh]) M L (u + 1) ∧ ρ S.length = H.size := by
  obtain ⟨hl, hP, hD, hS0, h1, h2, -⟩ := hR
  have hρ : ρ S.length = H.size := by
    have := hC.2.2.2.2.2.2.2.2 (by omega) (S.length - n0)
    rw [show n0 + (S.length - n0) = S.length by omega] at this
    rw [this]
    omega
  have hk : ∀ (k : Nat) (x : Nat × va_E), (wo cA ρ S M L)[k]? = some x → H1[x.1]? = H[x.1]? := fun k x hx => oq x.1 ((hP k x hx).lt)
  have hP1 : va_P (dC, dI) vwCl (wo cA ρ (S ++ [sh]) M L) H1 := by
    rw [wo_push]
    refine (hP.kept hk).app (fun k x hx => ?_)
    have hz : k < 1 := (List.getElem?_eq_some_iff.mp hx).1
    rw [show k = 0 by omega] at hx
    cases hx
    rw [hρ]
    exact he
  have hD1 : va_D (AA n0 ρ s.heap.size) (wo cA ρ (S ++ [sh]) M L) := by
    rw [wo_push]
    exact hD.push hP hρ (by rw [hρ]; exact Or.inr hS0.1)
  exact ⟨⟨hl, hP1, hD1, ⟨Nat.le_trans hS0.1 (by omega), fun x g1 g2 => (oq x (Nat.lt_of_lt_of_le g1 hS0.1)).trans (hS0.2.1 x g1 g2), hS0.2.2⟩, by simp; omega, by simp; omega, by omega⟩, hρ⟩
end SE
