/-! ===== the rules of the abstract machine ===== -/
theorem go_sd {E : ME} (hE : okE E) {d mc n0 : Nat} {Q : QT} {stop : Nat → Bool} : ∀ (n : Nat) {pc : Nat} {lv : LV} {st : List Value} {S : AS} {M : AM} {L : AL} {u : Nat}, go E d mc n0 Q stop n pc lv st S M L u → AW E d mc n0 Q pc lv st S M L u
  | 0, _, _, _, _, _, _, _, h => h
  | n + 1, pc, lv, st, S, M, L, u, h => by
    have h' : (bif stop pc then AW E d mc n0 Q pc lv st S M L u else stp E d mc (go E d mc n0 Q stop n) Q pc lv st S M L u) := h
    cases hs : stop pc with
    | true => rw [hs] at h'; exact h'
    | false => rw [hs] at h'; exact stp_sd hE (fun pc lv st S M L u h => go_sd hE n h) h'
/-- from a point: one instruction, then up to n more, or up to a stop -/
theorem aw_run {E : ME} (hE : okE E) {d mc n0 : Nat} {Q : QT} (stop : Nat → Bool) (n : Nat) {pc : Nat} {lv : LV} {st : List Value} {S : AS} {M : AM} {L : AL} {u : Nat} (h : stp E d mc (go E d mc n0 Q stop n) Q pc lv st S M L u) : AW E d mc n0 Q pc lv st S M L u := stp_sd hE (fun _ _ _ _ _ _ _ h => go_sd hE n h) h
theorem lgs_cat1 : ∀ (vs : List Value), (∀ v ∈ vs, v.category = 1) → (lg_sl vs).length = vs.length
  | [], _ => rfl
  | v :: vs, h => by
    have h1 := h v List.mem_cons_self
    have h2 := lgs_cat1 vs (fun w hw => h w (List.mem_cons_of_mem _ hw))
    simp only [lg_sl, List.flatMap_cons, List.length_append] at h2 ⊢
    rw [if_neg (by omega), h2]
    simp
    omega
theorem lva_cat1 : ∀ (vs : List Value) (n i : Nat) (v : Value), (∀ v ∈ vs, v.category = 1) → vs[i]? = some v → (n + i, v) ∈ lv_args n vs
  | [], _, i, v, _, h => by simp at h
  | w :: vs, n, i, v, hc, h => by
    have h1 := hc w List.mem_cons_self
    rw [lv_args, if_neg (by omega)]
    cases i with
    | zero =>
      rw [List.getElem?_cons_zero] at h
      cases h
      exact List.mem_cons_self
    | succ i =>
      rw [List.getElem?_cons_succ] at h
      have := lva_cat1 vs (n + 1) i v (fun w hw => hc w (List.mem_cons_of_mem _ hw)) h
      rw [show n + (i + 1) = n + 1 + i by omega]
      exact List.mem_cons_of_mem _ this
/-- a method by its body -/
theorem cw_ent {E : ME} (hE : okE E) {d mc : Nat} {Q : QT} (stop : Nat → Bool) (n : Nat) {as : List Value} {S : AS} {M : AM} {L : AL} (h : ent E d mc Q stop n as S M L) : CW E d mc as S M L Q := by
  obtain ⟨hb, h⟩ := bifF h
  simp only [Bool.and_eq_true, Nat.ble_eq, List.all_eq_true] at hb
  obtain ⟨hal, hac⟩ := hb
  obtain ⟨t1, t2, t3, t4, t5, t6, t7, t8⟩ := tbE_spec hE.1
  refine ⟨hE.1, fun l dC dI cA ρ sz => Met.ofW (cc := mB E) (maxL := mL E) (ret := mR E) t3 rfl ?_⟩
  intro p e s m args below meth c s₁ B hml hv
  obtain ⟨rfl, hsz, hK, hP, hD0, hgr⟩ := hv
  subst hsz
  have hown : s.vm.findClass (ownN (mO E)) = some m.cls := by rw [← t1]; exact findClass_of_methodNamed B.named
  have hcat : ∀ v ∈ as.map (mp ρ), v.category = 1 := fun v hv => by
    obtain ⟨w, hw, rfl⟩ := List.mem_map.mp hv
    exact cat1_mp (hac w hw)
  have hlen : (lg_sl (as.map (mp ρ))).length = as.length := by rw [lgs_cat1 _ hcat, List.length_map]
  have hl := lv_entry (as.map (mp ρ)) (n := mL E) (by rw [hlen]; exact hal)
  rw [lg_entry_eq]
  refine stp_sd hE (fun _ _ _ _ _ _ _ h => go_sd hE n h) h p l e s m _ below meth c dC dI cA ρ ⟨B.exec, B.bytes, B.returns, hml, hown, B.notSynchronized, (name_of_methodNamed B.named B.method).1, hK, hgr⟩ _ s.heap [] ⟨⟨hl.1, hl.2.1, by simp; omega, fun i v hi => ?_⟩, hP, ⟨hD0.1, fun k q hk => Or.inl ⟨k, by rw [← wo_len cA ρ S M L]; exact (List.getElem?_eq_some_iff.mp hk).1, ?_⟩⟩, va_S.rf, Nat.le_refl _, by omega, Nat.zero_le _⟩
  · by_cases hi2 : i < as.length
    · rw [List.getElem?_append_left (by simpa using hi2), List.getElem?_map] at hi
      cases ha : as[i]? with
      | none => rw [ha] at hi; cases hi
      | some w =>
        rw [ha] at hi
        cases hi
        refine ⟨hac _ (List.mem_of_getElem? ha), hl.2.2 (i, mp ρ v) ?_⟩
        have := lva_cat1 (as.map (mp ρ)) 0 i (mp ρ v) hcat (by rw [List.getElem?_map, ha]; rfl)
        rwa [Nat.zero_add] at this
    · rw [List.getElem?_append_right (by simpa using hi2)] at hi
      have := List.eq_of_mem_replicate (List.mem_of_getElem? hi)
      cases this
  · simp only [wo, List.getElem?_mapIdx] at hk
    cases hs : S[k]? with
    | none => rw [hs] at hk; cases hk
    | some sh => rw [hs] at hk; cases hk; rfl
/-- weaker behind -/
theorem cw_mono {E : ME} {d mc : Nat} {Q Q' : QT} {as : List Value} {S : AS} {M : AM} {L : AL} (h : CW E d mc as S M L Q) (hq : ∀ r S' M' L', Q r S' M' L' → Q' r S' M' L') : CW E d mc as S M L Q' := by
  refine ⟨h.1, fun l dC dI cA ρ sz => MetFree.mono (h.2 l dC dI cA ρ sz) (fun _ _ h => h) (fun _ _ _ _ _ h => h) (fun a s o s' _ g => ?_)⟩
  obtain ⟨⟨⟨r, S', M', L', g1, g2⟩, g3⟩, g4⟩ := g
  exact ⟨⟨⟨r, S', M', L', hq _ _ _ _ g1, g2⟩, g3⟩, g4⟩
/-! a world within a world -/
def shm (ι : Nat → Nat) : Sh → Sh
  | .inl q => .inl (q.1, q.2.map (mp ι))
  | .inr q => .inr (q.1, q.2.1, fun j => (q.2.2 j).map ι)
theorem mp_mp (ρ ι : Nat → Nat) (v : Value) : mp ρ (mp ι v) = mp (fun k => ρ (ι k)) v := by cases v <;> rfl
theorem cv_shm (cA : FieldType → ClassId) (ρ ι : Nat → Nat) (M : AM) (L : AL) (i : Nat) (sh : Sh) : cv cA ρ M L (ι i) (shm ι sh) = cv cA (fun k => ρ (ι k)) (fun k => M (ι k)) (fun k => L (ι k)) i sh := by
  cases sh with
  | inl q =>
    simp only [shm, cv]
    congr 2
    apply List.ext_getElem?
    intro j
    simp only [List.getElem?_mapIdx, List.getElem?_map]
    cases q.2[j]? with
    | none => rfl
    | some v => cases v <;> simp [fk, fkA, mp]
  | inr q =>
    simp only [shm, cv]
    congr 3
    split
    · congr 4
      funext j
      cases q.2.2 j <;> rfl
    · rfl
theorem cw_embed {E : ME} {d : Nat} {as : List Value} {Sc S : AS} {M : AM} {L : AL} {Qc Q : QT} (ι : Nat → Nat) (hinj : ∀ i j, i < Sc.length → j < Sc.length → ι i = ι j → i = j) (hsh : ∀ i sh, Sc[i]? = some sh → S[ι i]? = some (shm ι sh)) (h : CW E d 0 as Sc (fun k => M (ι k)) (fun k => L (ι k)) Qc)
    (hq : ∀ r S' M' L', Qc r S' M' L' → S' = Sc ∧ ∀ (Mf : AM) (Lf : AL), (∀ i, i < Sc.length → Mf (ι i) = M' i ∧ Lf (ι i) = L' i) → (∀ k, (∀ i, i < Sc.length → ι i ≠ k) → Mf k = M k ∧ Lf k = L k) → Q (r.map (mp ι)) S Mf Lf) : CW E d 0 (as.map (mp ι)) S M L Q := by
  refine ⟨h.1, fun l dC dI cA ρ sz => MetFree.mono (h.2 l dC dI cA (fun k => ρ (ι k)) sz) ?_ (fun _ _ _ _ _ h => h) ?_⟩
  · rintro a U ⟨h1, h2, h3, h4, h5, -⟩
    have hat : ∀ (i : Nat) (x : Nat × va_E), (wo cA (fun k => ρ (ι k)) Sc (fun k => M (ι k)) (fun k => L (ι k)))[i]? = some x → i < Sc.length ∧ (wo cA ρ S M L)[ι i]? = some x := by
      intro i x hx
      simp only [wo, List.getElem?_mapIdx] at hx
      cases hs : Sc[i]? with
      | none => rw [hs] at hx; cases hx
      | some sh =>
        rw [hs] at hx
        cases hx
        exact ⟨(List.getElem?_eq_some_iff.mp hs).1, by rw [wo_at (hsh i sh hs), cv_shm]⟩
    refine ⟨?_, h2, h3, fun k q hk => h4 (ι k) q (hat k q hk).2, ⟨fun i j x y hi hj hxy => ?_, fun _ _ _ => trivial⟩, fun h => absurd h (by omega)⟩
    · rw [h1, List.map_map]
      congr 1
      exact List.map_congr_left (fun v _ => mp_mp ρ ι v)
    · obtain ⟨a1, a2⟩ := hat i x hi
      obtain ⟨b1, b2⟩ := hat j y hj
      exact hinj i j a1 b1 (h5.1 _ _ x y a2 b2 hxy)
  · rintro a U o t ⟨h1, h2, h3, h4, h5, -⟩ ⟨⟨⟨r, S', M', L', g1, g2, g3, g4, g5, g6⟩, g7⟩, Lo, g8, g9⟩
    obtain ⟨rfl, hq⟩ := hq r S' M' L' g1
    classical
    let Mf : AM := fun k => if hk : ∃ i, i < S'.length ∧ ι i = k then M' (Classical.choose hk) else M k
    let Lf : AL := fun k => if hk : ∃ i, i < S'.length ∧ ι i = k then L' (Classical.choose hk) else L k
    have hin : ∀ i, i < S'.length → Mf (ι i) = M' i ∧ Lf (ι i) = L' i := by
      intro i hi
      have hk : ∃ i', i' < S'.length ∧ ι i' = ι i := ⟨i, hi, rfl⟩
      have hc := Classical.choose_spec hk
      have he : Classical.choose hk = i := hinj _ _ hc.1 hi hc.2
      constructor
      · show (if hk : ∃ i', i' < S'.length ∧ ι i' = ι i then M' (Classical.choose hk) else M (ι i)) = M' i
        rw [dif_pos hk, he]
      · show (if hk : ∃ i', i' < S'.length ∧ ι i' = ι i then L' (Classical.choose hk) else L (ι i)) = L' i
        rw [dif_pos hk, he]
    have hout : ∀ k, (∀ i, i < S'.length → ι i ≠ k) → Mf k = M k ∧ Lf k = L k := by
      intro k hk
      have hn : ¬ ∃ i, i < S'.length ∧ ι i = k := fun ⟨i, a1, a2⟩ => hk i a1 a2
      constructor
      · show (if hk : ∃ i, i < S'.length ∧ ι i = k then M' (Classical.choose hk) else M k) = M k
        rw [dif_neg hn]
      · show (if hk : ∃ i, i < S'.length ∧ ι i = k then L' (Classical.choose hk) else L k) = L k
        rw [dif_neg hn]
    have hat : ∀ (k : Nat) (x : Nat × va_E), (wo cA ρ S Mf Lf)[k]? = some x → va_at (dC, dI) vwCl x t.heap ∧ x.1 = ρ k ∧ k < S.length := by
      intro k x hx
      simp only [wo, List.getElem?_mapIdx] at hx
      cases hs : S[k]? with
      | none => rw [hs] at hx; cases hx
      | some sh =>
        rw [hs] at hx
        cases hx
        have hkl : k < S.length := (List.getElem?_eq_some_iff.mp hs).1
        refine ⟨?_, rfl, hkl⟩
        by_cases hk : ∃ i, i < S'.length ∧ ι i = k
        · obtain ⟨i, hi, rfl⟩ := hk
          have hsc : S'[i]? = some (S'[i]) := List.getElem?_eq_getElem hi
          have := hsh i _ hsc
          rw [hs] at this
          cases this
          have g := g5 i _ (wo_at hsc)
          have hc := cv_shm cA ρ ι Mf Lf i S'[i]
          have hc2 : cv cA (fun k => ρ (ι k)) (fun k => Mf (ι k)) (fun k => Lf (ι k)) i S'[i] = cv cA (fun k => ρ (ι k)) M' L' i S'[i] := cv_congr (hin i hi).1 (hin i hi).2 _
          show va_at (dC, dI) vwCl (ρ (ι i), cv cA ρ Mf Lf (ι i) (shm ι S'[i])) t.heap
          rw [hc, hc2]
          exact g
        · have hn : ∀ i, i < S'.length → ι i ≠ k := fun i a1 a2 => hk ⟨i, a1, a2⟩
          have g := h4 k _ (wo_at hs)
          show va_at (dC, dI) vwCl (ρ k, cv cA ρ Mf Lf k sh) t.heap
          rw [show cv cA ρ Mf Lf k sh = cv cA ρ M L k sh from cv_congr (hout k hn).1 (hout k hn).2 _]
          refine g.kept (g7.2 (ρ k) g.lt (fun hA => ?_))
          rcases hA with ⟨i, hi, he⟩ | hA
          · have hsc : S'[i]? = some (S'[i]) := List.getElem?_eq_getElem hi
            have h6 := wo_at (cA := cA) (ρ := ρ) (M := M) (L := L) (hsh i _ hsc)
            exact hn i hi (h5.1 _ _ _ _ h6 (wo_at (M := M) (L := L) hs) he.symm)
          · have := g.lt
            have h2' : U.heap.size = sz := h2
            have hlt : ρ k < U.heap.size := g.lt
            omega
    have hsub : ∀ q, AA S'.length (fun k => ρ (ι k)) sz q → AA S.length ρ sz q := by
      rintro q (⟨i, hi, rfl⟩ | hA)
      · have hsc : S'[i]? = some (S'[i]) := List.getElem?_eq_getElem hi
        exact Or.inl ⟨ι i, (List.getElem?_eq_some_iff.mp (hsh i _ hsc)).1, rfl⟩
      · exact Or.inr hA
    refine ⟨⟨⟨r.map (mp ι), S, Mf, Lf, hq Mf Lf hin hout, ?_, Nat.le_refl _, by omega, fun k x hx => (hat k x hx).1, ⟨fun i j x y hi hj hxy => ?_, fun k x hx => ?_⟩⟩, ⟨g7.1, fun q a1 a2 => g7.2 q a1 (fun z => a2 (hsub q z))⟩⟩, Lo, g8, fun q hq2 => hsub _ (g9 q hq2)⟩
    · rw [g2]
      cases r with
      | none => rfl
      | some v => simp [mp_mp]
    · obtain ⟨-, b1, b2⟩ := hat i x hi
      obtain ⟨-, c1, c2⟩ := hat j y hj
      have e1 : S[i]? = some (S[i]) := List.getElem?_eq_getElem b2
      have e2 : S[j]? = some (S[j]) := List.getElem?_eq_getElem c2
      exact h5.1 i j _ _ (wo_at (cA := cA) (ρ := ρ) (M := M) (L := L) e1) (wo_at (M := M) (L := L) e2) (by show ρ i = ρ j; rw [← b1, ← c1]; exact hxy)
    · obtain ⟨-, b1, b2⟩ := hat k x hx
      rw [b1]
      exact Or.inl ⟨k, b2, rfl⟩
