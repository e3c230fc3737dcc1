/-! ===== the two calls of one turn ===== -/
theorem shm_shm (π ι : Nat → Nat) (sh : Sh) : shm π (shm ι sh) = shm (fun k => π (ι k)) sh := by
  cases sh with
  | inl q =>
    show Sum.inl (q.1, (q.2.map (mp ι)).map (mp π)) = Sum.inl (q.1, q.2.map (mp fun k => π (ι k)))
    rw [List.map_map]
    congr 2
    exact List.map_congr_left (fun v _ => mp_mp π ι v)
  | inr q =>
    show Sum.inr (q.1, q.2.1, fun j => ((q.2.2 j).map ι).map π) = Sum.inr (q.1, q.2.1, fun j => (q.2.2 j).map fun k => π (ι k))
    have : (fun j => ((q.2.2 j).map ι).map π) = fun j => (q.2.2 j).map fun k => π (ι k) := funext fun j => by cases q.2.2 j <;> rfl
    rw [this]
theorem Sm_len : Sm.length = 21 := rfl
theorem wo_cong {cA : FieldType → ClassId} {ρ : Nat → Nat} {S : AS} {M M' : AM} {L L' : AL} (h : ∀ k, k < S.length → M' k = M k ∧ L' k = L k) : wo cA ρ S M' L' = wo cA ρ S M L := by
  apply List.ext_getElem?
  intro k
  simp only [wo, List.getElem?_mapIdx]
  cases hs : S[k]? with
  | none => rfl
  | some sh =>
    obtain ⟨h1, h2⟩ := h k (List.getElem?_eq_some_iff.mp hs).1
    show some (ρ k, cv cA ρ M' L' k sh) = some (ρ k, cv cA ρ M L k sh)
    rw [cv_congr h1 h2]
theorem cw_cong {E : ME} {d mc : Nat} {as : List Value} {S : AS} {M M' : AM} {L L' : AL} {Q : QT} (h : ∀ k, k < S.length → M' k = M k ∧ L' k = L k) (hc : CW E d mc as S M L Q) : CW E d mc as S M' L' Q := by
  refine ⟨hc.1, fun l dC dI cA ρ sz => ?_⟩
  have := hc.2 l dC dI cA ρ sz
  unfold CP at this ⊢
  rw [wo_cong h]
  exact this
theorem Rel.cong {c rot : Nat} {Mm : AM} {Lm : AL} {Mx Mx' : AM} {Lx Lx' : AL} (hR : Rel c rot Mm Lm Mx Lx) (hx : ∀ l, l < 235 → Mx' l = Mx l) (hl2 : Lx' 0 = Lx 0) : Rel c rot Mm Lm Mx' Lx' := by
  obtain ⟨n, ns, np, hT, hL, hI, hX, hS, hl⟩ := hR
  refine ⟨n, ns, np, hT.keep (fun l h1 h2 => rfl) (fun l h1 h2 => hx l (by omega)), hL.move (fun k hk => rfl) (mv_congr (fun l h1 h2 => hx l (by omega))) (by rw [hx 15 (by omega)]) (fun i hi => mv_congr (fun l h1 h2 => hx l (by have := pl_range rot i; omega))), fun im hi => (hI im hi).keep hi (fun k hk => rfl) rfl (fun l h1 h2 => hx l (by omega)), ?_, ?_, by rw [hl2]; exact hl⟩
  · unfold RX at hX ⊢
    rw [hx 17 (by omega), hx 18 (by omega)]
    exact hX
  · unfold RS at hS ⊢
    rw [hx 0 (by omega), hx 29 (by omega), hx 30 (by omega)]
    exact hS
theorem lw_pair {V : Type} {w : V → Value} {Em Ex : ME} {as : List Value} {c : Nat} {S : AS} {M : AM} {L : AL} (hw : ∀ r ι, mp ι (w r) = w r) (has : ∀ ι : Nat → Nat, as.map (mp ι) = as) (hst : ∀ rot Mm Lm Mx Lx, Rel c rot Mm Lm Mx Lx → StepG w Em Ex as c rot Mm Lm Mx Lx) (hR : LRel c S M L) : ∃ (r : V) (Mid : AS → AM → AL → Prop), CW Ex 30 0 (.ref 0 :: as) S M L (fun r' S' M' L' => r' = some (w r) ∧ Mid S' M' L') ∧ ∀ S' M' L', Mid S' M' L' → (∃ fs, S'[235]? = some (.inl (8, fs))) ∧ CW Em 30 0 (.ref 235 :: as) S' M' L' (fun r' S2 M2 L2 => r' = some (w r) ∧ LRel (c + 1) S2 M2 L2) := by
  obtain ⟨π, rot, hlen, h0, hinj, hlt, hge, hsx, hsm, hRel⟩ := hR
  obtain ⟨r, P, hm, hx⟩ := hst _ _ _ _ _ hRel
  refine ⟨r, fun S' M' L' => ∃ π' rot', S'.length = 256 ∧ π' 0 = 0 ∧ (∀ i j, π' i = π' j → i = j) ∧ (∀ i, i < 235 → π' i < 235) ∧ (∀ k, 235 ≤ k → π' k = k + 21) ∧ (∀ i sh, (Sx rot')[i]? = some sh → ∃ sh', S'[π' i]? = some sh' ∧ eqC sh' (shm π' sh)) ∧ (∀ i sh, Sm[i]? = some sh → S'[235 + i]? = some (shm (fun k => 235 + k) sh)) ∧ (∀ Mm' Lm', P Mm' Lm' → Rel (c + 1) rot' Mm' Lm' (fun k => M' (π' k)) (fun k => L' (π' k))) ∧ ∀ k, k < 21 → M' (235 + k) = M (235 + k) ∧ L' (235 + k) = L (235 + k), ?_, ?_⟩
  · have := cw_frame (E := Ex) (d := 30) (mc := 0) (as := .ref 0 :: as) (Sc := Sx rot) (S := S) (M := M) (L := L) (Qc := fun r' S' M' L' => r' = some (w r) ∧ ∃ π' rot', S'.length = 235 ∧ SwB π' rot' S' ∧ ∀ Mm' Lm', P Mm' Lm' → Rel (c + 1) rot' Mm' Lm' (fun k => M' (π' k)) (fun k => L' (π' k))) (Q := fun r' S' M' L' => r' = some (w r) ∧ ∃ π' rot', S'.length = 256 ∧ π' 0 = 0 ∧ (∀ i j, π' i = π' j → i = j) ∧ (∀ i, i < 235 → π' i < 235) ∧ (∀ k, 235 ≤ k → π' k = k + 21) ∧ (∀ i sh, (Sx rot')[i]? = some sh → ∃ sh', S'[π' i]? = some sh' ∧ eqC sh' (shm π' sh)) ∧ (∀ i sh, Sm[i]? = some sh → S'[235 + i]? = some (shm (fun k => 235 + k) sh)) ∧ (∀ Mm' Lm', P Mm' Lm' → Rel (c + 1) rot' Mm' Lm' (fun k => M' (π' k)) (fun k => L' (π' k))) ∧ ∀ k, k < 21 → M' (235 + k) = M (235 + k) ∧ L' (235 + k) = L (235 + k)) π hinj (fun j => ?_) hsx (hx _ (fun π' rot' S' Mx' Lx' g1 g2 g3 => ⟨rfl, π', rot', g1, g2, g3⟩)) ?_
    · rw [List.map_cons, has, show mp π (.ref 0) = .ref 0 from congrArg Value.ref h0] at this
      exact this
    · rw [Sx_len, hlen, hge _ (by omega)]; omega
    · rintro r' S' M' L' Sf Mf Lf ⟨rfl, π', rot', l', ⟨s0, s1, s3, s2⟩, hP⟩ h1 h2 h3 h4 h5 h6
      have lt' : ∀ i, i < 235 → π' i < 235 := fun i hi => by
        have := s2 i _ (List.getElem?_eq_getElem (show i < (Sx rot').length by rw [Sx_len]; exact hi))
        rw [← l']; exact (List.getElem?_eq_some_iff.mp this).1
      rw [Sx_len] at h2
      have img : ∀ k, k < 21 → ∀ i, π i ≠ 235 + k := fun k hk i e => by
        by_cases a : i < 235
        · have := hlt i a; omega
        · rw [hge i (by omega)] at e; omega
      refine ⟨by rw [Option.map_some, hw], fun k => π (π' k), rot', by omega, ?_, fun i j e => s1 i j (hinj _ _ e), fun i hi => hlt _ (lt' i hi), fun k hk => ?_, fun i sh hs => ?_, fun i sh hs => ?_, fun Mm' Lm' hp => ?_, fun k hk => h6 (235 + k) (img k hk)⟩
      · show π (π' 0) = 0
        rw [s0, h0]
      · show π (π' k) = k + 21
        rw [s3 k hk, hge k hk]
      · have := h3 (π' i) _ (s2 i sh hs)
        rw [shm_shm] at this
        exact ⟨_, this, eqC.refl _⟩
      · have hi : i < 21 := by rw [← Sm_len]; exact (List.getElem?_eq_some_iff.mp hs).1
        rw [h4 (235 + i) (by rw [hlen]; omega) (img i hi)]
        exact hsm i sh hs
      · have := hP Mm' Lm' hp
        rw [show (fun k => Mf (π (π' k))) = fun k => M' (π' k) from funext fun k => (h5 (π' k)).1, show (fun k => Lf (π (π' k))) = fun k => L' (π' k) from funext fun k => (h5 (π' k)).2]
        exact this
  · rintro S' M' L' ⟨π', rot', k1, k2, k3, k4, k4', k5, k6, k7, k8⟩
    refine ⟨⟨_, k6 0 _ rfl⟩, ?_⟩
    have := cw_frame (E := Em) (d := 30) (mc := 0) (as := .ref 0 :: as) (Sc := Sm) (S := S') (M := M') (L := L') (Qc := fun r' S2 M2 L2 => r' = some (w r) ∧ S2 = Sm ∧ P M2 L2) (Q := fun r' S2 M2 L2 => r' = some (w r) ∧ LRel (c + 1) S2 M2 L2) (fun k => 235 + k) (fun i j e => by omega) (fun j => by rw [Sm_len, k1]; omega) (fun i sh hs => ⟨_, k6 i sh hs, eqC.refl _⟩) (cw_cong (M := fun k => M (235 + k)) (L := fun k => L (235 + k)) (fun k hk => k8 k (by rw [Sm_len] at hk; exact hk)) (hm _ (fun M2 L2 hp => ⟨rfl, rfl, hp⟩))) ?_
    · rw [List.map_cons, has] at this
      exact this
    · rintro r' S2 M2 L2 Sf Mf Lf ⟨rfl, rfl, hp⟩ h1 h2 h3 h4 h5 h6
      have img : ∀ k, k < 235 → ∀ i, 235 + i ≠ π' k := fun k hk i e => by have := k4 k hk; omega
      refine ⟨by rw [Option.map_some, hw], π', rot', by omega, k2, k3, k4, k4', fun i sh hs => ?_, h3, ?_⟩
      · have hi : i < 235 := by rw [← Sx_len rot']; exact (List.getElem?_eq_some_iff.mp hs).1
        obtain ⟨sh', q1, q2⟩ := k5 i sh hs
        refine ⟨sh', ?_, q2⟩
        rw [h4 (π' i) (by rw [k1]; have := k4 i hi; omega) (img i hi)]
        exact q1
      · have := k7 M2 L2 hp
        rw [show (fun k => Mf (235 + k)) = M2 from funext fun k => (h5 k).1, show (fun k => Lf (235 + k)) = L2 from funext fun k => (h5 k).2]
        exact this.cong (fun l hl => (h6 (π' l) (img l hl)).1) (h6 (π' 0) (img 0 (by decide))).2
theorem LRel.recv {c : Nat} {S : AS} {M : AM} {L : AL} (h : LRel c S M L) : ∃ sh' fs, S[0]? = some sh' ∧ eqC sh' (.inl (7, fs)) := by
  obtain ⟨π, rot, hlen, h0, hinj, hlt, hge, hsx, hsm, hRel⟩ := h
  obtain ⟨sh', h1, h2⟩ := hsx 0 _ rfl
  rw [h0] at h1
  exact ⟨sh', _, h1, h2⟩
