/-! ===== the frame rule of the abstract machine, with new cells ===== -/
/-- the same cell, told otherwise -/
def eqC (a b : Sh) : Prop := ∀ (cA : FieldType → ClassId) (ρ : Nat → Nat) (M : AM) (L : AL) (k : Nat) (D : va_G) (cl : List vw_C) (q : Nat) (H : Heap), va_at D cl (q, cv cA ρ M L k a) H → va_at D cl (q, cv cA ρ M L k b) H
theorem eqC.refl (a : Sh) : eqC a a := fun _ _ _ _ _ _ _ _ _ h => h
theorem eqC_arr {C : String} {n : Nat} {f g : Nat → Option Nat} (h : ∀ j, j < n → f j = g j) : eqC (.inr (.object C, n, f)) (.inr (.object C, n, g)) := by
  intro cA ρ M L k D cl q H hh
  have e : arrV (cA (.object C)) n (fun j => va_rf ((f j).map ρ)) = arrV (cA (.object C)) n (fun j => va_rf ((g j).map ρ)) := by
    unfold arrV
    congr 1
    congr 1
    funext j
    show va_rf ((f j.val).map ρ) = va_rf ((g j.val).map ρ)
    rw [h j.val j.isLt]
  show H[q]? = some (arrV (cA (.object C)) n (fun j => va_rf ((g j).map ρ)))
  rw [← e]
  exact hh
def nilS : Sh := .inr (.int, 0, fun _ => none)
theorem cw_frame {E : ME} {d mc : Nat} {as : List Value} {Sc S : AS} {M : AM} {L : AL} {Qc Q : QT} (ι : Nat → Nat) (hinj : ∀ i j, ι i = ι j → i = j) (hnew : ∀ j, ι (Sc.length + j) = S.length + j) (hsh : ∀ i sh, Sc[i]? = some sh → ∃ sh', S[ι i]? = some sh' ∧ eqC sh' (shm ι sh)) (h : CW E d mc as Sc (fun k => M (ι k)) (fun k => L (ι k)) Qc)
    (hq : ∀ r S' M' L' (Sf : AS) (Mf : AM) (Lf : AL), Qc r S' M' L' → Sc.length ≤ S'.length → Sf.length + Sc.length = S.length + S'.length → (∀ i sh, S'[i]? = some sh → Sf[ι i]? = some (shm ι sh)) → (∀ k, k < S.length → (∀ i, ι i ≠ k) → Sf[k]? = S[k]?) → (∀ i, Mf (ι i) = M' i ∧ Lf (ι i) = L' i) → (∀ k, (∀ i, ι i ≠ k) → Mf k = M k ∧ Lf k = L k) → Q (r.map (mp ι)) Sf Mf Lf) : CW E d mc (as.map (mp ι)) S M L Q := by
  refine ⟨h.1, fun l dC dI cA ρ sz => MetFree.mono (h.2 l dC dI cA (fun k => ρ (ι k)) sz) ?_ (fun _ _ _ _ _ h => h) ?_⟩
  · rintro a U ⟨h1, h2, h3, h4, h5, h6⟩
    have hat : ∀ (i : Nat) (x : Nat × va_E), (wo cA (fun k => ρ (ι k)) Sc (fun k => M (ι k)) (fun k => L (ι k)))[i]? = some x → ∃ y, (wo cA ρ S M L)[ι i]? = some y ∧ y.1 = x.1 ∧ (va_at (dC, dI) vwCl y U.heap → va_at (dC, dI) vwCl x U.heap) := by
      intro i x hx
      simp only [wo, List.getElem?_mapIdx] at hx
      cases hs : Sc[i]? with
      | none => rw [hs] at hx; cases hx
      | some sh =>
        rw [hs] at hx
        cases hx
        obtain ⟨sh', k1, k2⟩ := hsh i sh hs
        refine ⟨_, wo_at k1, rfl, fun hv => ?_⟩
        have := k2 cA ρ M L (ι i) _ _ _ _ hv
        rw [cv_shm] at this
        exact this
    refine ⟨?_, h2, h3, fun k q hk => ?_, ⟨fun i j x y hi hj hxy => ?_, fun _ _ _ => trivial⟩, fun h j => ?_⟩
    · rw [h1, List.map_map]
      congr 1
      exact List.map_congr_left (fun v _ => mp_mp ρ ι v)
    · obtain ⟨y, k1, k2, k3⟩ := hat k q hk
      exact k3 (h4 (ι k) y k1)
    · obtain ⟨x', a1, a2, -⟩ := hat i x hi
      obtain ⟨y', b1, b2, -⟩ := hat j y hj
      exact hinj i j (h5.1 _ _ x' y' a1 b1 (by rw [a2, b2]; exact hxy))
    · show ρ (ι (Sc.length + j)) = sz + j
      rw [hnew]; exact h6 h j
  · rintro a U o t ⟨h1, h2, h3, h4, h5, h6⟩ ⟨⟨⟨r, S', M', L', g1, g2, g3, g4, g5, g6⟩, g7⟩, Lo, g8, g9⟩
    classical
    let Mf : AM := fun k => if hk : ∃ i, ι i = k then M' (Classical.choose hk) else M k
    let Lf : AL := fun k => if hk : ∃ i, ι i = k then L' (Classical.choose hk) else L k
    let Sf : AS := (List.range (S.length + (S'.length - Sc.length))).map fun k => if hk : ∃ i, i < S'.length ∧ ι i = k then shm ι (S'[Classical.choose hk]'((Classical.choose_spec hk).1)) else (S[k]?).getD nilS
    have hin : ∀ i, Mf (ι i) = M' i ∧ Lf (ι i) = L' i := by
      intro i
      have hk : ∃ i', ι i' = ι i := ⟨i, rfl⟩
      have he : Classical.choose hk = i := hinj _ _ (Classical.choose_spec hk)
      constructor
      · show (if hk : ∃ i', ι i' = ι i then M' (Classical.choose hk) else M (ι i)) = M' i
        rw [dif_pos hk, he]
      · show (if hk : ∃ i', ι i' = ι i then L' (Classical.choose hk) else L (ι i)) = L' i
        rw [dif_pos hk, he]
    have hout : ∀ k, (∀ i, ι i ≠ k) → Mf k = M k ∧ Lf k = L k := by
      intro k hk
      have hn : ¬ ∃ i, ι i = k := fun ⟨i, a⟩ => hk i a
      constructor
      · show (if hk : ∃ i, ι i = k then M' (Classical.choose hk) else M k) = M k
        rw [dif_neg hn]
      · show (if hk : ∃ i, ι i = k then L' (Classical.choose hk) else L k) = L k
        rw [dif_neg hn]
    have hlen : Sf.length = S.length + (S'.length - Sc.length) := by simp [Sf]
    have lo : ∀ i, i < Sc.length → ι i < S.length := fun i hi => by
      obtain ⟨sh', k1, -⟩ := hsh i _ (List.getElem?_eq_getElem hi)
      exact (List.getElem?_eq_some_iff.mp k1).1
    have up : ∀ i, Sc.length ≤ i → ι i = S.length + (i - Sc.length) := fun i hi => by
      have := hnew (i - Sc.length)
      rw [show Sc.length + (i - Sc.length) = i by omega] at this
      exact this
    have hS1 : ∀ i sh, S'[i]? = some sh → Sf[ι i]? = some (shm ι sh) := by
      intro i sh hs
      have hi : i < S'.length := (List.getElem?_eq_some_iff.mp hs).1
      have hl : ι i < S.length + (S'.length - Sc.length) := by
        by_cases y : i < Sc.length
        · have := lo i y; omega
        · rw [up i (by omega)]; omega
      have hk : ∃ i', i' < S'.length ∧ ι i' = ι i := ⟨i, hi, rfl⟩
      have he : Classical.choose hk = i := hinj _ _ (Classical.choose_spec hk).2
      show ((List.range (S.length + (S'.length - Sc.length))).map _)[ι i]? = _
      rw [List.getElem?_map, List.getElem?_range hl]
      show some (if hk : ∃ i', i' < S'.length ∧ ι i' = ι i then shm ι (S'[Classical.choose hk]'((Classical.choose_spec hk).1)) else (S[ι i]?).getD nilS) = _
      rw [dif_pos hk]
      have hx : S'[Classical.choose hk]'((Classical.choose_spec hk).1) = sh := by
        have := List.getElem?_eq_getElem (Classical.choose_spec hk).1
        have h2 : S'[Classical.choose hk]? = some sh := by rw [he]; exact hs
        exact Option.some.inj (this.symm.trans h2)
      rw [hx]
    have hS2 : ∀ k, k < S.length → (∀ i, ι i ≠ k) → Sf[k]? = S[k]? := by
      intro k hkl hk
      have hn : ¬ ∃ i, i < S'.length ∧ ι i = k := fun ⟨i, _, a⟩ => hk i a
      show ((List.range (S.length + (S'.length - Sc.length))).map _)[k]? = _
      rw [List.getElem?_map, List.getElem?_range (by omega)]
      show some (if hk : ∃ i, i < S'.length ∧ ι i = k then shm ι (S'[Classical.choose hk]'((Classical.choose_spec hk).1)) else (S[k]?).getD nilS) = _
      rw [dif_neg hn, List.getElem?_eq_getElem hkl]
      rfl
    have cases2 : ∀ k, k < Sf.length → (∃ i, i < S'.length ∧ ι i = k) ∨ (k < S.length ∧ ∀ i, ι i ≠ k) := by
      intro k hk
      by_cases y : ∃ i, i < S'.length ∧ ι i = k
      · exact Or.inl y
      · have kl : k < S.length := by
          refine Classical.byContradiction fun z => y ⟨Sc.length + (k - S.length), by rw [hlen] at hk; omega, ?_⟩
          rw [hnew]; omega
        refine Or.inr ⟨kl, fun i e => ?_⟩
        by_cases x : i < S'.length
        · exact y ⟨i, x, e⟩
        · rw [up i (by omega)] at e; omega
    have hat : ∀ (k : Nat) (x : Nat × va_E), (wo cA ρ Sf Mf Lf)[k]? = some x → va_at (dC, dI) vwCl x t.heap ∧ x.1 = ρ k ∧ k < Sf.length := by
      intro k x hx
      simp only [wo, List.getElem?_mapIdx] at hx
      cases hs : Sf[k]? with
      | none => rw [hs] at hx; cases hx
      | some sh =>
        rw [hs] at hx
        cases hx
        have hkl : k < Sf.length := (List.getElem?_eq_some_iff.mp hs).1
        refine ⟨?_, rfl, hkl⟩
        rcases cases2 k hkl with ⟨i, hi, rfl⟩ | ⟨hk1, hk2⟩
        · have hsc : S'[i]? = some (S'[i]) := List.getElem?_eq_getElem hi
          have := hS1 i _ hsc
          rw [hs] at this
          cases this
          have g := g5 i _ (wo_at hsc)
          have hc := cv_shm cA ρ ι Mf Lf i S'[i]
          have hc2 : cv cA (fun k => ρ (ι k)) (fun k => Mf (ι k)) (fun k => Lf (ι k)) i S'[i] = cv cA (fun k => ρ (ι k)) M' L' i S'[i] := cv_congr (hin i).1 (hin i).2 _
          show va_at (dC, dI) vwCl (ρ (ι i), cv cA ρ Mf Lf (ι i) (shm ι S'[i])) t.heap
          rw [hc, hc2]
          exact g
        · have hsS : S[k]? = some sh := by rw [← hS2 k hk1 hk2]; exact hs
          have g := h4 k _ (wo_at hsS)
          show va_at (dC, dI) vwCl (ρ k, cv cA ρ Mf Lf k sh) t.heap
          rw [show cv cA ρ Mf Lf k sh = cv cA ρ M L k sh from cv_congr (hout k hk2).1 (hout k hk2).2 _]
          refine g.kept (g7.2 (ρ k) g.lt (fun hA => ?_))
          rcases hA with ⟨i, hi, he⟩ | hA
          · have hsc : Sc[i]? = some (Sc[i]) := List.getElem?_eq_getElem hi
            obtain ⟨sh', k1, -⟩ := hsh i _ hsc
            have h6 := wo_at (cA := cA) (ρ := ρ) (M := M) (L := L) k1
            exact hk2 i (h5.1 _ _ _ _ h6 (wo_at (M := M) (L := L) hsS) he.symm)
          · have := g.lt
            have h2' : U.heap.size = sz := h2
            have hlt : ρ k < U.heap.size := g.lt
            omega
    have old : ∀ k, k < S.length → ρ k < sz := fun k hk => by
      have g := h4 k _ (wo_at (cA := cA) (ρ := ρ) (M := M) (L := L) (List.getElem?_eq_getElem hk))
      have : ρ k < U.heap.size := g.lt
      have h2' : U.heap.size = sz := h2
      omega
    have new : ∀ i, Sc.length ≤ i → i < S'.length → sz ≤ ρ (ι i) := fun i hi1 hi2 => by
      have w1 := wo_at (cA := cA) (ρ := fun k => ρ (ι k)) (M := M') (L := L') (List.getElem?_eq_getElem hi2)
      rcases g6.2 i _ w1 with ⟨k, hk, he⟩ | hA
      · have w2 := wo_at (cA := cA) (ρ := fun k => ρ (ι k)) (M := M') (L := L') (List.getElem?_eq_getElem (show k < S'.length by omega))
        have := g6.1 i k _ _ w1 w2 he
        omega
      · exact hA
    have hsub : ∀ q, AA Sc.length (fun k => ρ (ι k)) sz q → AA S.length ρ sz q := by
      rintro q (⟨i, hi, rfl⟩ | hA)
      · exact Or.inl ⟨ι i, lo i hi, rfl⟩
      · exact Or.inr hA
    have inj : ∀ i j, i < Sf.length → j < Sf.length → ρ i = ρ j → i = j := by
      have half : ∀ i j, i < Sf.length → j < Sf.length → i < S.length → ρ i = ρ j → i = j := by
        intro i j hi hj h1 he
        by_cases h2 : j < S.length
        · exact h5.1 i j _ _ (wo_at (cA := cA) (ρ := ρ) (M := M) (L := L) (List.getElem?_eq_getElem h1)) (wo_at (M := M) (L := L) (List.getElem?_eq_getElem h2)) he
        · have a1 := old i h1
          have a2 := new (Sc.length + (j - S.length)) (by omega) (by rw [hlen] at hj; omega)
          rw [hnew, show S.length + (j - S.length) = j by omega] at a2
          omega
      intro i j hi hj he
      by_cases h1 : i < S.length
      · exact half i j hi hj h1 he
      · by_cases h2 : j < S.length
        · exact (half j i hj hi h2 he.symm).symm
        · have e1 : ι (Sc.length + (i - S.length)) = i := by rw [hnew]; omega
          have e2 : ι (Sc.length + (j - S.length)) = j := by rw [hnew]; omega
          have := g6.1 (Sc.length + (i - S.length)) (Sc.length + (j - S.length)) _ _ (wo_at (cA := cA) (ρ := fun k => ρ (ι k)) (M := M') (L := L') (List.getElem?_eq_getElem (by rw [hlen] at hi; omega))) (wo_at (M := M') (L := L') (List.getElem?_eq_getElem (by rw [hlen] at hj; omega))) (by show ρ (ι _) = ρ (ι _); rw [e1, e2]; exact he)
          omega
    refine ⟨⟨⟨r.map (mp ι), Sf, Mf, Lf, hq r S' M' L' Sf Mf Lf g1 g3 (by rw [hlen]; omega) hS1 hS2 hin hout, ?_, by rw [hlen]; omega, by rw [hlen]; omega, fun k x hx => (hat k x hx).1, ⟨fun i j x y hi hj hxy => ?_, fun k x hx => ?_⟩⟩, ⟨g7.1, fun q a1 a2 => g7.2 q a1 (fun z => a2 (hsub q z))⟩⟩, Lo, g8, fun q hq2 => hsub _ (g9 q hq2)⟩
    · rw [g2]
      cases r with
      | none => rfl
      | some v => simp [mp_mp]
    · obtain ⟨-, b1, b2⟩ := hat i x hi
      obtain ⟨-, c1, c2⟩ := hat j y hj
      exact inj i j b2 c2 (by rw [← b1, ← c1]; exact hxy)
    · obtain ⟨-, b1, b2⟩ := hat k x hx
      rw [b1]
      by_cases y : k < S.length
      · exact Or.inl ⟨k, y, rfl⟩
      · have a2 := new (Sc.length + (k - S.length)) (by omega) (by rw [hlen] at b2; omega)
        rw [hnew, show S.length + (k - S.length) = k by omega] at a2
        exact Or.inr a2
