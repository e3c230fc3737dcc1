/-! ===== articles: the class's next token ===== -/
section XT2
variable {b : Nat → Nat} {t rot : Nat} {L : AL}
theorem cx_weighNumber {d p : Nat} {M0 M : AM} {Q : QT} (hx : TXx b t M0) (hM : G4 M0 M) (pt : p ≤ t) (w : tS b t p < t) (hd : isDg (b (tS b t p)) = true) (h3 : M 17 3 = nI (tS b t p)) (h4 : M 17 4 = nI (tE b t p)) (h5 : M 17 5 = 2) (hq : ∀ M', XTk b t p M0 M' → Q none (Sx rot) M' L) : CW E4_weighNumber d 0 [.ref 17] (Sx rot) M L Q := by
  have hx' := hx.g4 hM
  have t150 := hx.1
  have hd' := of_decide_eq_true hd
  have hl : ¬ isLt (b (tS b t p)) = true := fun y => by have := of_decide_eq_true y; omega
  have eE : tE b t p = rnE isDg b t (tS b t p) := by unfold tE; rw [if_pos w, if_neg hl, if_pos hd]
  have gt := tE_gt w
  have le := tE_le (b := b) pt
  have sp := (rn_spec (C := isDg) (b := b) (t := t) _ (tS b t p) rfl).2.2.1
  rw [← eE] at sp
  have eK : tK b t p = if tE b t p - tS b t p = 1 ∨ (tE b t p - tS b t p = 2 ∧ b (tS b t p) ≠ 48) then 1 else 3 := by
    unfold tK; rw [if_pos w, if_neg hl, if_pos hd]
  have eV : tV b t p = if tE b t p - tS b t p = 1 then b (tS b t p) - 48 else 10 * (b (tS b t p) - 48) + (b (tS b t p + 1) - 48) := rfl
  obtain ⟨b1, b2⟩ := hx'.2.2 _ w
  have fin : ∀ v : Int32, tK b t p = 1 → v = nI (tV b t p) → Q none (Sx rot) (um M 17 6 v) L := fun v k1 hv => hq _ ⟨hM.um (by decide), by rw [um_oth _ _ _ (by decide)]; exact h4, by rw [um_oth _ _ _ (by decide)]; exact h3, Or.inr (Or.inl ⟨k1, by rw [um_oth _ _ _ (by decide)]; exact h5, by rw [um_same]; exact hv⟩)⟩
  have bad : tK b t p = 3 → Q none (Sx rot) (um M 17 5 4) L := fun k3 => hq _ ⟨hM.um (by decide), by rw [um_oth _ _ _ (by decide)]; exact h4, by rw [um_oth _ _ _ (by decide)]; exact h3, Or.inr (Or.inr (Or.inr (Or.inl ⟨k3, Or.inr (um_same _ _ _ _)⟩)))⟩
  generalize tS b t p = s at *
  have ef : M 18 s - 48 = nI (b s - 48) := by rw [b2]; exact pk_sub (b := 48) (by omega)
  have el : M 17 4 - M 17 3 = nI (tE b t p - s) := by rw [h3, h4, pk_sub (by omega)]
  refine cw_ent ok4_weighNumber noStop 60 ?_
  refine inBI (n := 150) s h3 (by omega) ?_
  by_cases y : tE b t p - s = 1
  · rw [if_pos (Or.inl y)] at eK
    rw [if_pos y] at eV
    refine ifT (c := M 17 4 - M 17 3 = 1) (by rw [el, y]; rfl) ?_
    exact fin _ eK (by rw [eV]; exact ef)
  · refine ifF (c := M 17 4 - M 17 3 = 1) (by rw [el]; exact fun x => y ((nI_eq (b := 1) (by omega) (by decide)).mp x)) ?_
    by_cases x : tE b t p - s = 2
    · refine ifT (c := M 17 4 - M 17 3 = 2) (by rw [el, x]; rfl) ?_
      by_cases u : b s = 48
      · rw [if_neg (fun q => q.elim y (fun q => q.2 u))] at eK
        refine ifT (c := M 18 s - 48 ≤ 0) (by rw [ef, u]; decide) ?_
        exact bad eK
      · rw [if_pos (Or.inr ⟨x, u⟩)] at eK
        rw [if_neg y] at eV
        refine ifF (c := M 18 s - 48 ≤ 0) (by rw [ef]; exact nI_nle (by omega) (by omega)) ?_
        refine inBI (n := 150) (s + 1) (by rw [h3, ← nI_succ]) (by omega) ?_
        refine fin _ eK ?_
        have d1 := of_decide_eq_true (sp (s + 1) (by omega) (by omega)).2
        rw [eV, ef, (hx'.2.2 (s + 1) (by omega)).2, show (10 : Int32) = nI 10 from rfl, pk_mul, nI_add, show (48 : Int32) = nI 48 from rfl, pk_sub (by omega)]
        exact congrArg nI (by omega)
    · rw [if_neg (fun q => q.elim y (fun q => x q.1))] at eK
      refine ifF (c := M 17 4 - M 17 3 = 2) (by rw [el]; exact fun z => x ((nI_eq (b := 2) (by omega) (by decide)).mp z)) ?_
      exact bad eK
theorem cx_nextToken {d p : Nat} {M : AM} {Q : QT} (hx : TXx b t M) (hp : M 17 4 = nI p) (pt : p ≤ t) (hq : ∀ M', XTk b t p M M' → Q none (Sx rot) M' L) : CW E4_nextToken (d + 1) 0 [.ref 17] (Sx rot) M L Q := by
  have t150 := hx.1
  have sl := tS_le (b := b) pt
  refine cw_aw ok4_nextToken rfl ?_
  refine cx_ntS hx (t - p) p M rfl pt (G4.refl M) hp (fun M1 hM1 h15 => ?_)
  have h15 : M1 17 4 = nI (tS b t p) := h15
  have e18 : ∀ s, s < t → b s < 256 ∧ M1 18 s = nI (b s) := (hx.g4 hM1).2.2
  -- the token's end
  have fin : ∀ M3 kd, G4 M M3 → M3 17 4 = nI (tE b t p) → M3 17 3 = nI (tS b t p) → M3 17 5 = nI kd → kd = srN b t (tS b t p) → AW E4_nextToken (d + 1) 0 (Sx rot).length Q 130 [some (.ref 17)] [] (Sx rot) M3 L 0 := by
    intro M3 kd g1 g2 g3 g4 ek
    have e18 : ∀ s, s < t → b s < 256 ∧ M3 18 s = nI (b s) := (hx.g4 g1).2.2
    have gm := g1.um (j := 6) (v := 0) (by decide)
    have q4 : um M3 17 6 0 17 4 = nI (tE b t p) := by rw [um_oth _ _ _ (by decide)]; exact g2
    have q3 : um M3 17 6 0 17 3 = nI (tS b t p) := by rw [um_oth _ _ _ (by decide)]; exact g3
    have q5 : um M3 17 6 0 17 5 = nI kd := by rw [um_oth _ _ _ (by decide)]; exact g4
    have q6 : um M3 17 6 0 17 6 = 0 := um_same _ _ _ _
    have lim := tE_le (b := b) pt
    refine aw_run ok4_nextToken noStop 60 ?_
    unfold srN at ek
    by_cases w : tS b t p < t
    · rw [if_pos w] at ek
      have gt := tE_gt w
      by_cases z : isLt (b (tS b t p)) = true
      · have z' := of_decide_eq_true z
        rw [if_pos z] at ek
        subst ek
        have eK : tK b t p = if tE b t p - tS b t p = 1 then b (tS b t p) else 3 := by unfold tK; rw [if_pos w, if_pos z]
        have el : M3 17 4 - M3 17 3 = nI (tE b t p - tS b t p) := by rw [g2, g3, pk_sub (by omega)]
        refine ifT (c := M3 17 5 = 1) (by rw [g4]; rfl) ?_
        by_cases y : tE b t p - tS b t p = 1
        · rw [if_pos y] at eK
          refine ifT (c := M3 17 4 - M3 17 3 = 1) (by rw [el, y]; rfl) ?_
          refine inBI (n := 150) (tS b t p) g3 (by omega) ?_
          refine hq _ ⟨gm.um (by decide), by rw [um_oth _ _ _ (by decide)]; exact q4, by rw [um_oth _ _ _ (by decide)]; exact q3, Or.inr (Or.inr (Or.inr (Or.inr ⟨by omega, by omega, by rw [um_oth _ _ _ (by decide), q5]; rfl, ?_⟩)))⟩
          rw [um_same, eK]; exact (e18 _ w).2
        · rw [if_neg y] at eK
          refine ifF (c := M3 17 4 - M3 17 3 = 1) (by rw [el]; exact fun x => y ((nI_eq (b := 1) (by omega) (by decide)).mp x)) ?_
          refine ifF (c := M3 17 5 = 2) (by rw [g4]; decide) ?_
          exact hq _ ⟨gm, q4, q3, Or.inr (Or.inr (Or.inr (Or.inl ⟨eK, Or.inl ⟨by rw [q5]; rfl, q6⟩⟩)))⟩
      · rw [if_neg z] at ek
        by_cases y : isDg (b (tS b t p)) = true
        · rw [if_pos y] at ek
          subst ek
          refine ifF (c := M3 17 5 = 1) (by rw [g4]; decide) ?_
          refine ifT (c := M3 17 5 = 2) (by rw [g4]; rfl) ?_
          exact cx_weighNumber hx gm pt w y q3 q4 (by rw [q5]; rfl) (fun M' h' => hq M' h')
        · rw [if_neg y] at ek
          have eK : tK b t p = if b (tS b t p) = 59 then 2 else 3 := by unfold tK; rw [if_pos w, if_neg z, if_neg y]
          by_cases u : b (tS b t p) = 59
          · rw [if_pos u] at ek eK
            subst ek
            refine ifF (c := M3 17 5 = 1) (by rw [g4]; decide) ?_
            refine ifF (c := M3 17 5 = 2) (by rw [g4]; decide) ?_
            exact hq _ ⟨gm, q4, q3, Or.inr (Or.inr (Or.inl ⟨eK, by rw [q5]; rfl⟩))⟩
          · rw [if_neg u] at ek eK
            subst ek
            refine ifF (c := M3 17 5 = 1) (by rw [g4]; decide) ?_
            refine ifF (c := M3 17 5 = 2) (by rw [g4]; decide) ?_
            exact hq _ ⟨gm, q4, q3, Or.inr (Or.inr (Or.inr (Or.inl ⟨eK, Or.inr (by rw [q5]; rfl)⟩)))⟩
    · rw [if_neg w] at ek
      subst ek
      have eK : tK b t p = 0 := by unfold tK; rw [if_neg w]
      refine ifF (c := M3 17 5 = 1) (by rw [g4]; decide) ?_
      refine ifF (c := M3 17 5 = 2) (by rw [g4]; decide) ?_
      exact hq _ ⟨gm, q4, q3, Or.inl ⟨eK, by rw [q5]; rfl⟩⟩
  -- the run
  have run : ∀ M2, G4 M M2 → M2 17 3 = nI (tS b t p) → M2 17 5 = nI (srN b t (tS b t p)) → M2 17 4 = nI (if tS b t p < t then tS b t p + 1 else tS b t p) → AW E4_nextToken (d + 1) 0 (Sx rot).length Q 75 [some (.ref 17)] [] (Sx rot) M2 L 0 := by
    intro M2 g1 g3 g5 g4
    by_cases w : tS b t p < t
    · rw [if_pos w] at g4
      by_cases z : isLt (b (tS b t p)) = true
      · have ek : srN b t (tS b t p) = 1 := by unfold srN; rw [if_pos w, if_pos z]
        have eE : tE b t p = rnE isLt b t (tS b t p + 1) := by unfold tE; rw [if_pos w, if_pos z, rn_step w z]
        refine cx_ntR (kd := 1) (C := isLt) hx (Or.inl rfl) (fun i hi => ?_) (t - (tS b t p + 1)) (tS b t p + 1) M2 rfl (by omega) g1 g4 (by rw [g5, ek]) (fun M3 k1 k2 k3 k4 => fin M3 1 k1 (by rw [eE]; exact k2) (by rw [k4]; exact g3) k3 ek.symm)
        unfold srN
        rw [if_pos hi]
        by_cases x : isLt (b i) = true
        · rw [if_pos x]; exact ⟨fun _ => x, fun _ => rfl⟩
        · rw [if_neg x]
          refine ⟨fun e => ?_, fun e => absurd e x⟩
          split at e
          · omega
          · split at e <;> omega
      · by_cases y : isDg (b (tS b t p)) = true
        · have ek : srN b t (tS b t p) = 2 := by unfold srN; rw [if_pos w, if_neg z, if_pos y]
          have eE : tE b t p = rnE isDg b t (tS b t p + 1) := by unfold tE; rw [if_pos w, if_neg z, if_pos y, rn_step w y]
          refine cx_ntR (kd := 2) (C := isDg) hx (Or.inr rfl) (fun i hi => ?_) (t - (tS b t p + 1)) (tS b t p + 1) M2 rfl (by omega) g1 g4 (by rw [g5, ek]) (fun M3 k1 k2 k3 k4 => fin M3 2 k1 (by rw [eE]; exact k2) (by rw [k4]; exact g3) k3 ek.symm)
          unfold srN
          rw [if_pos hi]
          by_cases x : isLt (b i) = true
          · rw [if_pos x]
            have x' := of_decide_eq_true x
            exact ⟨fun e => absurd e (by decide), fun e => by have := of_decide_eq_true e; omega⟩
          · rw [if_neg x]
            by_cases v : isDg (b i) = true
            · rw [if_pos v]; exact ⟨fun _ => v, fun _ => rfl⟩
            · rw [if_neg v]
              refine ⟨fun e => ?_, fun e => absurd e v⟩
              split at e <;> omega
        · have eE : tE b t p = tS b t p + 1 := by unfold tE; rw [if_pos w, if_neg z, if_neg y]
          have ek : srN b t (tS b t p) = 3 ∨ srN b t (tS b t p) = 4 := by
            unfold srN; rw [if_pos w, if_neg z, if_neg y]
            split
            · exact Or.inl rfl
            · exact Or.inr rfl
          have k0 := fin M2 _ g1 (by rw [eE]; exact g4) g3 g5 rfl
          have n1 : ¬ M2 17 5 = 1 := by rw [g5]; rcases ek with e | e <;> rw [e] <;> decide
          have n2 : ¬ M2 17 5 = 2 := by rw [g5]; rcases ek with e | e <;> rw [e] <;> decide
          refine aw_run ok4_nextToken (at1 130) 40 ?_
          refine iteI (fun _ => k0) (fun _ => ?_)
          refine ifF (c := M2 17 5 = 1) n1 ?_
          refine ifF (c := M2 17 5 = 2) n2 ?_
          exact k0
    · rw [if_neg w] at g4
      have ek : srN b t (tS b t p) = 0 := by unfold srN; rw [if_neg w]
      have eE : tE b t p = tS b t p := by unfold tE; rw [if_neg w]
      have k0 := fin M2 _ g1 (by rw [eE]; exact g4) g3 g5 rfl
      refine aw_run ok4_nextToken (at1 130) 40 ?_
      refine ifT (c := M2 17 1 ≤ M2 17 4) (by rw [(hx.g4 g1).2.1, g4]; exact nI_le (by omega) (by omega)) ?_
      exact k0
  have sa := fun d M' Q (hM' : G4 M M') hq => cx_sortAt (b := b) (t := t) (rot := rot) (d := d) (M := M') (L := L) (Q := Q) (hx.g4 hM') sl hq
  rw [← h15] at sa
  refine aw_run ok4_nextToken (at1 75) 60 ?_
  refine sa _ _ _ (hM1.um (by decide)) ?_
  rw [h15]
  by_cases w : tS b t p < t
  · have kne : ¬ srN b t (tS b t p) = 0 := by
      unfold srN; rw [if_pos w]
      split
      · decide
      · split
        · decide
        · split <;> decide
    have sl4 : srN b t (tS b t p) ≤ 4 := by
      unfold srN; split
      · split
        · omega
        · split
          · omega
          · split <;> omega
      · omega
    refine ifF (c := nI (srN b t (tS b t p)) = 0) (fun e => kne ((nI_eq (b := 0) (by omega) (by decide)).mp e)) ?_
    refine run _ (((hM1.um (by decide)).um (by decide)).um (by decide)) ?_ ?_ ?_
    · rw [um_oth _ _ _ (by decide), um_oth _ _ _ (by decide), um_same]
    · rw [um_oth _ _ _ (by decide), um_same]
    · rw [um_same, if_pos w, nI_succ, um_oth _ _ _ (by decide), um_oth _ _ _ (by decide), h15]
  · have ek : srN b t (tS b t p) = 0 := by unfold srN; rw [if_neg w]
    refine ifT (c := nI (srN b t (tS b t p)) = 0) (by rw [ek]; rfl) ?_
    refine run _ ((hM1.um (by decide)).um (by decide)) ?_ ?_ ?_
    · rw [um_oth _ _ _ (by decide), um_same]
    · rw [um_same]
    · rw [if_neg w, um_oth _ _ _ (by decide), um_oth _ _ _ (by decide), h15]
end XT2
