/-! ===== articles: the model's loop ===== -/
section AR2
variable {b : Nat → Nat} {t : Nat} {L : AL}
theorem numQ {c : Nat → Bool} {p : Nat} {k : Nat → Nat → Rz} {P : Dr → Nat → Prop} (h : ∀ v q, RzP P (k v q)) : RzP P (numR b t c p k) := by
  unfold numR
  by_cases z : tK b t p = 1 ∧ c (tV b t p) = true
  · rw [if_pos z]; exact h _ _
  · rw [if_neg z]; trivial
theorem itmW {D : Dr} {c p : Nat} (hD : D.wt ≤ 1) : RzP (fun D' _ => D'.wt ≤ 1) (itm b t D c p) := by
  unfold itm
  by_cases c1 : c = 104
  · rw [if_pos c1]; exact numQ (fun _ _ => numQ (fun _ _ => numQ (fun _ _ => hD)))
  · rw [if_neg c1]
    by_cases c2 : c = 108
    · rw [if_pos c2]; exact numQ (fun _ _ => numQ (fun _ _ => hD))
    · rw [if_neg c2]
      by_cases c3 : c = 112
      · rw [if_pos c3]; exact numQ (fun _ _ => hD)
      · rw [if_neg c3]
        by_cases c4 : c = 115
        · rw [if_pos c4]; exact numQ (fun _ _ => numQ (fun _ _ => hD))
        · rw [if_neg c4]; exact numQ (fun _ _ => Nat.le_refl 1)
theorem cm_readRow {d c p : Nat} {D : Dr} {M : AM} {Q : QT} (hx : TXm b t M) (hD : DV D) (hM : DMm D M) (hm : mayB D c = true) (hs : Sta b t (.ok p) M) (hq : ∀ M', DFm M M' → Eit b t (itm b t D c p) M' → Q none Sm M' L) : CW E8_readRow (d + 5) 0 [.ref 0, .int (nI c)] Sm M L Q := by
  rcases mayB_let hm with rfl | rfl | rfl | rfl | rfl
  · exact cm_rowH hx hD hM (of_decide_eq_true hm) hs hq
  · exact cm_rowL hx hD hM hs hq
  · exact cm_rowP hx hD hM (of_decide_eq_true hm) hs hq
  · exact cm_rowS hx hD hM (of_decide_eq_true hm) hs hq
  · exact cm_rowW hx hD hM hs hq
theorem mso_3 {k : Nat} : mso k = 3 ↔ k = 0 := by
  unfold mso
  by_cases z : k = 0
  · rw [if_pos z]; omega
  · rw [if_neg z]
    by_cases y : k = 3
    · rw [if_pos y]; omega
    · rw [if_neg y]; omega
theorem mso_2 {k : Nat} : mso k = 2 ↔ k = 2 := by
  unfold mso
  by_cases z : k = 0
  · rw [if_pos z]; omega
  · rw [if_neg z]
    by_cases y : k = 3
    · rw [if_pos y]; omega
    · rw [if_neg y]
theorem cm_artL {d n0 : Nat} {M0 : AM} {Q : QT} (hx0 : TXm b t M0) {R : Rz} (hbad : ∀ q M', R = .error q → q ≤ t → DFm M0 M' → Q (some (.int (-10 - nI q))) Sm M' L) (hok : ∀ D i M1 M', R = .ok (D, i) → DV D → i ≤ 200 → DFm M0 M1 → TDm D M1 M' → Q (some (.int (nI i))) Sm (um M' 0 2 0) L) : ∀ f p i (D : Dr) M v2, t + 1 ≤ p + f → i + f ≤ 200 → DV D → D.wt ≤ 1 → DMm D M → DFm M0 M → Sta b t (.ok p) M → prs b t f D p i = R → AW E8_articles (d + 6) 0 n0 Q 21 [some (.ref 0), some (.int (nI i)), v2] [] Sm M L 0 := by
  have t150 := hx0.1
  have hb : ∀ j, j < t → b j < 256 := fun j hj => (hx0.2.2 j hj).1
  intro f
  induction f with
  | zero =>
    intro p i D M v2 e _ _ _ _ _ hs _
    have := hs.1
    omega
  | succ f ih =>
    intro p i D M v2 e hi hD hw hM hF hs hp
    have hx := hx0.df hF
    obtain ⟨s1, s2, s3, s4, s5, s6⟩ := id hs
    have kl := tK_lt (b := b) (t := t) (p := p) hb
    have ml := mso_lt kl
    rw [prs] at hp
    -- behind a fault
    have flt : ∀ q M' i', R = .error q → DFm M0 M' → Sta b t (.error q) M' → ∀ v2, AW E8_articles (d + 6) 0 n0 Q 21 [some (.ref 0), some (.int i'), v2] [] Sm M' L 0 := by
      intro q M' i' eR hF' hs' v2
      obtain ⟨q1, q2⟩ := hs'
      have ne : ¬ M' 0 19 = -9 := by rw [q2]; exact nI_ne9 (by omega)
      refine aw_run ok8_articles noStop 40 ?_
      refine ifF (c := M' 0 19 = -9) ne ?_
      refine ifF (c := M' 0 19 = -9) ne ?_
      have k0 := hbad q M' eR q1 hF'
      rw [← q2] at k0
      exact k0
    refine aw_run ok8_articles (at1 21) 60 ?_
    refine ifT (c := M 0 19 = -9) s6 ?_
    have e3 : M 0 17 = 3 ↔ tK b t p = 0 := by
      rw [s4, ← mso_3]; exact nI_eq (b := 3) (by omega) (by decide)
    by_cases z : tK b t p = 0
    · rw [if_pos z] at hp
      refine ifT (c := M 0 17 = 3) (e3.mpr z) ?_
      refine ifT (c := M 0 19 = -9) s6 ?_
      refine cm_takeDraft hD hM (fun M' hT => ?_)
      exact hok D i M M' hp.symm hD (by omega) hF hT
    · rw [if_neg z] at hp
      refine ifF (c := M 0 17 = 3) (fun y => z (e3.mp y)) ?_
      have mb := fun d Q hq => cm_mayBe (d := d) (Q := Q) (L := L) hD hw hM ml hq
      rw [← s4, mayB_mso] at mb
      refine mb _ _ ?_
      unfold item at hp
      cases hm : mayB D (tK b t p) with
      | false =>
        rw [if_neg (by rw [hm]; decide)] at hp
        refine cm_wants0 hs (fun M' g1 g2 => ?_)
        refine ifF (c := M' 0 19 = -9) (by rw [g2.2]; exact nI_ne9 (by have := g2.1; omega)) ?_
        exact flt _ M' _ hp.symm (hF.trans g1.df) g2 _
      | true =>
        rw [if_pos hm] at hp
        have kne : mso (tK b t p) = tK b t p := by
          rcases mayB_let hm with h | h | h | h | h <;> rw [h] <;> rfl
        refine cm_wants1 hx hs (fun M' g1 g2 => ?_)
        refine ifT (c := M' 0 19 = -9) g2.2.2.2.2.2 ?_
        have hM' : DMm D M' := by
          obtain ⟨⟨m1, m2, m3, m4, m5⟩, m6, m7, m8, m9⟩ := hM
          refine ⟨⟨by rw [g1.1 2 (by decide)]; exact m1, by rw [g1.1 7 (by decide)]; exact m2, by rw [g1.1 10 (by decide)]; exact m3, by rw [g1.1 12 (by decide)]; exact m4, by rw [g1.2 14 (by omega)]; exact m5⟩, ?_, ?_, ?_, ?_⟩
          · rw [g1.1 3 (by decide), g1.1 4 (by decide), g1.1 5 (by decide)]; exact m6
          · rw [g1.1 6 (by decide)]; exact m7
          · rw [g1.1 8 (by decide), g1.1 9 (by decide)]; exact m8
          · rw [g1.1 11 (by decide)]; exact m9
        have rr := fun d Q hq => cm_readRow (d := d) (Q := Q) (L := L) (hx.f5 g1) hD hM' hm g2 hq
        rw [← kne, ← s4, kne] at rr
        refine rr (d) _ (fun M2 h1 h2 => ?_)
        have P1 := itmP (b := b) (t := t) hD hm (tE_le (b := b) s1)
        have P2 := itmW (b := b) (t := t) (c := tK b t p) (p := tE b t p) hw
        have gt := tE_gt2 z
        have hF2 := hF.trans (g1.df.trans h1)
        have hx2 := hx0.df hF2
        generalize itm b t D (tK b t p) (tE b t p) = r at hp h2 P1 P2
        cases r with
        | error q =>
          have h2 : Sta b t (.error q) M2 := h2
          have fl := fun i' => flt q M2 i' hp.symm hF2 h2
          refine iteI (fun _ => ?_) (fun _ => ?_)
          · refine cm_wantsB h2.2 (by have := h2.1; omega) ?_
            exact fl _ _
          · refine cm_wantsB h2.2 (by have := h2.1; omega) ?_
            exact fl _ _
        | ok x =>
          obtain ⟨D', q⟩ := x
          obtain ⟨d1, d2⟩ := h2
          have d2 : Sta b t (.ok q) M2 := d2
          obtain ⟨P1a, P1b, P1c⟩ := P1
          have kl2 := tK_lt (b := b) (t := t) (p := q) hb
          have e2 : M2 0 17 = 2 ↔ tK b t q = 2 := by
            rw [d2.2.2.2.1, ← mso_2]; exact nI_eq (b := 2) (by have := mso_lt kl2; omega) (by decide)
          have hp : (match (if tK b t q = 2 then Rz.good D' (tE b t q) else Rz.bad (tS b t q)) with | .error q => Rz.bad q | .ok x => prs b t f x.1 x.2 (i + 1)) = R := hp
          by_cases y : tK b t q = 2
          · rw [if_pos y] at hp
            refine ifT (c := M2 0 17 = 2) (e2.mpr y) ?_
            refine cm_wants1 hx2 d2 (fun M3 k1 k2 => ?_)
            have hM3 : DMm D' M3 := by
              obtain ⟨⟨m1, m2, m3, m4, m5⟩, m6, m7, m8, m9⟩ := d1
              refine ⟨⟨by rw [k1.1 2 (by decide)]; exact m1, by rw [k1.1 7 (by decide)]; exact m2, by rw [k1.1 10 (by decide)]; exact m3, by rw [k1.1 12 (by decide)]; exact m4, by rw [k1.2 14 (by omega)]; exact m5⟩, ?_, ?_, ?_, ?_⟩
              · rw [k1.1 3 (by decide), k1.1 4 (by decide), k1.1 5 (by decide)]; exact m6
              · rw [k1.1 6 (by decide)]; exact m7
              · rw [k1.1 8 (by decide), k1.1 9 (by decide)]; exact m8
              · rw [k1.1 11 (by decide)]; exact m9
            have ge := tE_ge (b := b) (t := t) (p := q)
            have k0 := fun v2 => ih (tE b t q) (i + 1) D' M3 v2 (by omega) (by omega) P1a P2 hM3 (hF2.trans k1.df) k2 hp
            rw [nI_succ] at k0
            exact k0 _
          · rw [if_neg y] at hp
            refine ifF (c := M2 0 17 = 2) (fun u => y (e2.mp u)) ?_
            refine cm_wants0 d2 (fun M3 k1 k2 => ?_)
            exact flt _ M3 _ hp.symm (hF2.trans k1.df) k2 _
theorem cm_articles {d : Nat} {M : AM} {Q : QT} (hx : TXm b t M) {R : Rz} (hR : prs b t 151 D0 0 0 = R) (hbad : ∀ q M', R = .error q → q ≤ t → DFm M M' → Q (some (.int (-10 - nI q))) Sm M' L) (hok : ∀ D i M1 M', R = .ok (D, i) → DV D → i ≤ 200 → DFm M M1 → TDm D M1 M' → Q (some (.int (nI i))) Sm (um M' 0 2 0) L) : CW E8_articles (d + 6) 0 [.ref 0] Sm M L Q := by
  have t150 := hx.1
  refine cw_ent ok8_articles (at1 21) 60 ?_
  refine cm_plain (fun M1 h1 h2 h3 => ?_)
  have f0 : DFm M (um (um M 0 15 0) 0 19 (-9)) := ((DFm.refl M).um (by unfold okD; omega)).um (by unfold okD; omega)
  have f1 := f0.trans h1
  have e15 : M1 0 15 = nI 0 := by rw [h2 15 (by decide), um_oth _ _ _ (by decide), um_same]; rfl
  have e19 : M1 0 19 = -9 := by rw [h2 19 (by decide), um_same]
  refine cm_step (hx.df f1) e15 (Nat.zero_le _) ?_
  rintro M2 ⟨g1, g2, g3, g4, g5⟩
  have hM2 : DMm D0 M2 := by
    obtain ⟨⟨m1, m2, m3, m4, m5⟩, m6, m7, m8, m9⟩ := h3
    refine ⟨⟨by rw [g1.1 2 (by decide)]; exact m1, by rw [g1.1 7 (by decide)]; exact m2, by rw [g1.1 10 (by decide)]; exact m3, by rw [g1.1 12 (by decide)]; exact m4, by rw [g1.2 14 (by decide) (by decide) (by decide) (by decide)]; exact m5⟩, ?_, ?_, ?_, ?_⟩
    · rw [g1.1 3 (by decide), g1.1 4 (by decide), g1.1 5 (by decide)]; exact m6
    · rw [g1.1 6 (by decide)]; exact m7
    · rw [g1.1 8 (by decide), g1.1 9 (by decide)]; exact m8
    · rw [g1.1 11 (by decide)]; exact m9
  exact cm_artL (M0 := M) hx hbad hok 151 0 0 D0 M2 none (by omega) (by omega) DV0 (by decide) hM2 (f1.trans g1.to5.df) ⟨Nat.zero_le _, g2, g3, g4, g5, (g1.2 19 (by decide) (by decide) (by decide) (by decide)).trans e19⟩ hR
end AR2
