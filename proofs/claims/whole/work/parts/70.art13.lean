/-! ===== articles: the class's call ===== -/
def DFy (M M' : AM) : Prop := (∀ l, l ≠ 17 → l < 31 ∨ 38 < l → M' l = M l) ∧ M' 17 1 = M 17 1
theorem DFx.y {A B C : AM} (h : DFy A B) (g : DFx B C) : DFy A C := ⟨fun l a b => (g.1 l a b).trans (h.1 l a b), (g.2 1 (by decide)).trans h.2⟩
section XA
variable {b : Nat → Nat} {t rot : Nat} {L : AL}
theorem cx_wipe {d : Nat} {M : AM} {Q : QT} (hq : ∀ M', DFx M M' → DXx D0 M' → Q none (Sx rot) M' L) : CW E6_wipe d 0 [.ref 31] (Sx rot) M L Q := by
  have key : ∀ k, k ≤ 6 → ∀ T, DFx M T → (T 31 0 = 0 ∧ T 31 1 = 0 ∧ T 31 2 = 0 ∧ T 31 3 = 10 ∧ T 31 4 = 0) → (∀ h, h < 6 - k → T 35 h = 0) → AW E6_wipe d 0 (Sx rot).length Q 28 [some (.ref 31), some (.int (nI (6 - k)))] [] (Sx rot) T L 0 := by
    intro k
    induction k with
    | zero =>
      intro _ T h1 ⟨g1, g2, g3, g4, g5⟩ h4
      refine aw_run ok6_wipe (at1 28) 30 ?_
      refine hq T h1 ⟨⟨g1, g2, g3, g4, g5⟩, fun h hh => absurd hh (Nat.not_lt_zero h), fun h hh => by rw [h4 h hh]; rfl, fun h hh => absurd hh (Nat.not_lt_zero h), fun h hh => absurd hh (Nat.not_lt_zero h)⟩
    | succ k ih =>
      intro hk T h1 ⟨g1, g2, g3, g4, g5⟩ h4
      obtain ⟨i, hi⟩ : ∃ i, 6 - (k + 1) = i := ⟨_, rfl⟩
      rw [hi] at h4 ⊢
      have ih := ih (by omega)
      rw [show 6 - k = i + 1 by omega, nI_succ] at ih
      refine aw_run ok6_wipe (at1 28) 30 ?_
      refine ifF (nI_ge (b := 6) (show i < 6 by omega) (by decide)) ?_
      refine inBI (n := 6) i rfl (by omega) ?_
      refine ih _ (h1.um (by decide) (by decide)) ⟨by rw [um_ne _ _ _ (by decide)]; exact g1, by rw [um_ne _ _ _ (by decide)]; exact g2, by rw [um_ne _ _ _ (by decide)]; exact g3, by rw [um_ne _ _ _ (by decide)]; exact g4, by rw [um_ne _ _ _ (by decide)]; exact g5⟩ (fun h hh => ?_)
      by_cases e : h = i
      · rw [e, um_same]
      · rw [um_oth _ _ _ e]; exact h4 h (by omega)
  refine cw_ent ok6_wipe (at1 28) 40 ?_
  refine key 6 (Nat.le_refl _) _ ?_ ⟨?_, ?_, ?_, ?_, ?_⟩ (fun h hh => absurd hh (by omega))
  · exact (((((DFx.refl M).um (by decide) (by decide)).um (by decide) (by decide)).um (by decide) (by decide)).um (by decide) (by decide)).um (by decide) (by decide)
  · rw [um_oth _ _ _ (by decide), um_oth _ _ _ (by decide), um_oth _ _ _ (by decide), um_oth _ _ _ (by decide), um_same]
  · rw [um_oth _ _ _ (by decide), um_oth _ _ _ (by decide), um_oth _ _ _ (by decide), um_same]
  · rw [um_oth _ _ _ (by decide), um_oth _ _ _ (by decide), um_same]
  · rw [um_oth _ _ _ (by decide), um_same]
  · rw [um_same]
theorem cx_readIntoL {d n0 : Nat} {M0 : AM} {Q : QT} (hx0 : TXx b t M0) {R : Rz} (hbad : ∀ q M', R = .error q → DFy M0 M' → M' 17 3 = nI q → Q (some (.int 0)) (Sx rot) M' L) (hok : ∀ D i M', R = .ok (D, i) → DFy M0 M' → DXx D M' → M' 17 2 = nI i → Q (some (.int 1)) (Sx rot) M' L) : ∀ f p i (D : Dr) M, t + 1 ≤ p + f → i + f = 151 → p ≤ t → DV D → D.wt ≤ 1 → DXx D M → DFy M0 M → M 17 4 = nI p → M 17 2 = nI i → prs b t f D p i = R → AW E4_readInto (d + 5) 0 n0 Q 16 [some (.ref 17), some (.ref 31), some (.int (nI i))] [] (Sx rot) M L 0 := by
  have t150 := hx0.1
  intro f
  induction f with
  | zero => intro p i D M e _ pt; omega
  | succ f ih =>
    intro p i D M e hi pt hD hw hM hF h4 h2 hp
    have hx : TXx b t M := ⟨hx0.1, hF.2.trans hx0.2.1, fun j hj => by rw [hF.1 18 (by decide) (by decide)]; exact hx0.2.2 j hj⟩
    rw [prs] at hp
    refine aw_run ok4_readInto (at1 16) 60 ?_
    refine ifF (c := 150 < nI i) (nI_nlt (a := 150) (by omega) (by decide)) ?_
    refine cx_nextToken hx h4 pt ?_
    rintro M1 ⟨g1, g2, g3, g4⟩
    have F1 := g1.dx.y hF
    by_cases z : tK b t p = 0
    · rw [if_pos z] at hp
      refine ifT (c := M1 17 5 = 0) (g4.zero.mpr z) ?_
      exact hok D i M1 hp.symm F1 (hM.g4 g1) (by rw [g1.2 2 (by decide)]; exact h2)
    · rw [if_neg z] at hp
      refine ifF (c := M1 17 5 = 0) (fun y => z (g4.zero.mp y)) ?_
      by_cases y : M1 17 5 = 1
      · refine ifT (c := M1 17 5 = 1) y ?_
        have P1 := itemP (b := b) (t := t) hD pt
        have P2 : RzP (fun D' _ => D'.wt ≤ 1) (item b t D p) := by
          unfold item
          by_cases m : mayB D (tK b t p) = true
          · rw [if_pos m]
            have P3 := itmW (b := b) (t := t) (c := tK b t p) (p := tE b t p) hw
            generalize itm b t D (tK b t p) (tE b t p) = r at P3
            cases r with
            | error q => trivial
            | ok x =>
              show RzP _ (if tK b t x.2 = 2 then Rz.good x.1 (tE b t x.2) else Rz.bad (tS b t x.2))
              by_cases u : tK b t x.2 = 2
              · rw [if_pos u]; exact P3
              · rw [if_neg u]; trivial
          · rw [if_neg m]; trivial
        refine cx_readItem (hx.g4 g1) hD hw (hM.g4 g1) pt g2 g3 g4 y (fun M2 k1 k2 => ?_)
        cases er : item b t D p with
        | error q =>
          rw [er] at hp k2
          exact hbad q M2 hp.symm (k1.y F1) k2
        | ok x =>
          obtain ⟨D', q⟩ := x
          rw [er] at hp k2 P1 P2
          obtain ⟨P1a, P1b, P1c⟩ := P1
          obtain ⟨k3, k4⟩ := k2
          have F2 := k1.y F1
          have e2 : M2 17 2 = nI i := by rw [k1.2 2 (by decide), g1.2 2 (by decide)]; exact h2
          have k0 := ih q (i + 1) D' (um M2 17 2 (M2 17 2 + 1)) (by omega) (by omega) P1c P1a P2 ?_ ⟨fun l a c => by rw [um_ne _ _ _ a]; exact F2.1 l a c, by rw [um_oth _ _ _ (by decide)]; exact F2.2⟩ (by rw [um_oth _ _ _ (by decide)]; exact k4) (by rw [um_same, e2, ← nI_succ]) hp
          · rw [nI_succ] at k0
            exact k0
          · obtain ⟨m1, m6, m7, m8, m9⟩ := k3
            refine ⟨by rw [um_ne _ _ _ (by decide)]; exact m1, by rw [um_ne _ _ _ (by decide), um_ne _ _ _ (by decide), um_ne _ _ _ (by decide)]; exact m6, by rw [um_ne _ _ _ (by decide)]; exact m7, by rw [um_ne _ _ _ (by decide), um_ne _ _ _ (by decide)]; exact m8, by rw [um_ne _ _ _ (by decide)]; exact m9⟩
      · refine ifF (c := M1 17 5 = 1) y ?_
        have nm : mayB D (tK b t p) = false := by
          cases hm : mayB D (tK b t p) with
          | false => rfl
          | true =>
            exfalso
            apply y
            have lt := mayB_let hm
            rcases g4 with ⟨a, c⟩ | ⟨a, c, -⟩ | ⟨a, c⟩ | ⟨a, -⟩ | ⟨a, a', c, -⟩
            · omega
            · omega
            · omega
            · omega
            · exact c
        have ei : item b t D p = .error (tS b t p) := by unfold item; rw [if_neg (by rw [nm]; decide)]
        rw [ei] at hp
        exact hbad _ M1 hp.symm F1 g3
theorem cx_readInto {d : Nat} {M : AM} {Q : QT} (hx : TXx b t M) {R : Rz} (hR : prs b t 151 D0 0 0 = R) (hbad : ∀ q M', R = .error q → DFy M M' → M' 17 3 = nI q → Q (some (.int 0)) (Sx rot) M' L) (hok : ∀ D i M', R = .ok (D, i) → DFy M M' → DXx D M' → M' 17 2 = nI i → Q (some (.int 1)) (Sx rot) M' L) : CW E4_readInto (d + 5) 0 [.ref 17, .ref 31] (Sx rot) M L Q := by
  have t150 := hx.1
  refine cw_ent ok4_readInto (at1 16) 60 ?_
  refine cx_wipe (fun M1 h1 h2 => ?_)
  have hM2 : DXx D0 (um (um M1 17 2 0) 17 4 0) := by
    obtain ⟨m1, m6, m7, m8, m9⟩ := h2
    refine ⟨by rw [um_ne _ _ _ (by decide), um_ne _ _ _ (by decide)]; exact m1, fun h hh => absurd hh (Nat.not_lt_zero h), by rw [um_ne _ _ _ (by decide), um_ne _ _ _ (by decide)]; exact m7, fun h hh => absurd hh (Nat.not_lt_zero h), fun h hh => absurd hh (Nat.not_lt_zero h)⟩
  exact cx_readIntoL (M0 := M) hx hbad hok 151 0 0 D0 _ (by omega) (by omega) (Nat.zero_le _) DV0 (by decide) hM2 ⟨fun l a c => by rw [um_ne _ _ _ a, um_ne _ _ _ a]; exact h1.1 l a c, by rw [um_oth _ _ _ (by decide), um_oth _ _ _ (by decide)]; exact h1.2 1 (by decide)⟩ (um_same _ _ _ _) (by rw [um_oth _ _ _ (by decide), um_same]; rfl) hR
/-- told and draft change places -/
def Sw (rot : Nat) : AS := .inl (7, [.ref 17, .ref 15, .ref 99, .ref 167, .ref 9, .ref 19, .ref 22, .ref 26, .ref 29, .ref 30, .int 0, .long 0, .ref 31, .ref 1]) :: (Sx rot).tail
theorem cx_begin {d n : Nat} {hd : Sh} {M : AM} {Q : QT} (hq : ∀ M', (∀ l, l < 9 ∨ 14 < l → M' l = M l) → (∀ k, k < 35 → mv M' 9 k = nwV n k) → Q none (hd :: (Sx rot).tail) M' L) : CW E2_begin d 0 [.ref 9, .int (nI n)] (hd :: (Sx rot).tail) M L Q := by
  have key : ∀ k, k ≤ 6 → ∀ T, (∀ l, l < 9 ∨ 14 < l → T l = M l) → (T 9 0 = (1 : Int32) <<< (nI n &&& 31) - 1 ∧ T 9 1 = (if nI n ≤ 0 then -9 else 0) ∧ T 9 2 = 0 ∧ T 9 3 = 0 ∧ T 9 4 = 0) → (∀ l, 10 ≤ l → l ≤ 14 → ∀ h, h < 6 - k → T l h = 0) → AW E2_begin d 0 (hd :: (Sx rot).tail).length Q 40 [some (.ref 9), some (.int (nI n)), some (.int (nI (6 - k)))] [] (hd :: (Sx rot).tail) T L 0 := by
    intro k
    induction k with
    | zero =>
      intro _ T h1 ⟨g1, g2, g3, g4, g5⟩ h4
      refine aw_run ok2_begin (at1 40) 30 ?_
      refine hq T h1 (fun k hk => ?_)
      unfold mv nwV
      by_cases e0 : k = 0
      · rw [if_pos e0, if_pos e0]; exact g1
      rw [if_neg e0, if_neg e0]
      by_cases e1 : k = 1
      · rw [if_pos e1, if_pos e1]; exact g2
      rw [if_neg e1, if_neg e1]
      by_cases e2 : k = 2
      · rw [if_pos e2]; exact g3
      rw [if_neg e2]
      by_cases e3 : k < 9
      · rw [if_pos e3]; exact h4 10 (by decide) (by decide) _ (by omega)
      rw [if_neg e3]
      by_cases e4 : k < 15
      · rw [if_pos e4]; exact h4 11 (by decide) (by decide) _ (by omega)
      rw [if_neg e4]
      by_cases e5 : k < 21
      · rw [if_pos e5]; exact h4 12 (by decide) (by decide) _ (by omega)
      rw [if_neg e5]
      by_cases e6 : k < 27
      · rw [if_pos e6]; exact h4 13 (by decide) (by decide) _ (by omega)
      rw [if_neg e6]
      by_cases e7 : k < 33
      · rw [if_pos e7]; exact h4 14 (by decide) (by decide) _ (by omega)
      rw [if_neg e7]
      by_cases e8 : k = 33
      · rw [if_pos e8]; exact g4
      rw [if_neg e8]
      have e9 : k = 34 := by omega
      subst e9
      exact g5
    | succ k ih =>
      intro hk T h1 ⟨g1, g2, g3, g4, g5⟩ h4
      obtain ⟨i, hi⟩ : ∃ i, 6 - (k + 1) = i := ⟨_, rfl⟩
      rw [hi] at h4 ⊢
      have ih := ih (by omega)
      rw [show 6 - k = i + 1 by omega, nI_succ] at ih
      refine aw_run ok2_begin (at1 40) 60 ?_
      refine ifF (nI_ge (b := 6) (show i < 6 by omega) (by decide)) ?_
      refine inBI (n := 6) i rfl (by omega) ?_
      refine inBI (n := 6) i rfl (by omega) ?_
      refine inBI (n := 6) i rfl (by omega) ?_
      refine inBI (n := 6) i rfl (by omega) ?_
      refine inBI (n := 6) i rfl (by omega) ?_
      refine ih _ (fun l hl => ?_) ⟨?_, ?_, ?_, ?_, ?_⟩ (fun l a1 a2 h hh => ?_)
      · rw [um_ne _ _ _ (by omega), um_ne _ _ _ (by omega), um_ne _ _ _ (by omega), um_ne _ _ _ (by omega), um_ne _ _ _ (by omega)]; exact h1 l hl
      · rw [um_ne _ _ _ (by decide), um_ne _ _ _ (by decide), um_ne _ _ _ (by decide), um_ne _ _ _ (by decide), um_ne _ _ _ (by decide)]; exact g1
      · rw [um_ne _ _ _ (by decide), um_ne _ _ _ (by decide), um_ne _ _ _ (by decide), um_ne _ _ _ (by decide), um_ne _ _ _ (by decide)]; exact g2
      · rw [um_ne _ _ _ (by decide), um_ne _ _ _ (by decide), um_ne _ _ _ (by decide), um_ne _ _ _ (by decide), um_ne _ _ _ (by decide)]; exact g3
      · rw [um_ne _ _ _ (by decide), um_ne _ _ _ (by decide), um_ne _ _ _ (by decide), um_ne _ _ _ (by decide), um_ne _ _ _ (by decide)]; exact g4
      · rw [um_ne _ _ _ (by decide), um_ne _ _ _ (by decide), um_ne _ _ _ (by decide), um_ne _ _ _ (by decide), um_ne _ _ _ (by decide)]; exact g5
      · by_cases e : h = i
        · subst e
          rcases (show l = 10 ∨ l = 11 ∨ l = 12 ∨ l = 13 ∨ l = 14 by omega) with rfl | rfl | rfl | rfl | rfl
          · rw [um_ne _ _ _ (by decide), um_ne _ _ _ (by decide), um_ne _ _ _ (by decide), um_ne _ _ _ (by decide), um_same]
          · rw [um_ne _ _ _ (by decide), um_ne _ _ _ (by decide), um_ne _ _ _ (by decide), um_same]
          · rw [um_ne _ _ _ (by decide), um_ne _ _ _ (by decide), um_same]
          · rw [um_ne _ _ _ (by decide), um_same]
          · rw [um_same]
        · rw [um_app, if_neg (by omega), um_app, if_neg (by omega), um_app, if_neg (by omega), um_app, if_neg (by omega), um_app, if_neg (by omega)]; exact h4 l a1 a2 h (by omega)
  refine cw_ent ok2_begin (at1 40) 60 ?_
  have st : ∀ c : Int32, c = (if nI n ≤ 0 then -9 else 0) → AW E2_begin d 0 (hd :: (Sx rot).tail).length Q 40 [some (.ref 9), some (.int (nI n)), some (.int 0)] [] (hd :: (Sx rot).tail) (um (um (um (um (um M 9 0 ((1 : Int32) <<< (nI n &&& 31) - 1)) 9 1 c) 9 2 0) 9 3 0) 9 4 0) L 0 := fun c hc => by
    refine key 6 (Nat.le_refl _) _ (fun l hl => ?_) ⟨?_, ?_, ?_, ?_, ?_⟩ (fun l _ _ h hh => absurd hh (by omega))
    · rw [um_ne _ _ _ (by omega), um_ne _ _ _ (by omega), um_ne _ _ _ (by omega), um_ne _ _ _ (by omega), um_ne _ _ _ (by omega)]
    · rw [um_oth _ _ _ (by decide), um_oth _ _ _ (by decide), um_oth _ _ _ (by decide), um_oth _ _ _ (by decide), um_same]
    · rw [um_oth _ _ _ (by decide), um_oth _ _ _ (by decide), um_oth _ _ _ (by decide), um_same]; exact hc
    · rw [um_oth _ _ _ (by decide), um_oth _ _ _ (by decide), um_same]
    · rw [um_oth _ _ _ (by decide), um_same]
    · rw [um_same]
  refine iteI (fun (y : nI n ≤ 0) => ?_) (fun (y : ¬ nI n ≤ 0) => ?_)
  · exact st (-9) (by rw [if_pos y])
  · exact st 0 (by rw [if_neg y])
theorem cx_beginL {d n : Nat} {hd : Sh} {M : AM} {Q : QT} (hq : ∀ M', (∀ l, l < 9 ∨ 15 < l → M' l = M l) → (∀ k, k < 35 → mv M' 9 k = nwV n k) → M' 15 1 = 0 → Q none (hd :: (Sx rot).tail) M' L) : CW E1_begin (d + 1) 0 [.ref 15, .int (nI n)] (hd :: (Sx rot).tail) M L Q := by
  refine cw_ent ok1_begin noStop 30 ?_
  refine cx_begin (fun M' h1 h2 => ?_)
  refine hq _ (fun l hl => by rw [um_ne _ _ _ (by omega)]; exact h1 l (by omega)) (fun k hk => ?_) (um_same _ _ _ _)
  rw [← h2 k hk]
  exact congrFun (mv_congr (fun l a1 a2 => um_ne _ _ _ (by omega))) k
theorem cx_articles {d : Nat} {M : AM} {Q : QT} (hx : TXx b t M) {R : Rz} (hR : prs b t 151 D0 0 0 = R) (hbad : ∀ q M', R = .error q → DFy M M' → Q (some (.int (-10 - nI q))) (Sx rot) M' L) (hok : ∀ D i M1 M', R = .ok (D, i) → DFy M M1 → DXx D M1 → (∀ l, 31 ≤ l ∧ l ≤ 38 → M' l = M1 l) → (∀ k, k < 35 → mv M' 9 k = nwV D.n k) → M' 15 1 = 0 → M' 17 1 = 0 → M' 99 2 = 0 → M' 167 2 = 0 → M' 0 10 = 0 → Q (some (.int (nI i))) (Sw rot) M' L) : CW E7_articles (d + 6) 0 [.ref 0] (Sx rot) M L Q := by
  refine cw_ent ok7_articles noStop 90 ?_
  refine cx_readInto hx hR (fun q M1 e1 e2 e3 => ?_) (fun D i M1 e1 e2 e3 e4 => ?_)
  · have k0 := hbad q M1 e1 e2
    rw [← e3] at k0
    exact k0
  · have bg := fun Q hq => cx_beginL (d := d + 4) (n := D.n) (hd := .inl (7, [.ref 17, .ref 15, .ref 99, .ref 167, .ref 9, .ref 19, .ref 22, .ref 26, .ref 29, .ref 30, .int 0, .long 0, .ref 31, .ref 1])) (rot := rot) (M := um M1 17 1 0) (L := L) (Q := Q) hq
    have e0 : um M1 17 1 0 31 0 = nI D.n := by rw [um_ne _ _ _ (by decide)]; exact e3.1.1
    rw [← e0] at bg
    refine bg _ (fun M2 h1 h2 h3 => ?_)
    have k0 := hok D i M1 (um (um (um M2 99 2 0) 167 2 0) 0 10 0) e1 e2 e3 (fun l hl => by rw [um_ne _ _ _ (by omega), um_ne _ _ _ (by omega), um_ne _ _ _ (by omega), h1 l (by omega), um_ne _ _ _ (by omega)]) (fun k hk => ?_) (by rw [um_ne _ _ _ (by decide), um_ne _ _ _ (by decide), um_ne _ _ _ (by decide)]; exact h3) (by rw [um_ne _ _ _ (by decide), um_ne _ _ _ (by decide), um_ne _ _ _ (by decide), h1 17 (by omega), um_same]) (by rw [um_ne _ _ _ (by decide), um_ne _ _ _ (by decide), um_same]) (by rw [um_ne _ _ _ (by decide), um_same]) (um_same _ _ _ _)
    · have e17 : um (um (um M2 99 2 0) 167 2 0) 0 10 0 17 2 = nI i := by
        rw [um_ne _ _ _ (by decide), um_ne _ _ _ (by decide), um_ne _ _ _ (by decide), h1 17 (by omega), um_oth _ _ _ (by decide)]; exact e4
      rw [← e17] at k0
      exact k0
    · rw [← h2 k hk]
      exact congrFun (mv_congr (fun l a1 a2 => by rw [um_ne _ _ _ (by omega), um_ne _ _ _ (by omega), um_ne _ _ _ (by omega)])) k
end XA
