/-! ===== articles: the model's call ===== -/
theorem mayB_mso (D : Dr) (k : Nat) : mayB D (mso k) = mayB D k := by
  unfold mso
  by_cases z : k = 0
  · rw [if_pos z, z]; rfl
  · rw [if_neg z]
    by_cases y : k = 3
    · rw [if_pos y, y]; rfl
    · rw [if_neg y]
section AR
variable {b : Nat → Nat} {t : Nat} {L : AL}
theorem cm_mayBe {d k : Nat} {D : Dr} {M : AM} {Q : QT} (hD : DV D) (w1 : D.wt ≤ 1) (hM : DMm D M) (hk : k < 256) (hq : Q (some (.int (bI (mayB D k)))) Sm M L) : CW E8_mayBe d 0 [.ref 0, .int (nI k)] Sm M L Q := by
  obtain ⟨⟨m1, m2, m3, m4, m5⟩, -⟩ := id hM
  obtain ⟨⟨n6, s5, p5, -⟩, -⟩ := id hD
  have eq : ∀ j, j < 256 → (nI k = nI j ↔ k = j) := fun j hj => nI_eq (by omega) (by omega)
  unfold mayB at hq
  refine cw_ent ok8_mayBe noStop 40 ?_
  by_cases c1 : k = 104
  · rw [if_pos c1] at hq
    refine ifT (c := nI k = 104) ((eq 104 (by decide)).mpr c1) ?_
    refine inBI (n := 2) 1 rfl (by decide) ?_
    by_cases z : D.n < 6
    · rw [decide_eq_true z] at hq
      refine ifF (c := 6 ≤ M 2 1) (by rw [m1]; exact nI_ge (b := 6) z (by decide)) ?_
      exact hq
    · rw [decide_eq_false z] at hq
      refine ifT (c := 6 ≤ M 2 1) (by rw [m1]; exact nI_le (a := 6) (by omega) (by omega)) ?_
      exact hq
  · rw [if_neg c1] at hq
    refine ifF (c := nI k = 104) (fun y => c1 ((eq 104 (by decide)).mp y)) ?_
    by_cases c2 : k = 108
    · rw [if_pos c2] at hq
      refine ifT (c := nI k = 108) ((eq 108 (by decide)).mpr c2) ?_
      exact hq
    · rw [if_neg c2] at hq
      refine ifF (c := nI k = 108) (fun y => c2 ((eq 108 (by decide)).mp y)) ?_
      by_cases c3 : k = 112
      · rw [if_pos c3] at hq
        refine ifT (c := nI k = 112) ((eq 112 (by decide)).mpr c3) ?_
        refine inBI (n := 2) 1 rfl (by decide) ?_
        by_cases z : D.np < 5
        · rw [decide_eq_true z] at hq
          refine ifF (c := 5 ≤ M 10 1) (by rw [m3]; exact nI_ge (b := 5) z (by decide)) ?_
          exact hq
        · rw [decide_eq_false z] at hq
          refine ifT (c := 5 ≤ M 10 1) (by rw [m3]; exact nI_le (a := 5) (by omega) (by omega)) ?_
          exact hq
      · rw [if_neg c3] at hq
        refine ifF (c := nI k = 112) (fun y => c3 ((eq 112 (by decide)).mp y)) ?_
        by_cases c4 : k = 115
        · rw [if_pos c4] at hq
          refine ifT (c := nI k = 115) ((eq 115 (by decide)).mpr c4) ?_
          refine inBI (n := 2) 1 rfl (by decide) ?_
          by_cases z : D.ns < 5
          · rw [decide_eq_true z] at hq
            refine ifF (c := 5 ≤ M 7 1) (by rw [m2]; exact nI_ge (b := 5) z (by decide)) ?_
            exact hq
          · rw [decide_eq_false z] at hq
            refine ifT (c := 5 ≤ M 7 1) (by rw [m2]; exact nI_le (a := 5) (by omega) (by omega)) ?_
            exact hq
        · rw [if_neg c4] at hq
          refine ifF (c := nI k = 115) (fun y => c4 ((eq 115 (by decide)).mp y)) ?_
          by_cases c5 : k = 119
          · rw [if_pos c5] at hq
            refine ifT (c := nI k = 119) ((eq 119 (by decide)).mpr c5) ?_
            by_cases z : D.wt = 0
            · rw [decide_eq_true z] at hq
              refine ifT (c := M 0 14 = 0) (by rw [m5, z]; rfl) ?_
              exact hq
            · rw [decide_eq_false z] at hq
              refine ifF (c := M 0 14 = 0) (by rw [m5]; exact fun y => z ((nI_eq (b := 0) (by omega) (by decide)).mp y)) ?_
              exact hq
          · rw [if_neg c5] at hq
            refine ifF (c := nI k = 119) (fun y => c5 ((eq 119 (by decide)).mp y)) ?_
            exact hq
theorem cm_plain {d : Nat} {M : AM} {Q : QT} (hq : ∀ M', DFm M M' → (∀ j, j ≠ 14 → M' 0 j = M 0 j) → DMm D0 M' → Q none Sm M' L) : CW E8_plain d 0 [.ref 0] Sm M L Q := by
  have key : ∀ k, k ≤ 6 → ∀ T, DFm M T → (∀ j, j ≠ 14 → T 0 j = M 0 j) → (T 2 1 = 0 ∧ T 7 1 = 0 ∧ T 10 1 = 0 ∧ T 12 1 = 10 ∧ T 0 14 = 0) → (∀ h, h < 6 - k → T 6 (6 + h) = 0) → AW E8_plain d 0 Sm.length Q 36 [some (.ref 0), some (.int (nI (6 - k)))] [] Sm T L 0 := by
    intro k
    induction k with
    | zero =>
      intro _ T h1 h2 ⟨g1, g2, g3, g4, g5⟩ h4
      refine aw_run ok8_plain (at1 36) 30 ?_
      refine hq T h1 h2 ⟨⟨g1, g2, g3, g4, g5⟩, fun h hh => absurd hh (Nat.not_lt_zero h), fun h hh => by rw [h4 h hh]; rfl, fun h hh => absurd hh (Nat.not_lt_zero h), fun h hh => absurd hh (Nat.not_lt_zero h)⟩
    | succ k ih =>
      intro hk T h1 h2 ⟨g1, g2, g3, g4, g5⟩ h4
      obtain ⟨i, hi⟩ : ∃ i, 6 - (k + 1) = i := ⟨_, rfl⟩
      rw [hi] at h4 ⊢
      have ih := ih (by omega)
      rw [show 6 - k = i + 1 by omega, nI_succ] at ih
      refine aw_run ok8_plain (at1 36) 30 ?_
      refine ifF (nI_ge (b := 6) (show i < 6 by omega) (by decide)) ?_
      refine inBI (n := 12) (6 + i) (nI_add 6 i) (by omega) ?_
      refine ih _ (h1.um (by unfold okD; omega)) (fun j hj => by rw [um_ne _ _ _ (by decide)]; exact h2 j hj) ⟨by rw [um_ne _ _ _ (by decide)]; exact g1, by rw [um_ne _ _ _ (by decide)]; exact g2, by rw [um_ne _ _ _ (by decide)]; exact g3, by rw [um_ne _ _ _ (by decide)]; exact g4, by rw [um_ne _ _ _ (by decide)]; exact g5⟩ (fun h hh => ?_)
      by_cases e : h = i
      · rw [e, um_same]
      · rw [um_oth _ _ _ (by omega)]; exact h4 h (by omega)
  refine cw_ent ok8_plain (at1 36) 30 ?_
  refine inBI (n := 2) 1 rfl (by decide) ?_
  refine inBI (n := 2) 1 rfl (by decide) ?_
  refine inBI (n := 2) 1 rfl (by decide) ?_
  refine inBI (n := 2) 1 rfl (by decide) ?_
  refine key 6 (Nat.le_refl _) _ ?_ (fun j hj => ?_) ⟨?_, ?_, ?_, ?_, ?_⟩ (fun h hh => absurd hh (by omega))
  · exact (((((DFm.refl M).um (by unfold okD; omega)).um (by unfold okD; omega)).um (by unfold okD; omega)).um (by unfold okD; omega)).um (by unfold okD; omega)
  · rw [um_oth _ _ _ hj, um_ne _ _ _ (by decide), um_ne _ _ _ (by decide), um_ne _ _ _ (by decide), um_ne _ _ _ (by decide)]
  · rw [um_ne _ _ _ (by decide), um_ne _ _ _ (by decide), um_ne _ _ _ (by decide), um_ne _ _ _ (by decide), um_same]
  · rw [um_ne _ _ _ (by decide), um_ne _ _ _ (by decide), um_ne _ _ _ (by decide), um_same]
  · rw [um_ne _ _ _ (by decide), um_ne _ _ _ (by decide), um_same]
  · rw [um_ne _ _ _ (by decide), um_same]
  · rw [um_same]
/-- the vector as a new crew has it -/
def nwV (n k : Nat) : Int32 := if k = 0 then (1 : Int32) <<< (nI n &&& 31) - 1 else if k = 1 then (if nI n ≤ 0 then -9 else 0) else 0
/-- what is told, taken over -/
def TDm (D : Dr) (M M' : AM) : Prop := (M' 2 0 = nI D.n ∧ M' 7 0 = nI D.ns ∧ M' 10 0 = nI D.np ∧ M' 12 0 = nI D.wd) ∧ (∀ h, h < D.n → M' 3 h = nI (D.ha h) ∧ M' 4 h = nI (D.fi h) ∧ M' 5 h = nI (D.ey h)) ∧ (∀ h, h < 6 → M' 6 h = nI (D.li h)) ∧ (∀ s, s < D.ns → M' 8 s = nI (D.gu s) ∧ M' 9 s = nI (D.go s)) ∧ (∀ s, s < D.np → M' 11 s = nI (D.wo s)) ∧ (∀ k, k < 35 → M' 13 k = nwV D.n k) ∧ M' 13 35 = 0 ∧ M' 14 0 = 0 ∧ M' 14 1 = 0 ∧ M' 0 29 = 0 ∧ (∀ j, j ≠ 29 → M' 0 j = M 0 j) ∧ ∀ l, l = 1 ∨ 14 < l → M' l = M l
theorem cm_takeDraft {d : Nat} {D : Dr} {M : AM} {Q : QT} (hD : DV D) (hM : DMm D M) (hq : ∀ M', TDm D M M' → Q none Sm M' L) : CW E8_takeDraft d 0 [.ref 0] Sm M L Q := by
  obtain ⟨⟨n6, s5, p5, -⟩, -⟩ := id hD
  obtain ⟨⟨m1, m2, m3, m4, m5⟩, m6, m7, m8, m9⟩ := id hM
  generalize hP : um (um (um (um M 2 0 (M 2 1)) 7 0 (M 7 1)) 10 0 (M 10 1)) 12 0 (M 12 1) = P
  have hPv : ∀ l j, P l j = if l = 12 ∧ j = 0 then M 12 1 else if l = 10 ∧ j = 0 then M 10 1 else if l = 7 ∧ j = 0 then M 7 1 else if l = 2 ∧ j = 0 then M 2 1 else M l j := fun l j => by
    rw [← hP, um_app, um_app, um_app, um_app]
  have Pn : ∀ l j, ¬ ((l = 2 ∨ l = 7 ∨ l = 10 ∨ l = 12) ∧ j = 0) → P l j = M l j := fun l j h => by
    rw [hPv, if_neg (by omega), if_neg (by omega), if_neg (by omega), if_neg (by omega)]
  have kC : ∀ k, k ≤ 35 → ∀ T, (∀ l j, ¬ ((3 ≤ l ∧ l ≤ 6 ∧ j < 6) ∨ ((l = 8 ∨ l = 9 ∨ l = 11) ∧ j < 5) ∨ l = 13) → T l j = P l j) → (∀ l, 3 ≤ l → l ≤ 6 → ∀ j, j < 6 → T l j = M l (6 + j)) → (∀ l, l = 8 ∨ l = 9 ∨ l = 11 → ∀ j, j < 5 → T l j = M l (5 + j)) → (∀ j, j < 35 - k → T 13 j = 0) → AW E8_takeDraft d 0 Sm.length Q 179 [some (.ref 0), some (.int (nI (35 - k)))] [] Sm T L 0 := by
    intro k
    induction k with
    | zero =>
      intro _ T h1 h2 h3 h4
      have t20 : T 2 0 = nI D.n := by rw [h1 2 0 (by omega), hPv, if_neg (by omega), if_neg (by omega), if_neg (by omega), if_pos ⟨rfl, rfl⟩]; exact m1
      have t70 : T 7 0 = nI D.ns := by rw [h1 7 0 (by omega), hPv, if_neg (by omega), if_neg (by omega), if_pos ⟨rfl, rfl⟩]; exact m2
      have t100 : T 10 0 = nI D.np := by rw [h1 10 0 (by omega), hPv, if_neg (by omega), if_pos ⟨rfl, rfl⟩]; exact m3
      have t120 : T 12 0 = nI D.wd := by rw [h1 12 0 (by omega), hPv, if_pos ⟨rfl, rfl⟩]; exact m4
      have fin : ∀ c : Int32, (c = if nI D.n ≤ 0 then -9 else 0) → TDm D M (um (um (um (um (um (um T 13 0 ((1 : Int32) <<< (nI D.n &&& 31) - 1)) 13 1 c) 13 35 0) 0 29 0) 14 0 0) 14 1 0) := by
        intro c hc
        have fv : ∀ l j, um (um (um (um (um (um T 13 0 ((1 : Int32) <<< (nI D.n &&& 31) - 1)) 13 1 c) 13 35 0) 0 29 0) 14 0 0) 14 1 0 l j = if l = 14 ∧ j = 1 then 0 else if l = 14 ∧ j = 0 then 0 else if l = 0 ∧ j = 29 then 0 else if l = 13 ∧ j = 35 then 0 else if l = 13 ∧ j = 1 then c else if l = 13 ∧ j = 0 then (1 : Int32) <<< (nI D.n &&& 31) - 1 else T l j := fun l j => by
          rw [um_app, um_app, um_app, um_app, um_app, um_app]
        generalize um (um (um (um (um (um T 13 0 ((1 : Int32) <<< (nI D.n &&& 31) - 1)) 13 1 c) 13 35 0) 0 29 0) 14 0 0) 14 1 0 = U at fv
        have un : ∀ l j, l ≠ 0 → l ≠ 13 → l ≠ 14 → U l j = T l j := fun l j a1 a2 a3 => by
          rw [fv, if_neg (by omega), if_neg (by omega), if_neg (by omega), if_neg (by omega), if_neg (by omega), if_neg (by omega)]
        refine ⟨⟨?_, ?_, ?_, ?_⟩, fun h hh => ⟨?_, ?_, ?_⟩, fun h hh => ?_, fun s hs => ⟨?_, ?_⟩, fun s hs => ?_, fun k hk => ?_, ?_, ?_, ?_, ?_, fun j hj => ?_, fun l hl => ?_⟩
        · rw [un 2 0 (by decide) (by decide) (by decide)]; exact t20
        · rw [un 7 0 (by decide) (by decide) (by decide)]; exact t70
        · rw [un 10 0 (by decide) (by decide) (by decide)]; exact t100
        · rw [un 12 0 (by decide) (by decide) (by decide)]; exact t120
        · rw [un 3 h (by decide) (by decide) (by decide), h2 3 (by decide) (by decide) h (by omega)]; exact (m6 h hh).1
        · rw [un 4 h (by decide) (by decide) (by decide), h2 4 (by decide) (by decide) h (by omega)]; exact (m6 h hh).2.1
        · rw [un 5 h (by decide) (by decide) (by decide), h2 5 (by decide) (by decide) h (by omega)]; exact (m6 h hh).2.2
        · rw [un 6 h (by decide) (by decide) (by decide), h2 6 (by decide) (by decide) h hh]; exact m7 h hh
        · rw [un 8 s (by decide) (by decide) (by decide), h3 8 (by decide) s (by omega)]; exact (m8 s hs).1
        · rw [un 9 s (by decide) (by decide) (by decide), h3 9 (by decide) s (by omega)]; exact (m8 s hs).2
        · rw [un 11 s (by decide) (by decide) (by decide), h3 11 (by decide) s (by omega)]; exact m9 s hs
        · rw [fv, if_neg (by omega), if_neg (by omega), if_neg (by omega), if_neg (by omega)]
          unfold nwV
          by_cases e1 : k = 1
          · rw [if_pos ⟨rfl, e1⟩, if_neg (by omega), if_pos e1]; exact hc
          · rw [if_neg (by omega)]
            by_cases e0 : k = 0
            · rw [if_pos ⟨rfl, e0⟩, if_pos e0]
            · rw [if_neg (by omega), if_neg e0, if_neg e1]; exact h4 k (by omega)
        · rw [fv, if_neg (by omega), if_neg (by omega), if_neg (by omega), if_pos ⟨rfl, rfl⟩]
        · rw [fv, if_neg (by omega), if_pos ⟨rfl, rfl⟩]
        · rw [fv, if_pos ⟨rfl, rfl⟩]
        · rw [fv, if_neg (by omega), if_neg (by omega), if_pos ⟨rfl, rfl⟩]
        · rw [fv, if_neg (by omega), if_neg (by omega), if_neg (by omega), if_neg (by omega), if_neg (by omega), if_neg (by omega), h1 0 j (by omega), Pn 0 j (by omega)]
        · funext j
          rw [fv, if_neg (by omega), if_neg (by omega), if_neg (by omega), if_neg (by omega), if_neg (by omega), if_neg (by omega), h1 l j (by omega), Pn l j (by omega)]
      refine aw_run ok8_takeDraft noStop 90 ?_
      refine inBI (n := 2) 0 rfl (by decide) ?_
      refine inBI (n := 1158) 0 rfl (by decide) ?_
      refine inBI (n := 2) 0 rfl (by decide) ?_
      have e20 : ∀ v, um T 13 0 v 2 0 = nI D.n := fun v => by rw [um_ne _ _ _ (by decide)]; exact t20
      by_cases y : nI D.n ≤ 0
      · refine ifT (c := T 2 0 ≤ 0) (by rw [t20]; exact y) ?_
        refine inBI (n := 1158) 1 rfl (by decide) ?_
        refine inBI (n := 1158) 35 rfl (by decide) ?_
        refine inBI (n := 2) 0 rfl (by decide) ?_
        refine inBI (n := 2) 1 rfl (by decide) ?_
        have k0 := hq _ (fin (-9) (by rw [if_pos y]))
        rw [← t20] at k0
        exact k0
      · refine ifF (c := T 2 0 ≤ 0) (by rw [t20]; exact y) ?_
        refine inBI (n := 1158) 1 rfl (by decide) ?_
        refine inBI (n := 1158) 35 rfl (by decide) ?_
        refine inBI (n := 2) 0 rfl (by decide) ?_
        refine inBI (n := 2) 1 rfl (by decide) ?_
        have k0 := hq _ (fin 0 (by rw [if_neg y]))
        rw [← t20] at k0
        exact k0
    | succ k ih =>
      intro hk T h1 h2 h3 h4
      obtain ⟨i, hi⟩ : ∃ i, 35 - (k + 1) = i := ⟨_, rfl⟩
      rw [hi] at h4 ⊢
      have ih := ih (by omega)
      rw [show 35 - k = i + 1 by omega, nI_succ] at ih
      refine aw_run ok8_takeDraft (at1 179) 30 ?_
      refine ifF (nI_ge (b := 35) (show i < 35 by omega) (by decide)) ?_
      refine inBI (n := 1158) i rfl (by omega) ?_
      refine ih _ (fun l j hn => by rw [um_ne _ _ _ (by omega)]; exact h1 l j hn) (fun l a1 a2 j hj => by rw [um_ne _ _ _ (by omega)]; exact h2 l a1 a2 j hj) (fun l a1 j hj => by rw [um_ne _ _ _ (by omega)]; exact h3 l a1 j hj) (fun j hj => ?_)
      by_cases e : j = i
      · rw [e, um_same]
      · rw [um_oth _ _ _ e]; exact h4 j (by omega)
  have kB : ∀ k, k ≤ 5 → ∀ T, (∀ l j, ¬ ((3 ≤ l ∧ l ≤ 6 ∧ j < 6) ∨ ((l = 8 ∨ l = 9 ∨ l = 11) ∧ j < 5)) → T l j = P l j) → (∀ l, 3 ≤ l → l ≤ 6 → ∀ j, j < 6 → T l j = M l (6 + j)) → (∀ l, l = 8 ∨ l = 9 ∨ l = 11 → ∀ j, j < 5 - k → T l j = M l (5 + j)) → AW E8_takeDraft d 0 Sm.length Q 124 [some (.ref 0), some (.int (nI (5 - k)))] [] Sm T L 0 := by
    intro k
    induction k with
    | zero =>
      intro _ T h1 h2 h3
      refine aw_run ok8_takeDraft (at1 179) 30 ?_
      exact kC 35 (Nat.le_refl _) T (fun l j hn => h1 l j (by omega)) h2 h3 (fun j hj => absurd hj (by omega))
    | succ k ih =>
      intro hk T h1 h2 h3
      obtain ⟨i, hi⟩ : ∃ i, 5 - (k + 1) = i := ⟨_, rfl⟩
      rw [hi] at h3 ⊢
      have ih := ih (by omega)
      rw [show 5 - k = i + 1 by omega, nI_succ] at ih
      refine aw_run ok8_takeDraft (at1 124) 60 ?_
      refine ifF (nI_ge (b := 5) (show i < 5 by omega) (by decide)) ?_
      refine inBI (n := 10) (5 + i) (nI_add 5 i) (by omega) ?_
      refine inBI (n := 10) i rfl (by omega) ?_
      refine inBI (n := 10) (5 + i) (nI_add 5 i) (by omega) ?_
      refine inBI (n := 10) i rfl (by omega) ?_
      refine inBI (n := 10) (5 + i) (nI_add 5 i) (by omega) ?_
      refine inBI (n := 10) i rfl (by omega) ?_
      have v : ∀ l, l = 8 ∨ l = 9 ∨ l = 11 → T l (5 + i) = M l (5 + i) := fun l hl => by rw [h1 l (5 + i) (by omega), Pn l (5 + i) (by omega)]
      refine ih _ (fun l j hn => ?_) (fun l a1 a2 j hj => ?_) (fun l a1 j hj => ?_)
      · rw [um_app, if_neg (by omega), um_app, if_neg (by omega), um_app, if_neg (by omega)]; exact h1 l j hn
      · rw [um_app, if_neg (by omega), um_app, if_neg (by omega), um_app, if_neg (by omega)]; exact h2 l a1 a2 j hj
      · by_cases e : j = i
        · subst e
          rcases a1 with rfl | rfl | rfl
          · rw [um_ne _ _ _ (by decide), um_ne _ _ _ (by decide), um_same]; exact v 8 (by decide)
          · rw [um_ne _ _ _ (by decide), um_same]; exact v 9 (by decide)
          · rw [um_same]; exact v 11 (by decide)
        · rw [um_app, if_neg (by omega), um_app, if_neg (by omega), um_app, if_neg (by omega)]; exact h3 l a1 j (by omega)
  have kA : ∀ k, k ≤ 6 → ∀ T, (∀ l j, ¬ (3 ≤ l ∧ l ≤ 6 ∧ j < 6) → T l j = P l j) → (∀ l, 3 ≤ l → l ≤ 6 → ∀ j, j < 6 - k → T l j = M l (6 + j)) → AW E8_takeDraft d 0 Sm.length Q 50 [some (.ref 0), some (.int (nI (6 - k)))] [] Sm T L 0 := by
    intro k
    induction k with
    | zero =>
      intro _ T h1 h2
      refine aw_run ok8_takeDraft (at1 124) 30 ?_
      exact kB 5 (Nat.le_refl _) T (fun l j hn => h1 l j (by omega)) h2 (fun l _ j hj => absurd hj (by omega))
    | succ k ih =>
      intro hk T h1 h2
      obtain ⟨i, hi⟩ : ∃ i, 6 - (k + 1) = i := ⟨_, rfl⟩
      rw [hi] at h2 ⊢
      have ih := ih (by omega)
      rw [show 6 - k = i + 1 by omega, nI_succ] at ih
      refine aw_run ok8_takeDraft (at1 50) 60 ?_
      refine ifF (nI_ge (b := 6) (show i < 6 by omega) (by decide)) ?_
      refine inBI (n := 12) (6 + i) (nI_add 6 i) (by omega) ?_
      refine inBI (n := 12) i rfl (by omega) ?_
      refine inBI (n := 12) (6 + i) (nI_add 6 i) (by omega) ?_
      refine inBI (n := 12) i rfl (by omega) ?_
      refine inBI (n := 12) (6 + i) (nI_add 6 i) (by omega) ?_
      refine inBI (n := 12) i rfl (by omega) ?_
      refine inBI (n := 12) (6 + i) (nI_add 6 i) (by omega) ?_
      refine inBI (n := 12) i rfl (by omega) ?_
      have v : ∀ l, 3 ≤ l → l ≤ 6 → T l (6 + i) = M l (6 + i) := fun l a1 a2 => by rw [h1 l (6 + i) (by omega), Pn l (6 + i) (by omega)]
      refine ih _ (fun l j hn => ?_) (fun l a1 a2 j hj => ?_)
      · rw [um_app, if_neg (by omega), um_app, if_neg (by omega), um_app, if_neg (by omega), um_app, if_neg (by omega)]; exact h1 l j hn
      · by_cases e : j = i
        · subst e
          rcases (show l = 3 ∨ l = 4 ∨ l = 5 ∨ l = 6 by omega) with rfl | rfl | rfl | rfl
          · rw [um_ne _ _ _ (by decide), um_ne _ _ _ (by decide), um_ne _ _ _ (by decide), um_same]; exact v 3 (by decide) (by decide)
          · rw [um_ne _ _ _ (by decide), um_ne _ _ _ (by decide), um_same]; exact v 4 (by decide) (by decide)
          · rw [um_ne _ _ _ (by decide), um_same]; exact v 5 (by decide) (by decide)
          · rw [um_same]; exact v 6 (by decide) (by decide)
        · rw [um_app, if_neg (by omega), um_app, if_neg (by omega), um_app, if_neg (by omega), um_app, if_neg (by omega)]; exact h2 l a1 a2 j (by omega)
  refine cw_ent ok8_takeDraft (at1 50) 60 ?_
  refine inBI (n := 2) 1 rfl (by decide) ?_
  refine inBI (n := 2) 0 rfl (by decide) ?_
  refine inBI (n := 2) 1 rfl (by decide) ?_
  refine inBI (n := 2) 0 rfl (by decide) ?_
  refine inBI (n := 2) 1 rfl (by decide) ?_
  refine inBI (n := 2) 0 rfl (by decide) ?_
  refine inBI (n := 2) 1 rfl (by decide) ?_
  refine inBI (n := 2) 0 rfl (by decide) ?_
  have k0 := kA 6 (Nat.le_refl _) P (fun l j _ => rfl) (fun l _ _ j hj => absurd hj (by omega))
  subst hP
  exact k0
end AR
