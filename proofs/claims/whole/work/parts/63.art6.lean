/-! ===== articles: the model's other rows ===== -/
theorem or_nI6 : ∀ s, s < 6 → ∀ x, x < 64 → nI x ||| (1 : Int32) <<< (nI s &&& 31) = nI (x ||| 2 ^ s) := by decide +kernel
section RR2
variable {b : Nat → Nat} {t : Nat} {L : AL}
theorem cm_rowS {d p : Nat} {D : Dr} {M : AM} {Q : QT} (hx : TXm b t M) (hD : DV D) (hM : DMm D M) (hn : D.ns < 5) (hs : Sta b t (.ok p) M) (hq : ∀ M', DFm M M' → Eit b t (itm b t D 115 p) M' → Q none Sm M' L) : CW E8_readRow (d + 5) 0 [.ref 0, .int 115] Sm M L Q := by
  obtain ⟨⟨m1, m2, m3, m4, m5⟩, m6, m7, m8, m9⟩ := id hM
  have ix : (5 : Int32) + nI D.ns = nI (5 + D.ns) := nI_add 5 D.ns
  refine cw_ent ok8_readRow noStop 90 ?_
  refine inBI (n := 2) 1 rfl (by decide) ?_
  refine cm_number (c := inR 0 60) hx hs (in_nI (by decide) (by decide)) (fun v1 A1 f1 r1 e1 => ?_)
  have a1 : ∀ l, l ≠ 0 → A1 l = M l := f1.1
  refine inBI (n := 10) (5 + D.ns) (by rw [m2]; exact ix) (by omega) ?_
  have hx1 := (hx.f5 f1).df ((DFm.refl A1).um (l := 8) (j := 5 + D.ns) (v := v1) (by unfold okD; omega))
  refine inBI (n := 2) 1 rfl (by decide) ?_
  refine cm_number (c := inR 0 99) hx1 (r1.um (by decide)) (in_nI (by decide) (by decide)) (fun v2 A2 f2 r2 e2 => ?_)
  have a2 : ∀ l, l ≠ 0 → A2 l = um A1 8 (5 + D.ns) v1 l := f2.1
  refine inBI (n := 10) (5 + D.ns) (by show 5 + um A1 8 (5 + D.ns) v1 7 1 = _; rw [um_ne _ _ _ (by decide), a1 7 (by decide), m2]; exact ix) (by omega) ?_
  refine inBI (n := 2) 1 rfl (by decide) ?_
  refine inBI (n := 2) 1 rfl (by decide) ?_
  have e21 : um A2 9 (5 + D.ns) v2 7 1 = nI D.ns := by rw [um_ne _ _ _ (by decide), a2 7 (by decide), um_ne _ _ _ (by decide), a1 7 (by decide), m2]
  have h14 : um (um A2 9 (5 + D.ns) v2) 7 1 (um A2 9 (5 + D.ns) v2 7 1 + 1) 0 14 = M 0 14 := by rw [um_ne _ _ _ (by decide), um_ne _ _ _ (by decide), f2.2 14 (by omega), um_ne _ _ _ (by decide), f1.2 14 (by omega)]
  have hC : ∀ l, l ≠ 0 → ∀ j, um (um A2 9 (5 + D.ns) v2) 7 1 (um A2 9 (5 + D.ns) v2 7 1 + 1) l j = if l = 7 ∧ j = 1 then nI (D.ns + 1) else if l = 9 ∧ j = 5 + D.ns then v2 else if l = 8 ∧ j = 5 + D.ns then v1 else M l j := fun l hl j => by
    rw [um_app, e21, um_app, a2 l hl, um_app, a1 l hl, nI_succ]
  have df : DFm M (um (um A2 9 (5 + D.ns) v2) 7 1 (um A2 9 (5 + D.ns) v2 7 1 + 1)) := ((f1.df.um (l := 8) (j := 5 + D.ns) (v := v1) (by unfold okD; omega)).trans (f2.df.um (l := 9) (j := 5 + D.ns) (v := v2) (by unfold okD; omega))).um (by unfold okD; omega)
  refine hq _ df ?_
  have rF : Sta b t (nxt b t (inR 0 99) (nxt b t (inR 0 60) (.ok p))) (um (um A2 9 (5 + D.ns) v2) 7 1 (um A2 9 (5 + D.ns) v2 7 1 + 1)) := (r2.um (by decide)).um (by decide)
  generalize um (um A2 9 (5 + D.ns) v2) 7 1 (um A2 9 (5 + D.ns) v2 7 1 + 1) = C at hC rF df h14
  unfold itm
  rw [if_neg (by decide), if_neg (by decide), if_neg (by decide), if_pos rfl]
  by_cases k1 : tK b t p = 1 ∧ inR 0 60 (tV b t p) = true
  · rw [numR_pos k1]
    have n1 : nxt b t (inR 0 60) (.ok p) = .ok (tE b t p) := if_pos k1
    rw [n1] at rF
    by_cases k2 : tK b t (tE b t p) = 1 ∧ inR 0 99 (tV b t (tE b t p)) = true
    · rw [numR_pos k2]
      have n2 : nxt b t (inR 0 99) (.ok (tE b t p)) = .ok (tE b t (tE b t p)) := if_pos k2
      rw [n2] at rF
      have w1 := e1 p _ rfl n1
      have w2 := e2 _ _ n1 (by rw [n1]; exact n2)
      refine ⟨⟨⟨?_, ?_, ?_, ?_, ?_⟩, fun h hh => ?_, fun h hh => ?_, fun s hs => ?_, fun s hs => ?_⟩, rF⟩
      · rw [hC 2 (by decide), if_neg (by omega), if_neg (by omega), if_neg (by omega)]; exact m1
      · rw [hC 7 (by decide), if_pos ⟨rfl, rfl⟩]; rfl
      · rw [hC 10 (by decide), if_neg (by omega), if_neg (by omega), if_neg (by omega)]; exact m3
      · rw [hC 12 (by decide), if_neg (by omega), if_neg (by omega), if_neg (by omega)]; exact m4
      · rw [h14]; exact m5
      · rw [hC 3 (by decide), hC 4 (by decide), hC 5 (by decide), if_neg (by omega), if_neg (by omega), if_neg (by omega), if_neg (by omega), if_neg (by omega), if_neg (by omega), if_neg (by omega), if_neg (by omega), if_neg (by omega)]; exact m6 h hh
      · rw [hC 6 (by decide), if_neg (by omega), if_neg (by omega), if_neg (by omega)]; exact m7 h hh
      · have hs : s < D.ns + 1 := hs
        rw [hC 8 (by decide), hC 9 (by decide)]
        show _ = nI (upN D.gu D.ns (tV b t p) s) ∧ _ = nI (upN D.go D.ns (tV b t (tE b t p)) s)
        by_cases e : s = D.ns
        · subst e
          rw [upN_at, upN_at]
          refine ⟨?_, ?_⟩
          · rw [if_neg (by omega), if_neg (by omega), if_pos ⟨rfl, rfl⟩]; exact w1
          · rw [if_neg (by omega), if_pos ⟨rfl, rfl⟩]; exact w2
        · rw [upN_ne e, upN_ne e]
          obtain ⟨o1, o2⟩ := m8 s (by omega)
          refine ⟨?_, ?_⟩
          · rw [if_neg (by omega), if_neg (by omega), if_neg (by omega)]; exact o1
          · rw [if_neg (by omega), if_neg (by omega), if_neg (by omega)]; exact o2
      · rw [hC 11 (by decide), if_neg (by omega), if_neg (by omega), if_neg (by omega)]; exact m9 s hs
    · rw [numR_neg k2]
      have n2 : nxt b t (inR 0 99) (.ok (tE b t p)) = .error (tS b t (tE b t p)) := if_neg k2
      rw [n2] at rF
      exact rF
  · rw [numR_neg k1]
    have n1 : nxt b t (inR 0 60) (.ok p) = .error (tS b t p) := if_neg k1
    rw [n1] at rF
    exact rF
theorem cm_rowP {d p : Nat} {D : Dr} {M : AM} {Q : QT} (hx : TXm b t M) (hD : DV D) (hM : DMm D M) (hn : D.np < 5) (hs : Sta b t (.ok p) M) (hq : ∀ M', DFm M M' → Eit b t (itm b t D 112 p) M' → Q none Sm M' L) : CW E8_readRow (d + 5) 0 [.ref 0, .int 112] Sm M L Q := by
  obtain ⟨⟨m1, m2, m3, m4, m5⟩, m6, m7, m8, m9⟩ := id hM
  have ix : (5 : Int32) + nI D.np = nI (5 + D.np) := nI_add 5 D.np
  refine cw_ent ok8_readRow noStop 90 ?_
  refine inBI (n := 2) 1 rfl (by decide) ?_
  refine cm_number (c := inR 1 99) hx hs (in_nI (by decide) (by decide)) (fun v1 A1 f1 r1 e1 => ?_)
  have a1 : ∀ l, l ≠ 0 → A1 l = M l := f1.1
  refine inBI (n := 10) (5 + D.np) (by rw [m3]; exact ix) (by omega) ?_
  refine inBI (n := 2) 1 rfl (by decide) ?_
  refine inBI (n := 2) 1 rfl (by decide) ?_
  have e21 : um A1 11 (5 + D.np) v1 10 1 = nI D.np := by rw [um_ne _ _ _ (by decide), a1 10 (by decide), m3]
  have h14 : um (um A1 11 (5 + D.np) v1) 10 1 (um A1 11 (5 + D.np) v1 10 1 + 1) 0 14 = M 0 14 := by rw [um_ne _ _ _ (by decide), um_ne _ _ _ (by decide), f1.2 14 (by omega)]
  have hC : ∀ l, l ≠ 0 → ∀ j, um (um A1 11 (5 + D.np) v1) 10 1 (um A1 11 (5 + D.np) v1 10 1 + 1) l j = if l = 10 ∧ j = 1 then nI (D.np + 1) else if l = 11 ∧ j = 5 + D.np then v1 else M l j := fun l hl j => by
    rw [um_app, e21, um_app, a1 l hl, nI_succ]
  have df : DFm M (um (um A1 11 (5 + D.np) v1) 10 1 (um A1 11 (5 + D.np) v1 10 1 + 1)) := (f1.df.um (l := 11) (j := 5 + D.np) (v := v1) (by unfold okD; omega)).um (by unfold okD; omega)
  refine hq _ df ?_
  have rF : Sta b t (nxt b t (inR 1 99) (.ok p)) (um (um A1 11 (5 + D.np) v1) 10 1 (um A1 11 (5 + D.np) v1 10 1 + 1)) := (r1.um (by decide)).um (by decide)
  generalize um (um A1 11 (5 + D.np) v1) 10 1 (um A1 11 (5 + D.np) v1 10 1 + 1) = C at hC rF df h14
  unfold itm
  rw [if_neg (by decide), if_neg (by decide), if_pos rfl]
  by_cases k1 : tK b t p = 1 ∧ inR 1 99 (tV b t p) = true
  · rw [numR_pos k1]
    have n1 : nxt b t (inR 1 99) (.ok p) = .ok (tE b t p) := if_pos k1
    rw [n1] at rF
    have w1 := e1 p _ rfl n1
    refine ⟨⟨⟨?_, ?_, ?_, ?_, ?_⟩, fun h hh => ?_, fun h hh => ?_, fun s hs => ?_, fun s hs => ?_⟩, rF⟩
    · rw [hC 2 (by decide), if_neg (by omega), if_neg (by omega)]; exact m1
    · rw [hC 7 (by decide), if_neg (by omega), if_neg (by omega)]; exact m2
    · rw [hC 10 (by decide), if_pos ⟨rfl, rfl⟩]; rfl
    · rw [hC 12 (by decide), if_neg (by omega), if_neg (by omega)]; exact m4
    · rw [h14]; exact m5
    · rw [hC 3 (by decide), hC 4 (by decide), hC 5 (by decide), if_neg (by omega), if_neg (by omega), if_neg (by omega), if_neg (by omega), if_neg (by omega), if_neg (by omega)]; exact m6 h hh
    · rw [hC 6 (by decide), if_neg (by omega), if_neg (by omega)]; exact m7 h hh
    · rw [hC 8 (by decide), hC 9 (by decide), if_neg (by omega), if_neg (by omega), if_neg (by omega), if_neg (by omega)]; exact m8 s hs
    · have hs : s < D.np + 1 := hs
      rw [hC 11 (by decide), if_neg (by omega)]
      show _ = nI (upN D.wo D.np (tV b t p) s)
      by_cases e : s = D.np
      · subst e
        rw [upN_at, if_pos ⟨rfl, rfl⟩]; exact w1
      · rw [upN_ne e, if_neg (by omega)]; exact m9 s (by omega)
  · rw [numR_neg k1]
    have n1 : nxt b t (inR 1 99) (.ok p) = .error (tS b t p) := if_neg k1
    rw [n1] at rF
    exact rF
theorem cm_rowW {d p : Nat} {D : Dr} {M : AM} {Q : QT} (hx : TXm b t M) (hD : DV D) (hM : DMm D M) (hs : Sta b t (.ok p) M) (hq : ∀ M', DFm M M' → Eit b t (itm b t D 119 p) M' → Q none Sm M' L) : CW E8_readRow (d + 5) 0 [.ref 0, .int 119] Sm M L Q := by
  obtain ⟨⟨m1, m2, m3, m4, m5⟩, m6, m7, m8, m9⟩ := id hM
  refine cw_ent ok8_readRow noStop 90 ?_
  refine cm_number (c := inR 0 50) hx hs (in_nI (by decide) (by decide)) (fun v1 A1 f1 r1 e1 => ?_)
  have a1 : ∀ l, l ≠ 0 → A1 l = M l := f1.1
  refine inBI (n := 2) 1 rfl (by decide) ?_
  have h14 : um (um A1 12 1 v1) 0 14 1 0 14 = 1 := um_same _ _ _ _
  have hC : ∀ l, l ≠ 0 → ∀ j, um (um A1 12 1 v1) 0 14 1 l j = if l = 12 ∧ j = 1 then v1 else M l j := fun l hl j => by
    rw [um_ne _ _ _ hl, um_app, a1 l hl]
  have df : DFm M (um (um A1 12 1 v1) 0 14 1) := (f1.df.um (l := 12) (j := 1) (v := v1) (by unfold okD; omega)).um (by unfold okD; omega)
  refine hq _ df ?_
  have r2 := r1.um (l := 12) (j := 1) (v := v1) (by decide)
  have rF : Sta b t (nxt b t (inR 0 50) (.ok p)) (um (um A1 12 1 v1) 0 14 1) := by
    generalize nxt b t (inR 0 50) (.ok p) = r at r2
    cases r with
    | error q =>
      obtain ⟨q1, q2⟩ := r2
      exact ⟨q1, by rw [um_oth _ _ _ (by decide)]; exact q2⟩
    | ok p' =>
      obtain ⟨q1, q2, q3, q4, q5, q6⟩ := r2
      exact ⟨q1, by rw [um_oth _ _ _ (by decide)]; exact q2, by rw [um_oth _ _ _ (by decide)]; exact q3, by rw [um_oth _ _ _ (by decide)]; exact q4, by rw [um_oth _ _ _ (by decide)]; exact q5, by rw [um_oth _ _ _ (by decide)]; exact q6⟩
  generalize um (um A1 12 1 v1) 0 14 1 = C at hC rF df h14
  unfold itm
  rw [if_neg (by decide), if_neg (by decide), if_neg (by decide), if_neg (by decide)]
  by_cases k1 : tK b t p = 1 ∧ inR 0 50 (tV b t p) = true
  · rw [numR_pos k1]
    have n1 : nxt b t (inR 0 50) (.ok p) = .ok (tE b t p) := if_pos k1
    rw [n1] at rF
    have w1 := e1 p _ rfl n1
    refine ⟨⟨⟨?_, ?_, ?_, ?_, ?_⟩, fun h hh => ?_, fun h hh => ?_, fun s hs => ?_, fun s hs => ?_⟩, rF⟩
    · rw [hC 2 (by decide), if_neg (by omega)]; exact m1
    · rw [hC 7 (by decide), if_neg (by omega)]; exact m2
    · rw [hC 10 (by decide), if_neg (by omega)]; exact m3
    · rw [hC 12 (by decide), if_pos ⟨rfl, rfl⟩]; exact w1
    · rw [h14]; rfl
    · rw [hC 3 (by decide), hC 4 (by decide), hC 5 (by decide), if_neg (by omega), if_neg (by omega), if_neg (by omega)]; exact m6 h hh
    · rw [hC 6 (by decide), if_neg (by omega)]; exact m7 h hh
    · rw [hC 8 (by decide), hC 9 (by decide), if_neg (by omega), if_neg (by omega)]; exact m8 s hs
    · rw [hC 11 (by decide), if_neg (by omega)]; exact m9 s hs
  · rw [numR_neg k1]
    have n1 : nxt b t (inR 0 50) (.ok p) = .error (tS b t p) := if_neg k1
    rw [n1] at rF
    exact rF
theorem lt_nI {n : Nat} (n6 : n ≤ 6) : ∀ v, v ≤ 99 → (¬ fIn (nI v) 0 (nI n - 1) = 0 ↔ decide (v < n) = true) := by
  have : ∀ n, n < 7 → ∀ v, v < 100 → (¬ fIn (nI v) 0 (nI n - 1) = 0 ↔ decide (v < n) = true) := by decide +kernel
  exact fun v hv => this n (by omega) v (by omega)
theorem cm_rowL {d p : Nat} {D : Dr} {M : AM} {Q : QT} (hx : TXm b t M) (hD : DV D) (hM : DMm D M) (hs : Sta b t (.ok p) M) (hq : ∀ M', DFm M M' → Eit b t (itm b t D 108 p) M' → Q none Sm M' L) : CW E8_readRow (d + 5) 0 [.ref 0, .int 108] Sm M L Q := by
  obtain ⟨⟨m1, m2, m3, m4, m5⟩, m6, m7, m8, m9⟩ := id hM
  obtain ⟨⟨n6, -⟩, -, d6, -⟩ := id hD
  have t150 := hx.1
  refine cw_ent ok8_readRow noStop 90 ?_
  refine inBI (n := 2) 1 rfl (by decide) ?_
  refine cm_number (c := fun v => decide (v < D.n)) hx hs (by rw [m1]; exact lt_nI n6) (fun v1 A1 f1 r1 e1 => ?_)
  have a1 : ∀ l, l ≠ 0 → A1 l = M l := f1.1
  have hx1 := hx.f5 f1
  unfold itm at hq
  rw [if_neg (by decide), if_pos rfl] at hq
  by_cases k1 : tK b t p = 1 ∧ decide (tV b t p < D.n) = true
  · rw [numR_pos k1] at hq
    have n1 : nxt b t (fun v => decide (v < D.n)) (.ok p) = .ok (tE b t p) := if_pos k1
    have w1 := e1 p _ rfl n1
    have x1 := of_decide_eq_true k1.2
    rw [n1] at r1
    obtain ⟨s1, s2, s3, s4, s5, s6⟩ := id r1
    have kl := tK_lt (b := b) (t := t) (p := tE b t p) (fun j hj => (hx.2.2 j hj).1)
    have mm1 : A1 0 17 = 1 ↔ tK b t (tE b t p) = 1 := by
      rw [s4, ← mso_one]
      exact nI_eq (b := 1) (by have := mso_lt kl; omega) (by decide)
    have h21 : A1 2 1 = nI D.n := by rw [a1 2 (by decide)]; exact m1
    have bad : ∀ M', F5 A1 M' → Sta b t (.error (tS b t (tE b t p))) M' → ¬ (tK b t (tE b t p) = 1 ∧ decide (tV b t (tE b t p) < D.n ∧ tV b t (tE b t p) ≠ tV b t p) = true) → Q none Sm M' L := fun M' g1 g2 g3 => by
      rw [numR_neg g3] at hq
      exact hq M' (f1.trans g1).df g2
    have ne : ∀ M', Sta b t (.error (tS b t (tE b t p))) M' → ¬ M' 0 19 = -9 := fun M' g => by rw [g.2]; exact nI_ne9 (by have := g.1; omega)
    by_cases y : tK b t (tE b t p) = 1
    · refine ifT (c := A1 0 17 = 1) (mm1.mpr y) ?_
      refine inBI (n := 2) 1 rfl (by decide) ?_
      have e18 := s5 y
      have v99 := tV_lt y
      by_cases z : tV b t (tE b t p) < D.n
      · refine ifF (c := A1 2 1 ≤ A1 0 18) (by rw [h21, e18]; exact nI_ge z (by omega)) ?_
        by_cases u : tV b t (tE b t p) = tV b t p
        · refine ifT (c := A1 0 18 = v1) (by rw [e18, w1, u]) ?_
          refine cm_wants0 r1 (fun M' g1 g2 => ?_)
          refine ifF (c := M' 0 19 = -9) (ne M' g2) ?_
          exact bad M' g1 g2 (fun q => (of_decide_eq_true q.2).2 u)
        · refine ifF (c := A1 0 18 = v1) (by rw [e18, w1]; exact fun q => u ((nI_eq (by omega) (by omega)).mp q)) ?_
          refine cm_wants1 hx1 r1 (fun M' g1 g2 => ?_)
          have k2 : tK b t (tE b t p) = 1 ∧ decide (tV b t (tE b t p) < D.n ∧ tV b t (tE b t p) ≠ tV b t p) = true := ⟨y, decide_eq_true ⟨z, u⟩⟩
          rw [numR_pos k2] at hq
          refine ifT (c := M' 0 19 = -9) g2.2.2.2.2.2 ?_
          have ix : (6 : Int32) + v1 = nI (6 + tV b t p) := by rw [w1]; exact nI_add 6 _
          refine inBI (n := 12) (6 + tV b t p) ix (by omega) ?_
          refine inBI (n := 12) (6 + tV b t p) ix (by omega) ?_
          have a2 : ∀ l, l ≠ 0 → M' l = M l := fun l hl => (g1.1 l hl).trans (a1 l hl)
          have ev : M' 6 (6 + tV b t p) ||| (1 : Int32) <<< (A1 0 18 &&& 31) = nI (D.li (tV b t p) ||| 2 ^ tV b t (tE b t p)) := by
            rw [a2 6 (by decide), m7 _ (by omega), e18]
            refine or_nI6 _ (by omega) _ ?_
            have := (d6 (tV b t p) (by omega)).1
            have hp := pow_le6 n6
            omega
          refine hq _ (((f1.trans g1).df).um (by unfold okD; omega)) ⟨⟨⟨?_, ?_, ?_, ?_, ?_⟩, fun h hh => ?_, fun h hh => ?_, fun s hs => ?_, fun s hs => ?_⟩, g2.um (by decide)⟩
          · rw [um_ne _ _ _ (by decide), a2 2 (by decide)]; exact m1
          · rw [um_ne _ _ _ (by decide), a2 7 (by decide)]; exact m2
          · rw [um_ne _ _ _ (by decide), a2 10 (by decide)]; exact m3
          · rw [um_ne _ _ _ (by decide), a2 12 (by decide)]; exact m4
          · rw [um_ne _ _ _ (by decide), g1.2 14 (by omega), f1.2 14 (by omega)]; exact m5
          · rw [um_ne _ _ _ (by decide), um_ne _ _ _ (by decide), um_ne _ _ _ (by decide), a2 3 (by decide), a2 4 (by decide), a2 5 (by decide)]; exact m6 h hh
          · show um M' 6 (6 + tV b t p) _ 6 (6 + h) = nI (upN D.li (tV b t p) (D.li (tV b t p) ||| 2 ^ tV b t (tE b t p)) h)
            by_cases e : h = tV b t p
            · rw [e, um_same, upN_at]; exact ev
            · rw [um_oth _ _ _ (by omega), upN_ne e, a2 6 (by decide)]; exact m7 h hh
          · rw [um_ne _ _ _ (by decide), um_ne _ _ _ (by decide), a2 8 (by decide), a2 9 (by decide)]; exact m8 s hs
          · rw [um_ne _ _ _ (by decide), a2 11 (by decide)]; exact m9 s hs
      · refine ifT (c := A1 2 1 ≤ A1 0 18) (by rw [h21, e18]; exact nI_le (by omega) (by omega)) ?_
        refine cm_wants0 r1 (fun M' g1 g2 => ?_)
        refine ifF (c := M' 0 19 = -9) (ne M' g2) ?_
        exact bad M' g1 g2 (fun q => z (of_decide_eq_true q.2).1)
    · refine ifF (c := A1 0 17 = 1) (fun x => y (mm1.mp x)) ?_
      refine cm_wants0 r1 (fun M' g1 g2 => ?_)
      refine ifF (c := M' 0 19 = -9) (ne M' g2) ?_
      exact bad M' g1 g2 (fun q => y q.1)
  · rw [numR_neg k1] at hq
    have n1 : nxt b t (fun v => decide (v < D.n)) (.ok p) = .error (tS b t p) := if_neg k1
    rw [n1] at r1
    have k0 := hq A1 f1.df r1
    have ne : ¬ A1 0 19 = -9 := by rw [r1.2]; exact nI_ne9 (by have := r1.1; omega)
    have q31 : tS b t p < 2 ^ 31 := by have := r1.1; omega
    refine iteI (fun _ => ?_) (fun _ => ?_)
    · refine inBI (n := 2) 1 rfl (by decide) ?_
      refine iteI (fun _ => ?_) (fun _ => ?_)
      · refine cm_wantsB r1.2 q31 ?_
        refine ifF (c := A1 0 19 = -9) ne ?_
        exact k0
      · refine iteI (fun _ => ?_) (fun _ => ?_)
        · refine cm_wantsB r1.2 q31 ?_
          refine ifF (c := A1 0 19 = -9) ne ?_
          exact k0
        · refine cm_wantsB r1.2 q31 ?_
          refine ifF (c := A1 0 19 = -9) ne ?_
          exact k0
    · refine cm_wantsB r1.2 q31 ?_
      refine ifF (c := A1 0 19 = -9) ne ?_
      exact k0
end RR2
