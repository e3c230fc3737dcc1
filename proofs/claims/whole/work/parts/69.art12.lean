/-! ===== articles: the class reads into the draft ===== -/
section XR
variable {b : Nat → Nat} {t rot : Nat} {L : AL}
theorem cx_readHandF {d n : Nat} {M : AM} {Q : QT} (h : M 31 0 = nI n) (h6 : ¬ n < 6) (n6 : n ≤ 6) (hq : Q (some (.int 0)) (Sx rot) M L) : CW E4_readHand d 0 [.ref 17, .ref 31] (Sx rot) M L Q := by
  refine cw_ent ok4_readHand noStop 30 ?_
  refine ifF (c := M 31 0 < 0) (by rw [h]; exact nI_pos (by omega)) ?_
  refine ifT (c := 6 ≤ M 31 0) (by rw [h]; exact nI_le (a := 6) (by omega) (by omega)) ?_
  exact hq
theorem cx_readShipF {d n : Nat} {M : AM} {Q : QT} (h : M 31 1 = nI n) (h6 : ¬ n < 5) (n6 : n ≤ 5) (hq : Q (some (.int 0)) (Sx rot) M L) : CW E4_readShip d 0 [.ref 17, .ref 31] (Sx rot) M L Q := by
  refine cw_ent ok4_readShip noStop 30 ?_
  refine ifF (c := M 31 1 < 0) (by rw [h]; exact nI_pos (by omega)) ?_
  refine ifT (c := 5 ≤ M 31 1) (by rw [h]; exact nI_le (a := 5) (by omega) (by omega)) ?_
  exact hq
theorem cx_readPieceF {d n : Nat} {M : AM} {Q : QT} (h : M 31 2 = nI n) (h6 : ¬ n < 5) (n6 : n ≤ 5) (hq : Q (some (.int 0)) (Sx rot) M L) : CW E4_readPiece d 0 [.ref 17, .ref 31] (Sx rot) M L Q := by
  refine cw_ent ok4_readPiece noStop 30 ?_
  refine ifF (c := M 31 2 < 0) (by rw [h]; exact nI_pos (by omega)) ?_
  refine ifT (c := 5 ≤ M 31 2) (by rw [h]; exact nI_le (a := 5) (by omega) (by omega)) ?_
  exact hq
theorem cx_readWoundF {d n : Nat} {M : AM} {Q : QT} (h : M 31 4 = nI n) (h6 : ¬ n = 0) (n6 : n ≤ 5) (hq : Q (some (.int 0)) (Sx rot) M L) : CW E4_readWound d 0 [.ref 17, .ref 31] (Sx rot) M L Q := by
  refine cw_ent ok4_readWound noStop 30 ?_
  refine ifF (c := M 31 4 = 0) (by rw [h]; exact fun e => h6 ((nI_eq (b := 0) (by omega) (by decide)).mp e)) ?_
  exact hq
theorem cx_readItem {d p : Nat} {D : Dr} {M : AM} {Q : QT} (hx : TXx b t M) (hD : DV D) (w1 : D.wt ≤ 1) (hM : DXx D M) (pt : p ≤ t) (h4 : M 17 4 = nI (tE b t p)) (h3 : M 17 3 = nI (tS b t p)) (hk : XKV (tK b t p) (tV b t p) (M 17 5) (M 17 6)) (h5 : M 17 5 = 1) (hq : ∀ M', DFx M M' → Eix (item b t D p) M' → Q (some (.int (rI (item b t D p)))) (Sx rot) M' L) : CW E4_readItem (d + 4) 0 [.ref 17, .ref 31] (Sx rot) M L Q := by
  obtain ⟨⟨m1, m2, m3, m4, m5⟩, -⟩ := id hM
  obtain ⟨⟨n6, s5, p5, -⟩, -⟩ := id hD
  have e1 : tE b t p ≤ t := tE_le pt
  unfold item at hq
  -- the letter
  have let' : (tK b t p = 3 ∧ M 17 6 = 0) ∨ (97 ≤ tK b t p ∧ tK b t p ≤ 122 ∧ M 17 6 = nI (tK b t p)) := by
    rcases hk with ⟨a, b⟩ | ⟨a, b, -⟩ | ⟨a, b⟩ | ⟨a, ⟨b, c⟩ | b⟩ | ⟨a, a', b, c⟩
    · rw [h5] at b; exact absurd b (by decide)
    · rw [h5] at b; exact absurd b (by decide)
    · rw [h5] at b; exact absurd b (by decide)
    · exact Or.inl ⟨a, c⟩
    · rw [h5] at b; exact absurd b (by decide)
    · exact Or.inr ⟨a, a', c⟩
  have eq : ∀ j, 97 ≤ j → j < 123 → (M 17 6 = nI j ↔ tK b t p = j) := fun j j1 j2 => by
    rcases let' with ⟨a, c⟩ | ⟨a, a', c⟩
    · rw [a, c]
      exact ⟨fun e => absurd ((nI_eq (a := 0) (by decide) (by omega)).mp e) (by omega), fun e => absurd e (by omega)⟩
    · rw [c]; exact nI_eq (by omega) (by omega)
  -- the stop behind
  have stop : ∀ (A : AM), mayB D (tK b t p) = true → DFx M A → Eix (itm b t D (tK b t p) (tE b t p)) A → ∀ (D' : Dr) (q : Nat), itm b t D (tK b t p) (tE b t p) = .ok (D', q) → CW E4_readStop (d + 3) 0 [.ref 17] (Sx rot) A L (fun r S M' L' => ∃ v, r = some (.int v) ∧ (v = 0 ∨ v = 1) ∧ Q (some (.int v)) S M' L') := by
    intro A hm hA hE D' q e
    have P1 := itmP (b := b) (t := t) hD hm e1
    rw [e] at P1 hE
    obtain ⟨-, P1b, P1c⟩ := P1
    obtain ⟨hE1, hE2⟩ := hE
    rw [if_pos hm, e] at hq
    refine cx_readStop (hx.dx hA) hE2 P1c (fun M' g1 y g2 => ?_) (fun M' g1 y g3 => ?_)
    · refine ⟨1, rfl, Or.inr rfl, ?_⟩
      have es : stpR b t (.ok (D', q)) = .ok (D', tE b t q) := if_pos y
      rw [es] at hq
      exact hq M' (hA.trans g1.dx) ⟨hE1.g4 g1, g2⟩
    · refine ⟨0, rfl, Or.inl rfl, ?_⟩
      have es : stpR b t (.ok (D', q)) = .error (tS b t q) := if_neg y
      rw [es] at hq
      exact hq M' (hA.trans g1.dx) g3
  have bad : mayB D (tK b t p) = false → Q (some (.int 0)) (Sx rot) M L := fun e => by
    rw [if_neg (by rw [e]; decide)] at hq
    exact hq M (DFx.refl M) h3
  have err : ∀ (A : AM) q, mayB D (tK b t p) = true → DFx M A → Eix (itm b t D (tK b t p) (tE b t p)) A → itm b t D (tK b t p) (tE b t p) = .error q → Q (some (.int 0)) (Sx rot) A L := fun A q hm hA hE e => by
    rw [if_pos hm, e] at hq
    rw [e] at hE
    exact hq A hA hE
  refine cw_ent ok4_readItem noStop 60 ?_
  by_cases c1 : tK b t p = 104
  · refine ifT (c := M 17 6 = 104) ((eq 104 (by decide) (by decide)).mpr c1) ?_
    by_cases z : D.n < 6
    · have hm : mayB D (tK b t p) = true := by rw [c1]; exact decide_eq_true z
      refine cx_readHand hx hD hM z h4 e1 (fun A hA hE => ?_)
      rw [c1] at stop err
      cases e : itm b t D 104 (tE b t p) with
      | error q => exact err A q (by rw [← c1]; exact hm) hA hE e
      | ok x =>
        obtain ⟨D', q⟩ := x
        refine cw_mono (stop A (by rw [← c1]; exact hm) hA hE D' q e) ?_
        rintro r S' M' L' ⟨v, rfl, rfl | rfl, hv⟩
        · exact hv
        · exact hv
    · refine cx_readHandF m1 z n6 ?_
      exact bad (by rw [c1]; exact decide_eq_false z)
  refine ifF (c := M 17 6 = 104) (fun e => c1 ((eq 104 (by decide) (by decide)).mp e)) ?_
  by_cases c2 : tK b t p = 108
  · refine ifT (c := M 17 6 = 108) ((eq 108 (by decide) (by decide)).mpr c2) ?_
    have hm : mayB D (tK b t p) = true := by rw [c2]; rfl
    refine cx_readLiking hx hD hM h4 e1 (fun A hA hE => ?_)
    rw [c2] at stop err
    cases e : itm b t D 108 (tE b t p) with
    | error q => exact err A q (by rw [← c2]; exact hm) hA hE e
    | ok x =>
      obtain ⟨D', q⟩ := x
      refine cw_mono (stop A (by rw [← c2]; exact hm) hA hE D' q e) ?_
      rintro r S' M' L' ⟨v, rfl, rfl | rfl, hv⟩
      · exact hv
      · exact hv
  refine ifF (c := M 17 6 = 108) (fun e => c2 ((eq 108 (by decide) (by decide)).mp e)) ?_
  by_cases c3 : tK b t p = 112
  · refine ifT (c := M 17 6 = 112) ((eq 112 (by decide) (by decide)).mpr c3) ?_
    by_cases z : D.np < 5
    · have hm : mayB D (tK b t p) = true := by rw [c3]; exact decide_eq_true z
      refine cx_readPiece hx hD hM z h4 e1 (fun A hA hE => ?_)
      rw [c3] at stop err
      cases e : itm b t D 112 (tE b t p) with
      | error q => exact err A q (by rw [← c3]; exact hm) hA hE e
      | ok x =>
        obtain ⟨D', q⟩ := x
        refine cw_mono (stop A (by rw [← c3]; exact hm) hA hE D' q e) ?_
        rintro r S' M' L' ⟨v, rfl, rfl | rfl, hv⟩
        · exact hv
        · exact hv
    · refine cx_readPieceF m3 z p5 ?_
      exact bad (by rw [c3]; exact decide_eq_false z)
  refine ifF (c := M 17 6 = 112) (fun e => c3 ((eq 112 (by decide) (by decide)).mp e)) ?_
  by_cases c4 : tK b t p = 115
  · refine ifT (c := M 17 6 = 115) ((eq 115 (by decide) (by decide)).mpr c4) ?_
    by_cases z : D.ns < 5
    · have hm : mayB D (tK b t p) = true := by rw [c4]; exact decide_eq_true z
      refine cx_readShip hx hD hM z h4 e1 (fun A hA hE => ?_)
      rw [c4] at stop err
      cases e : itm b t D 115 (tE b t p) with
      | error q => exact err A q (by rw [← c4]; exact hm) hA hE e
      | ok x =>
        obtain ⟨D', q⟩ := x
        refine cw_mono (stop A (by rw [← c4]; exact hm) hA hE D' q e) ?_
        rintro r S' M' L' ⟨v, rfl, rfl | rfl, hv⟩
        · exact hv
        · exact hv
    · refine cx_readShipF m2 z s5 ?_
      exact bad (by rw [c4]; exact decide_eq_false z)
  refine ifF (c := M 17 6 = 115) (fun e => c4 ((eq 115 (by decide) (by decide)).mp e)) ?_
  by_cases c5 : tK b t p = 119
  · refine ifT (c := M 17 6 = 119) ((eq 119 (by decide) (by decide)).mpr c5) ?_
    by_cases z : D.wt = 0
    · have hm : mayB D (tK b t p) = true := by rw [c5]; exact decide_eq_true z
      refine cx_readWound hx hD hM z h4 e1 (fun A hA hE => ?_)
      rw [c5] at stop err
      cases e : itm b t D 119 (tE b t p) with
      | error q => exact err A q (by rw [← c5]; exact hm) hA hE e
      | ok x =>
        obtain ⟨D', q⟩ := x
        refine cw_mono (stop A (by rw [← c5]; exact hm) hA hE D' q e) ?_
        rintro r S' M' L' ⟨v, rfl, rfl | rfl, hv⟩
        · exact hv
        · exact hv
    · refine cx_readWoundF m5 z (by omega) ?_
      exact bad (by rw [c5]; exact decide_eq_false z)
  refine ifF (c := M 17 6 = 119) (fun e => c5 ((eq 119 (by decide) (by decide)).mp e)) ?_
  refine bad ?_
  cases hm : mayB D (tK b t p) with
  | false => rfl
  | true => rcases mayB_let hm with h | h | h | h | h <;> contradiction
end XR
