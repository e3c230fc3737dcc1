/-! ===== articles: the class reads into the draft ===== -/
section XR
variable {b : Nat → Nat} {t rot : Nat} {L : AL}
theorem item_stop {d p : Nat} {D : Dr} {M : AM} {c : Nat} (r : Rz) (er : r = itm b t D c p) : True := trivial
theorem cx_readItem {d p : Nat} {D : Dr} {M : AM} {Q : QT} (hx : TXx b t M) (hD : DV D) (w1 : D.wt ≤ 1) (hM : DXx D M) (pt : p ≤ t) (h4 : M 17 4 = nI (tE b t p)) (h3 : M 17 3 = nI (tS b t p)) (hk : XKV (tK b t p) (tV b t p) (M 17 5) (M 17 6)) (h5 : M 17 5 = 1) (hq : ∀ M', DFx M M' → Eix (item b t D p) M' → Q (some (.int (rI (item b t D p)))) (Sx rot) M' L) : CW E4_readItem (d + 4) 0 [.ref 17, .ref 31] (Sx rot) M L Q := by
  obtain ⟨⟨m1, m2, m3, m4, m5⟩, -⟩ := id hM
  obtain ⟨⟨n6, s5, p5, -⟩, -⟩ := id hD
  have e1 : tE b t p ≤ t := tE_le pt
  unfold item at hq
  -- the letter
  have let' : (tK b t p = 3 ∧ M 17 6 = 0) ∨ (97 ≤ tK b t p ∧ tK b t p ≤ 122 ∧ M 17 6 = nI (tK b t p)) := by
    rcases hk with ⟨a, b⟩ | ⟨a, b, -⟩ | ⟨a, b⟩ | ⟨a, ⟨b, c⟩ | b⟩ | ⟨a, a', b, c⟩
    · rw [h5] at b; exact absurd b (by decide)
    · rw [h5] at b; exact absurd b (by decide)
    · rw [h5] at b; exact absurd b (by decide)
    · exact Or.inl ⟨a, c⟩
    · rw [h5] at b; exact absurd b (by decide)
    · exact Or.inr ⟨a, a', c⟩
  have eq : ∀ j, 97 ≤ j → j < 123 → (M 17 6 = nI j ↔ tK b t p = j) := fun j j1 j2 => by
    rcases let' with ⟨a, c⟩ | ⟨a, a', c⟩
    · rw [a, c]
      exact ⟨fun e => absurd ((nI_eq (a := 0) (by decide) (by omega)).mp e) (by omega), fun e => absurd e (by omega)⟩
    · rw [c]; exact nI_eq (by omega) (by omega)
  -- the stop behind
  have stop : ∀ (A : AM), mayB D (tK b t p) = true → DFx M A → Eix (itm b t D (tK b t p) (tE b t p)) A → ∀ (D' : Dr) (q : Nat), itm b t D (tK b t p) (tE b t p) = .ok (D', q) → CW E4_readStop (d + 3) 0 [.ref 17] (Sx rot) A L (fun r S M' L' => ∃ v, r = some (.int v) ∧ (v = 0 ∨ v = 1) ∧ Q (some (.int v)) S M' L') := by
    intro A hm hA hE D' q e
    have P1 := itmP (b := b) (t := t) hD hm e1
    rw [e] at P1 hE
    obtain ⟨-, P1b, P1c⟩ := P1
    obtain ⟨hE1, hE2⟩ := hE
    rw [if_pos hm, e] at hq
    refine cx_readStop (hx.dx hA) hE2 P1c (fun M' g1 y g2 => ?_) (fun M' g1 y g3 => ?_)
    · refine ⟨1, rfl, Or.inr rfl, ?_⟩
      have es : stpR b t (.ok (D', q)) = .ok (D', tE b t q) := if_pos y
      rw [es] at hq
      exact hq M' (hA.trans g1.dx) ⟨hE1.g4 g1, g2⟩
    · refine ⟨0, rfl, Or.inl rfl, ?_⟩
      have es : stpR b t (.ok (D', q)) = .error (tS b t q) := if_neg y
      rw [es] at hq
      exact hq M' (hA.trans g1.dx) g3
  have bad : mayB D (tK b t p) = false → Q (some (.int 0)) (Sx rot) M L := fun e => by
    rw [if_neg (by rw [e]; decide)] at hq
    exact hq M (DFx.refl M) h3
  have err : ∀ (A : AM) q, mayB D (tK b t p) = true → DFx M A → Eix (itm b t D (tK b t p) (tE b t p)) A → itm b t D (tK b t p) (tE b t p) = .error q → Q (some (.int 0)) (Sx rot) A L := fun A q hm hA hE e => by
    rw [if_pos hm, e] at hq
    rw [e] at hE
    exact hq A hA hE
  refine cw_ent ok4_readItem noStop 60 ?_
  by_cases c1 : tK b t p = 104
  · refine ifT (c := M 17 6 = 104) ((eq 104 (by decide) (by decide)).mpr c1) ?_
    by_cases z : D.n < 6
    · have hm : mayB D (tK b t p) = true := by rw [c1]; exact decide_eq_true z
      refine cx_readHand hx hD hM z h4 e1 (fun A hA hE => ?_)
      rw [c1] at stop err
      cases e : itm b t D 104 (tE b t p) with
      | error q => exact err A q (by rw [← c1]; exact hm) hA hE e
      | ok x =>
        obtain ⟨D', q⟩ := x
        refine cw_mono (stop A (by rw [← c1]; exact hm) hA hE D' q e) ?_
        rintro r S' M' L' ⟨v, rfl, rfl | rfl, hv⟩
        · exact hv
        · exact hv
    · refine cast ?_ (bad (by rw [c1]; exact decide_eq_false z))
      sorry
  · sorry
end XR
