/-! ===== articles: the model wants a token ===== -/
def F5 (M M' : AM) : Prop := (∀ l, l ≠ 0 → M' l = M l) ∧ ∀ j, j < 15 ∨ 19 < j → M' 0 j = M 0 j
theorem F5.refl (M : AM) : F5 M M := ⟨fun _ _ => rfl, fun _ _ => rfl⟩
theorem F5.trans {A B C : AM} (h : F5 A B) (g : F5 B C) : F5 A C := ⟨fun l hl => (g.1 l hl).trans (h.1 l hl), fun j a => (g.2 j a).trans (h.2 j a)⟩
theorem F4.to5 {A B : AM} (h : F4 A B) : F5 A B := ⟨h.1, fun j hj => h.2 j (by omega) (by omega) (by omega) (by omega)⟩
theorem F5.um {A : AM} {j : Nat} {v : Int32} (h1 : 15 ≤ j) (h2 : j ≤ 19) : F5 A (um A 0 j v) := ⟨fun l hl => by rw [um_ne _ _ _ hl], fun i a => by rw [um_oth _ _ _ (by omega)]⟩
theorem TXm.f5 {b : Nat → Nat} {t : Nat} {M M' : AM} (h : TXm b t M) (g : F5 M M') : TXm b t M' := ⟨h.1, (g.2 2 (by omega)).trans h.2.1, fun j hj => by rw [g.1 1 (by decide)]; exact h.2.2 j hj⟩
/-- how the model stands: a token read from p on, or a fault at q -/
def Sta (b : Nat → Nat) (t : Nat) (r : Except Nat Nat) (M : AM) : Prop := match r with
  | .ok p => p ≤ t ∧ M 0 15 = nI (tE b t p) ∧ M 0 16 = nI (tS b t p) ∧ M 0 17 = nI (mso (tK b t p)) ∧ (tK b t p = 1 → M 0 18 = nI (tV b t p)) ∧ M 0 19 = -9
  | .error q => q ≤ t ∧ M 0 19 = nI q
def nxt (b : Nat → Nat) (t : Nat) (c : Nat → Bool) (r : Except Nat Nat) : Except Nat Nat := match r with
  | .ok p => if tK b t p = 1 ∧ c (tV b t p) = true then .ok (tE b t p) else .error (tS b t p)
  | .error q => .error q
theorem mso_one {k : Nat} : mso k = 1 ↔ k = 1 := by
  unfold mso
  by_cases z : k = 0
  · rw [if_pos z]; omega
  · rw [if_neg z]
    by_cases y : k = 3
    · rw [if_pos y]; omega
    · rw [if_neg y]
theorem mso_lt {k : Nat} (h : k < 256) : mso k < 256 := by
  unfold mso
  by_cases z : k = 0
  · rw [if_pos z]; omega
  · rw [if_neg z]
    by_cases y : k = 3
    · rw [if_pos y]; omega
    · rw [if_neg y]; exact h
section WN
variable {b : Nat → Nat} {t : Nat} {L : AL}
theorem cm_wantsB {d q : Nat} {is : Int32} {M : AM} {Q : QT} (hq19 : M 0 19 = nI q) (q31 : q < 2 ^ 31) (hq : Q (some (.int (M 0 18))) Sm M L) : CW E8_wants (d + 3) 0 [.ref 0, .int is] Sm M L Q := by
  refine cw_ent ok8_wants noStop 30 ?_
  refine ifF (c := M 0 19 = -9) (by rw [hq19]; exact nI_ne9 q31) ?_
  exact hq
theorem cm_wants1 {d p : Nat} {M : AM} {Q : QT} (hx : TXm b t M) (hs : Sta b t (.ok p) M) (hq : ∀ M', F5 M M' → Sta b t (.ok (tE b t p)) M' → Q (some (.int (M 0 18))) Sm M' L) : CW E8_wants (d + 3) 0 [.ref 0, .int 1] Sm M L Q := by
  obtain ⟨s1, s2, s3, s4, s5, s6⟩ := hs
  refine cw_ent ok8_wants noStop 30 ?_
  refine ifT (c := M 0 19 = -9) s6 ?_
  refine cm_step hx s2 (tE_le s1) ?_
  rintro M' ⟨g1, g2, g3, g4, g5⟩
  exact hq M' g1.to5 ⟨tE_le s1, g2, g3, g4, g5, (g1.2 19 (by decide) (by decide) (by decide) (by decide)).trans s6⟩
theorem cm_wants0 {d p : Nat} {M : AM} {Q : QT} (hs : Sta b t (.ok p) M) (hq : ∀ M', F5 M M' → Sta b t (.error (tS b t p)) M' → Q (some (.int (M 0 18))) Sm M' L) : CW E8_wants (d + 3) 0 [.ref 0, .int 0] Sm M L Q := by
  obtain ⟨s1, s2, s3, s4, s5, s6⟩ := hs
  refine cw_ent ok8_wants noStop 30 ?_
  refine ifT (c := M 0 19 = -9) s6 ?_
  exact hq _ (F5.um (by decide) (by decide)) ⟨tS_le s1, by rw [um_same]; exact s3⟩
theorem cm_number {d : Nat} {r : Except Nat Nat} {lo hi : Int32} {c : Nat → Bool} {M : AM} {Q : QT} (hx : TXm b t M) (hs : Sta b t r M) (hc : ∀ v, v ≤ 99 → (¬ fIn (nI v) lo hi = 0 ↔ c v = true)) (hq : ∀ v M', F5 M M' → Sta b t (nxt b t c r) M' → (∀ p q, r = .ok p → nxt b t c r = .ok q → v = nI (tV b t p)) → Q (some (.int v)) Sm M' L) : CW E8_number (d + 4) 0 [.ref 0, .int lo, .int hi] Sm M L Q := by
  have t150 := hx.1
  cases r with
  | error q =>
    obtain ⟨s1, s2⟩ := id hs
    have k0 := hq (M 0 18) M (F5.refl M) hs (fun p q e => by cases e)
    refine cw_ent ok8_number noStop 40 ?_
    refine iteI (fun _ => ?_) (fun _ => ?_)
    · refine cm_in ?_
      refine iteI (fun _ => ?_) (fun _ => ?_)
      · exact cm_wantsB s2 (by omega) k0
      · exact cm_wantsB s2 (by omega) k0
    · exact cm_wantsB s2 (by omega) k0
  | ok p =>
    obtain ⟨s1, s2, s3, s4, s5, s6⟩ := id hs
    have kl := tK_lt (b := b) (t := t) (p := p) (fun j hj => (hx.2.2 j hj).1)
    have m1 : M 0 17 = 1 ↔ tK b t p = 1 := by
      rw [s4, ← mso_one]
      exact nI_eq (b := 1) (by have := mso_lt kl; omega) (by decide)
    refine cw_ent ok8_number noStop 40 ?_
    by_cases y : tK b t p = 1
    · refine ifT (c := M 0 17 = 1) (m1.mpr y) ?_
      refine cm_in ?_
      have e18 := s5 y
      have hc := hc (tV b t p) (tV_lt y)
      by_cases z : c (tV b t p) = true
      · refine ifF (c := fIn (M 0 18) lo hi = 0) (by rw [e18]; exact hc.mpr z) ?_
        have e : nxt b t c (.ok p) = .ok (tE b t p) := if_pos ⟨y, z⟩
        rw [e] at hq
        refine cm_wants1 hx hs (fun M' h1 h2 => ?_)
        exact hq _ M' h1 h2 (fun p' q e1 _ => by cases e1; exact e18)
      · refine ifT (c := fIn (M 0 18) lo hi = 0) (by rw [e18]; exact Classical.byContradiction fun x => z (hc.mp x)) ?_
        have e : nxt b t c (.ok p) = .error (tS b t p) := if_neg (fun x => z x.2)
        rw [e] at hq
        refine cm_wants0 hs (fun M' h1 h2 => ?_)
        exact hq _ M' h1 h2 (fun _ _ _ e => by cases e)
    · refine ifF (c := M 0 17 = 1) (fun x => y (m1.mp x)) ?_
      have e : nxt b t c (.ok p) = .error (tS b t p) := if_neg (fun x => y x.1)
      rw [e] at hq
      refine cm_wants0 hs (fun M' h1 h2 => ?_)
      exact hq _ M' h1 h2 (fun _ _ _ e => by cases e)
end WN
