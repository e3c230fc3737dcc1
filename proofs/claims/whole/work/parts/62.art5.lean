/-! ===== articles: the model's rows ===== -/
def DMm (D : Dr) (M : AM) : Prop := (M 2 1 = nI D.n ∧ M 7 1 = nI D.ns ∧ M 10 1 = nI D.np ∧ M 12 1 = nI D.wd ∧ M 0 14 = nI D.wt) ∧ (∀ h, h < D.n → M 3 (6 + h) = nI (D.ha h) ∧ M 4 (6 + h) = nI (D.fi h) ∧ M 5 (6 + h) = nI (D.ey h)) ∧ (∀ h, h < 6 → M 6 (6 + h) = nI (D.li h)) ∧ (∀ s, s < D.ns → M 8 (5 + s) = nI (D.gu s) ∧ M 9 (5 + s) = nI (D.go s)) ∧ ∀ s, s < D.np → M 11 (5 + s) = nI (D.wo s)
/-- what a draft may touch -/
def okD (l j : Nat) : Prop := (l = 0 ∧ 14 ≤ j ∧ j ≤ 19) ∨ ((l = 2 ∨ l = 7 ∨ l = 10 ∨ l = 12) ∧ j = 1) ∨ (3 ≤ l ∧ l ≤ 6 ∧ 6 ≤ j) ∨ ((l = 8 ∨ l = 9 ∨ l = 11) ∧ 5 ≤ j)
def DFm (M M' : AM) : Prop := ∀ l j, ¬ okD l j → M' l j = M l j
theorem DFm.refl (M : AM) : DFm M M := fun _ _ _ => rfl
theorem DFm.trans {A B C : AM} (h : DFm A B) (g : DFm B C) : DFm A C := fun l j n => (g l j n).trans (h l j n)
theorem DFm.um {A B : AM} (h : DFm A B) {l j : Nat} {v : Int32} (ok : okD l j) : DFm A (um B l j v) := fun k i n => by
  rw [um_app, if_neg (fun e => n (by rw [e.1, e.2]; exact ok))]; exact h k i n
theorem F5.df {A B : AM} (h : F5 A B) : DFm A B := fun l j n => by
  by_cases e : l = 0
  · subst e; exact h.2 j (Classical.byContradiction fun y => n (Or.inl ⟨rfl, by omega, by omega⟩))
  · rw [h.1 l e]
theorem TXm.df {b : Nat → Nat} {t : Nat} {M M' : AM} (h : TXm b t M) (g : DFm M M') : TXm b t M' := ⟨h.1, (g 0 2 (by unfold okD; omega)).trans h.2.1, fun j hj => by rw [g 1 j (by unfold okD; omega)]; exact h.2.2 j hj⟩
theorem Sta.um {b : Nat → Nat} {t : Nat} {r : Except Nat Nat} {M : AM} (h : Sta b t r M) {l j : Nat} {v : Int32} (hl : l ≠ 0) : Sta b t r (um M l j v) := by
  cases r with
  | ok p =>
    unfold Sta at h ⊢
    dsimp only at h ⊢
    rw [um_ne _ _ _ (fun e => hl e.symm)]
    exact h
  | error q =>
    unfold Sta at h ⊢
    dsimp only at h ⊢
    rw [um_ne _ _ _ (fun e => hl e.symm)]
    exact h
/-- how an item ends in the model -/
def Eit (b : Nat → Nat) (t : Nat) (r : Rz) (M : AM) : Prop := match r with
  | .error q => Sta b t (.error q) M
  | .ok x => DMm x.1 M ∧ Sta b t (.ok x.2) M
theorem in_nI {lo hi : Nat} (h1 : lo < 256) (h2 : hi < 256) : ∀ v, v ≤ 99 → (¬ fIn (nI v) (nI lo) (nI hi) = 0 ↔ inR lo hi v = true) := fun v hv => by
  rw [fIn_nI (by omega) (by omega) (by omega)]
  unfold inR
  by_cases z : lo ≤ v ∧ v ≤ hi
  · rw [if_pos z]; exact ⟨fun _ => decide_eq_true z, fun _ => by decide⟩
  · rw [if_neg z]; exact ⟨fun e => absurd rfl e, fun e => absurd (of_decide_eq_true e) z⟩
section RR
variable {b : Nat → Nat} {t : Nat} {L : AL}
theorem numR_pos {c : Nat → Bool} {p : Nat} {k : Nat → Nat → Rz} (h : tK b t p = 1 ∧ c (tV b t p) = true) : numR b t c p k = k (tV b t p) (tE b t p) := if_pos h
theorem numR_neg {c : Nat → Bool} {p : Nat} {k : Nat → Nat → Rz} (h : ¬ (tK b t p = 1 ∧ c (tV b t p) = true)) : numR b t c p k = Rz.bad (tS b t p) := if_neg h
theorem cm_rowH {d p : Nat} {D : Dr} {M : AM} {Q : QT} (hx : TXm b t M) (hD : DV D) (hM : DMm D M) (hn : D.n < 6) (hs : Sta b t (.ok p) M) (hq : ∀ M', DFm M M' → Eit b t (itm b t D 104 p) M' → Q none Sm M' L) : CW E8_readRow (d + 5) 0 [.ref 0, .int 104] Sm M L Q := by
  obtain ⟨⟨m1, m2, m3, m4, m5⟩, m6, m7, m8, m9⟩ := id hM
  have ix : (6 : Int32) + nI D.n = nI (6 + D.n) := nI_add 6 D.n
  refine cw_ent ok8_readRow noStop 90 ?_
  refine inBI (n := 2) 1 rfl (by decide) ?_
  refine cm_number (c := inR 1 9) hx hs (in_nI (by decide) (by decide)) (fun v1 A1 f1 r1 e1 => ?_)
  have a1 : ∀ l, l ≠ 0 → A1 l = M l := f1.1
  refine inBI (n := 12) (6 + D.n) (by rw [m1]; exact ix) (by omega) ?_
  have hx1 := (hx.f5 f1).df ((DFm.refl A1).um (l := 3) (j := 6 + D.n) (v := v1) (by unfold okD; omega))
  refine inBI (n := 2) 1 rfl (by decide) ?_
  refine cm_number (c := inR 0 9) hx1 (r1.um (by decide)) (in_nI (by decide) (by decide)) (fun v2 A2 f2 r2 e2 => ?_)
  have a2 : ∀ l, l ≠ 0 → A2 l = um A1 3 (6 + D.n) v1 l := f2.1
  refine inBI (n := 12) (6 + D.n) (by show 6 + um A1 3 (6 + D.n) v1 2 1 = _; rw [um_ne _ _ _ (by decide), a1 2 (by decide), m1]; exact ix) (by omega) ?_
  have hx2 := (hx1.f5 f2).df ((DFm.refl A2).um (l := 4) (j := 6 + D.n) (v := v2) (by unfold okD; omega))
  refine inBI (n := 2) 1 rfl (by decide) ?_
  refine cm_number (c := inR 0 9) hx2 (r2.um (by decide)) (in_nI (by decide) (by decide)) (fun v3 A3 f3 r3 e3 => ?_)
  have a3 : ∀ l, l ≠ 0 → A3 l = um A2 4 (6 + D.n) v2 l := f3.1
  refine inBI (n := 12) (6 + D.n) (by show 6 + um A2 4 (6 + D.n) v2 2 1 = _; rw [um_ne _ _ _ (by decide), a2 2 (by decide), um_ne _ _ _ (by decide), a1 2 (by decide), m1]; exact ix) (by omega) ?_
  refine inBI (n := 2) 1 rfl (by decide) ?_
  refine inBI (n := 2) 1 rfl (by decide) ?_
  have e21 : um A3 5 (6 + D.n) v3 2 1 = nI D.n := by rw [um_ne _ _ _ (by decide), a3 2 (by decide), um_ne _ _ _ (by decide), a2 2 (by decide), um_ne _ _ _ (by decide), a1 2 (by decide), m1]
  have h14 : um (um A3 5 (6 + D.n) v3) 2 1 (um A3 5 (6 + D.n) v3 2 1 + 1) 0 14 = M 0 14 := by rw [um_ne _ _ _ (by decide), um_ne _ _ _ (by decide), f3.2 14 (by omega), um_ne _ _ _ (by decide), f2.2 14 (by omega), um_ne _ _ _ (by decide), f1.2 14 (by omega)]
  have hC : ∀ l, l ≠ 0 → ∀ j, um (um A3 5 (6 + D.n) v3) 2 1 (um A3 5 (6 + D.n) v3 2 1 + 1) l j = if l = 2 ∧ j = 1 then nI (D.n + 1) else if l = 5 ∧ j = 6 + D.n then v3 else if l = 4 ∧ j = 6 + D.n then v2 else if l = 3 ∧ j = 6 + D.n then v1 else M l j := fun l hl j => by
    rw [um_app, e21, um_app, a3 l hl, um_app, a2 l hl, um_app, a1 l hl, nI_succ]
  have df : DFm M (um (um A3 5 (6 + D.n) v3) 2 1 (um A3 5 (6 + D.n) v3 2 1 + 1)) := ((f1.df.um (l := 3) (j := 6 + D.n) (v := v1) (by unfold okD; omega)).trans ((f2.df.um (l := 4) (j := 6 + D.n) (v := v2) (by unfold okD; omega)).trans (f3.df.um (by unfold okD; omega)))).um (by unfold okD; omega)
  refine hq _ df ?_
  have rF : Sta b t (nxt b t (inR 0 9) (nxt b t (inR 0 9) (nxt b t (inR 1 9) (.ok p)))) (um (um A3 5 (6 + D.n) v3) 2 1 (um A3 5 (6 + D.n) v3 2 1 + 1)) := (r3.um (by decide)).um (by decide)
  generalize um (um A3 5 (6 + D.n) v3) 2 1 (um A3 5 (6 + D.n) v3 2 1 + 1) = C at hC rF df h14
  unfold itm
  rw [if_pos rfl]
  by_cases k1 : tK b t p = 1 ∧ inR 1 9 (tV b t p) = true
  · rw [numR_pos k1]
    have n1 : nxt b t (inR 1 9) (.ok p) = .ok (tE b t p) := if_pos k1
    rw [n1] at rF
    by_cases k2 : tK b t (tE b t p) = 1 ∧ inR 0 9 (tV b t (tE b t p)) = true
    · rw [numR_pos k2]
      have n2 : nxt b t (inR 0 9) (.ok (tE b t p)) = .ok (tE b t (tE b t p)) := if_pos k2
      rw [n2] at rF
      by_cases k3 : tK b t (tE b t (tE b t p)) = 1 ∧ inR 0 9 (tV b t (tE b t (tE b t p))) = true
      · rw [numR_pos k3]
        have n3 : nxt b t (inR 0 9) (.ok (tE b t (tE b t p))) = .ok (tE b t (tE b t (tE b t p))) := if_pos k3
        rw [n3] at rF
        have w1 := e1 p _ rfl n1
        have w2 := e2 _ _ n1 (by rw [n1]; exact n2)
        have w3 := e3 _ _ (by rw [n1]; exact n2) (by rw [n1, n2]; exact n3)
        refine ⟨⟨⟨?_, ?_, ?_, ?_, ?_⟩, fun h hh => ?_, fun h hh => ?_, fun s hs => ?_, fun s hs => ?_⟩, rF⟩
        · rw [hC 2 (by decide), if_pos ⟨rfl, rfl⟩]; rfl
        · rw [hC 7 (by decide), if_neg (by omega), if_neg (by omega), if_neg (by omega), if_neg (by omega)]; exact m2
        · rw [hC 10 (by decide), if_neg (by omega), if_neg (by omega), if_neg (by omega), if_neg (by omega)]; exact m3
        · rw [hC 12 (by decide), if_neg (by omega), if_neg (by omega), if_neg (by omega), if_neg (by omega)]; exact m4
        · rw [h14]; exact m5
        · have hh : h < D.n + 1 := hh
          rw [hC 3 (by decide), hC 4 (by decide), hC 5 (by decide)]
          show _ = nI (upN D.ha D.n (tV b t p) h) ∧ _ = nI (upN D.fi D.n (tV b t (tE b t p)) h) ∧ _ = nI (upN D.ey D.n (tV b t (tE b t (tE b t p))) h)
          by_cases e : h = D.n
          · subst e
            rw [upN_at, upN_at, upN_at]
            refine ⟨?_, ?_, ?_⟩
            · rw [if_neg (by omega), if_neg (by omega), if_neg (by omega), if_pos ⟨rfl, rfl⟩]; exact w1
            · rw [if_neg (by omega), if_neg (by omega), if_pos ⟨rfl, rfl⟩]; exact w2
            · rw [if_neg (by omega), if_pos ⟨rfl, rfl⟩]; exact w3
          · rw [upN_ne e, upN_ne e, upN_ne e]
            obtain ⟨o1, o2, o3⟩ := m6 h (by omega)
            refine ⟨?_, ?_, ?_⟩
            · rw [if_neg (by omega), if_neg (by omega), if_neg (by omega), if_neg (by omega)]; exact o1
            · rw [if_neg (by omega), if_neg (by omega), if_neg (by omega), if_neg (by omega)]; exact o2
            · rw [if_neg (by omega), if_neg (by omega), if_neg (by omega), if_neg (by omega)]; exact o3
        · rw [hC 6 (by decide), if_neg (by omega), if_neg (by omega), if_neg (by omega), if_neg (by omega)]; exact m7 h hh
        · rw [hC 8 (by decide), hC 9 (by decide), if_neg (by omega), if_neg (by omega), if_neg (by omega), if_neg (by omega), if_neg (by omega), if_neg (by omega), if_neg (by omega), if_neg (by omega)]; exact m8 s hs
        · rw [hC 11 (by decide), if_neg (by omega), if_neg (by omega), if_neg (by omega), if_neg (by omega)]; exact m9 s hs
      · rw [numR_neg k3]
        have n3 : nxt b t (inR 0 9) (.ok (tE b t (tE b t p))) = .error (tS b t (tE b t (tE b t p))) := if_neg k3
        rw [n3] at rF
        exact rF
    · rw [numR_neg k2]
      have n2 : nxt b t (inR 0 9) (.ok (tE b t p)) = .error (tS b t (tE b t p)) := if_neg k2
      rw [n2] at rF
      exact rF
  · rw [numR_neg k1]
    have n1 : nxt b t (inR 1 9) (.ok p) = .error (tS b t p) := if_neg k1
    rw [n1] at rF
    exact rF
end RR
