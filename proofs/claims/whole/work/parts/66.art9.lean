/-! ===== articles: the class reads a token ===== -/
def TXx (b : Nat → Nat) (t : Nat) (M : AM) : Prop := t ≤ 150 ∧ M 17 1 = nI t ∧ ∀ j, j < t → b j < 256 ∧ M 18 j = nI (b j)
def G4 (M M' : AM) : Prop := (∀ l, l ≠ 17 → M' l = M l) ∧ ∀ j, j < 3 → M' 17 j = M 17 j
theorem G4.refl (M : AM) : G4 M M := ⟨fun _ _ => rfl, fun _ _ => rfl⟩
theorem G4.trans {A B C : AM} (h : G4 A B) (g : G4 B C) : G4 A C := ⟨fun l hl => (g.1 l hl).trans (h.1 l hl), fun j a => (g.2 j a).trans (h.2 j a)⟩
theorem G4.um {A B : AM} (h : G4 A B) {j : Nat} {v : Int32} (hj : 3 ≤ j) : G4 A (um B 17 j v) := ⟨fun l hl => by rw [um_ne _ _ _ hl]; exact h.1 l hl, fun i a => by rw [um_oth _ _ _ (by omega)]; exact h.2 i a⟩
theorem TXx.g4 {b : Nat → Nat} {t : Nat} {M M' : AM} (h : TXx b t M) (g : G4 M M') : TXx b t M' := ⟨h.1, (g.2 1 (by decide)).trans h.2.1, fun j hj => by rw [g.1 18 (by decide)]; exact h.2.2 j hj⟩
def srN (b : Nat → Nat) (t i : Nat) : Nat := if i < t then (if isLt (b i) then 1 else if isDg (b i) then 2 else if b i = 59 then 3 else 4) else 0
def XKV (k v : Nat) (tok val : Int32) : Prop := (k = 0 ∧ tok = 0) ∨ (k = 1 ∧ tok = 2 ∧ val = nI v) ∨ (k = 2 ∧ tok = 3) ∨ (k = 3 ∧ ((tok = 1 ∧ val = 0) ∨ tok = 4)) ∨ (97 ≤ k ∧ k ≤ 122 ∧ tok = 1 ∧ val = nI k)
def XTk (b : Nat → Nat) (t p : Nat) (M M' : AM) : Prop := G4 M M' ∧ M' 17 4 = nI (tE b t p) ∧ M' 17 3 = nI (tS b t p) ∧ XKV (tK b t p) (tV b t p) (M' 17 5) (M' 17 6)
section XT
variable {b : Nat → Nat} {t rot : Nat} {L : AL}
theorem cx_sortAt {d i : Nat} {M : AM} {Q : QT} (hx : TXx b t M) (it : i ≤ t) (hq : Q (some (.int (nI (srN b t i)))) (Sx rot) M L) : CW E4_sortAt d 0 [.ref 17, .int (nI i)] (Sx rot) M L Q := by
  obtain ⟨t1, t2, t3⟩ := hx
  unfold srN at hq
  refine cw_ent ok4_sortAt (at1 42) 60 ?_
  refine ifF (c := nI i < 0) (nI_pos (by omega)) ?_
  by_cases z : i < t
  · rw [if_pos z] at hq
    obtain ⟨b1, b2⟩ := t3 i z
    refine ifF (c := M 17 1 ≤ nI i) (by rw [t2]; exact nI_ge z (by omega)) ?_
    refine ifT (c := nI i < 150) (nI_lt (b := 150) (by omega) (by decide)) ?_
    refine inBI (n := 150) i rfl (by omega) ?_
    have c1 : M 18 i < 97 ↔ b i < 97 := by rw [b2]; exact nI_ltI (b := 97) (by omega) (by decide)
    have c2 : 122 < M 18 i ↔ 122 < b i := by rw [b2]; exact nI_ltI (a := 122) (by decide) (by omega)
    have c3 : M 18 i < 48 ↔ b i < 48 := by rw [b2]; exact nI_ltI (b := 48) (by omega) (by decide)
    have c4 : 57 < M 18 i ↔ 57 < b i := by rw [b2]; exact nI_ltI (a := 57) (by decide) (by omega)
    have c5 : M 18 i = 59 ↔ b i = 59 := by rw [b2]; exact nI_eq (b := 59) (by omega) (by decide)
    have low : ¬ isLt (b i) = true → AW E4_sortAt d 0 (Sx rot).length Q 42 [some (.ref 17), some (.int (nI i)), some (.int (M 18 i))] [] (Sx rot) M L 0 := by
      intro nl
      rw [if_neg nl] at hq
      have semi : ¬ isDg (b i) = true → AW E4_sortAt d 0 (Sx rot).length Q 56 [some (.ref 17), some (.int (nI i)), some (.int (M 18 i))] [] (Sx rot) M L 0 := by
        intro nd
        rw [if_neg nd] at hq
        refine aw_run ok4_sortAt noStop 30 ?_
        by_cases u : b i = 59
        · rw [if_pos u] at hq
          refine ifT (c := M 18 i = 59) (c5.mpr u) ?_
          exact hq
        · rw [if_neg u] at hq
          refine ifF (c := M 18 i = 59) (fun e => u (c5.mp e)) ?_
          exact hq
      refine aw_run ok4_sortAt (at1 56) 30 ?_
      by_cases x : b i < 48
      · refine ifT (c := M 18 i < 48) (c3.mpr x) ?_
        exact semi (fun y => by have := of_decide_eq_true y; omega)
      · refine ifF (c := M 18 i < 48) (fun e => x (c3.mp e)) ?_
        by_cases w : 57 < b i
        · refine ifT (c := 57 < M 18 i) (c4.mpr w) ?_
          exact semi (fun y => by have := of_decide_eq_true y; omega)
        · refine ifF (c := 57 < M 18 i) (fun e => w (c4.mp e)) ?_
          rw [if_pos (show isDg (b i) = true from decide_eq_true ⟨by omega, by omega⟩)] at hq
          exact hq
    by_cases x : b i < 97
    · refine ifT (c := M 18 i < 97) (c1.mpr x) ?_
      exact low (fun y => by have := of_decide_eq_true y; omega)
    · refine ifF (c := M 18 i < 97) (fun e => x (c1.mp e)) ?_
      by_cases w : 122 < b i
      · refine ifT (c := 122 < M 18 i) (c2.mpr w) ?_
        exact low (fun y => by have := of_decide_eq_true y; omega)
      · refine ifF (c := 122 < M 18 i) (fun e => w (c2.mp e)) ?_
        rw [if_pos (show isLt (b i) = true from decide_eq_true ⟨by omega, by omega⟩)] at hq
        exact hq
  · rw [if_neg z] at hq
    refine ifT (c := M 17 1 ≤ nI i) (by rw [t2]; exact nI_le (by omega) (by omega)) ?_
    exact hq
/-- the spaces -/
theorem cx_ntS {d n0 : Nat} {M0 : AM} {Q : QT} (hx : TXx b t M0) : ∀ k p M, t - p = k → p ≤ t → G4 M0 M → M 17 4 = nI p → (∀ M', G4 M0 M' → M' 17 4 = nI (rnE isSp b t p) → AW E4_nextToken (d + 1) 0 n0 Q 38 [some (.ref 17)] [] (Sx rot) M' L 0) → AW E4_nextToken (d + 1) 0 n0 Q 0 [some (.ref 17)] [] (Sx rot) M L 0 := by
  intro k
  induction k with
  | zero =>
    intro p M e pt hM hp hq
    have hx' := hx.g4 hM
    refine aw_run ok4_nextToken (at2 0 38) 40 ?_
    refine ifT (c := M 17 1 ≤ M 17 4) (by rw [hx'.2.1, hp]; have := hx.1; exact nI_le (by omega) (by omega)) ?_
    exact hq M hM (by rw [rn_stop (by omega)]; exact hp)
  | succ k ih =>
    intro p M e pt hM hp hq
    have hx' := hx.g4 hM
    have t150 := hx.1
    obtain ⟨b1, b2⟩ := hx'.2.2 p (by omega)
    have c1 : M 18 p = 32 ↔ isSp (b p) = true := by
      rw [b2]
      exact ⟨fun y => decide_eq_true ((nI_eq (b := 32) (by omega) (by decide)).mp y), fun y => (nI_eq (b := 32) (by omega) (by decide)).mpr (of_decide_eq_true y)⟩
    refine aw_run ok4_nextToken (at2 0 38) 40 ?_
    refine ifF (c := M 17 1 ≤ M 17 4) (by rw [hx'.2.1, hp]; exact nI_ge (by omega) (by omega)) ?_
    refine inBI (n := 150) p hp (by omega) ?_
    by_cases z : isSp (b p) = true
    · refine ifT (c := M 18 p = 32) (c1.mpr z) ?_
      refine ih (p + 1) _ (by omega) (by omega) (hM.um (by decide)) (by rw [um_same, hp, ← nI_succ]) ?_
      rw [← rn_step (by omega) z]
      exact hq
    · refine ifF (c := M 18 p = 32) (fun y => z (c1.mp y)) ?_
      exact hq M hM (by rw [rn_stop (fun y => z y.2)]; exact hp)
/-- the run -/
theorem cx_ntR {d n0 kd : Nat} {C : Nat → Bool} {M0 : AM} {Q : QT} (hx : TXx b t M0) (hk : kd = 1 ∨ kd = 2) (hC : ∀ i, i < t → (srN b t i = kd ↔ C (b i) = true)) : ∀ k p M, t - p = k → p ≤ t → G4 M0 M → M 17 4 = nI p → M 17 5 = nI kd → (∀ M', G4 M0 M' → M' 17 4 = nI (rnE C b t p) → M' 17 5 = nI kd → M' 17 3 = M 17 3 → AW E4_nextToken (d + 1) 0 n0 Q 130 [some (.ref 17)] [] (Sx rot) M' L 0) → AW E4_nextToken (d + 1) 0 n0 Q 75 [some (.ref 17)] [] (Sx rot) M L 0 := by
  intro k
  induction k with
  | zero =>
    intro p M e pt hM hp h5 hq
    have hx' := hx.g4 hM
    refine aw_run ok4_nextToken (at2 75 130) 40 ?_
    refine ifT (c := M 17 1 ≤ M 17 4) (by rw [hx'.2.1, hp]; have := hx.1; exact nI_le (by omega) (by omega)) ?_
    exact hq M hM (by rw [rn_stop (by omega)]; exact hp) h5 rfl
  | succ k ih =>
    intro p M e pt hM hp h5 hq
    have hx' := hx.g4 hM
    have t150 := hx.1
    have sl : srN b t p ≤ 4 := by
      unfold srN; split
      · split
        · omega
        · split
          · omega
          · split <;> omega
      · omega
    have sa := fun d Q hq => cx_sortAt (b := b) (t := t) (rot := rot) (d := d) (M := M) (L := L) (Q := Q) hx' pt hq
    rw [← hp] at sa
    refine aw_run ok4_nextToken (at2 75 130) 60 ?_
    refine ifF (c := M 17 1 ≤ M 17 4) (by rw [hx'.2.1, hp]; exact nI_ge (by omega) (by omega)) ?_
    have fin : ∀ (z : C (b p) = true), AW E4_nextToken (d + 1) 0 n0 Q 75 [some (.ref 17)] [] (Sx rot) (um M 17 4 (M 17 4 + 1)) L 0 := fun z => by
      refine ih (p + 1) _ (by omega) (by omega) (hM.um (by decide)) (by rw [um_same, hp, ← nI_succ]) (by rw [um_oth _ _ _ (by decide)]; exact h5) ?_
      rw [← rn_step (by omega) z]
      intro M' q1 q2 q3 q4
      exact hq M' q1 q2 q3 (by rw [q4, um_oth _ _ _ (by decide)])
    have cmp : nI (srN b t p) = M 17 5 ↔ C (b p) = true := by
      rw [h5]
      exact (nI_eq (by omega) (by omega)).trans (hC p (by omega))
    rcases hk with rfl | rfl
    · refine ifT (c := M 17 5 = 1) (by rw [h5]; rfl) ?_
      refine sa _ _ ?_
      by_cases z : C (b p) = true
      · refine ifT (c := nI (srN b t p) = M 17 5) (cmp.mpr z) ?_
        exact fin z
      · refine ifF (c := nI (srN b t p) = M 17 5) (fun y => z (cmp.mp y)) ?_
        exact hq M hM (by rw [rn_stop (fun y => z y.2)]; exact hp) h5 rfl
    · refine ifF (c := M 17 5 = 1) (by rw [h5]; decide) ?_
      refine ifT (c := M 17 5 = 2) (by rw [h5]; rfl) ?_
      refine sa _ _ ?_
      by_cases z : C (b p) = true
      · refine ifT (c := nI (srN b t p) = M 17 5) (cmp.mpr z) ?_
        exact fin z
      · refine ifF (c := nI (srN b t p) = M 17 5) (fun y => z (cmp.mp y)) ?_
        exact hq M hM (by rw [rn_stop (fun y => z y.2)]; exact hp) h5 rfl
end XT
