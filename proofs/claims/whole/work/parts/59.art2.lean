/-! ===== articles: the model reads a token ===== -/
/-- the text as the model has it -/
def TXm (b : Nat → Nat) (t : Nat) (M : AM) : Prop := t ≤ 150 ∧ M 0 2 = nI t ∧ ∀ j, j < t → b j < 256 ∧ M 1 j &&& 255 = nI (b j)
/-- what stands apart from at, start, sort, value -/
def F4 (M M' : AM) : Prop := (∀ l, l ≠ 0 → M' l = M l) ∧ ∀ j, j ≠ 15 → j ≠ 16 → j ≠ 17 → j ≠ 18 → M' 0 j = M 0 j
theorem F4.refl (M : AM) : F4 M M := ⟨fun _ _ => rfl, fun _ _ _ _ _ => rfl⟩
theorem F4.trans {A B C : AM} (h : F4 A B) (g : F4 B C) : F4 A C := ⟨fun l hl => (g.1 l hl).trans (h.1 l hl), fun j a b c d => (g.2 j a b c d).trans (h.2 j a b c d)⟩
theorem F4.um {A B : AM} (h : F4 A B) {j : Nat} {v : Int32} (hj : j = 15 ∨ j = 16 ∨ j = 17 ∨ j = 18) : F4 A (um B 0 j v) := ⟨fun l hl => by rw [um_ne _ _ _ hl]; exact h.1 l hl, fun i a b c d => by rw [um_oth _ _ _ (by omega)]; exact h.2 i a b c d⟩
theorem TXm.f4 {b : Nat → Nat} {t : Nat} {M M' : AM} (h : TXm b t M) (g : F4 M M') : TXm b t M' := ⟨h.1, (g.2 2 (by decide) (by decide) (by decide) (by decide)).trans h.2.1, fun j hj => by rw [g.1 1 (by decide)]; exact h.2.2 j hj⟩
def hrI (b : Nat → Nat) (t p : Nat) : Int32 := if p < t then nI (b p) else -1
def mso (k : Nat) : Nat := if k = 0 then 3 else if k = 3 then 4 else k
section MTK
variable {b : Nat → Nat} {t : Nat} {L : AL}
theorem cm_here {d p : Nat} {M : AM} {Q : QT} (hx : TXm b t M) (hp : M 0 15 = nI p) (pt : p ≤ t) (hq : Q (some (.int (hrI b t p))) Sm M L) : CW E8_here d 0 [.ref 0] Sm M L Q := by
  obtain ⟨t1, t2, t3⟩ := hx
  unfold hrI at hq
  refine cw_ent ok8_here noStop 30 ?_
  by_cases z : p < t
  · rw [if_pos z, ← (t3 p z).2] at hq
    refine ifF (c := M 0 2 ≤ M 0 15) (by rw [t2, hp]; exact nI_ge z (by omega)) ?_
    refine inBI (n := 150) p hp (by omega) ?_
    exact hq
  · rw [if_neg z] at hq
    refine ifT (c := M 0 2 ≤ M 0 15) (by rw [t2, hp]; exact nI_le (by omega) (by omega)) ?_
    exact hq
theorem hr_sp (hb : ∀ j, j < t → b j < 256) (p : Nat) : hrI b t p = 32 ↔ p < t ∧ isSp (b p) = true := by
  unfold hrI isSp
  by_cases z : p < t
  · rw [if_pos z, show (32 : Int32) = nI 32 from rfl, nI_eq (by have := hb p z; omega) (by decide)]
    exact ⟨fun e => ⟨z, decide_eq_true e⟩, fun e => of_decide_eq_true e.2⟩
  · rw [if_neg z]
    exact ⟨fun e => absurd e (by decide), fun e => absurd e.1 z⟩
theorem fIn_nI {v lo hi : Nat} (h1 : v < 2 ^ 31) (h2 : lo < 2 ^ 31) (h3 : hi < 2 ^ 31) : fIn (nI v) (nI lo) (nI hi) = if lo ≤ v ∧ v ≤ hi then 1 else 0 := by
  unfold fIn
  by_cases z : v < lo
  · rw [if_pos (nI_lt z h2), if_neg (by omega)]
  · rw [if_neg (nI_nlt (by omega) h1)]
    by_cases y : hi < v
    · rw [if_pos (nI_lt y h1), if_neg (by omega)]
    · rw [if_neg (nI_nlt (by omega) h3), if_pos ⟨by omega, by omega⟩]
theorem hr_in (hb : ∀ j, j < t → b j < 256) (p : Nat) {lo hi : Nat} (h2 : lo < 256) (h3 : hi < 256) : ¬ fIn (hrI b t p) (nI lo) (nI hi) = 0 ↔ p < t ∧ lo ≤ b p ∧ b p ≤ hi := by
  unfold hrI
  by_cases z : p < t
  · have := hb p z
    rw [if_pos z, fIn_nI (by omega) (by omega) (by omega)]
    by_cases y : lo ≤ b p ∧ b p ≤ hi
    · rw [if_pos y]; exact ⟨fun _ => ⟨z, y⟩, fun _ => by decide⟩
    · rw [if_neg y]; exact ⟨fun e => absurd rfl e, fun e => absurd e.2 y⟩
  · rw [if_neg z]
    have : fIn (-1) (nI lo) (nI hi) = 0 := by
      unfold fIn
      rw [if_pos (Int32.lt_of_lt_of_le (show (-1 : Int32) < 0 by decide) (nI_pos' (by omega)))]
    exact ⟨fun e => absurd this e, fun e => absurd e.1 z⟩
/-- the spaces -/
theorem cm_stepS {d n0 : Nat} {M0 : AM} {Q : QT} {v1 : Option Value} (hx : TXm b t M0) : ∀ k p M, t - p = k → p ≤ t → F4 M0 M → M 0 15 = nI p → (∀ M q, F4 M0 M → M 0 15 = nI q → q = rnE isSp b t p → AW E8_step (d + 2) 0 n0 Q 22 [some (.ref 0), v1] [] Sm M L 0) → AW E8_step (d + 2) 0 n0 Q 0 [some (.ref 0), v1] [] Sm M L 0 := by
  intro k
  induction k with
  | zero =>
    intro p M e pt hM hp hq
    have hc := hr_sp (b := b) (t := t) (fun j hj => (hx.2.2 j hj).1) p
    refine aw_run ok8_step (at2 0 22) 30 ?_
    refine cm_here (hx.f4 hM) hp pt ?_
    refine ifF (c := hrI b t p = 32) (fun y => by have := (hc.mp y).1; omega) ?_
    exact hq M p hM hp (rn_stop (by omega)).symm
  | succ k ih =>
    intro p M e pt hM hp hq
    have hc := hr_sp (b := b) (t := t) (fun j hj => (hx.2.2 j hj).1) p
    refine aw_run ok8_step (at2 0 22) 30 ?_
    refine cm_here (hx.f4 hM) hp pt ?_
    by_cases z : p < t ∧ isSp (b p) = true
    · refine ifT (c := hrI b t p = 32) (hc.mpr z) ?_
      refine ih (p + 1) _ (by omega) (by omega) (hM.um (Or.inl rfl)) (by rw [um_same, hp, ← nI_succ]) ?_
      rw [← rn_step z.1 z.2]
      exact hq
    · refine ifF (c := hrI b t p = 32) (fun y => z (hc.mp y)) ?_
      exact hq M p hM hp (rn_stop z).symm
/-- the letters -/
theorem cm_stepL {d n0 : Nat} {M0 : AM} {Q : QT} {v1 : Option Value} (hx : TXm b t M0) : ∀ k p M, t - p = k → p ≤ t → F4 M0 M → M 0 15 = nI p → (∀ M', F4 M0 M' → M' 0 15 = nI (rnE isLt b t p) → M' 0 16 = M 0 16 → AW E8_step (d + 2) 0 n0 Q 90 [some (.ref 0), v1] [] Sm M' L 0) → AW E8_step (d + 2) 0 n0 Q 63 [some (.ref 0), v1] [] Sm M L 0 := by
  intro k
  induction k with
  | zero =>
    intro p M e pt hM hp hq
    have hc := hr_in (b := b) (t := t) (fun j hj => (hx.2.2 j hj).1) p (lo := 97) (hi := 122) (by decide) (by decide)
    refine aw_run ok8_step (at2 63 90) 30 ?_
    refine cm_here (hx.f4 hM) hp pt ?_
    refine cm_in ?_
    refine ifT (c := fIn (hrI b t p) 97 122 = 0) (Classical.byContradiction fun y => by have := (hc.mp y).1; omega) ?_
    exact hq M hM (by rw [rn_stop (by omega)]; exact hp) rfl
  | succ k ih =>
    intro p M e pt hM hp hq
    have hc := hr_in (b := b) (t := t) (fun j hj => (hx.2.2 j hj).1) p (lo := 97) (hi := 122) (by decide) (by decide)
    refine aw_run ok8_step (at2 63 90) 30 ?_
    refine cm_here (hx.f4 hM) hp pt ?_
    refine cm_in ?_
    by_cases z : p < t ∧ isLt (b p) = true
    · refine ifF (c := fIn (hrI b t p) 97 122 = 0) (hc.mpr ⟨z.1, of_decide_eq_true z.2⟩) ?_
      refine ih (p + 1) _ (by omega) (by omega) (hM.um (Or.inl rfl)) (by rw [um_same, hp, ← nI_succ]) ?_
      rw [← rn_step z.1 z.2]
      intro M' h1 h2 h3
      exact hq M' h1 h2 (by rw [h3, um_oth _ _ _ (by decide)])
    · refine ifT (c := fIn (hrI b t p) 97 122 = 0) (Classical.byContradiction fun y => z ⟨(hc.mp y).1, decide_eq_true (hc.mp y).2⟩) ?_
      exact hq M hM (by rw [rn_stop z]; exact hp) rfl
/-- the value of k digits from s on, as the model reckons it -/
def vlN (b : Nat → Nat) (s : Nat) : Nat → Nat
  | 0 => 0
  | k + 1 => if 99 < vlN b s k then vlN b s k else 10 * vlN b s k + (b (s + k) - 48)
theorem vlN_lt {s : Nat} (hb : ∀ j, b j - 48 ≤ 207) : ∀ k, vlN b s k ≤ 1300
  | 0 => by unfold vlN; omega
  | k + 1 => by
    have h1 := vlN_lt (s := s) hb k
    have h2 := hb (s + k)
    rw [vlN]
    by_cases z : 99 < vlN b s k
    · rw [if_pos z]; exact h1
    · rw [if_neg z]; omega
theorem vlN_big {s k : Nat} (h : 99 < vlN b s k) : ∀ j, 99 < vlN b s (k + j)
  | 0 => h
  | j + 1 => by
    have := vlN_big h j
    rw [show k + (j + 1) = (k + j) + 1 by omega, vlN, if_pos this]; exact this
/-- the digits -/
theorem cm_stepD {d n0 s : Nat} {M0 : AM} {Q : QT} {v1 : Option Value} (hx : TXm b t M0) : ∀ k p M, t - p = k → s ≤ p → p ≤ t → F4 M0 M → M 0 15 = nI p → M 0 18 = nI (vlN b s (p - s)) → vlN b s (p - s) ≤ 1300 → (∀ M', F4 M0 M' → M' 0 15 = nI (rnE isDg b t p) → M' 0 16 = M 0 16 → M' 0 18 = nI (vlN b s (rnE isDg b t p - s)) → vlN b s (rnE isDg b t p - s) ≤ 1300 → AW E8_step (d + 2) 0 n0 Q 188 [some (.ref 0), v1] [] Sm M' L 0) → AW E8_step (d + 2) 0 n0 Q 126 [some (.ref 0), v1] [] Sm M L 0 := by
  intro k
  induction k with
  | zero =>
    intro p M e sp pt hM hp hv vb hq
    have hc := hr_in (b := b) (t := t) (fun j hj => (hx.2.2 j hj).1) p (lo := 48) (hi := 57) (by decide) (by decide)
    refine aw_run ok8_step (at2 126 188) 40 ?_
    refine cm_here (hx.f4 hM) hp pt ?_
    refine cm_in ?_
    refine ifT (c := fIn (hrI b t p) 48 57 = 0) (Classical.byContradiction fun y => by have := (hc.mp y).1; omega) ?_
    rw [rn_stop (by omega)] at hq
    exact hq M hM hp rfl hv vb
  | succ k ih =>
    intro p M e sp pt hM hp hv vb hq
    have hc := hr_in (b := b) (t := t) (fun j hj => (hx.2.2 j hj).1) p (lo := 48) (hi := 57) (by decide) (by decide)
    refine aw_run ok8_step (at2 126 188) 60 ?_
    refine cm_here (hx.f4 hM) hp pt ?_
    refine cm_in ?_
    by_cases z : p < t ∧ isDg (b p) = true
    · refine ifF (c := fIn (hrI b t p) 48 57 = 0) (hc.mpr ⟨z.1, of_decide_eq_true z.2⟩) ?_
      have zd := of_decide_eq_true z.2
      have vs : vlN b s (p + 1 - s) = if 99 < vlN b s (p - s) then vlN b s (p - s) else 10 * vlN b s (p - s) + (b p - 48) := by
        rw [show p + 1 - s = (p - s) + 1 by omega, vlN, show s + (p - s) = p by omega]
      have nx : ∀ M1, F4 M0 M1 → M1 0 15 = nI p → M1 0 16 = M 0 16 → M1 0 18 = nI (vlN b s (p + 1 - s)) → vlN b s (p + 1 - s) ≤ 1300 → AW E8_step (d + 2) 0 n0 Q 126 [some (.ref 0), v1] [] Sm (um M1 0 15 (M1 0 15 + 1)) L 0 := by
        intro M1 g1 g2 g3 g4 g5
        refine ih (p + 1) _ (by omega) (by omega) (by omega) (g1.um (Or.inl rfl)) (by rw [um_same, g2, ← nI_succ]) (by rw [um_oth _ _ _ (by decide)]; exact g4) g5 ?_
        rw [← rn_step z.1 z.2]
        intro M' h1 h2 h3 h4 h5
        exact hq M' h1 h2 (by rw [h3, um_oth _ _ _ (by decide), g3]) h4 h5
      by_cases y : 99 < vlN b s (p - s)
      · rw [if_pos y] at vs
        refine ifF (c := M 0 18 ≤ 99) (by rw [hv]; exact nI_ge (a := 99) y (by omega)) ?_
        exact nx _ (hM.um (Or.inr (Or.inr (Or.inr rfl)))) (by rw [um_oth _ _ _ (by decide)]; exact hp) (by rw [um_oth _ _ _ (by decide)]) (by rw [um_same, vs]; exact hv) (by rw [vs]; exact vb)
      · rw [if_neg y] at vs
        refine ifT (c := M 0 18 ≤ 99) (by rw [hv]; exact nI_le (b := 99) (by omega) (by decide)) ?_
        refine cm_here (hx.f4 hM) hp pt ?_
        refine nx _ (hM.um (Or.inr (Or.inr (Or.inr rfl)))) (by rw [um_oth _ _ _ (by decide)]; exact hp) (by rw [um_oth _ _ _ (by decide)]) ?_ (by rw [vs]; omega)
        rw [um_same, vs, hv]
        unfold hrI
        rw [if_pos z.1, show (10 : Int32) = nI 10 from rfl, show (48 : Int32) = nI 48 from rfl, pk_mul, nI_add, pk_sub (by omega)]
        exact congrArg nI (by omega)
    · refine ifT (c := fIn (hrI b t p) 48 57 = 0) (Classical.byContradiction fun y => z ⟨(hc.mp y).1, decide_eq_true (hc.mp y).2⟩) ?_
      rw [rn_stop z] at hq
      exact hq M hM hp rfl hv vb
end MTK
