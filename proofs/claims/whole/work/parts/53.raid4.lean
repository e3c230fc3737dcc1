/-! ===== raid: the model's next row ===== -/
def fA (R : Nat → Nat) : Nat → Nat
  | 0 => 0
  | i + 1 => if R (i + 1) < R i then fA R i else i + 1
def fB (R : Nat → Nat) (i : Nat) : Nat → Nat
  | 0 => i
  | t + 1 => if R (i + t + 1) < R i then fB R i t else i + t + 1
def swN (R : Nat → Nat) (i j : Nat) : Nat → Nat := fun k => if k = j then R i else if k = i then R j else R k
def rvN : Nat → (Nat → Nat) → Nat → Nat → Nat → Nat
  | 0, R, _, _ => R
  | t + 1, R, a, b => if a < b then rvN t (swN R a b) (a + 1) (b - 1) else R
def nxF (rl : Nat) (R : Nat → Nat) : Option (Nat → Nat) := match fA R (rl - 1) with
  | 0 => none
  | i + 1 => some (rvN 3 (swN R i (fB R i (rl - 1 - i))) (i + 1) (rl - 1))
theorem fA_le (R : Nat → Nat) : ∀ i, fA R i ≤ i
  | 0 => Nat.le_refl _
  | i + 1 => by
    rw [fA]
    by_cases z : R (i + 1) < R i
    · rw [if_pos z]; have := fA_le R i; omega
    · rw [if_neg z]; exact Nat.le_refl _
section NR
variable {d n0 rl : Nat} {M : AM} {L : AL} {Q : QT}
theorem sw_at {R : Nat → Nat} {f : Nat → Int32} {i j : Nat} (hf : ∀ p, p < rl → f p = nI (R p)) (hi : i < rl) (hj : j < rl) : ∀ p, p < rl → upd (upd f i (f j)) j (f i) p = nI (swN R i j p) := by
  intro p hp
  unfold swN
  by_cases e : p = j
  · rw [if_pos e, e]; rw [pk_us]; exact hf i hi
  · rw [if_neg e, pk_un e]
    by_cases e2 : p = i
    · rw [if_pos e2, e2, pk_us]; exact hf j hj
    · rw [if_neg e2, pk_un e2]; exact hf p hp
theorem cm_nxC (r5 : rl ≤ 5) (hr : M 0 26 = nI rl) {v1 v2 : Option Value} : ∀ t a b (R : Nat → Nat) (f : Nat → Int32) v3, (∀ p, p < rl → f p = nI (R p)) → b < rl → b ≤ a + 2 * t → (∀ f', (∀ p, p < rl → f' p = nI (rvN t R a b p)) → Q (some (.int 1)) Sm (sr M 17 f') L) → a < 2 ^ 30 → AW E8_nextRow d 0 n0 Q 107 [some (.ref 0), v1, v2, v3, some (.int (nI a)), some (.int (nI b))] [] Sm (sr M 17 f) L 0 := by
  intro t
  induction t with
  | zero =>
    intro a b R f v3 hf hb hab hq ha
    refine aw_run ok8_nextRow (at1 107) 60 ?_
    refine ifT (c := nI b ≤ nI a) (nI_le (by omega) (by omega)) ?_
    exact hq f hf
  | succ t ih =>
    intro a b R f v3 hf hb hab hq ha
    rw [rvN] at hq
    by_cases z : a < b
    · rw [if_pos z] at hq
      obtain ⟨b', rfl⟩ : ∃ b', b = b' + 1 := ⟨b - 1, by omega⟩
      have ih := ih (a + 1) b' (swN R a (b' + 1)) (upd (upd f a (f (b' + 1))) (b' + 1) (f a)) (some (.int (f a))) (sw_at hf (by omega) hb) (by omega) (by omega) hq (by omega)
      rw [nI_succ, ← pk_m1 b', ← um_sr, ← um_sr] at ih
      refine aw_run ok8_nextRow (at1 107) 60 ?_
      refine ifF (c := nI (b' + 1) ≤ nI a) (nI_ge z (by omega)) ?_
      refine inBI (n := 5) a rfl (by omega) ?_
      refine inBI (n := 5) (b' + 1) rfl (by omega) ?_
      refine inBI (n := 5) a rfl (by omega) ?_
      refine inBI (n := 5) (b' + 1) rfl (by omega) ?_
      exact ih
    · rw [if_neg z] at hq
      refine aw_run ok8_nextRow (at1 107) 60 ?_
      refine ifT (c := nI b ≤ nI a) (nI_le (by omega) (by omega)) ?_
      exact hq f hf
theorem cm_nextRow {R : Nat → Nat} (r5 : rl ≤ 5) (hr : M 0 26 = nI rl) (hR : ∀ p, p < rl → M 17 p = nI (R p)) (Rb : ∀ p, R p < 2 ^ 30) (h0 : nxF rl R = none → Q (some (.int 0)) Sm M L) (h1 : ∀ R', nxF rl R = some R' → ∀ f, (∀ p, p < rl → f p = nI (R' p)) → Q (some (.int 1)) Sm (sr M 17 f) L) : CW E8_nextRow d 0 [.ref 0] Sm M L Q := by
  have stB : ∀ i, i + 1 < rl → fA R (rl - 1) = i + 1 → ∀ t, i + t ≤ rl - 1 → fB R i (rl - 1 - i) = fB R i t → AW E8_nextRow d 0 Sm.length Q 47 [some (.ref 0), some (.int (nI i)), some (.int (nI (i + t))), none, none, none] [] Sm M L 0 := by
    intro i hi ha
    have fin : ∀ j, j < rl → fB R i (rl - 1 - i) = j → AW E8_nextRow d 0 Sm.length Q 68 [some (.ref 0), some (.int (nI i)), some (.int (nI j)), none, none, none] [] Sm M L 0 := by
      intro j hj hb
      have k0 := cm_nxC (d := d) (n0 := Sm.length) (M := M) (L := L) (Q := Q) r5 hr (v1 := some (.int (nI i))) (v2 := some (.int (nI j))) 3 (i + 1) (rl - 1) (swN R i j) (upd (upd (M 17) i (M 17 j)) j (M 17 i)) (some (.int (M 17 i))) (sw_at hR (by omega) hj) (by omega) (by omega) (fun f' hf' => h1 _ (by unfold nxF; rw [ha]) f' (by rw [hb]; exact hf')) (by omega)
      rw [← um_sr, ← um_eq_sr, nI_succ, ← pk_sub (b := 1) (show 1 ≤ rl by omega), ← hr] at k0
      refine aw_run ok8_nextRow (at1 107) 60 ?_
      refine inBI (n := 5) i rfl (by omega) ?_
      refine inBI (n := 5) j rfl (by omega) ?_
      refine inBI (n := 5) i rfl (by omega) ?_
      refine inBI (n := 5) j rfl (by omega) ?_
      exact k0
    intro t
    induction t with
    | zero =>
      intro ht hb
      refine aw_run ok8_nextRow (at2 47 68) 60 ?_
      refine inBI (n := 5) (i + 0) rfl (by omega) ?_
      refine inBI (n := 5) i rfl (by omega) ?_
      refine ifT (c := M 17 i ≤ M 17 (i + 0)) (Int32.le_refl _) ?_
      exact fin i (by omega) hb
    | succ t ih =>
      intro ht hb
      refine aw_run ok8_nextRow (at2 47 68) 60 ?_
      refine inBI (n := 5) (i + (t + 1)) rfl (by omega) ?_
      refine inBI (n := 5) i rfl (by omega) ?_
      rw [fB] at hb
      have e1 := hR i (by omega)
      have e2 := hR (i + (t + 1)) (by omega)
      have b1 := Rb i
      have b2 := Rb (i + (t + 1))
      by_cases z : R (i + t + 1) < R i
      · rw [if_pos z] at hb
        have ih := ih (by omega) hb
        rw [← pk_m1 (i + t)] at ih
        refine ifF (c := M 17 i ≤ M 17 (i + (t + 1))) (by rw [e1, e2]; exact nI_ge z (by omega)) ?_
        exact ih
      · rw [if_neg z] at hb
        refine ifT (c := M 17 i ≤ M 17 (i + (t + 1))) (by rw [e1, e2]; exact nI_le (by have : i + (t + 1) = i + t + 1 := rfl; rw [this]; omega) (by omega)) ?_
        exact fin (i + (t + 1)) (by omega) hb
  have stA : ∀ i, i + 1 ≤ rl → fA R (rl - 1) = fA R i → AW E8_nextRow d 0 Sm.length Q 7 [some (.ref 0), some (.int (nI i - 1)), none, none, none, none] [] Sm M L 0 := by
    intro i
    induction i with
    | zero =>
      intro hi ha
      refine aw_run ok8_nextRow (at1 7) 60 ?_
      exact h0 (by unfold nxF; rw [ha]; rfl)
    | succ i ih =>
      intro hi ha
      rw [nI_pred]
      have e1 := hR i (by omega)
      have e2 := hR (i + 1) (by omega)
      have b1 := Rb i
      have b2 := Rb (i + 1)
      rw [fA] at ha
      refine aw_run ok8_nextRow (at2 7 47) 60 ?_
      refine ifF (c := nI i < 0) (nI_pos (by omega)) ?_
      refine inBI (n := 5) i rfl (by omega) ?_
      refine inBI (n := 5) (i + 1) (nI_succ i).symm (by omega) ?_
      by_cases z : R (i + 1) < R i
      · rw [if_pos z] at ha
        have ih := ih (by omega) ha
        rw [nI_dec] at ih
        refine ifF (c := M 17 i ≤ M 17 (i + 1)) (by rw [e1, e2]; exact nI_ge z (by omega)) ?_
        exact ih
      · rw [if_neg z] at ha
        refine ifT (c := M 17 i ≤ M 17 (i + 1)) (by rw [e1, e2]; exact nI_le (by omega) (by omega)) ?_
        refine ifT (c := 0 ≤ nI i) (nI_pos' (by omega)) ?_
        have k0 := stB i (by omega) ha (rl - 1 - i) (by omega) rfl
        rw [show i + (rl - 1 - i) = rl - 1 by omega, ← pk_sub (b := 1) (show 1 ≤ rl by omega), ← hr] at k0
        exact k0
  refine cw_ent ok8_nextRow (at1 7) 60 ?_
  by_cases z : rl = 0
  · subst z
    refine aw_run ok8_nextRow noStop 60 ?_
    refine ifT (c := M 0 26 - 2 < 0) (by rw [hr]; decide) ?_
    refine ifF (c := 0 ≤ M 0 26 - 2) (by rw [hr]; decide) ?_
    exact h0 rfl
  · have k0 := stA (rl - 1) (by omega) rfl
    have e : nI (rl - 1) - 1 = M 0 26 - 2 := by
      rw [hr, ← pk_sub (b := 1) (show 1 ≤ rl by omega)]
      obtain ⟨r, rfl⟩ : ∃ r, rl = r + 1 := ⟨rl - 1, by omega⟩
      have : ∀ r, r < 5 → nI (r + 1) - nI 1 - 1 = nI (r + 1) - 2 := by decide +kernel
      exact this r (by omega)
    rw [e] at k0
    exact k0
end NR
