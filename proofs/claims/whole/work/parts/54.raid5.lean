/-! ===== raid: chases in a row, the model ===== -/
def slN (st : Nat → Nat) (w : Option Nat) (l h : Nat) : Nat := st h - (if w = some h then l else 0)
def ChI (M0 T : AM) (n : Nat) (w : Option Nat) (l g : Nat) : Prop := (∀ k, k ≠ 15 → T k = M0 k) ∧ T 15 0 = M0 13 0 ∧ T 15 2 = M0 13 2 + nI g ∧ ∀ h, h < n → T 15 (9 + h) = M0 13 (9 + h) + nI (if w = some h then l else 0)
theorem FsN_cut {st : Nat → Nat} {a w0 l : Nat} (hb : a.testBit w0 = true) : ∀ i, FsN (slN st (some w0) l) a i = FsN st a i - (if w0 < i then min l (st w0) else 0) ∧ (w0 < i → st w0 ≤ FsN st a i)
  | 0 => ⟨rfl, fun h => absurd h (by omega)⟩
  | i + 1 => by
    obtain ⟨h1, h2⟩ := FsN_cut (st := st) (l := l) hb i
    rw [FsN, FsN, h1]
    unfold slN
    by_cases e : w0 = i
    · subst e
      rw [hb, cond_true, cond_true, if_neg (Nat.lt_irrefl _), if_pos rfl, if_pos (by omega)]
      exact ⟨by omega, fun _ => by omega⟩
    · rw [if_neg (show ¬ some w0 = some i from fun y => e (Option.some.inj y)), Nat.sub_zero]
      by_cases z : w0 < i
      · have := h2 z
        rw [if_pos z, if_pos (by omega)]
        have h3 : min l (st w0) ≤ st w0 := Nat.min_le_right _ _
        exact ⟨by omega, fun _ => by omega⟩
      · rw [if_neg z, if_neg (by omega)]
        exact ⟨by omega, fun y => absurd y (by omega)⟩
theorem FsN_ext {f g : Nat → Nat} {a : Nat} : ∀ i, (∀ h, h < i → f h = g h) → FsN f a i = FsN g a i
  | 0, _ => rfl
  | i + 1, h => by rw [FsN, FsN, FsN_ext i (fun k hk => h k (by omega)), h i (by omega)]
section CH
variable {n a : Nat} {vf wd : Nat → Nat} {M0 T : AM} {w : Option Nat} {l g : Nat}
theorem ch_str (hI : ChI M0 T n w l g) (hv : ∀ h, h < n → M0 4 h = nI (vf h) ∧ vf h < 2 ^ 29) (hw : ∀ h, h < n → M0 13 (9 + h) = nI (wd h) ∧ wd h < 2 ^ 29) (lb : l < 2 ^ 29) : ∀ h, h < n → fStr (T 4 h - T 15 (9 + h)) = nI (slN (fun h => vf h - wd h) w l h) := by
  intro h hh
  obtain ⟨v1, v2⟩ := hv h hh
  obtain ⟨w1, w2⟩ := hw h hh
  rw [hI.1 4 (by decide), hI.2.2.2 h hh, v1, w1, nI_add, fStr_sub (by omega) (by split <;> omega)]
  unfold slN
  rw [Nat.sub_sub]
theorem ch_wk (hI : ChI M0 T n w l g) (ha : M0 13 0 = nI a) (hv : ∀ h, h < n → M0 4 h = nI (vf h) ∧ vf h < 2 ^ 29) (hw : ∀ h, h < n → M0 13 (9 + h) = nI (wd h) ∧ wd h < 2 ^ 29) (lb : l < 2 ^ 29) (hF : Fst (fun h => fAb (nI a) (nI h)) (fun h => ((vf h - wd h : Nat) : Int)) 0 n w) : wkM T 15 n = w := by
  have hs := ch_str hI hv hw lb
  unfold wkM
  have h2 := dnB_spec (ab := fun h => fAb (nI a) (nI h)) (le := leW T 15) (g := fun h => (fStr (T 4 h - T 15 (9 + h))).toInt) (n := n) (fun h w => decide_eq_decide.mpr Int32.le_iff_toInt_le) n (Nat.le_refl n)
  rw [Nat.sub_self] at h2
  rw [hI.2.1, ha]
  refine h2.uniq ?_
  have gv : ∀ h, h < n → (fStr (T 4 h - T 15 (9 + h))).toInt = ((slN (fun h => vf h - wd h) w l h : Nat) : Int) := fun h hh => by
    rw [hs h hh]
    exact nI_toInt (Nat.lt_of_le_of_lt (Nat.le_trans (Nat.sub_le _ _) (Nat.sub_le _ _)) (Nat.lt_trans (hv h hh).2 (by decide)))
  cases w with
  | none => exact hF
  | some w0 =>
    obtain ⟨a1, a2, a3, a4, a5⟩ := hF
    have sl : ∀ h, h ≠ w0 → slN (fun h => vf h - wd h) (some w0) l h = vf h - wd h := fun h hh => by
      unfold slN; rw [if_neg (by intro y; cases y; exact hh rfl), Nat.sub_zero]
    have s0 : slN (fun h => vf h - wd h) (some w0) l w0 ≤ vf w0 - wd w0 := Nat.sub_le _ _
    refine ⟨a1, a2, a3, fun h h1 h2 h3 => ?_, fun h h1 h2 h3 => ?_⟩
    · dsimp only
      rw [gv w0 a2, gv h h2]
      by_cases e : h = w0
      · rw [e]; exact Int.le_refl _
      · rw [sl h e]; have := a4 h h1 h2 h3; dsimp only at this; omega
    · dsimp only
      rw [gv w0 a2, gv h (by omega), sl h (by omega)]
      have := a5 h h1 h2 h3; dsimp only at this; omega
theorem ch_fc (hI : ChI M0 T n w l g) (n6 : n ≤ 6) (a64 : a < 64) (hout : ∀ h, n ≤ h → a.testBit h = false) (ha : M0 13 0 = nI a) (hv : ∀ h, h < n → M0 4 h = nI (vf h) ∧ vf h < 2 ^ 29) (hw : ∀ h, h < n → M0 13 (9 + h) = nI (wd h) ∧ wd h < 2 ^ 29) (lb : l < 2 ^ 29) (hwb : ∀ h, w = some h → h < n ∧ a.testBit h = true) : fcM T 15 n = nI (FsN (fun h => vf h - wd h) a 6 - min l (wkN (fun h => vf h - wd h) w)) := by
  have hs := ch_str hI hv hw lb
  have e1 : fcM T 15 n = nI (FsN (slN (fun h => vf h - wd h) w l) a 6) := by
    unfold fcM
    rw [← FsN_nI (f := fun h => nI (bif a.testBit h then slN (fun h => vf h - wd h) w l h else 0)) (fun i hi => rfl) 6 (by omega)]
    refine (sumTo_ext (fun h hh => ?_) 6 n6 (fun h q1 q2 => ?_)).symm
    · unfold fForce
      dsimp only
      rw [hI.2.1, ha, if_pos (zbit h (by omega)), hs h hh, fAb_nI a a64 h (by omega)]
      cases a.testBit h with
      | true => rfl
      | false => rfl
    · rw [hout h q1]; rfl
  rw [e1]
  cases w with
  | none =>
    rw [show wkN (fun h => vf h - wd h) none = 0 from rfl, Nat.min_zero, Nat.sub_zero]
    refine congrArg nI (FsN_ext 6 (fun h _ => ?_))
    unfold slN; rw [if_neg (by intro y; cases y), Nat.sub_zero]
  | some w0 =>
    obtain ⟨b1, b2⟩ := hwb w0 rfl
    have := (FsN_cut (st := fun h => vf h - wd h) (l := l) b2 6).1
    rw [if_pos (by omega)] at this
    rw [this]; rfl
theorem ChI.step {gv s : Nat} {ke : Option Nat} (hI : ChI M0 T n w l g) (n6 : n ≤ 6) (hw6 : ∀ j, w = some j → j < 6) (hk6 : ∀ j, ke = some j → j < 6) (tk : Bool) : ChI M0 (chM T 15 tk (nI gv) s w ke) n w (bif tk then l else l + 1) (bif tk then g + gv else g) := by
  obtain ⟨h1, h2, h3, h4⟩ := hI
  refine ⟨fun k hk => by rw [chM_ne hk]; exact h1 k hk, ?_, ?_, fun h hh => ?_⟩
  · rw [chM_at]
    unfold chV
    rw [p1_ne hk6 (by omega), pk_un (by decide)]
    cases tk with
    | true => rw [cond_true, pk_un (by decide), pk_un (by decide)]; exact h2
    | false => rw [cond_false, p1_ne hw6 (by omega), p1_ne hw6 (by omega)]; exact h2
  · rw [chM_at]
    unfold chV
    rw [p1_ne hk6 (by omega), pk_un (by decide)]
    cases tk with
    | true => rw [cond_true, cond_true, pk_un (by decide), pk_us, h3, Int32.add_assoc, nI_add]
    | false => rw [cond_false, cond_false, p1_ne hw6 (by omega), p1_ne hw6 (by omega)]; exact h3
  · rw [chM_at]
    unfold chV
    rw [p1_ne hk6 (by omega), pk_un (by omega)]
    cases tk with
    | true => rw [cond_true, cond_true, pk_un (by omega), pk_un (by omega)]; exact h4 h hh
    | false =>
      rw [cond_false, cond_false, p1_ne hw6 (by omega), p1_val, h4 h hh]
      by_cases e : w = some h
      · rw [if_pos e, if_pos e, if_pos e, Int32.add_assoc, ← nI_succ]
      · rw [if_neg e, if_neg e, if_neg e]
end CH
