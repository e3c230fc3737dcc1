/-! ===== articles: the text, as numbers ===== -/
def isSp (c : Nat) : Bool := decide (c = 32)
def isLt (c : Nat) : Bool := decide (97 ≤ c ∧ c ≤ 122)
def isDg (c : Nat) : Bool := decide (48 ≤ c ∧ c ≤ 57)
def rnC (C : Nat → Bool) (b : Nat → Nat) (t : Nat) : Nat → Nat → Nat
  | 0, p => p
  | f + 1, p => if p < t ∧ C (b p) = true then rnC C b t f (p + 1) else p
/-- the end of a run from p -/
def rnE (C : Nat → Bool) (b : Nat → Nat) (t p : Nat) : Nat := rnC C b t (t - p) p
section RN
variable {C : Nat → Bool} {b : Nat → Nat} {t : Nat}
theorem rn_step {p : Nat} (h : p < t) (hc : C (b p) = true) : rnE C b t p = rnE C b t (p + 1) := by
  unfold rnE
  rw [show t - p = (t - (p + 1)) + 1 by omega, rnC, if_pos ⟨h, hc⟩]
theorem rn_stop {p : Nat} (h : ¬ (p < t ∧ C (b p) = true)) : rnE C b t p = p := by
  unfold rnE
  cases e : t - p with
  | zero => rfl
  | succ k => rw [rnC, if_neg h]
theorem rn_spec : ∀ k p, t - p = k → p ≤ rnE C b t p ∧ (p ≤ t → rnE C b t p ≤ t) ∧ (∀ q, p ≤ q → q < rnE C b t p → q < t ∧ C (b q) = true) ∧ ¬ (rnE C b t p < t ∧ C (b (rnE C b t p)) = true)
  | 0, p, e => by
    rw [rn_stop (by omega)]
    exact ⟨Nat.le_refl _, id, fun q h1 h2 => absurd h2 (by omega), by omega⟩
  | k + 1, p, e => by
    by_cases z : p < t ∧ C (b p) = true
    · obtain ⟨h1, h2, h3, h4⟩ := rn_spec k (p + 1) (by omega)
      rw [rn_step z.1 z.2]
      refine ⟨by omega, fun _ => h2 (by omega), fun q q1 q2 => ?_, h4⟩
      by_cases y : q = p
      · subst y; exact z
      · exact h3 q (by omega) q2
    · rw [rn_stop z]
      exact ⟨Nat.le_refl _, id, fun q h1 h2 => absurd h2 (by omega), z⟩
end RN
section TK
variable (b : Nat → Nat) (t : Nat)
def tS (p : Nat) : Nat := rnE isSp b t p
def tE (p : Nat) : Nat := if tS b t p < t then (if isLt (b (tS b t p)) then rnE isLt b t (tS b t p) else if isDg (b (tS b t p)) then rnE isDg b t (tS b t p) else tS b t p + 1) else tS b t p
def tV (p : Nat) : Nat := if tE b t p - tS b t p = 1 then b (tS b t p) - 48 else 10 * (b (tS b t p) - 48) + (b (tS b t p + 1) - 48)
def tK (p : Nat) : Nat := if tS b t p < t then (if isLt (b (tS b t p)) then (if tE b t p - tS b t p = 1 then b (tS b t p) else 3) else if isDg (b (tS b t p)) then (if tE b t p - tS b t p = 1 ∨ (tE b t p - tS b t p = 2 ∧ b (tS b t p) ≠ 48) then 1 else 3) else if b (tS b t p) = 59 then 2 else 3) else 0
end TK
section TK2
variable {b : Nat → Nat} {t p : Nat}
theorem tS_ge : p ≤ tS b t p := (rn_spec _ p rfl).1
theorem tS_le (h : p ≤ t) : tS b t p ≤ t := (rn_spec _ p rfl).2.1 h
theorem tE_gt (h : tS b t p < t) : tS b t p < tE b t p := by
  unfold tE
  rw [if_pos h]
  by_cases z : isLt (b (tS b t p)) = true
  · rw [if_pos z, rn_step h z]
    have := (rn_spec (C := isLt) (b := b) (t := t) _ (tS b t p + 1) rfl).1
    omega
  · rw [if_neg z]
    by_cases y : isDg (b (tS b t p)) = true
    · rw [if_pos y, rn_step h y]
      have := (rn_spec (C := isDg) (b := b) (t := t) _ (tS b t p + 1) rfl).1
      omega
    · rw [if_neg y]; omega
theorem tE_le (h : p ≤ t) : tE b t p ≤ t := by
  have := tS_le (b := b) h
  unfold tE
  by_cases w : tS b t p < t
  · rw [if_pos w]
    by_cases z : isLt (b (tS b t p)) = true
    · rw [if_pos z]; exact (rn_spec (C := isLt) _ _ rfl).2.1 this
    · rw [if_neg z]
      by_cases y : isDg (b (tS b t p)) = true
      · rw [if_pos y]; exact (rn_spec (C := isDg) _ _ rfl).2.1 this
      · rw [if_neg y]; omega
  · rw [if_neg w]; exact this
theorem tE_ge : p ≤ tE b t p := by
  have h1 := tS_ge (b := b) (t := t) (p := p)
  by_cases w : tS b t p < t
  · have := tE_gt w; omega
  · unfold tE; rw [if_neg w]; exact h1
theorem tK_in (h : tK b t p ≠ 0) : tS b t p < t := Classical.byContradiction fun y => h (by unfold tK; rw [if_neg y])
theorem tE_gt2 (h : tK b t p ≠ 0) : p < tE b t p := by
  have h1 := tS_ge (b := b) (t := t) (p := p)
  have := tE_gt (tK_in h)
  omega
theorem tK_lt (hb : ∀ j, j < t → b j < 256) : tK b t p < 256 := by
  unfold tK
  by_cases w : tS b t p < t
  · have := hb _ w
    rw [if_pos w]
    split
    · split <;> omega
    · split
      · split <;> omega
      · split <;> omega
  · rw [if_neg w]; omega
theorem tV_lt (h : tK b t p = 1) : tV b t p ≤ 99 := by
  have w := tK_in (b := b) (t := t) (p := p) (by rw [h]; decide)
  have sp := (rn_spec (C := isDg) (b := b) (t := t) _ (tS b t p) rfl)
  unfold tK at h
  rw [if_pos w] at h
  by_cases z : isLt (b (tS b t p)) = true
  · rw [if_pos z] at h
    have z := of_decide_eq_true z
    split at h <;> omega
  · rw [if_neg z] at h
    by_cases y : isDg (b (tS b t p)) = true
    · rw [if_pos y] at h
      have eE : tE b t p = rnE isDg b t (tS b t p) := by unfold tE; rw [if_pos w, if_neg z, if_pos y]
      have y := of_decide_eq_true y
      by_cases x : tE b t p - tS b t p = 1 ∨ (tE b t p - tS b t p = 2 ∧ b (tS b t p) ≠ 48)
      · unfold tV
        by_cases v : tE b t p - tS b t p = 1
        · rw [if_pos v]; omega
        · rw [if_neg v]
          have := (sp.2.2.1 (tS b t p + 1) (by omega) (by rw [← eE]; omega)).2
          have := of_decide_eq_true this
          omega
      · rw [if_neg x] at h; omega
    · rw [if_neg y] at h
      split at h <;> omega
end TK2
/-- what is told: 0 the counts (hands, ships, pieces, wound, wound told), 1 halves, 2 fight, 3 eyes, 4 likes, 5 guns, 6 gold, 7 worth -/
def Dr : Type := Nat → Nat → Nat
abbrev Dr.n (D : Dr) : Nat := D 0 0
abbrev Dr.ns (D : Dr) : Nat := D 0 1
abbrev Dr.np (D : Dr) : Nat := D 0 2
abbrev Dr.wd (D : Dr) : Nat := D 0 3
abbrev Dr.wt (D : Dr) : Nat := D 0 4
abbrev Dr.ha (D : Dr) : Nat → Nat := D 1
abbrev Dr.fi (D : Dr) : Nat → Nat := D 2
abbrev Dr.ey (D : Dr) : Nat → Nat := D 3
abbrev Dr.li (D : Dr) : Nat → Nat := D 4
abbrev Dr.gu (D : Dr) : Nat → Nat := D 5
abbrev Dr.go (D : Dr) : Nat → Nat := D 6
abbrev Dr.wo (D : Dr) : Nat → Nat := D 7
abbrev Rz : Type := Except Nat (Dr × Nat)
abbrev Rz.bad (p : Nat) : Rz := .error p
abbrev Rz.good (D : Dr) (p : Nat) : Rz := .ok (D, p)
def upN (f : Nat → Nat) (j v : Nat) : Nat → Nat := fun k => if k = j then v else f k
def upD (D : Dr) (k j v : Nat) : Dr := fun k' => if k' = k then upN (D k) j v else D k'
section PS
variable (b : Nat → Nat) (t : Nat)
def numR (c : Nat → Bool) (p : Nat) (k : Nat → Nat → Rz) : Rz := if tK b t p = 1 ∧ c (tV b t p) = true then k (tV b t p) (tE b t p) else Rz.bad (tS b t p)
def inR (lo hi : Nat) (v : Nat) : Bool := decide (lo ≤ v ∧ v ≤ hi)
def mayB (D : Dr) (c : Nat) : Bool := if c = 104 then decide (D.n < 6) else if c = 108 then true else if c = 112 then decide (D.np < 5) else if c = 115 then decide (D.ns < 5) else if c = 119 then decide (D.wt = 0) else false
def itm (D : Dr) (c p : Nat) : Rz :=
  if c = 104 then numR b t (inR 1 9) p fun v1 p => numR b t (inR 0 9) p fun v2 p => numR b t (inR 0 9) p fun v3 p => Rz.good (upD (upD (upD (upD D 1 D.n v1) 2 D.n v2) 3 D.n v3) 0 0 (D.n + 1)) p
  else if c = 108 then numR b t (fun v => decide (v < D.n)) p fun x p => numR b t (fun v => decide (v < D.n ∧ v ≠ x)) p fun y p => Rz.good (upD D 4 x (D.li x ||| 2 ^ y)) p
  else if c = 112 then numR b t (inR 1 99) p fun v p => Rz.good (upD (upD D 7 D.np v) 0 2 (D.np + 1)) p
  else if c = 115 then numR b t (inR 0 60) p fun v1 p => numR b t (inR 0 99) p fun v2 p => Rz.good (upD (upD (upD D 5 D.ns v1) 6 D.ns v2) 0 1 (D.ns + 1)) p
  else numR b t (inR 0 50) p fun v p => Rz.good (upD (upD D 0 3 v) 0 4 1) p
def stpR (r : Rz) : Rz := match r with
  | .error q => Rz.bad q
  | .ok x => if tK b t x.2 = 2 then Rz.good x.1 (tE b t x.2) else Rz.bad (tS b t x.2)
def item (D : Dr) (p : Nat) : Rz := if mayB D (tK b t p) then stpR b t (itm b t D (tK b t p) (tE b t p)) else Rz.bad (tS b t p)
def prs : Nat → Dr → Nat → Nat → Rz
  | 0, _, _, _ => Rz.bad 0
  | f + 1, D, p, i => if tK b t p = 0 then Rz.good D i else match item b t D p with
    | .error q => Rz.bad q
    | .ok x => prs f x.1 x.2 (i + 1)
end PS
def D0 : Dr := upD (fun _ _ => 0) 0 3 10
def DV (D : Dr) : Prop := (D.n ≤ 6 ∧ D.ns ≤ 5 ∧ D.np ≤ 5 ∧ D.wd ≤ 50) ∧ (∀ h, h < D.n → 1 ≤ D.ha h ∧ D.ha h ≤ 9 ∧ D.fi h ≤ 9 ∧ D.ey h ≤ 9) ∧ (∀ h, h < 6 → D.li h < 2 ^ D.n ∧ (D.li h).testBit h = false) ∧ (∀ s, s < D.ns → D.gu s ≤ 60 ∧ D.go s ≤ 99) ∧ ∀ s, s < D.np → 1 ≤ D.wo s ∧ D.wo s ≤ 99
theorem DV0 : DV D0 := ⟨⟨by decide, by decide, by decide, by decide⟩, fun h hh => absurd hh (Nat.not_lt_zero h), fun h _ => ⟨show 0 < 2 ^ 0 by decide, Nat.zero_testBit h⟩, fun h hh => absurd hh (Nat.not_lt_zero h), fun h hh => absurd hh (Nat.not_lt_zero h)⟩
/-- what a good item may give -/
def RzP (P : Dr → Nat → Prop) : Rz → Prop
  | .error _ => True
  | .ok x => P x.1 x.2
section PS2
variable {b : Nat → Nat} {t : Nat}
theorem numP {c : Nat → Bool} {p : Nat} {k : Nat → Nat → Rz} {P : Dr → Nat → Prop} (h : p ≤ t → tK b t p = 1 → c (tV b t p) = true → p < tE b t p → tE b t p ≤ t → RzP P (k (tV b t p) (tE b t p))) (hp : p ≤ t) : RzP P (numR b t c p k) := by
  unfold numR
  by_cases z : tK b t p = 1 ∧ c (tV b t p) = true
  · rw [if_pos z]; exact h hp z.1 z.2 (tE_gt2 (by rw [z.1]; decide)) (tE_le hp)
  · rw [if_neg z]; trivial
theorem upN_at (f : Nat → Nat) (j v : Nat) : upN f j v j = v := if_pos rfl
theorem upN_ne {f : Nat → Nat} {j k v : Nat} (h : k ≠ j) : upN f j v k = f k := if_neg h
theorem itmP {D : Dr} {c p : Nat} (hD : DV D) (hm : mayB D c = true) (hp : p ≤ t) : RzP (fun D' q => DV D' ∧ p < q ∧ q ≤ t) (itm b t D c p) := by
  obtain ⟨⟨d1, d2, d3, d4⟩, d5, d6, d7, d8⟩ := id hD
  unfold itm
  unfold mayB at hm
  by_cases c1 : c = 104
  · rw [if_pos c1] at hm ⊢
    have hn := of_decide_eq_true hm
    refine numP (fun _ _ q1 e1 l1 => numP (fun _ _ q2 e2 l2 => numP (fun _ _ q3 e3 l3 => ?_) l2) l1) hp
    have q1 := of_decide_eq_true q1
    have q2 := of_decide_eq_true q2
    have q3 := of_decide_eq_true q3
    refine ⟨⟨⟨by show D.n + 1 ≤ 6; omega, d2, d3, d4⟩, fun h hh => ?_, fun h hh => ?_, d7, d8⟩, by omega, l3⟩
    · have hh : h < D.n + 1 := hh
      show 1 ≤ upN D.ha D.n (tV b t p) h ∧ upN D.ha D.n (tV b t p) h ≤ 9 ∧ upN D.fi D.n (tV b t (tE b t p)) h ≤ 9 ∧ upN D.ey D.n (tV b t (tE b t (tE b t p))) h ≤ 9
      by_cases e : h = D.n
      · subst e; rw [upN_at, upN_at, upN_at]; omega
      · rw [upN_ne e, upN_ne e, upN_ne e]; exact d5 h (by omega)
    · show D.li h < 2 ^ (D.n + 1) ∧ (D.li h).testBit h = false
      exact ⟨Nat.lt_of_lt_of_le (d6 h hh).1 (Nat.pow_le_pow_right (by decide) (by omega)), (d6 h hh).2⟩
  · rw [if_neg c1] at hm ⊢
    by_cases c2 : c = 108
    · rw [if_pos c2] at hm ⊢
      refine numP (fun _ _ q1 e1 l1 => numP (fun _ _ q2 e2 l2 => ?_) l1) hp
      have q1 := of_decide_eq_true q1
      have q2 := of_decide_eq_true q2
      refine ⟨⟨⟨d1, d2, d3, d4⟩, d5, fun h hh => ?_, d7, d8⟩, by omega, l2⟩
      show upN D.li (tV b t p) (D.li (tV b t p) ||| 2 ^ tV b t (tE b t p)) h < 2 ^ D.n ∧ (upN D.li (tV b t p) (D.li (tV b t p) ||| 2 ^ tV b t (tE b t p)) h).testBit h = false
      by_cases e : h = tV b t p
      · subst e
        rw [upN_at]
        refine ⟨Nat.or_lt_two_pow (d6 _ hh).1 (Nat.pow_lt_pow_right (by decide) q2.1), ?_⟩
        rw [Nat.testBit_or, (d6 _ hh).2, Bool.false_or, Nat.testBit_two_pow_of_ne q2.2]
      · rw [upN_ne e]; exact d6 h hh
    · rw [if_neg c2] at hm ⊢
      by_cases c3 : c = 112
      · rw [if_pos c3] at hm ⊢
        have hn := of_decide_eq_true hm
        refine numP (fun _ _ q1 e1 l1 => ?_) hp
        have q1 := of_decide_eq_true q1
        refine ⟨⟨⟨d1, d2, by show D.np + 1 ≤ 5; omega, d4⟩, d5, d6, d7, fun s hs => ?_⟩, by omega, l1⟩
        have hs : s < D.np + 1 := hs
        show 1 ≤ upN D.wo D.np (tV b t p) s ∧ upN D.wo D.np (tV b t p) s ≤ 99
        by_cases e : s = D.np
        · subst e; rw [upN_at]; omega
        · rw [upN_ne e]; exact d8 s (by omega)
      · rw [if_neg c3] at hm ⊢
        by_cases c4 : c = 115
        · rw [if_pos c4] at hm ⊢
          have hn := of_decide_eq_true hm
          refine numP (fun _ _ q1 e1 l1 => numP (fun _ _ q2 e2 l2 => ?_) l1) hp
          have q1 := of_decide_eq_true q1
          have q2 := of_decide_eq_true q2
          refine ⟨⟨⟨d1, by show D.ns + 1 ≤ 5; omega, d3, d4⟩, d5, d6, fun s hs => ?_, d8⟩, by omega, l2⟩
          have hs : s < D.ns + 1 := hs
          show upN D.gu D.ns (tV b t p) s ≤ 60 ∧ upN D.go D.ns (tV b t (tE b t p)) s ≤ 99
          by_cases e : s = D.ns
          · subst e; rw [upN_at, upN_at]; omega
          · rw [upN_ne e, upN_ne e]; exact d7 s (by omega)
        · rw [if_neg c4]
          refine numP (fun _ _ q1 e1 l1 => ?_) hp
          have q1 := of_decide_eq_true q1
          exact ⟨⟨⟨d1, d2, d3, q1.2⟩, d5, d6, d7, d8⟩, by omega, l1⟩
theorem itemP {D : Dr} {p : Nat} (hD : DV D) (hp : p ≤ t) : RzP (fun D' q => DV D' ∧ p < q ∧ q ≤ t) (item b t D p) := by
  unfold item
  by_cases z : mayB D (tK b t p) = true
  · rw [if_pos z]
    have h1 := itmP (b := b) (t := t) hD z (tE_le (b := b) hp)
    have h2 := tE_ge (b := b) (t := t) (p := p)
    generalize itm b t D (tK b t p) (tE b t p) = r at h1
    cases r with
    | error q => trivial
    | ok x =>
      obtain ⟨D', q⟩ := x
      obtain ⟨g1, g2, g3⟩ := h1
      show RzP _ (if tK b t q = 2 then Rz.good D' (tE b t q) else Rz.bad (tS b t q))
      by_cases y : tK b t q = 2
      · rw [if_pos y]
        have := tE_ge (b := b) (t := t) (p := q)
        exact ⟨g1, by omega, tE_le g3⟩
      · rw [if_neg y]; trivial
  · rw [if_neg z]; trivial
theorem mayB_let {D : Dr} {c : Nat} (h : mayB D c = true) : c = 104 ∨ c = 108 ∨ c = 112 ∨ c = 115 ∨ c = 119 := by
  refine Classical.byContradiction fun n => ?_
  unfold mayB at h
  rw [if_neg (fun e => n (by omega)), if_neg (fun e => n (by omega)), if_neg (fun e => n (by omega)), if_neg (fun e => n (by omega)), if_neg (fun e => n (by omega))] at h
  cases h
end PS2
