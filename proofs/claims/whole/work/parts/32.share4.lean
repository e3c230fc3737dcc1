/-! ===== sharing, side by side ===== -/
def mj (M M' : AM) : Prop := (∀ l, l ≠ 0 → ¬ (15 ≤ l ∧ l ≤ 18) → M' l = M l) ∧ M' 0 2 = M 0 2 ∧ M' 0 29 = M 0 29
def xj (M M' : AM) : Prop := ∀ l, l < 19 ∨ 28 < l → M' l = M l
theorem mj.refl (M : AM) : mj M M := ⟨fun _ _ _ => rfl, rfl, rfl⟩
theorem mj_15 (M : AM) (f : Nat → Int32) : mj M (sr M 15 f) := ⟨fun l h1 h2 => sr_ne _ _ (by omega), by rw [sr_ne _ _ (by decide)], by rw [sr_ne _ _ (by decide)]⟩
theorem Rel.junk {c rot : Nat} {Mm Mm' : AM} {Lm : AL} {Mx Mx' : AM} {Lx : AL} (hR : Rel c rot Mm Lm Mx Lx) (hm : mj Mm Mm') (hx : xj Mx Mx') : Rel c rot Mm' Lm Mx' Lx := by
  obtain ⟨n, ns, np, hT, hL, hI, hX, hS, hl⟩ := hR
  obtain ⟨m1, m2, m29⟩ := hm
  have m13 := m1 13 (by decide) (by omega)
  refine ⟨n, ns, np, hT.keep (fun l h1 h2 => m1 l (by omega) (by omega)) (fun l h1 h2 => hx l (by omega)), hL.move (fun k hk => by rw [m13]) (mv_congr (fun l h1 h2 => hx l (by omega))) (by rw [hx 15 (by omega)]) (fun i hi => mv_congr (fun l h1 h2 => hx l (by have := pl_range rot i; omega))), fun im hi => (hI im hi).keep hi (fun k hk => by rw [m13]) (by rw [m1 14 (by decide) (by omega)]) (fun l h1 h2 => hx l (by omega)), ?_, ?_, hl⟩
  · unfold RX at hX ⊢
    rw [m2, m1 1 (by decide) (by omega), hx 17 (by omega), hx 18 (by omega)]
    exact hX
  · unfold RS at hS ⊢
    rw [m29, m1 19 (by decide) (by omega), m1 20 (by decide) (by omega), hx 0 (by omega), hx 29 (by omega), hx 30 (by omega)]
    exact hS
/-- one call on both, where the model's end is known but for what nobody reads -/
def StepP (Em Ex : ME) (as : List Value) (c rot : Nat) (Mm : AM) (Lm : AL) (Mx : AM) (Lx : AL) : Prop := ∃ (r : RVi) (P : AM → AL → Prop), (∀ Q : QT, (∀ M' L', P M' L' → Q (some (.int r)) Sm M' L') → CW Em 30 0 (.ref 0 :: as) Sm Mm Lm Q) ∧ ∀ Q : QT, (∀ rot' Mx' Lx', (∀ M' L', P M' L' → Rel (c + 1) rot' M' L' Mx' Lx') → Q (some (.int r)) (Sx rot') Mx' Lx') → CW Ex 30 0 (.ref 0 :: as) (Sx rot) Mx Lx Q
theorem Step.toP {Em Ex : ME} {as : List Value} {c rot : Nat} {Mm : AM} {Lm : AL} {Mx : AM} {Lx : AL} (h : Step Em Ex as c rot Mm Lm Mx Lx) : StepP Em Ex as c rot Mm Lm Mx Lx := by
  obtain ⟨r, M', L', h1, h2⟩ := h
  refine ⟨r, fun A B => A = M' ∧ B = L', fun Q hQ => h1 Q (hQ _ _ ⟨rfl, rfl⟩), fun Q hQ => h2 Q (fun rot' Mx' Lx' hR => hQ rot' Mx' Lx' ?_)⟩
  rintro A B ⟨rfl, rfl⟩
  exact hR
theorem step_junk {Em Ex : ME} {as : List Value} {c rot : Nat} {Mm : AM} {Lm : AL} {Mx : AM} {Lx : AL} (hR : Rel c rot Mm Lm Mx Lx) (r : RVi) (hm : ∀ Q : QT, (∀ M', mj Mm M' → Q (some (.int r)) Sm M' Lm) → CW Em 30 0 (.ref 0 :: as) Sm Mm Lm Q) (hx : ∀ Q : QT, (∀ M', xj Mx M' → Q (some (.int r)) (Sx rot) M' Lx) → CW Ex 30 0 (.ref 0 :: as) (Sx rot) Mx Lx Q) : StepP Em Ex as c rot Mm Lm Mx Lx := by
  refine ⟨r, fun A B => mj Mm A ∧ B = Lm, fun Q hQ => hm Q (fun M' h => hQ M' Lm ⟨h, rfl⟩), fun Q hQ => hx Q (fun Mx' h => hQ rot Mx' Lx ?_)⟩
  rintro A B ⟨h1, rfl⟩
  exact hR.next.junk h1 h
/-- the money of both -/
theorem mon_of {n ns np c rot : Nat} {Mm Mx : AM} (hc : c < 100000) (hT : RT n ns np Mm Mx) (hL : LG n ns c Mm Mx 0 9 15 (pl rot)) : ∃ w ch u, Mon n w ch u (Mm 13) ∧ Mm 12 0 = nI w ∧ Mx 1 3 = nI w ∧ Mx 9 2 = nI ch ∧ (∀ h, h < 6 → u h < 2 ^ 30) ∧ (∀ h, h < 6 → Mx 12 h = nI (u h)) ∧ (∀ h, n ≤ h → h < 6 → u h = 0) ∧ ch ≤ 100 * c ∧ (∀ h, h < 6 → u h ≤ c) ∧ w ≤ 50 := by
  obtain ⟨⟨n6, -, -⟩, -, -, -, ⟨w, w50, w1, w2⟩, -⟩ := hT
  obtain ⟨v0, v1, v2, -, -, -, -, w15, -⟩ := vec_all hL.1
  obtain ⟨-, -, ⟨ch, hd, h3, h4, h5⟩, -, h7⟩ := hL.2.1
  have h3 : Mm 13 2 = nI ch := by simpa using h3
  refine ⟨w, ch, fun h => if hh : h < 6 then Classical.choose (h7 h hh) else 0, ⟨n6, by omega, by omega, h3, fun h hh => ?_, fun h hh => ?_⟩, w1, w2, by rw [v2, h3], fun h hh => ?_, fun h hh => ?_, fun h h1 hh => ?_, by omega, fun h hh => ?_, w50⟩
  · have hh6 : h < 6 := by omega
    have := Classical.choose_spec (h7 h hh6)
    dsimp only; rw [dif_pos hh6]; omega
  · have hh6 : h < 6 := by omega
    have := Classical.choose_spec (h7 h hh6)
    dsimp only; rw [dif_pos hh6]
    simpa using this.2.1
  · have := Classical.choose_spec (h7 h hh)
    dsimp only; rw [dif_pos hh]; omega
  · have := Classical.choose_spec (h7 h hh)
    dsimp only; rw [dif_pos hh, w15 h hh]
    simpa using this.2.1
  · have := Classical.choose_spec (h7 h hh)
    dsimp only; rw [dif_pos hh]
    exact this.2.2 h1
  · have := Classical.choose_spec (h7 h hh)
    dsimp only; rw [dif_pos hh]
    exact this.1
theorem Cn_zero {w : Nat} {u : Nat → Nat} {ch n : Nat} (hz : ∀ h, n ≤ h → h < 6 → u h = 0) : ∀ k, n + k ≤ 6 → Cn w u ch (n + k) = Cn w u ch n
  | 0, _ => rfl
  | k + 1, hk => by
    show Cn w u ch (n + k) - w * pay w (Cn w u ch (n + k)) (u (n + k)) = _
    have := pay_le w (Cn w u ch (n + k)) (u (n + k))
    rw [hz (n + k) (by omega) (by omega)] at this
    rw [hz (n + k) (by omega) (by omega), Nat.le_zero.mp this, Nat.mul_zero, Nat.sub_zero, Cn_zero hz k (by omega)]
theorem part_nat {a cp : Int32} {hv : Nat → Int32} {n : Nat} (hvb : ∀ h, h < n → ∃ x, 1 ≤ x ∧ x ≤ 9 ∧ hv h = nI x) : ∀ m, m ≤ n → ∃ s, s ≤ 18 * m ∧ sumTo (fPart a cp hv) m = nI s ∧ (s = 0 ↔ ∀ h, h < m → fAb a (nI h) = 0)
  | 0, _ => ⟨0, by omega, rfl, fun _ h hh => absurd hh (by omega), fun _ => rfl⟩
  | m + 1, hm => by
    obtain ⟨s, s1, s2, s3⟩ := part_nat hvb m (by omega)
    obtain ⟨x, x1, x9, x2⟩ := hvb m (by omega)
    have : ∃ p, p ≤ 18 ∧ fPart a cp hv m = nI p ∧ (p = 0 ↔ fAb a (nI m) = 0) := by
      unfold fPart
      by_cases z : fAb a (nI m) = 0
      · exact ⟨0, by omega, by rw [if_pos z]; rfl, fun _ => z, fun _ => rfl⟩
      · rw [if_neg z]
        by_cases y : cp = nI m
        · exact ⟨2 * x, by omega, by rw [if_pos y, x2, show (2 : Int32) = nI 2 from rfl, pk_mul], fun e => absurd e (by omega), fun e => absurd e z⟩
        · exact ⟨x, by omega, by rw [if_neg y, x2], fun e => absurd e (by omega), fun e => absurd e z⟩
    obtain ⟨p, p1, p2, p3⟩ := this
    refine ⟨s + p, by omega, by unfold sumTo; rw [s2, p2, nI_add], fun e h hh => ?_, fun e => ?_⟩
    · by_cases y : h = m
      · subst y; exact p3.mp (by omega)
      · exact s3.mp (by omega) h (by omega)
    · have q1 := s3.mpr (fun h hh => e h (by omega))
      have q2 := p3.mpr (e m (by omega))
      omega
theorem aboard_zero {a n : Nat} (ha : a < 2 ^ n) (n6 : n ≤ 6) : a = 0 ↔ ∀ h, h < n → fAb (nI a) (nI h) = 0 := by
  have hp := pow_le6 n6
  have gen : ∀ a, a < 64 → (∀ h, h < 6 → fAb (nI a) (nI h) = 0) → a = 0 := by decide +kernel
  constructor
  · intro e h hh
    subst e
    have : ∀ h, h < 6 → fAb (nI 0) (nI h) = 0 := by decide +kernel
    exact this h (by omega)
  · intro H
    refine gen a (by omega) (fun h hh => ?_)
    by_cases y : h < n
    · exact H h y
    · exact fAb_out ha n6 (by omega) hh
/-- the parts of both: as a number, none just when nobody is aboard -/
theorem pt_of {n ns np c rot : Nat} {Mm Mx : AM} (hT : RT n ns np Mm Mx) (hL : LG n ns c Mm Mx 0 9 15 (pl rot)) : ∃ s, s ≤ 108 ∧ sumTo (fPart (Mm 13 0) (Mm 13 1) (Mm 3)) n = nI s ∧ sumTo (fPart (Mx 9 0) (Mx 9 1) (Mx 2)) 6 = nI s ∧ (s = 0 ↔ Mm 13 0 = 0) ∧ (Mm 13 0 = 0 → ∀ j, j < n → fAb (Mm 13 0) (nI j) = 0) := by
  have pe := parts_eq hT hL
  obtain ⟨⟨n6, -, -⟩, -, -, -, -, t3, -⟩ := hT
  obtain ⟨⟨a, a1, a2⟩, -⟩ := hL.2.1
  have a2 : Mm 13 0 = nI a := by simpa using a2
  have hp := pow_le6 n6
  obtain ⟨s, s1, s2, s3⟩ := part_nat (a := Mm 13 0) (cp := Mm 13 1) (hv := Mm 3) (n := n) (fun h hh => by obtain ⟨x, q1, q2, q3, -⟩ := t3 h hh; exact ⟨x, q1, q2, q3⟩) n (Nat.le_refl n)
  have az : a = 0 ↔ Mm 13 0 = 0 := by
    rw [a2]
    exact ⟨fun e => by rw [e]; rfl, fun e => (nI_eq (b := 0) (by omega) (by omega)).mp e⟩
  have ab := aboard_zero a1 n6
  rw [← a2] at ab
  exact ⟨s, by omega, s2, pe.trans s2, s3.trans (ab.symm.trans az), fun e => ab.mp (az.mpr e)⟩
