/-! ===== sharing: the steps ===== -/
theorem holdUp_ext {a q : Int32} {f g : Nat → Int32} {n : Nat} (h1 : ∀ h, h < n → ¬ fAb a (nI h) = 0 → f h = g h) : ∀ m, n ≤ m → (∀ h, n ≤ h → h < m → fAb a (nI h) = 0) → holdUp a f q m = holdUp a g q n := by
  have base : ∀ k, k ≤ n → holdUp a f q k = holdUp a g q k := by
    intro k
    induction k with
    | zero => intro _; rfl
    | succ k ih =>
      intro hk
      unfold holdUp
      rw [ih (by omega)]
      by_cases z : fAb a (nI k) = 0
      · rw [if_pos z, if_pos z]
      · rw [if_neg z, if_neg z, h1 k (by omega) z]
  intro m hm
  induction m with
  | zero => intro _; rw [show n = 0 by omega]; rfl
  | succ m ih =>
    intro h2
    by_cases hmn : n = m + 1
    · rw [hmn]; rw [← hmn]; exact base n (Nat.le_refl n)
    · show holdUp a f q m ||| _ = holdUp a g q n
      rw [ih (by omega) (fun h a b => h2 h a (by omega)), if_pos (h2 m (by omega) (by omega)), or_z]
section SD7
variable {c rot : Nat} {Mm : AM} {Lm : AL} {Mx : AM} {Lx : AL}
theorem part_at {n ns np : Nat} (hT : RT n ns np Mm Mx) (hL : LG n ns c Mm Mx 0 9 15 (pl rot)) : ∀ h, h < n → fPart (Mx 9 0) (Mx 9 1) (Mx 2) h = fPart (Mm 13 0) (Mm 13 1) (Mm 3) h := by
  obtain ⟨⟨n6, -, -⟩, -, -, -, -, t3, -⟩ := hT
  obtain ⟨v0, v1, -⟩ := vec_all hL.1
  intro h hh
  obtain ⟨x, -, -, q1, q2⟩ := t3 h hh
  unfold fPart
  rw [v0, v1, q1, q2]
theorem nz_le {s : Nat} (h : s < 2 ^ 31) : nI s ≤ 0 ↔ s = 0 := by
  constructor
  · intro y
    have := (nI_leI (b := 0) h (by decide)).mp y
    omega
  · intro e; rw [e]; decide
theorem st_due (hc : c < 100000) (hR : Rel c rot Mm Lm Mx Lx) (h : Int32) : StepP E8_due E7_due [.int h] c rot Mm Lm Mx Lx := by
  obtain ⟨n, ns, np, hT, hL, -⟩ := id hR
  obtain ⟨⟨n6, -, -⟩, ⟨hn, hn'⟩, -⟩ := id hT
  obtain ⟨w, ch, u, hm, w1, w2, c1, u1, u2, u3, -, -, -⟩ := mon_of hc hT hL
  obtain ⟨s, s1, p1, p2, p3, p4⟩ := pt_of hT hL
  have pa := part_at hT hL
  have c6 : Cn w u ch 6 = Cn w u ch n := by
    have := Cn_zero (w := w) (ch := ch) u3 (6 - n) (by omega)
    rw [show n + (6 - n) = 6 by omega] at this; exact this
  have hp0 : ¬ Mm 13 0 = 0 → ¬ nI s = 0 := fun y z => y (p3.mp ((nI_eq (b := 0) (by omega) (by omega)).mp z))
  rcases ix_cases h n6 with ⟨g, bad⟩ | ⟨j, hj, rfl, bad, uq⟩
  · exact (step_read hR (.int (-1)) (fun Q hQ => cm_due hn w1 hm (fun _ => hQ) (fun j hj e => (bad j hj e).elim) p1 hp0 rfl (fun j hj e => (bad j hj e).elim)) (fun Q hQ => cx_due hn' n6 w2 hm.2.1 hm.2.2.1 c1 u1 u2 p2 rfl (fun _ => hQ) (fun j hj e => (bad j hj e).elim) (fun j hj e => (bad j hj e).elim))).toP
  by_cases z : Mm 13 0 = 0
  · have sz := p3.mpr z
    refine step_junk hR (.int 0) (fun Q hQ => cm_due hn w1 hm (fun y => absurd y bad) (fun j' hj' e' _ => hQ Mm (mj.refl Mm)) p1 hp0 rfl (fun j' hj' e' y => absurd z y)) (fun Q hQ => cx_due hn' n6 w2 hm.2.1 hm.2.2.1 c1 u1 u2 p2 rfl (fun y => absurd y bad) (fun j' hj' e' _ R hx => hQ R hx) (fun j' hj' e' y => absurd ((nz_le (by omega)).mpr sz) y))
  · have sz : ¬ s = 0 := fun y => z (p3.mp y)
    refine step_junk hR (.int (nI (w * Pn w u ch j) + nI (Cn w u ch n) / nI s * fPart (Mm 13 0) (Mm 13 1) (Mm 3) j)) (fun Q hQ => cm_due hn w1 hm (fun y => absurd y bad) (fun j' hj' e' y => absurd y z) p1 hp0 rfl (fun j' hj' e' y f => ?_)) (fun Q hQ => cx_due hn' n6 w2 hm.2.1 hm.2.2.1 c1 u1 u2 p2 rfl (fun y => absurd y bad) (fun j' hj' e' y => absurd ((nz_le (by omega)).mp y) sz) (fun j' hj' e' y R hx => ?_))
    · cases uq j' hj' e'; exact hQ _ (mj_15 Mm f)
    · cases uq j' hj' e'
      rw [c6, pa j hj]
      exact hQ R hx
theorem st_holds (hc : c < 100000) (hR : Rel c rot Mm Lm Mx Lx) (q : Int32) : StepP E8_holds E7_holds [.int q] c rot Mm Lm Mx Lx := by
  obtain ⟨n, ns, np, hT, hL, -⟩ := id hR
  obtain ⟨⟨n6, -, -⟩, ⟨hn, hn'⟩, -⟩ := id hT
  obtain ⟨v0, -⟩ := vec_all hL.1
  obtain ⟨⟨a, a1, a2⟩, -⟩ := id hL.2.1
  have a2 : Mm 13 0 = nI a := by simpa using a2
  obtain ⟨w, ch, u, hm, w1, w2, c1, u1, u2, u3, -, -, -⟩ := mon_of hc hT hL
  obtain ⟨s, s1, p1, p2, p3, p4⟩ := pt_of hT hL
  have pa := part_at hT hL
  have c6 : Cn w u ch 6 = Cn w u ch n := by
    have := Cn_zero (w := w) (ch := ch) u3 (6 - n) (by omega)
    rw [show n + (6 - n) = 6 by omega] at this; exact this
  have hp0 : ¬ Mm 13 0 = 0 → ¬ nI s = 0 := fun y z => y (p3.mp ((nI_eq (b := 0) (by omega) (by omega)).mp z))
  by_cases hf : fIn q 0 99 = 0
  · exact (step_read hR (.int (-1)) (fun Q hQ => cm_holds hn w1 hm (fun _ => hQ) p1 hp0 rfl p4 (fun y => absurd hf y)) (fun Q hQ => cx_holds w2 hm.2.1 hm.2.2.1 c1 u1 u2 p2 rfl (fun _ => hQ) (fun y => absurd hf y))).toP
  refine step_junk hR (.int (holdUp (Mm 13 0) (fun j => nI (w * Pn w u ch j) + nI (Cn w u ch n) / nI s * fPart (Mm 13 0) (Mm 13 1) (Mm 3) j) q n)) (fun Q hQ => cm_holds hn w1 hm (fun y => absurd y hf) p1 hp0 rfl p4 (fun _ f => hQ _ (mj_15 Mm f))) (fun Q hQ => cx_holds w2 hm.2.1 hm.2.2.1 c1 u1 u2 p2 rfl (fun y => absurd y hf) (fun _ g hg R hx => ?_))
  have e : holdUp (Mx 9 0) g q 6 = holdUp (Mm 13 0) (fun j => nI (w * Pn w u ch j) + nI (Cn w u ch n) / nI s * fPart (Mm 13 0) (Mm 13 1) (Mm 3) j) q n := by
    rw [v0]
    refine holdUp_ext (fun h hh hb => ?_) 6 n6 (fun h g1 g2 => by rw [a2]; exact fAb_out a1 n6 g1 g2)
    rcases hg with ⟨y, -⟩ | ⟨y, hg⟩
    · exact absurd (p4 (p3.mp ((nz_le (by omega)).mp y)) h hh) hb
    · rw [hg h (by omega), c6, pa h hh]
  rw [e]
  exact hQ R hx
end SD7
