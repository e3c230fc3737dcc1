/-! ===== calls, side by side: reads ===== -/
theorem mv_0 (M : AM) (b : Nat) : mv M b 0 = M b 0 := rfl
theorem mv_1 (M : AM) (b : Nat) : mv M b 1 = M b 1 := rfl
theorem mv_2 (M : AM) (b : Nat) : mv M b 2 = M b 2 := rfl
theorem mv_33 (M : AM) (b : Nat) : mv M b 33 = M b 3 := rfl
theorem mv_34 (M : AM) (b : Nat) : mv M b 34 = M b 4 := rfl
theorem mv_3 (M : AM) (b : Nat) {h : Nat} (hh : h < 6) : mv M b (3 + h) = M (b + 1) h := by
  unfold mv
  rw [if_neg (by omega), if_neg (by omega), if_neg (by omega), if_pos (by omega)]
  exact congrArg (M (b + 1)) (by omega)
theorem mv_9 (M : AM) (b : Nat) {h : Nat} (hh : h < 6) : mv M b (9 + h) = M (b + 2) h := by
  unfold mv
  rw [if_neg (by omega), if_neg (by omega), if_neg (by omega), if_neg (by omega), if_pos (by omega)]
  exact congrArg (M (b + 2)) (by omega)
theorem mv_15 (M : AM) (b : Nat) {h : Nat} (hh : h < 6) : mv M b (15 + h) = M (b + 3) h := by
  unfold mv
  rw [if_neg (by omega), if_neg (by omega), if_neg (by omega), if_neg (by omega), if_neg (by omega), if_pos (by omega)]
  exact congrArg (M (b + 3)) (by omega)
theorem mv_21 (M : AM) (b : Nat) {h : Nat} (hh : h < 6) : mv M b (21 + h) = M (b + 4) h := by
  unfold mv
  rw [if_neg (by omega), if_neg (by omega), if_neg (by omega), if_neg (by omega), if_neg (by omega), if_neg (by omega), if_pos (by omega)]
  exact congrArg (M (b + 4)) (by omega)
theorem mv_27 (M : AM) (b : Nat) {h : Nat} (hh : h < 6) : mv M b (27 + h) = M (b + 5) h := by
  unfold mv
  rw [if_neg (by omega), if_neg (by omega), if_neg (by omega), if_neg (by omega), if_neg (by omega), if_neg (by omega), if_neg (by omega), if_pos (by omega)]
  exact congrArg (M (b + 5)) (by omega)
/-- the vectors, place by place -/
theorem vec_all {Mm Mx : AM} (h : RVec Mm Mx 0 9) : Mx 9 0 = Mm 13 0 ∧ Mx 9 1 = Mm 13 1 ∧ Mx 9 2 = Mm 13 2 ∧ Mx 9 3 = Mm 13 33 ∧ Mx 9 4 = Mm 13 34 ∧ (∀ j, j < 6 → Mx 10 j = Mm 13 (3 + j)) ∧ (∀ j, j < 6 → Mx 11 j = Mm 13 (9 + j)) ∧ (∀ j, j < 6 → Mx 12 j = Mm 13 (15 + j)) ∧ (∀ j, j < 6 → Mx 13 j = Mm 13 (21 + j)) ∧ (∀ j, j < 6 → Mx 14 j = Mm 13 (27 + j)) := by
  have k : ∀ j, j < 35 → mv Mx 9 j = Mm 13 j := fun j hj => by rw [h j hj, Nat.zero_add]
  exact ⟨k 0 (by decide), k 1 (by decide), k 2 (by decide), k 33 (by decide), k 34 (by decide), fun j hj => by rw [← k _ (by omega), mv_3 _ _ hj], fun j hj => by rw [← k _ (by omega), mv_9 _ _ hj], fun j hj => by rw [← k _ (by omega), mv_15 _ _ hj], fun j hj => by rw [← k _ (by omega), mv_21 _ _ hj], fun j hj => by rw [← k _ (by omega), mv_27 _ _ hj]⟩
theorem ix_cases (x : Int32) {n : Nat} (hn : n ≤ 6) : ((x < 0 ∨ nI n ≤ x) ∧ ∀ j, j < n → x = nI j → False) ∨ ∃ j, j < n ∧ x = nI j ∧ ¬ (x < 0 ∨ nI n ≤ x) ∧ ∀ j', j' < n → x = nI j' → j' = j := by
  rcases fIn_ix x (n := n) (by omega) with ⟨-, g2⟩ | ⟨j, g1, rfl, -⟩
  · refine Or.inl ⟨g2, ?_⟩
    rintro j hj rfl
    rcases g2 with z | z
    · exact nI_pos (n := j) (by omega) z
    · exact nI_ge hj (by omega) z
  · refine Or.inr ⟨j, g1, rfl, ?_, fun j' hj' e => ((nI_eq (by omega) (by omega)).mp e).symm⟩
    rintro (z | z)
    · exact nI_pos (by omega) z
    · exact nI_ge g1 (by omega) z
section ST
variable {c rot : Nat} {Mm : AM} {Lm : AL} {Mx : AM} {Lx : AL}
theorem st_hand (hR : Rel c rot Mm Lm Mx Lx) (h w : Int32) : Step E8_hand E7_hand [.int h, .int w] c rot Mm Lm Mx Lx := by
  obtain ⟨n, ns, np, ⟨⟨n6, n5, p5⟩, ⟨hn, hn'⟩, -, -, -, t3, t4, t5, t6, -⟩, hL, -⟩ := id hR
  obtain ⟨v0, v1, v2, v3, v4, w3, w9, w15, w21, w27⟩ := vec_all hL.1
  rcases ix_cases h n6 with ⟨g, bad⟩ | ⟨j, hj, rfl, bad, uq⟩
  · exact step_read hR (.int (-1)) (fun Q hQ => cm_hand hn n6 (fun _ => hQ) (fun j hj e => (bad j hj e).elim)) (fun Q hQ => cx_hand hn' n6 (fun _ => hQ) (fun j hj e => (bad j hj e).elim))
  · have hj6 : j < 6 := by omega
    have e : gHand Mx j w = fHand Mm j w := by
      obtain ⟨r1, s1, u1, z1, z2⟩ := t3 j hj
      obtain ⟨r2, s2, y1, y2⟩ := t4 j hj
      obtain ⟨r3, s3, x1, x2⟩ := t5 j hj
      obtain ⟨r4, s4, u4, q1, q2⟩ := t6 j hj
      unfold gHand fHand
      rw [z1, z2, y1, y2, x1, x2, q1, q2, v0, w3 j hj6, w9 j hj6, w15 j hj6, w21 j hj6, w27 j hj6]
    refine step_read hR (.int (fHand Mm j w)) (fun Q hQ => cm_hand hn n6 (fun z => absurd z bad) (fun j' hj' e' => ?_)) (fun Q hQ => cx_hand hn' n6 (fun z => absurd z bad) (fun j' hj' e' => ?_))
    · cases uq j' hj' e'; exact hQ
    · cases uq j' hj' e'; rw [e]; exact hQ
theorem st_count (hR : Rel c rot Mm Lm Mx Lx) (w : Int32) : Step E8_count E7_count [.int w] c rot Mm Lm Mx Lx := by
  obtain ⟨n, ns, np, ⟨⟨n6, n5, p5⟩, ⟨hn, hn'⟩, ⟨hs, hs'⟩, ⟨hp, hp'⟩, ⟨wd, wq, w1, w2⟩, -⟩, ⟨-, -, kn, kq, k2, k3, -⟩, -, ⟨t, tq, x1, x2, -⟩, ⟨s, sq, s1, s2, -⟩, -⟩ := id hR
  have e : gCount Mx w = fCount Mm w := by
    have k2' : Mm 13 35 = nI kn := by simpa using k2
    unfold gCount fCount
    rw [hn, hn', hs, hs', hp, hp', w1, w2, x1, x2, s1, s2, k2', k3]
  exact step_read hR (.int (fCount Mm w)) (fun Q hQ => cm_count hQ) (fun Q hQ => cx_count (by rw [e]; exact hQ))
theorem st_trace (hR : Rel c rot Mm Lm Mx Lx) : StepL E8_trace E7_trace [] c rot Mm Lm Mx Lx := by
  obtain ⟨n, ns, np, -, -, -, -, -, e⟩ := id hR
  exact ⟨Lm 0 0, Mm, Lm, fun Q hQ => cm_trace hQ, fun Q hQ => cx_trace (by rw [← e]; exact hQ rot Mx Lx hR.next)⟩
theorem st_piece (hR : Rel c rot Mm Lm Mx Lx) (p : Int32) : Step E8_piece E7_piece [.int p] c rot Mm Lm Mx Lx := by
  obtain ⟨n, ns, np, ⟨⟨n6, n5, p5⟩, -, -, ⟨hp, hp'⟩, -, -, -, -, -, -, -, t⟩, -⟩ := id hR
  rcases ix_cases p (n := np) (by omega) with ⟨g, bad⟩ | ⟨j, hj, rfl, bad, uq⟩
  · exact step_read hR (.int (-1)) (fun Q hQ => cm_piece hp p5 (fun _ => hQ) (fun j hj e => (bad j hj e).elim)) (fun Q hQ => cx_piece hp' p5 (fun _ => hQ) (fun j hj e => (bad j hj e).elim))
  · obtain ⟨v, v1, v2, e1, e2⟩ := t j hj
    refine step_read hR (.int (nI v)) (fun Q hQ => cm_piece hp p5 (fun z => absurd z bad) (fun j' hj' e' => ?_)) (fun Q hQ => cx_piece hp' p5 (fun z => absurd z bad) (fun j' hj' e' => ?_))
    · cases uq j' hj' e'; rw [e1]; exact hQ
    · cases uq j' hj' e'; rw [e2]; exact hQ
/-- a set of small numbers, by its bits -/
theorem fAb_nI : ∀ a, a < 64 → ∀ j, j < 6 → fAb (nI a) (nI j) = if a.testBit j then 1 else 0 := by decide +kernel
theorem st_ship (hR : Rel c rot Mm Lm Mx Lx) (s w : Int32) : Step E8_ship E7_ship [.int s, .int w] c rot Mm Lm Mx Lx := by
  obtain ⟨n, ns, np, ⟨⟨n6, n5, p5⟩, -, ⟨hs, hs'⟩, -, -, -, -, -, -, t8, t9, -⟩, hL, -⟩ := id hR
  obtain ⟨v0, v1, v2, v3, v4, w3, w9, w15, w21, w27⟩ := vec_all hL.1
  have hw : (w = 0 ∨ w = 1 ∨ w = 2) ∨ (¬ w = 0 ∧ ¬ w = 1 ∧ ¬ w = 2) := by
    by_cases a : w = 0
    · exact Or.inl (Or.inl a)
    · by_cases b : w = 1
      · exact Or.inl (Or.inr (Or.inl b))
      · by_cases d : w = 2
        · exact Or.inl (Or.inr (Or.inr d))
        · exact Or.inr ⟨a, b, d⟩
  have nw : (w = 0 ∨ w = 1 ∨ w = 2) → ¬ (¬ w = 0 ∧ ¬ w = 1 ∧ ¬ w = 2) := by
    rintro (z | z | z) ⟨a, b, d⟩
    · exact a z
    · exact b z
    · exact d z
  rcases ix_cases s (n := ns) (by omega) with ⟨g, bad⟩ | ⟨j, hj, rfl, bad, uq⟩
  · exact step_read hR (.int (-1)) (fun Q hQ => cm_ship hs n5 (fun _ => hQ) (fun j hj e => (bad j hj e).elim)) (fun Q hQ => cx_ship hs' n5 (fun _ => hQ) (fun j hj e => (bad j hj e).elim))
  rcases hw with hw | hw
  · obtain ⟨g1, q1, e1, e2⟩ := t8 j hj
    obtain ⟨g2, q2, e3, e4⟩ := t9 j hj
    have hv : (if w = 0 then Mx 6 j else if w = 1 then Mx 7 j else if fAb (Mx 9 3) (nI j) = 0 then (0 : Int32) else if fAb (Mx 9 4) (nI j) = 0 then 2 else 1) = (if w = 0 then Mm 8 j else if w = 1 then Mm 9 j else if Mm 13 34 >>> (nI j &&& 31) &&& 1 = 1 then 1 else if Mm 13 33 >>> (nI j &&& 31) &&& 1 = 1 then 2 else 0) := by
      rw [e1, e2, e3, e4, v3, v4]
      obtain ⟨-, ⟨mt, tk, m1, m2, m3, m4⟩, -⟩ := hL.2.1
      have m2 : Mm 13 33 = nI mt := by simpa using m2
      have m3 : Mm 13 34 = nI tk := by simpa using m3
      have h5 : 2 ^ ns ≤ 32 := Nat.pow_le_pow_right (by decide) n5
      have htk : tk ≤ mt := by rw [← m4]; exact Nat.and_le_right
      have key : ∀ x : Int32, fAb x (nI j) = if x >>> (nI j &&& 31) &&& 1 = 1 then 1 else 0 := fun _ => rfl
      have b1 := fAb_nI mt (by omega) j (by omega)
      have b2 := fAb_nI tk (by omega) j (by omega)
      have hsub : tk.testBit j = true → mt.testBit j = true := by
        intro h
        rw [← m4, Nat.testBit_and] at h
        simp only [Bool.and_eq_true] at h
        exact h.2
      rw [m2, m3]
      split
      · rfl
      · split
        · rfl
        · rw [b1, b2]
          have c1 := b1
          have c2 := b2
          rw [key] at c1 c2
          cases h1 : mt.testBit j <;> cases h2 : tk.testBit j
          · rw [h1] at c1; rw [h2] at c2
            have d1 : ¬ nI mt >>> (nI j &&& 31) &&& 1 = 1 := fun z => by rw [if_pos z] at c1; exact absurd c1 (by decide)
            have d2 : ¬ nI tk >>> (nI j &&& 31) &&& 1 = 1 := fun z => by rw [if_pos z] at c2; exact absurd c2 (by decide)
            rw [if_neg d1, if_neg d2]; rfl
          · exact absurd (hsub h2) (by rw [h1]; decide)
          · rw [h1] at c1; rw [h2] at c2
            have d1 : nI mt >>> (nI j &&& 31) &&& 1 = 1 := Classical.byContradiction fun z => by rw [if_neg z] at c1; exact absurd c1 (by decide)
            have d2 : ¬ nI tk >>> (nI j &&& 31) &&& 1 = 1 := fun z => by rw [if_pos z] at c2; exact absurd c2 (by decide)
            rw [if_pos d1, if_neg d2]; rfl
          · rw [h1] at c1; rw [h2] at c2
            have d2 : nI tk >>> (nI j &&& 31) &&& 1 = 1 := Classical.byContradiction fun z => by rw [if_neg z] at c2; exact absurd c2 (by decide)
            rw [if_pos d2]; rfl
    refine step_read hR (.int (if w = 0 then Mm 8 j else if w = 1 then Mm 9 j else if Mm 13 34 >>> (nI j &&& 31) &&& 1 = 1 then 1 else if Mm 13 33 >>> (nI j &&& 31) &&& 1 = 1 then 2 else 0)) (fun Q hQ => cm_ship hs n5 (fun z => z.elim (fun z => absurd z bad) (fun z => absurd z (nw hw))) (fun j' hj' e' _ => ?_)) (fun Q hQ => cx_ship hs' n5 (fun z => z.elim (fun z => absurd z bad) (fun z => absurd z (nw hw))) (fun j' hj' e' _ => ?_))
    · cases uq j' hj' e'; exact hQ
    · cases uq j' hj' e'; rw [hv]; exact hQ
  · exact step_read hR (.int (-1)) (fun Q hQ => cm_ship hs n5 (fun _ => hQ) (fun j hj e z => absurd hw (nw z))) (fun Q hQ => cx_ship hs' n5 (fun _ => hQ) (fun j hj e z => absurd hw (nw z)))
theorem keenUp_congr {z : Int32} {f g f' g' : Nat → Int32} : ∀ k, (∀ i, i < k → f i = f' i ∧ g i = g' i) → keenUp z f g k = keenUp z f' g' k
  | 0, _ => rfl
  | k + 1, h => by
    unfold keenUp
    rw [keenUp_congr k (fun i hi => h i (by omega)), (h k (by omega)).1, (h k (by omega)).2]
theorem st_keen (hR : Rel c rot Mm Lm Mx Lx) : Step E8_keen E7_keen [] c rot Mm Lm Mx Lx := by
  obtain ⟨n, ns, np, ⟨⟨n6, n5, p5⟩, ⟨hn, hn'⟩, -⟩, -, -, -, ⟨k, k6, s1, s2, s3⟩, -⟩ := id hR
  refine step_read hR (.int (keenUp ((1 : Int32) <<< (Mm 2 0 &&& 31) - 1) (Mm 19) (Mm 20) k)) (fun Q hQ => cm_keen s1 k6 hQ) (fun Q hQ => cx_keen s2 k6 ?_)
  rw [← keenUp_congr k s3, hn', ← hn]
  exact hQ
end ST
