/-! ===== text, sights, marks, side by side ===== -/
theorem byte_nI : ∀ b, b < 256 → vp_nar .byte (nI b).toInt8.toInt32 &&& 255 = nI b := by decide +kernel
theorem fIn_255 {q : Int32} (hf : ¬ fIn q 0 255 = 0) : ∃ qn : Nat, qn < 256 ∧ q = nI qn := by
  rcases pk_ix q (n := 256) (by decide) with z | z | ⟨j, hj, rfl⟩
  · exact absurd (by unfold fIn; rw [if_pos z]) hf
  · refine absurd ?_ hf
    unfold fIn
    by_cases y : q < 0
    · rw [if_pos y]
    · rw [if_neg y, if_pos (Int32.lt_of_lt_of_le (show (255 : Int32) < nI 256 by decide) z)]
  · exact ⟨j, hj, rfl⟩
theorem and1 (x : Int32) : x &&& 1 = 0 ∨ x &&& 1 = 1 := by
  obtain ⟨j, hj, e⟩ := pk_andE x (m := 1) 1 (by decide)
  rw [e]
  rcases (by omega : j = 0 ∨ j = 1) with rfl | rfl
  · exact Or.inl rfl
  · exact Or.inr rfl
theorem fAb_zero (s h : Int32) : fAb s h = 0 ↔ s >>> (h &&& 31) &&& 1 = 0 := by
  unfold fAb
  rcases and1 (s >>> (h &&& 31)) with z | z
  · rw [z]; decide
  · rw [z]; decide
theorem pow_nI : ∀ n, n ≤ 6 → (1 : Int32) <<< (nI n &&& 31) = nI (2 ^ n) ∧ (1 : Int32) <<< (nI n &&& 31) - 1 = nI (2 ^ n - 1) := by decide +kernel
theorem fIn_set {s : Int32} {n : Nat} (hn : n ≤ 6) : fIn s 1 ((1 : Int32) <<< (nI n &&& 31) - 1) = 0 ↔ (s < 1 ∨ (1 : Int32) <<< (nI n &&& 31) ≤ s) := by
  obtain ⟨e1, e2⟩ := pow_nI n hn
  have hp := pow_le6 hn
  have h0 : 0 < 2 ^ n := Nat.two_pow_pos n
  rw [e2, e1]
  have key : nI (2 ^ n - 1) < s ↔ nI (2 ^ n) ≤ s := by
    rw [Int32.lt_iff_toInt_lt, Int32.le_iff_toInt_le, nI_toInt (by omega), nI_toInt (by omega)]
    omega
  unfold fIn
  by_cases y : s < 1
  · rw [if_pos y]
    exact ⟨fun _ => Or.inl y, fun _ => rfl⟩
  · rw [if_neg y]
    by_cases y2 : nI (2 ^ n - 1) < s
    · rw [if_pos y2]
      exact ⟨fun _ => Or.inr (key.mp y2), fun _ => rfl⟩
    · rw [if_neg y2]
      exact ⟨fun z => absurd z (by decide), fun z => z.elim (fun z => absurd z y) (fun z => absurd (key.mpr z) y2)⟩
/-- only text, sights and longs change -/
theorem mk_small {n ns np c rot : Nat} {Mm Mx Mm' Mx' : AM} {Lm' Lx' : AL} (hT : RT n ns np Mm Mx) (hL : LG n ns c Mm Mx 0 9 15 (pl rot)) (hI : ∀ im, im < 2 → RI n ns c Mm Mx im) (hm : ∀ l, 2 ≤ l → l ≤ 18 → Mm' l = Mm l) (hx : ∀ l, (1 ≤ l ∧ l < 17) ∨ (31 ≤ l) → Mx' l = Mx l) (hX : RX Mm' Mx') (hS : RS n Mm' Mx') (hl : Lm' 0 0 = Lx' 0 11) : Rel (c + 1) rot Mm' Lm' Mx' Lx' := by
  refine ⟨n, ns, np, hT.keep (fun l h1 h2 => hm l (by omega) (by omega)) (fun l h1 h2 => hx l (by omega)), (hL.mono (by omega)).move (fun k hk => by rw [hm 13 (by decide) (by decide)]) (mv_congr (fun l h1 h2 => hx l (by omega))) (by rw [hx 15 (by omega)]) (fun i hi => mv_congr (fun l h1 h2 => hx l (by have := pl_range rot i; omega))), fun im hi => ((hI im hi).mono (by omega)).keep hi (fun k hk => by rw [hm 13 (by decide) (by decide)]) (by rw [hm 14 (by decide) (by decide)]) (fun l h1 h2 => hx l (by omega)), hX, hS, hl⟩
section SD5
variable {c rot : Nat} {Mm : AM} {Lm : AL} {Mx : AM} {Lx : AL}
theorem st_type (hR : Rel c rot Mm Lm Mx Lx) (q : Int32) : Step E8_type E7_type [.int q] c rot Mm Lm Mx Lx := by
  obtain ⟨n, ns, np, hT, hL, hI, ⟨t, t1, t2, t3, t4⟩, hS, hl⟩ := id hR
  by_cases hf : fIn q 0 255 = 0
  · exact step_read hR (.int (-1)) (fun Q hQ => cm_type t2 t1 (fun _ => hQ) (fun y => absurd hf y) (fun y => absurd hf y)) (fun Q hQ => cx_type t3 t1 (fun _ => hQ) (fun y => absurd hf y) (fun y => absurd hf y))
  by_cases h150 : t = 150
  · exact step_read hR (.int (-3)) (fun Q hQ => cm_type t2 t1 (fun y => absurd y hf) (fun _ _ => hQ) (fun _ y => absurd h150 (by omega))) (fun Q hQ => cx_type t3 t1 (fun y => absurd y hf) (fun _ _ => hQ) (fun _ y => absurd h150 (by omega)))
  obtain ⟨b, hb, rfl⟩ := fIn_255 hf
  refine ⟨.int (nI (t + 1)), um (um Mm 1 t (vp_nar .byte (nI b).toInt8.toInt32)) 0 2 (nI (t + 1)), Lm, fun Q hQ => cm_type t2 t1 (fun y => absurd y hf) (fun _ y => absurd y h150) (fun _ _ => ?_), fun Q hQ => cx_type t3 t1 (fun y => absurd y hf) (fun _ y => absurd y h150) (fun _ _ => ?_)⟩
  · rw [t2, nI_1]; exact hQ
  · rw [t3, nI_1]
    refine hQ rot _ Lx (mk_small hT hL hI (fun l h1 h2 => by rw [um_ne _ _ _ (by omega), um_ne _ _ _ (by omega)]) (fun l h => by rw [um_ne _ _ _ (by omega), um_ne _ _ _ (by omega)]) ⟨t + 1, by omega, um_same _ _ _ _, um_same _ _ _ _, fun j hj => ?_⟩ ?_ hl)
    · by_cases z : j = t
      · subst z
        refine ⟨b, hb, ?_, ?_⟩
        · rw [um_ne _ _ _ (by decide), um_same]
        · rw [um_ne _ _ _ (by decide), um_same]
          exact byte_nI b hb
      · obtain ⟨b', g1, g2, g3⟩ := t4 j (by omega)
        refine ⟨b', g1, ?_, ?_⟩
        · rw [um_ne _ _ _ (by decide), um_oth _ _ _ z]; exact g2
        · rw [um_ne _ _ _ (by decide), um_oth _ _ _ z]; exact g3
    · obtain ⟨k, k6, s1, s2, s3⟩ := hS
      refine ⟨k, k6, ?_, ?_, fun i hi => ?_⟩
      · rw [um_oth _ _ _ (by decide), um_ne _ _ _ (by decide)]; exact s1
      · rw [um_ne _ _ _ (by decide), um_ne _ _ _ (by decide)]; exact s2
      · rw [um_ne _ _ _ (by decide), um_ne _ _ _ (by decide), um_ne _ _ _ (by decide), um_ne _ _ _ (by decide), um_ne _ _ _ (by decide), um_ne _ _ _ (by decide), um_ne _ _ _ (by decide), um_ne _ _ _ (by decide)]
        exact s3 i hi
theorem st_clear (hR : Rel c rot Mm Lm Mx Lx) : Step E8_clear E7_clear [] c rot Mm Lm Mx Lx := by
  obtain ⟨n, ns, np, hT, hL, hI, ⟨t, t1, t2, t3, t4⟩, ⟨k, k6, s1, s2, s3⟩, hl⟩ := id hR
  refine ⟨.int (Mm 0 2), um Mm 0 2 0, Lm, fun Q hQ => cm_clear hQ, fun Q hQ => cx_clear ?_⟩
  rw [t3, ← t2]
  refine hQ rot _ Lx (mk_small hT hL hI (fun l h1 h2 => um_ne _ _ _ (by omega)) (fun l h => um_ne _ _ _ (by omega)) ⟨0, by omega, um_same _ _ _ _, um_same _ _ _ _, fun j hj => absurd hj (by omega)⟩ ⟨k, k6, ?_, ?_, fun i hi => ?_⟩ hl)
  · rw [um_oth _ _ _ (by decide)]; exact s1
  · rw [um_ne _ _ _ (by decide)]; exact s2
  · rw [um_ne _ _ _ (by decide), um_ne _ _ _ (by decide), um_ne _ _ _ (by decide), um_ne _ _ _ (by decide)]
    exact s3 i hi
theorem st_forget (hR : Rel c rot Mm Lm Mx Lx) : Step E8_forget E7_forget [] c rot Mm Lm Mx Lx := by
  obtain ⟨n, ns, np, hT, hL, hI, ⟨t, t1, t2, t3, t4⟩, ⟨k, k6, s1, s2, s3⟩, hl⟩ := id hR
  refine ⟨.int (Mm 0 29), um Mm 0 29 0, Lm, fun Q hQ => cm_forget hQ, fun Q hQ => cx_forget ?_⟩
  rw [s2, ← s1]
  refine hQ rot _ Lx (mk_small hT hL hI (fun l h1 h2 => um_ne _ _ _ (by omega)) (fun l h => um_ne _ _ _ (by omega)) ⟨t, t1, ?_, ?_, fun j hj => ?_⟩ ⟨0, by omega, um_same _ _ _ _, um_same _ _ _ _, fun i hi => absurd hi (by omega)⟩ hl)
  · rw [um_oth _ _ _ (by decide)]; exact t2
  · rw [um_ne _ _ _ (by decide)]; exact t3
  · rw [um_ne _ _ _ (by decide), um_ne _ _ _ (by decide)]
    exact t4 j hj
theorem st_saw (hR : Rel c rot Mm Lm Mx Lx) (s h : Int32) : Step E8_saw E7_saw [.int s, .int h] c rot Mm Lm Mx Lx := by
  obtain ⟨n, ns, np, hT, hL, hI, ⟨t, t1, t2, t3, t4⟩, ⟨k, k6, s1, s2, s3⟩, hl⟩ := id hR
  obtain ⟨⟨n6, n5, p5⟩, ⟨hn, hn'⟩, -⟩ := id hT
  have hset := fIn_set (s := s) n6
  by_cases hA : fIn s 1 ((1 : Int32) <<< (nI n &&& 31) - 1) = 0
  · exact step_read hR (.int (-1)) (fun Q hQ => cm_saw hn n6 s1 k6 (fun _ => hQ) (fun j hj e y => absurd hA y) (fun j hj e y => absurd hA y)) (fun Q hQ => cx_saw hn' n6 s2 k6 (fun _ => hQ) (fun j hj e y1 y2 => absurd (hset.mp hA) (fun z => z.elim y1 y2)) (fun j hj e y1 y2 => absurd (hset.mp hA) (fun z => z.elim y1 y2)))
  have hA' : ¬ (s < 1 ∨ (1 : Int32) <<< (nI n &&& 31) ≤ s) := fun z => hA (hset.mpr z)
  rcases ix_cases h n6 with ⟨g, bad⟩ | ⟨j, hj, rfl, bad, uq⟩
  · exact step_read hR (.int (-1)) (fun Q hQ => cm_saw hn n6 s1 k6 (fun _ => hQ) (fun j hj e => (bad j hj e).elim) (fun j hj e => (bad j hj e).elim)) (fun Q hQ => cx_saw hn' n6 s2 k6 (fun _ => hQ) (fun j hj e => (bad j hj e).elim) (fun j hj e => (bad j hj e).elim))
  have hB : fIsIn s (nI j) = 0 ↔ s >>> (nI j &&& 31) &&& 1 = 0 := by rw [fIsIn_nI (by omega), fAb_zero]
  by_cases hC : s >>> (nI j &&& 31) &&& 1 = 0
  · exact step_read hR (.int (-1)) (fun Q hQ => cm_saw hn n6 s1 k6 (fun _ => hQ) (fun j' hj' e y1 y2 => absurd hC y2) (fun j' hj' e y1 y2 => absurd hC y2)) (fun Q hQ => cx_saw hn' n6 s2 k6 (fun _ => hQ) (fun j' hj' e y1 y2 y3 => absurd (hB.mpr hC) y3) (fun j' hj' e y1 y2 y3 => absurd (hB.mpr hC) y3))
  have nb1 : ¬ (fIn s 1 ((1 : Int32) <<< (nI n &&& 31) - 1) = 0 ∨ (nI j < 0 ∨ nI n ≤ nI j) ∨ s >>> (nI j &&& 31) &&& 1 = 0) := fun z => z.elim hA (fun z => z.elim bad hC)
  have nb2 : ¬ (s < 1 ∨ (1 : Int32) <<< (nI n &&& 31) ≤ s ∨ (nI j < 0 ∨ nI n ≤ nI j) ∨ fIsIn s (nI j) = 0) := fun z => z.elim (fun z => hA' (Or.inl z)) (fun z => z.elim (fun z => hA' (Or.inr z)) (fun z => z.elim bad (fun z => hC (hB.mp z))))
  by_cases h6 : k = 6
  · exact step_read hR (.int (-3)) (fun Q hQ => cm_saw hn n6 s1 k6 (fun y => absurd y nb1) (fun _ _ _ _ _ _ => hQ) (fun _ _ _ _ _ y => absurd h6 (by omega))) (fun Q hQ => cx_saw hn' n6 s2 k6 (fun y => absurd y nb2) (fun _ _ _ _ _ _ _ => hQ) (fun _ _ _ _ _ _ y => absurd h6 (by omega)))
  refine ⟨.int (nI (k + 1)), um (um (um Mm 19 k s) 20 k (nI j)) 0 29 (nI (k + 1)), Lm, fun Q hQ => cm_saw hn n6 s1 k6 (fun y => absurd y nb1) (fun _ _ _ _ _ y => absurd y h6) (fun _ _ _ _ _ _ => ?_), fun Q hQ => cx_saw hn' n6 s2 k6 (fun y => absurd y nb2) (fun _ _ _ _ _ _ y => absurd y h6) (fun _ _ _ _ _ _ _ => ?_)⟩
  · rw [s1, nI_1]; exact hQ
  · rw [s2, nI_1]
    refine hQ rot _ Lx (mk_small hT hL hI (fun l h1 h2 => by rw [um_ne _ _ _ (by omega), um_ne _ _ _ (by omega), um_ne _ _ _ (by omega)]) (fun l h => by rw [um_ne _ _ _ (by omega), um_ne _ _ _ (by omega), um_ne _ _ _ (by omega)]) ⟨t, t1, ?_, ?_, fun j' hj' => ?_⟩ ⟨k + 1, by omega, um_same _ _ _ _, um_same _ _ _ _, fun i hi => ?_⟩ hl)
    · rw [um_oth _ _ _ (by decide), um_ne _ _ _ (by decide), um_ne _ _ _ (by decide)]; exact t2
    · rw [um_ne _ _ _ (by decide), um_ne _ _ _ (by decide), um_ne _ _ _ (by decide)]; exact t3
    · rw [um_ne _ _ _ (by decide), um_ne _ _ _ (by decide), um_ne _ _ _ (by decide), um_ne _ _ _ (by decide), um_ne _ _ _ (by decide), um_ne _ _ _ (by decide)]
      exact t4 j' hj'
    · rw [um_ne _ _ _ (show (19 : Nat) ≠ 0 by decide), um_ne _ _ _ (show (19 : Nat) ≠ 20 by decide), um_ne _ _ _ (show (29 : Nat) ≠ 0 by decide), um_ne _ _ _ (show (29 : Nat) ≠ 30 by decide), um_ne _ _ _ (show (20 : Nat) ≠ 0 by decide), um_ne _ _ _ (show (30 : Nat) ≠ 0 by decide)]
      by_cases z : i = k
      · subst z
        rw [um_same, um_same, um_same, um_same]
        exact ⟨rfl, rfl⟩
      · rw [um_oth _ _ _ z, um_oth _ _ _ z, um_oth _ _ _ z, um_oth _ _ _ z, um_ne _ _ _ (show (20 : Nat) ≠ 19 by decide), um_ne _ _ _ (show (30 : Nat) ≠ 29 by decide)]
        exact s3 i (by omega)
theorem st_mark (hR : Rel c rot Mm Lm Mx Lx) (kd h : Int32) : Step E8_mark E7_mark [.int kd, .int h] c rot Mm Lm Mx Lx := by
  obtain ⟨n, ns, np, hT, hL, hI, hX, hS, hl⟩ := id hR
  obtain ⟨⟨n6, n5, p5⟩, ⟨hn, hn'⟩, -, -, -, t3, t4, t5, -⟩ := id hT
  obtain ⟨v0, v1, v2, -, -, -, w9, -, -, w27⟩ := vec_all hL.1
  rcases ix_cases kd (n := 6) (by decide) with ⟨g, bad⟩ | ⟨i, hi, rfl, bad, uq⟩
  · exact step_read hR (.int (-1000000)) (fun Q hQ => cm_mark hn n6 (fun _ => hQ) (fun i j hi hj e => (bad i hi e).elim)) (fun Q hQ => cx_mark hn' n6 (fun _ => hQ) (fun i j hi hj e => (bad i hi e).elim))
  rcases ix_cases h n6 with ⟨g, bad'⟩ | ⟨j, hj, rfl, bad', uq'⟩
  · exact step_read hR (.int (-1000000)) (fun Q hQ => cm_mark hn n6 (fun _ => hQ) (fun i j hi hj e e' => (bad' j hj e').elim)) (fun Q hQ => cx_mark hn' n6 (fun _ => hQ) (fun i j hi hj e e' => (bad' j hj e').elim))
  refine ⟨.int (mkV Mm i j), Mm, ul Lm 0 0 (Lm 0 0 + mkL i), fun Q hQ => cm_mark hn n6 (fun y => absurd y (fun z => z.elim bad bad')) (fun i' j' hi' hj' e e' => ?_), fun Q hQ => cx_mark hn' n6 (fun y => absurd y (fun z => z.elim bad bad')) (fun i' j' hi' hj' e e' L' h1 h2 => ?_)⟩
  · cases uq i' hi' e; cases uq' j' hj' e'; exact hQ
  · cases uq i' hi' e; cases uq' j' hj' e'
    obtain ⟨r1, q1, u1, z1, z2⟩ := t3 j hj
    obtain ⟨r2, q2, y1, y2⟩ := t4 j hj
    obtain ⟨r3, q3, x1, x2⟩ := t5 j hj
    have ev : (if i = 0 then Mx 2 j else if i = 1 then Mx 2 j + Mx 3 j else if i = 2 then Mx 2 j - Mx 11 j else if i = 3 then (Mx 2 j + Mx 3 j) * 2 else if i = 4 then Mx 2 j - Mx 11 j + Mx 4 j else Mx 2 j + Mx 14 j) = mkV Mm i j := by
      unfold mkV
      rw [z1, z2, y1, y2, x1, x2, w9 j (by omega), w27 j (by omega), Int32.mul_comm]
    rw [ev]
    refine hQ rot Mx L' (mk_small hT hL hI (fun l _ _ => rfl) (fun l _ => rfl) hX hS ?_)
    rw [h2, ul_at, ← hl]
    rfl
end SD5
