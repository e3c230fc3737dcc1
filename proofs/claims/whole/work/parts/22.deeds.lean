/-! ===== deeds, side by side: what they leave ===== -/
theorem mv_um_f (M : AM) (b j : Nat) (v : Int32) (hj : j < 5) {k : Nat} (hk : k < 35) : mv (um M b j v) b k = upd (mv M b) (if j = 3 then 33 else if j = 4 then 34 else j) v k := by
  have e1 : ∀ a h, 1 ≤ a → um M b j v (b + a) h = M (b + a) h := fun a h ha => by rw [um_ne _ _ _ (by omega)]
  have e0 : ∀ i, um M b j v b i = if i = j then v else M b i := fun i => by
    rw [um_app]
    by_cases z : i = j
    · rw [if_pos ⟨rfl, z⟩, if_pos z]
    · rw [if_neg (fun y => z y.2), if_neg z]
  unfold mv
  rw [e1 1 _ (by decide), e1 2 _ (by decide), e1 3 _ (by decide), e1 4 _ (by decide), e1 5 _ (by decide), e0, e0, e0, e0, e0]
  unfold upd
  rcases (by omega : j = 0 ∨ j = 1 ∨ j = 2 ∨ j = 3 ∨ j = 4) with rfl | rfl | rfl | rfl | rfl
  · by_cases z : k = 0
    · subst z; rfl
    · simp [z]
  · by_cases z : k = 1
    · subst z; rfl
    · simp [z]
  · by_cases z : k = 2
    · subst z; rfl
    · simp [z]
  · by_cases z : k = 33
    · subst z; rfl
    · simp [z]
  · by_cases z : k = 34
    · subst z; rfl
    · have : k = 33 ∨ k < 33 := by omega
      rcases this with rfl | hlt
      · rfl
      · simp [z, hlt]
theorem mv_um_a (M : AM) (b a h : Nat) (v : Int32) (ha : 1 ≤ a ∧ a ≤ 5) (hh : h < 6) {k : Nat} (hk : k < 35) : mv (um M (b + a) h v) b k = upd (mv M b) (6 * a - 3 + h) v k := by
  have e0 : ∀ i, um M (b + a) h v b i = M b i := fun i => by rw [um_ne _ _ _ (by omega)]
  have e1 : ∀ a' i, um M (b + a) h v (b + a') i = if a' = a ∧ i = h then v else M (b + a') i := fun a' i => by
    rw [um_app]
    by_cases z : a' = a ∧ i = h
    · rw [if_pos ⟨by omega, z.2⟩, if_pos z]
    · rw [if_neg (fun y => z ⟨by omega, y.2⟩), if_neg z]
  unfold mv upd
  rw [e0, e0, e0, e0, e0, e1, e1, e1, e1, e1]
  by_cases hz : k = 6 * a - 3 + h
  · subst hz
    rw [if_pos rfl, if_neg (by omega), if_neg (by omega), if_neg (by omega)]
    rcases (by omega : a = 1 ∨ a = 2 ∨ a = 3 ∨ a = 4 ∨ a = 5) with rfl | rfl | rfl | rfl | rfl
    · rw [if_pos (by omega), if_pos (by omega)]
    · rw [if_neg (by omega), if_pos (by omega), if_pos (by omega)]
    · rw [if_neg (by omega), if_neg (by omega), if_pos (by omega), if_pos (by omega)]
    · rw [if_neg (by omega), if_neg (by omega), if_neg (by omega), if_pos (by omega), if_pos (by omega)]
    · rw [if_neg (by omega), if_neg (by omega), if_neg (by omega), if_neg (by omega), if_pos (by omega), if_pos (by omega)]
  · rw [if_neg hz]
    by_cases g3 : k < 3
    · rcases (by omega : k = 0 ∨ k = 1 ∨ k = 2) with rfl | rfl | rfl <;> rfl
    have k0 : ¬ k = 0 := by omega
    have k1 : ¬ k = 1 := by omega
    have k2 : ¬ k = 2 := by omega
    dsimp only
    rw [if_neg k0, if_neg k1, if_neg k2, if_neg k0, if_neg k1, if_neg k2]
    by_cases g9 : k < 9
    · rw [if_pos g9, if_pos g9, if_neg (by omega)]
    rw [if_neg g9, if_neg g9]
    by_cases g15 : k < 15
    · rw [if_pos g15, if_pos g15, if_neg (by omega)]
    rw [if_neg g15, if_neg g15]
    by_cases g21 : k < 21
    · rw [if_pos g21, if_pos g21, if_neg (by omega)]
    rw [if_neg g21, if_neg g21]
    by_cases g27 : k < 27
    · rw [if_pos g27, if_pos g27, if_neg (by omega)]
    rw [if_neg g27, if_neg g27]
    by_cases g33 : k < 33
    · rw [if_pos g33, if_pos g33, if_neg (by omega)]
    rw [if_neg g33, if_neg g33]
theorem upd_congr {f g : Nat → Int32} {j k : Nat} {v w : Int32} (h : f k = g k) (hv : v = w) : upd f j v k = upd g j w k := by
  unfold upd; rw [h, hv]
theorem mk_deed {n ns np c rot' : Nat} {Mm Mx Mm' Mx' : AM} {Lm Lx : AL} (hT : RT n ns np Mm Mx) (hI : ∀ im, im < 2 → RI n ns c Mm Mx im) (hX : RX Mm Mx) (hS : RS n Mm Mx) (hl : Lm 0 0 = Lx 0 11) (hmo : ∀ l, l ≠ 13 → Mm' l = Mm l) (hm13 : ∀ j, 386 ≤ j → Mm' 13 j = Mm 13 j) (hxo : ∀ l, l < 9 ∨ (15 < l ∧ l < 39) ∨ 99 ≤ l → Mx' l = Mx l) (hLG : LG n ns (c + 1) Mm' Mx' 0 9 15 (pl rot')) : Rel (c + 1) rot' Mm' Lm Mx' Lx := by
  refine ⟨n, ns, np, hT.keep (fun l h1 h2 => hmo l (by omega)) (fun l h1 h2 => hxo l (by omega)), hLG, fun im hi => ((hI im hi).mono (by omega)).keep hi (fun k hk => hm13 _ (by omega)) (by rw [hmo 14 (by decide)]) (fun l h1 h2 => hxo l (by omega)), ?_, ?_, hl⟩
  · unfold RX at hX ⊢
    rw [hmo 0 (by decide), hmo 1 (by decide), hxo 17 (by omega), hxo 18 (by omega)]
    exact hX
  · unfold RS at hS ⊢
    rw [hmo 0 (by decide), hmo 19 (by decide), hmo 20 (by decide), hxo 0 (by omega), hxo 29 (by omega), hxo 30 (by omega)]
    exact hS
/-- the likes, by their bits -/
theorem likes_of {n ns np : Nat} {Mm Mx : AM} (hT : RT n ns np Mm Mx) : ∃ b : Nat → Nat, (∀ i, i < n → Mm 6 i = nI (b i) ∧ b i < 64) ∧ (∀ i, i < n → Mx 5 i = Mm 6 i) ∧ (∀ i, i < n → (b i).testBit i = false) ∧ ∀ i, i < n → b i < 2 ^ n := by
  obtain ⟨⟨n6, -, -⟩, -, -, -, -, -, -, -, t6, -⟩ := hT
  have hp := pow_le6 n6
  refine ⟨fun i => if h : i < n then Classical.choose (t6 i h) else 0, fun i hi => ?_, fun i hi => ?_, fun i hi => ?_, fun i hi => ?_⟩
  · have := Classical.choose_spec (t6 i hi)
    dsimp only
    rw [dif_pos hi]
    exact ⟨this.2.2.1, by omega⟩
  · have := Classical.choose_spec (t6 i hi)
    exact this.2.2.2.trans this.2.2.1.symm
  · have := Classical.choose_spec (t6 i hi)
    dsimp only
    rw [dif_pos hi]
    exact this.2.1
  · have := Classical.choose_spec (t6 i hi)
    dsimp only
    rw [dif_pos hi]
    exact this.1
theorem lkUp_congr {f g : Nat → Int32} {h : Nat} : ∀ n, (∀ i, i < n → f i = g i) → lkUp f h n = lkUp g h n
  | 0, _ => rfl
  | n + 1, H => by
    unfold lkUp
    rw [lkUp_congr n (fun i hi => H i (by omega)), H n (by omega)]
theorem gLack_congr {a : Int32} {f g : Nat → Int32} {n h : Nat} (H : ∀ i, i < n → f i = g i) : gLack a f n h = gLack a g n h := by
  unfold gLack; rw [lkUp_congr n H]
theorem griv_congr {a : Int32} {f g : Nat → Int32} {n : Nat} (H : ∀ i, i < n → f i = g i) : ∀ i, grivUp a f n i = grivUp a g n i
  | 0 => rfl
  | i + 1 => by
    unfold grivUp
    rw [griv_congr H i, gLack_congr H]
theorem sumTo_ext {f g : Nat → Int32} {n : Nat} (h1 : ∀ h, h < n → f h = g h) : ∀ m, n ≤ m → (∀ h, n ≤ h → h < m → f h = 0) → sumTo f m = sumTo g n := by
  have base : ∀ k, k ≤ n → sumTo f k = sumTo g k := by
    intro k
    induction k with
    | zero => intro _; rfl
    | succ k ih => intro hk; unfold sumTo; rw [ih (by omega), h1 k (by omega)]
  intro m hm
  induction m with
  | zero => intro _; rw [show n = 0 by omega]; rfl
  | succ m ih =>
    intro h2
    by_cases hmn : n = m + 1
    · rw [hmn]; rw [← hmn]; exact base n (Nat.le_refl n)
    · show sumTo f m + f m = sumTo g n
      rw [ih (by omega) (fun h a b => h2 h a (by omega)), h2 m (by omega) (by omega), Int32.add_zero]
theorem fAb_out {a n h : Nat} (ha : a < 2 ^ n) (hn : n ≤ 6) (h1 : n ≤ h) (h2 : h < 6) : fAb (nI a) (nI h) = 0 := by
  have hp := pow_le6 hn
  rw [fAb_nI a (by omega) h h2, Nat.testBit_lt_two_pow (Nat.lt_of_lt_of_le ha (Nat.pow_le_pow_right (by decide) h1))]
  rfl
theorem zbit : ∀ h, h < 6 → (0 : Int32) >>> (nI h &&& 31) &&& 1 = 0 := by decide +kernel
section SD2
variable {c rot : Nat} {Mm : AM} {Lm : AL} {Mx : AM} {Lx : AL}
theorem parts_eq {n ns np : Nat} (hT : RT n ns np Mm Mx) (hL : LG n ns c Mm Mx 0 9 15 (pl rot)) : sumTo (fPart (Mx 9 0) (Mx 9 1) (Mx 2)) 6 = sumTo (fPart (Mm 13 0) (Mm 13 1) (Mm 3)) n := by
  obtain ⟨⟨n6, -, -⟩, -, -, -, -, t3, -⟩ := hT
  obtain ⟨v0, v1, -⟩ := vec_all hL.1
  obtain ⟨⟨a, a1, a2⟩, -⟩ := hL.2.1
  have a2 : Mm 13 0 = nI a := by simpa using a2
  refine sumTo_ext (fun h hh => ?_) 6 n6 (fun h h1 h2 => ?_)
  · obtain ⟨v, -, -, e1, e2⟩ := t3 h hh
    unfold fPart
    rw [v0, v1, e1, e2]
  · unfold fPart
    rw [v0, a2, fAb_out a1 n6 h1 h2, if_pos rfl]
theorem force_eq {n ns np : Nat} (hT : RT n ns np Mm Mx) (hL : LG n ns c Mm Mx 0 9 15 (pl rot)) : sumTo (fun h => if fAb (Mx 9 0) (nI h) = 0 then 0 else fStr (Mx 3 h - Mx 11 h)) 6 = sumTo (fForce (Mm 13 0) 0 (fun h => fStr (Mm 4 h - Mm 13 (9 + h)))) n := by
  obtain ⟨⟨n6, -, -⟩, -, -, -, -, -, t4, -⟩ := hT
  obtain ⟨v0, v1, -, -, -, -, w9, -⟩ := vec_all hL.1
  obtain ⟨⟨a, a1, a2⟩, -⟩ := hL.2.1
  have a2 : Mm 13 0 = nI a := by simpa using a2
  refine sumTo_ext (fun h hh => ?_) 6 n6 (fun h h1 h2 => ?_)
  · obtain ⟨v, -, e1, e2⟩ := t4 h hh
    unfold fForce
    dsimp only
    rw [v0, e1, e2, w9 h (by omega), if_pos (zbit h (by omega))]
  · rw [v0, a2, fAb_out a1 n6 h1 h2, if_pos rfl]
theorem st_now (hR : Rel c rot Mm Lm Mx Lx) (w : Int32) : Step E8_now E7_now [.int w] c rot Mm Lm Mx Lx := by
  obtain ⟨n, ns, np, hT, hL, -⟩ := id hR
  obtain ⟨⟨n6, n5, p5⟩, ⟨hn, hn'⟩, -⟩ := id hT
  obtain ⟨b, b1, b2, b3, b4⟩ := likes_of hT
  obtain ⟨v0, v1, v2, v3, v4, w3, w9, w15, w21, w27⟩ := vec_all hL.1
  obtain ⟨⟨a, a1, a2⟩, -⟩ := hL.2.1
  have a2 : Mm 13 0 = nI a := by simpa using a2
  have hp := pow_le6 n6
  have e : gNow Mx n w = fNow Mm n w := by
    have e6 : grivUp (Mx 9 0) (Mx 5) n n = rivUp (Mm 13 0) (Mm 6) n n := by
      rw [v0, a2, griv_congr b2 n, riv_eq n6 (by omega) b1 b3 n (Nat.le_refl n)]
    unfold gNow fNow
    rw [parts_eq hT hL, force_eq hT hL, e6, v0, v1, v2, v3]
  exact step_read hR (.int (fNow Mm n w)) (fun Q hQ => cm_now hn n6 hQ) (fun Q hQ => cx_now hn' n6 (by rw [e]; exact hQ))
theorem st_won (hR : Rel c rot Mm Lm Mx Lx) (h : Int32) : Step E8_won E7_won [.int h] c rot Mm Lm Mx Lx := by
  obtain ⟨n, ns, np, hT, hL, -⟩ := id hR
  obtain ⟨⟨n6, n5, p5⟩, ⟨hn, hn'⟩, -⟩ := id hT
  obtain ⟨b, b1, b2, b3, b4⟩ := likes_of hT
  obtain ⟨v0, -⟩ := vec_all hL.1
  obtain ⟨⟨a, a1, a2⟩, -⟩ := hL.2.1
  have a2 : Mm 13 0 = nI a := by simpa using a2
  have hp := pow_le6 n6
  rcases ix_cases h n6 with ⟨g, bad⟩ | ⟨j, hj, rfl, bad, uq⟩
  · exact step_read hR (.int (-1)) (fun Q hQ => cm_won hn n6 (fun _ => hQ) (fun j hj e => (bad j hj e).elim) (fun j hj e => (bad j hj e).elim)) (fun Q hQ => cx_won hn' n6 (fun _ => hQ) (fun j hj e => (bad j hj e).elim) (fun j hj e => (bad j hj e).elim))
  by_cases z : fAb (Mm 13 0) (nI j) = 0
  · refine step_read hR (.int (-9)) (fun Q hQ => cm_won hn n6 (fun y => absurd y bad) (fun j' hj' e' _ => hQ) (fun j' hj' e' y => ?_)) (fun Q hQ => cx_won hn' n6 (fun y => absurd y bad) (fun j' hj' e' _ => hQ) (fun j' hj' e' y => ?_))
    · cases uq j' hj' e'; exact absurd z y
    · cases uq j' hj' e'; rw [v0] at y; exact absurd z y
  · have e : gLack (Mx 9 0) (Mx 5) n j = fStr (manyUp (Mm 13 0) 6 / 2 + 1 - voUp (Mm 13 0) (Mm 6) j n) := by
      rw [v0, gLack_congr b2, a2, (lack_eq n6 hj (by omega) b1 (fun h => b3 j h)).1]
    refine step_read hR (.int (fStr (manyUp (Mm 13 0) 6 / 2 + 1 - voUp (Mm 13 0) (Mm 6) j n))) (fun Q hQ => cm_won hn n6 (fun y => absurd y bad) (fun j' hj' e' y => ?_) (fun j' hj' e' y => ?_)) (fun Q hQ => cx_won hn' n6 (fun y => absurd y bad) (fun j' hj' e' y => ?_) (fun j' hj' e' y => ?_))
    · cases uq j' hj' e'; exact absurd y z
    · cases uq j' hj' e'; exact hQ
    · cases uq j' hj' e'; rw [v0] at y; exact absurd y z
    · cases uq j' hj' e'; rw [e]; exact hQ
theorem st_band (hR : Rel c rot Mm Lm Mx Lx) (h : Int32) : Step E8_band E7_band [.int h] c rot Mm Lm Mx Lx := by
  obtain ⟨n, ns, np, hT, hL, -⟩ := id hR
  obtain ⟨⟨n6, n5, p5⟩, ⟨hn, hn'⟩, -⟩ := id hT
  obtain ⟨b, b1, b2, b3, b4⟩ := likes_of hT
  obtain ⟨v0, -⟩ := vec_all hL.1
  obtain ⟨⟨a, a1, a2⟩, -⟩ := hL.2.1
  have a2 : Mm 13 0 = nI a := by simpa using a2
  have hp := pow_le6 n6
  rcases ix_cases h n6 with ⟨g, bad⟩ | ⟨j, hj, rfl, bad, uq⟩
  · exact step_read hR (.int (-1)) (fun Q hQ => cm_band hn n6 (fun _ => hQ) (fun j hj e => (bad j hj e).elim)) (fun Q hQ => cx_band hn' n6 (fun _ => hQ) (fun j hj e => (bad j hj e).elim))
  have hl := lkN_lt b j n
  have e : Mx 5 j &&& lkUp (Mx 5) j n &&& Mx 9 0 = bandUp (Mm 13 0) (Mm 6) j n := by
    obtain ⟨e1, e2⟩ := b1 j hj
    have hlt : b j &&& lkN b j n < 64 := Nat.lt_of_le_of_lt Nat.and_le_left e2
    rw [v0, lkUp_congr n b2, b2 j hj, a2, band_eq n6 hj (by omega) b1 n (Nat.le_refl n), lk_nI (b := b) (n := n) (by omega) b1 n (Nat.le_refl n) n6, e1, and_nI _ e2 _ (by omega), and_nI _ hlt _ (by omega)]
    congr 1
    rw [Nat.and_comm (b j), Nat.and_assoc]
  refine step_read hR (.int (bandUp (Mm 13 0) (Mm 6) j n)) (fun Q hQ => cm_band hn n6 (fun y => absurd y bad) (fun j' hj' e' => ?_)) (fun Q hQ => cx_band hn' n6 (fun y => absurd y bad) (fun j' hj' e' => ?_))
  · cases uq j' hj' e'; exact hQ
  · cases uq j' hj' e'; rw [e]; exact hQ
end SD2
