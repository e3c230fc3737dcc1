/-! ===== articles, side by side: the step ===== -/
theorem pw_mid {k : Nat} (h : (9 ≤ k ∧ k ≤ 30) ∨ k = 0) : pw k = k := by unfold pw; rw [if_neg (by omega), if_neg (by omega)]
section SD13
variable {c rot : Nat} {Mm : AM} {Lm : AL} {Mx : AM} {Lx : AL}
theorem Rel.draft {Mm' Mx' : AM} (hR : Rel c rot Mm Lm Mx Lx) (hm : DFm Mm Mm') (hx : DFy Mx Mx') : Rel c rot Mm' Lm Mx' Lx := by
  obtain ⟨n, ns, np, hT, hL, hI, hX, hS, hl⟩ := hR
  have m13 : Mm' 13 = Mm 13 := funext fun j => hm 13 j (by unfold okD; omega)
  have m14 : Mm' 14 = Mm 14 := funext fun j => hm 14 j (by unfold okD; omega)
  have xl : ∀ l, l ≠ 17 → l < 31 ∨ 38 < l → Mx' l = Mx l := hx.1
  refine ⟨n, ns, np, ?_, hL.move (fun k hk => by rw [m13]) (mv_congr (fun l h1 h2 => xl l (by omega) (by omega))) (by rw [xl 15 (by decide) (by decide)]) (fun i hi => mv_congr (fun l h1 h2 => xl l (by have := pl_range rot i; omega) (by have := pl_range rot i; omega))), fun im hi => (hI im hi).keep hi (fun k hk => by rw [m13]) (by rw [m14]) (fun l h1 h2 => xl l (by omega) (by omega)), ?_, ?_, hl⟩
  · obtain ⟨⟨n6, n5, p5⟩, ⟨a1, a2⟩, ⟨b1, b2⟩, ⟨c1, c2⟩, ⟨w, w1, w2, w3⟩, t3, t4, t5, t6, t7, t8, t9⟩ := hT
    refine ⟨⟨n6, n5, p5⟩, ⟨?_, ?_⟩, ⟨?_, ?_⟩, ⟨?_, ?_⟩, ⟨w, w1, ?_, ?_⟩, fun h hh => ?_, fun h hh => ?_, fun h hh => ?_, fun h hh => ?_, fun s hs => ?_, fun s hs => ?_, fun s hs => ?_⟩
    · rw [hm 2 0 (by unfold okD; omega)]; exact a1
    · rw [xl 1 (by decide) (by decide)]; exact a2
    · rw [hm 7 0 (by unfold okD; omega)]; exact b1
    · rw [xl 1 (by decide) (by decide)]; exact b2
    · rw [hm 10 0 (by unfold okD; omega)]; exact c1
    · rw [xl 1 (by decide) (by decide)]; exact c2
    · rw [hm 12 0 (by unfold okD; omega)]; exact w2
    · rw [xl 1 (by decide) (by decide)]; exact w3
    · rw [hm 3 h (by unfold okD; omega), xl 2 (by decide) (by decide)]; exact t3 h hh
    · rw [hm 4 h (by unfold okD; omega), xl 3 (by decide) (by decide)]; exact t4 h hh
    · rw [hm 5 h (by unfold okD; omega), xl 4 (by decide) (by decide)]; exact t5 h hh
    · rw [hm 6 h (by unfold okD; omega), xl 5 (by decide) (by decide)]; exact t6 h hh
    · rw [hm 8 s (by unfold okD; omega), xl 6 (by decide) (by decide)]; exact t7 s hs
    · rw [hm 9 s (by unfold okD; omega), xl 7 (by decide) (by decide)]; exact t8 s hs
    · rw [hm 11 s (by unfold okD; omega), xl 8 (by decide) (by decide)]; exact t9 s hs
  · obtain ⟨t, t1, t2, t3, t4⟩ := hX
    refine ⟨t, t1, (hm 0 2 (by unfold okD; omega)).trans t2, hx.2.trans t3, fun j hj => ?_⟩
    rw [hm 1 j (by unfold okD; omega), xl 18 (by decide) (by decide)]; exact t4 j hj
  · obtain ⟨k, k1, k2, k3, k4⟩ := hS
    refine ⟨k, k1, (hm 0 29 (by unfold okD; omega)).trans k2, by rw [xl 0 (by decide) (by decide)]; exact k3, fun i hi => ?_⟩
    rw [hm 19 i (by unfold okD; omega), hm 20 i (by unfold okD; omega), xl 29 (by decide) (by decide), xl 30 (by decide) (by decide)]; exact k4 i hi
theorem Vq_new {n ns c : Nat} {v : Nat → Int32} (n6 : n ≤ 6) (hv : ∀ k, k < 35 → v k = nwV n k) : Vq n ns c v := by
  have z : ∀ k, 2 ≤ k → k < 35 → v k = nI 0 := fun k h1 h2 => by
    rw [hv k h2]; unfold nwV; rw [if_neg (by omega), if_neg (by omega)]; rfl
  refine ⟨⟨2 ^ n - 1, by have := Nat.two_pow_pos n; omega, ?_⟩, ⟨0, 0, Nat.two_pow_pos ns, z 33 (by decide) (by decide), z 34 (by decide) (by decide), rfl⟩, ⟨0, fun _ => 0, z 2 (by decide) (by decide), fun h hh => z (21 + h) (by omega) (by omega), Nat.zero_le _⟩, fun h hh => ⟨0, Nat.zero_le _, z (9 + h) (by omega) (by omega)⟩, fun h hh => ⟨0, Nat.zero_le _, z (15 + h) (by omega) (by omega), fun _ => rfl⟩⟩
  rw [hv 0 (by decide)]
  unfold nwV
  rw [if_pos rfl]
  exact (pow_nI n n6).2
theorem Rel_new {D : Dr} {M1 M2 X1 X : AM} (hD : DV D) (hT : TDm D M1 M2) (hX1 : DXx D X1) (hX : ∀ l, 31 ≤ l ∧ l ≤ 38 → X l = X1 l) (hv : ∀ k, k < 35 → mv X 9 k = nwV D.n k) (h15 : X 15 1 = 0) (h17 : X 17 1 = 0) (h99 : X 99 2 = 0) (h167 : X 167 2 = 0) (h0 : X 0 10 = 0) (hl : Lm 0 0 = Lx 0 11) : Rel c rot (um M2 0 2 0) Lm (fun k => X (pw k)) (fun k => Lx (pw k)) := by
  obtain ⟨⟨n6, s5, p5, w50⟩, d5, d6, d7, d8⟩ := hD
  obtain ⟨⟨a1, a2, a3, a4⟩, b1, b2, b3, b4, v1, v2, k0, k1, z29, zo, zl⟩ := hT
  obtain ⟨⟨x1, x2, x3, x4, x5⟩, x6, x7, x8, x9⟩ := hX1
  have um0 : ∀ l, l ≠ 0 → um M2 0 2 0 l = M2 l := fun l h => um_ne _ _ _ h
  have y1 : X (pw 1) = X1 31 := hX 31 (by decide)
  have y2 : X (pw 2) = X1 32 := hX 32 (by decide)
  have y3 : X (pw 3) = X1 33 := hX 33 (by decide)
  have y4 : X (pw 4) = X1 34 := hX 34 (by decide)
  have y5 : X (pw 5) = X1 35 := hX 35 (by decide)
  have y6 : X (pw 6) = X1 36 := hX 36 (by decide)
  have y7 : X (pw 7) = X1 37 := hX 37 (by decide)
  have y8 : X (pw 8) = X1 38 := hX 38 (by decide)
  have m13 : um M2 0 2 0 13 = M2 13 := um0 13 (by decide)
  have emv : mv (fun k => X (pw k)) 9 = mv X 9 := mv_congr (fun l h1 h2 => by show X (pw l) = X l; rw [pw_mid (by omega)])
  refine ⟨D.n, D.ns, D.np, ⟨⟨n6, s5, p5⟩, ⟨?_, ?_⟩, ⟨?_, ?_⟩, ⟨?_, ?_⟩, ⟨D.wd, w50, ?_, ?_⟩, fun h hh => ⟨D.ha h, (d5 h hh).1, (d5 h hh).2.1, ?_, ?_⟩, fun h hh => ⟨D.fi h, (d5 h hh).2.2.1, ?_, ?_⟩, fun h hh => ⟨D.ey h, (d5 h hh).2.2.2, ?_, ?_⟩, fun h hh => ⟨D.li h, (d6 h (by omega)).1, (d6 h (by omega)).2, ?_, ?_⟩, fun s hs => ⟨D.gu s, (d7 s hs).1, ?_, ?_⟩, fun s hs => ⟨D.go s, (d7 s hs).2, ?_, ?_⟩, fun s hs => ⟨D.wo s, (d8 s hs).1, (d8 s hs).2, ?_, ?_⟩⟩, ⟨fun k hk => ?_, ?_, 0, by omega, ?_, ?_, fun i hi => absurd hi (Nat.not_lt_zero i)⟩, fun im hi => Or.inl ⟨?_, ?_⟩, ⟨0, by omega, ?_, ?_, fun j hj => absurd hj (Nat.not_lt_zero j)⟩, ⟨0, by omega, ?_, ?_, fun j hj => absurd hj (Nat.not_lt_zero j)⟩, hl⟩
  · rw [um0 2 (by decide)]; exact a1
  · show X (pw 1) 0 = _; rw [y1]; exact x1
  · rw [um0 7 (by decide)]; exact a2
  · show X (pw 1) 1 = _; rw [y1]; exact x2
  · rw [um0 10 (by decide)]; exact a3
  · show X (pw 1) 2 = _; rw [y1]; exact x3
  · rw [um0 12 (by decide)]; exact a4
  · show X (pw 1) 3 = _; rw [y1]; exact x4
  · rw [um0 3 (by decide)]; exact (b1 h hh).1
  · show X (pw 2) h = _; rw [y2]; exact (x6 h hh).1
  · rw [um0 4 (by decide)]; exact (b1 h hh).2.1
  · show X (pw 3) h = _; rw [y3]; exact (x6 h hh).2.1
  · rw [um0 5 (by decide)]; exact (b1 h hh).2.2
  · show X (pw 4) h = _; rw [y4]; exact (x6 h hh).2.2
  · rw [um0 6 (by decide)]; exact b2 h (by omega)
  · show X (pw 5) h = _; rw [y5]; exact x7 h (by omega)
  · rw [um0 8 (by decide)]; exact (b3 s hs).1
  · show X (pw 6) s = _; rw [y6]; exact (x8 s hs).1
  · rw [um0 9 (by decide)]; exact (b3 s hs).2
  · show X (pw 7) s = _; rw [y7]; exact (x8 s hs).2
  · rw [um0 11 (by decide)]; exact b4 s hs
  · show X (pw 8) s = _; rw [y8]; exact x9 s hs
  · rw [emv, m13, hv k hk, Nat.zero_add, v1 k hk]
  · exact Vq_new n6 (fun k hk => by show um M2 0 2 0 13 (0 + k) = _; rw [m13, Nat.zero_add]; exact v1 k hk)
  · rw [m13]; exact v2
  · show X (pw 15) 1 = _; rw [pw_mid (by omega)]; exact h15
  · rw [um0 14 (by decide)]
    rcases (show im = 0 ∨ im = 1 by omega) with rfl | rfl
    · exact k0
    · exact k1
  · show X (pw (99 + 68 * im)) 2 = 0
    rw [pw_hi (by omega)]
    rcases (show im = 0 ∨ im = 1 by omega) with rfl | rfl
    · exact h99
    · exact h167
  · rw [um_same]; rfl
  · show X (pw 17) 1 = _; rw [pw_mid (by omega)]; exact h17
  · rw [um_oth _ _ _ (by decide)]; exact z29
  · show X (pw 0) 10 = _; rw [pw_mid (by omega)]; exact h0
theorem st_articles (hR : Rel c rot Mm Lm Mx Lx) : StepB E8_articles E7_articles [] c rot Mm Lm Mx Lx := by
  obtain ⟨n, ns, np, hT, hL, hI, hX, hS, hl⟩ := id hR
  obtain ⟨t, t1, t2, t3, t4⟩ := hX
  obtain ⟨b, b1, b2, b3⟩ : ∃ b : Nat → Nat, (∀ j, j < t → b j < 256) ∧ (∀ j, j < t → Mx 18 j = nI (b j)) ∧ ∀ j, j < t → Mm 1 j &&& 255 = nI (b j) := by
    refine ⟨fun j => if hj : j < t then Classical.choose (t4 j hj) else 0, fun j hj => ?_, fun j hj => ?_, fun j hj => ?_⟩
    · have := Classical.choose_spec (t4 j hj); dsimp only; rw [dif_pos hj]; exact this.1
    · have := Classical.choose_spec (t4 j hj); dsimp only; rw [dif_pos hj]; exact this.2.1
    · have := Classical.choose_spec (t4 j hj); dsimp only; rw [dif_pos hj]; exact this.2.2
  have hxm : TXm b t Mm := ⟨t1, t2, fun j hj => ⟨b1 j hj, b3 j hj⟩⟩
  have hxx : TXx b t Mx := ⟨t1, t3, fun j hj => ⟨b1 j hj, b2 j hj⟩⟩
  cases hp : prs b t 151 D0 0 0 with
  | error q =>
    refine ⟨.int (-10 - nI q), fun M' L' => DFm Mm M' ∧ L' = Lm, fun Q hQ => cm_articles (d := 24) hxm hp (fun q' M' e _ hF => ?_) (fun D i M1 M' e => by cases e), fun Q hQ => cx_articles (d := 24) hxx hp (fun q' M' e hF => ?_) (fun D i M1 M' e => by cases e)⟩
    · cases e
      exact hQ M' Lm ⟨hF, rfl⟩
    · cases e
      refine hQ (fun k => k) rot _ M' Lx (Sx_len rot) (SwB_id rot) ?_
      rintro A B ⟨h1, rfl⟩
      exact hR.next.draft h1 hF
  | ok x =>
    obtain ⟨D, i⟩ := x
    refine ⟨.int (nI i), fun M' L' => (∃ M1 M2, DV D ∧ TDm D M1 M2 ∧ M' = um M2 0 2 0) ∧ L' = Lm, fun Q hQ => cm_articles (d := 24) hxm hp (fun q' M' e => by cases e) (fun D' i' M1 M' e hD _ hF hT => ?_), fun Q hQ => cx_articles (d := 24) hxx hp (fun q' M' e => by cases e) (fun D' i' M1 M' e h1 h2 h3 h4 h5 h6 h7 h8 h9 => ?_)⟩
    · cases e
      exact hQ _ Lm ⟨⟨M1, M', hD, hT, rfl⟩, rfl⟩
    · cases e
      refine hQ pw rot _ M' Lx rfl (Sw_ok rot) ?_
      rintro A B ⟨⟨N1, N2, g1, g2, rfl⟩, rfl⟩
      exact Rel_new g1 g2 h2 h3 h4 h5 h6 h7 h8 h9 hl
end SD13
