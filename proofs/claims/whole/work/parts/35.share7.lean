/-! ===== shares, side by side ===== -/
theorem Pn_le (w : Nat) (u : Nat → Nat) (ch i : Nat) : Pn w u ch i ≤ u i := pay_le _ _ _
section SD8
variable {c rot : Nat} {Mm : AM} {Lm : AL} {Mx : AM} {Lx : AL}
theorem st_shares (hc : c < 100000) (hR : Rel c rot Mm Lm Mx Lx) : Step E8_shares E7_shares [] c rot Mm Lm Mx Lx := by
  obtain ⟨n, ns, np, hT, hL, hI, hX, hS, hl⟩ := id hR
  obtain ⟨⟨n6, -, -⟩, ⟨hn, hn'⟩, -⟩ := id hT
  obtain ⟨v0, -⟩ := vec_all hL.1
  obtain ⟨⟨a, a1, a2⟩, -⟩ := id hL.2.1
  have a2 : Mm 13 0 = nI a := by simpa using a2
  obtain ⟨w, ch, u, hm, w1, w2, c1, u1, u2, u3, chb, ub, w50⟩ := mon_of hc hT hL
  obtain ⟨s, s1, p1, p2, p3, p4⟩ := pt_of hT hL
  have pa := part_at hT hL
  obtain ⟨-, -, k, k10, k2, k3, -⟩ := id hL
  have k2 : Mm 13 35 = nI k := by simpa using k2
  have c6 : Cn w u ch 6 = Cn w u ch n := by
    have := Cn_zero (w := w) (ch := ch) u3 (6 - n) (by omega)
    rw [show n + (6 - n) = 6 by omega] at this; exact this
  have hp0 : ¬ Mm 13 0 = 0 → ¬ nI s = 0 := fun y z => y (p3.mp ((nI_eq (b := 0) (by omega) (by omega)).mp z))
  by_cases z : Mm 13 0 = 0
  · exact step_read hR (.int (-2)) (fun Q hQ => cm_shares hn w1 hm k2 k10 (fun _ => hQ) p1 hp0 rfl (fun y => absurd z y)) (fun Q hQ => cx_shares k3 k10 w2 hm.2.1 hm.2.2.1 c1 u1 u2 p2 rfl (fun y => absurd (v0.trans z) y) (fun _ => hQ) (fun y => absurd (v0.trans z) y))
  have sz : ¬ s = 0 := fun y => z (p3.mp y)
  generalize he : nI (Cn w u ch n) / nI s = e
  have he' : nI (Cn w u ch 6) / nI s = e := by rw [c6]; exact he
  have hcn := Cn_le w u ch n
  have rest : nI (Cn w u ch n) - e * nI s = nI (Cn w u ch n % s) := by
    rw [← he]
    exact pk_rem (by have := hm.2.2.1; omega) (by omega) (by omega)
  generalize hpf : fPart (Mm 13 0) (Mm 13 1) (Mm 3) = pf at p1 pa
  generalize hv' : knowV (Mm 13) k = v
  have vlt : ∀ j, j < 35 → v j = Mm 13 j := fun j hj => by rw [← hv', knowV_lt hj]
  refine ⟨.int e, sr (kM Mm k) 13 (shV w u ch v n e (nI s) pf), Lm, fun Q hQ => cm_shares hn w1 hm k2 k10 (fun y => absurd y z) (by rw [hpf]; exact p1) hp0 he (fun _ => ?_), fun Q hQ => cx_shares k3 k10 w2 hm.2.1 hm.2.2.1 c1 u1 u2 p2 he' (fun _ y => sz ((nz_le (by omega)).mp y)) (fun y => absurd (v0.symm.trans y) z) (fun _ rot' Mr hr R f g p => ?_)⟩
  · rw [hv', hpf]; exact hQ
  · rw [c6, rest]
    have hb := rem_base hL hr
    rw [hv'] at hb
    generalize hF : um (sxM R 6) 9 2 (nI (Cn w u ch n % s)) = F
    have F9 : ∀ j, F 9 j = if j = 2 then nI (Cn w u ch n % s) else Mr 9 j := fun j => by
      rw [← hF, um_app]
      by_cases y : j = 2
      · rw [if_pos ⟨rfl, y⟩, if_pos y]
      · rw [if_neg (fun q => y q.2), if_neg y]; unfold sxM; rw [sr_ne _ _ (by decide), sr_ne _ _ (by decide), f 9 (by omega)]
    have F10 : ∀ h, h < 6 → F 10 h = Mr 10 h + R 20 h := fun h hh => by
      rw [← hF, um_ne _ _ _ (by decide)]; unfold sxM; rw [sr_ne _ _ (by decide), sr_at, if_pos hh, f 10 (by omega)]
    have F12 : ∀ h, h < 6 → F 12 h = Mr 12 h - R 21 h := fun h hh => by
      rw [← hF, um_ne _ _ _ (by decide)]; unfold sxM; rw [sr_at, if_pos hh, f 12 (by omega)]
    have Fo : ∀ l, l ≠ 9 → l ≠ 10 → l ≠ 12 → F l = R l := fun l h1 h2 h3 => by
      rw [← hF, um_ne _ _ _ h1]; unfold sxM; rw [sr_ne _ _ h3, sr_ne _ _ h2]
    have pn0 : ∀ h, n ≤ h → h < 6 → Pn w u ch h = 0 := fun h h1 h2 => by
      have := Pn_le w u ch h
      rw [u3 h h1 h2] at this; omega
    have pf0 : ∀ h, n ≤ h → h < 6 → fPart (Mx 9 0) (Mx 9 1) (Mx 2) h = 0 := fun h h1 h2 => by
      unfold fPart
      rw [v0, a2, fAb_out a1 n6 h1 h2, if_pos rfl]
    have sh0 : ∀ j, j ≠ 2 → ¬ (3 ≤ j ∧ j < 9) → ¬ (15 ≤ j ∧ j < 21) → shV w u ch v n e (nI s) pf j = v j := fun j h1 h2 h3 => by
      unfold shV payV
      rw [if_neg h1, if_neg (by omega), if_neg h1, if_neg (by omega), if_neg (by omega)]
    have sh2 : shV w u ch v n e (nI s) pf 2 = nI (Cn w u ch n % s) := by
      unfold shV; rw [if_pos rfl, rest]
    have sh15 : ∀ h, h < 6 → shV w u ch v n e (nI s) pf (15 + h) = nI (u h - Pn w u ch h) := fun h hh => by
      unfold shV payV
      rw [if_neg (by omega), if_neg (by omega), if_neg (by omega), if_neg (by omega)]
      by_cases y : h < n
      · rw [if_pos (by omega), show 15 + h - 15 = h by omega]
      · rw [if_neg (by omega), u3 h (by omega) hh, Nat.zero_sub, vlt _ (by omega)]
        have := u2 h hh
        rw [u3 h (by omega) hh] at this
        rw [← this]
        exact (vec_all hL.1).2.2.2.2.2.2.2.1 h hh |>.symm
    have hFv : ∀ i, i < 35 → mv F 9 i = shV w u ch v n e (nI s) pf i := by
      intro i hi
      have keep : ∀ l j, l ≠ 9 → l ≠ 10 → l ≠ 12 → l < 19 → F l j = Mr l j := fun l j h1 h2 h3 h4 => by rw [Fo l h1 h2 h3, f l (by omega)]
      have hbi := hb i hi
      by_cases i2 : i = 2
      · subst i2; rw [sh2, mv_2, F9, if_pos rfl]
      by_cases i3 : 3 ≤ i ∧ i < 9
      · obtain ⟨h, rfl⟩ : ∃ h, i = 3 + h := ⟨i - 3, by omega⟩
        rw [mv_3 _ _ (by omega)] at hbi ⊢
        rw [F10 h (by omega), hbi, g h (by omega)]
        unfold shV payV
        rw [if_neg (by omega)]
        by_cases y : h < n
        · rw [if_pos (by omega), if_neg (by omega), if_pos (by omega), show 3 + h - 3 = h by omega, pa h y, Int32.add_assoc]
        · rw [if_neg (by omega), if_neg (by omega), if_neg (by omega), if_neg (by omega), pn0 h (by omega) (by omega), pf0 h (by omega) (by omega), Nat.mul_zero, nI_0, Int32.mul_zero, Int32.add_zero, Int32.add_zero]
      by_cases i15 : 15 ≤ i ∧ i < 21
      · obtain ⟨h, rfl⟩ : ∃ h, i = 15 + h := ⟨i - 15, by omega⟩
        rw [mv_15 _ _ (by omega), F12 h (by omega), p h (by omega), sh15 h (by omega), hr.1 12 (by omega), u2 h (by omega), pk_sub (Pn_le w u ch h)]
      rw [sh0 i i2 i3 i15, ← hbi]
      by_cases j0 : i = 0
      · subst j0; rw [mv_0, mv_0, F9, if_neg (by decide)]
      by_cases j1 : i = 1
      · subst j1; rw [mv_1, mv_1, F9, if_neg (by decide)]
      by_cases j33 : i = 33
      · subst j33; rw [mv_33, mv_33, F9, if_neg (by decide)]
      by_cases j34 : i = 34
      · subst j34; rw [mv_34, mv_34, F9, if_neg (by decide)]
      by_cases j9 : 9 ≤ i ∧ i < 15
      · obtain ⟨h, rfl⟩ : ∃ h, i = 9 + h := ⟨i - 9, by omega⟩
        rw [mv_9 _ _ (by omega), mv_9 _ _ (by omega), keep _ _ (by decide) (by decide) (by decide) (by decide)]
      by_cases j21 : 21 ≤ i ∧ i < 27
      · obtain ⟨h, rfl⟩ : ∃ h, i = 21 + h := ⟨i - 21, by omega⟩
        rw [mv_21 _ _ (by omega), mv_21 _ _ (by omega), keep _ _ (by decide) (by decide) (by decide) (by decide)]
      obtain ⟨h, rfl⟩ : ∃ h, i = 27 + h := ⟨i - 27, by omega⟩
      rw [mv_27 _ _ (by omega), mv_27 _ _ (by omega), keep _ _ (by decide) (by decide) (by decide) (by decide)]
    have hR2 : Rel (c + 1) rot' (sr (kM Mm k) 13 (shV w u ch v n e (nI s) pf)) Lm (sr (sr (sr F 19 (Mr 19)) 20 (Mr 20)) 21 (Mr 21)) Lx := by
      refine mk_step hT hL hI hX hS hl k10 k3 hr (fun l hl => by rw [sr_ne _ _ hl, kM_ne _ _ hl]) (fun i hi => by rw [sr_at, sh0 i (by omega) (by omega) (by omega), hv']) (fun l hl => ?_) (fun i hi => ?_) ?_
      · by_cases l21 : l = 21
        · subst l21; rw [sr_at]
        rw [sr_ne _ _ l21]
        by_cases l20 : l = 20
        · subst l20; rw [sr_at]
        rw [sr_ne _ _ l20]
        by_cases l19 : l = 19
        · subst l19; rw [sr_at]
        rw [sr_ne _ _ l19, Fo l (by omega) (by omega) (by omega), f l (by omega)]
      · rw [sr_at, ← hFv i hi]
        refine congrFun (mv_congr (fun l h1 h2 => ?_)) i
        rw [sr_ne _ _ (by omega), sr_ne _ _ (by omega), sr_ne _ _ (by omega)]
      · rw [sr_at]
        obtain ⟨⟨a', b1, b2⟩, ⟨mt, tn, m1, m2, m3, m4⟩, ⟨ch', hd, h3, h4, h5⟩, h6, h7⟩ := hL.2.1
        have vv : ∀ j, j ≠ 2 → j < 35 → ¬ (3 ≤ j ∧ j < 9) → ¬ (15 ≤ j ∧ j < 21) → shV w u ch v n e (nI s) pf j = Mm 13 (0 + j) := fun j q1 q2 q3 q4 => by rw [sh0 j q1 q3 q4, vlt j q2, Nat.zero_add]
        have hch : ch' = ch := by
          have : Mm 13 2 = nI ch' := by simpa using h3
          exact (nI_eq (by omega) (by have := hm.2.2.1; omega)).mp (this.symm.trans hm.2.2.2.1)
        have hmod := Nat.mod_le (Cn w u ch n) s
        refine ⟨⟨a', b1, by rw [vv 0 (by decide) (by decide) (by omega) (by omega)]; exact b2⟩, ⟨mt, tn, m1, by rw [vv 33 (by decide) (by decide) (by omega) (by omega)]; exact m2, by rw [vv 34 (by decide) (by decide) (by omega) (by omega)]; exact m3, m4⟩, ⟨Cn w u ch n % s, hd, sh2, fun h hh => by rw [vv _ (by omega) (by omega) (by omega) (by omega)]; exact h4 h hh, by omega⟩, fun h hh => ?_, fun h hh => ?_⟩
        · obtain ⟨x, x1, x2⟩ := h6 h hh
          exact ⟨x, by omega, by rw [vv _ (by omega) (by omega) (by omega) (by omega)]; exact x2⟩
        · have := ub h hh
          exact ⟨u h - Pn w u ch h, by omega, sh15 h hh, fun y => by rw [u3 h y hh, Nat.zero_sub]⟩
    refine hQ rot' F Lx (hR2.junk (mj.refl _) (fun l hl => ?_))
    rw [sr_ne _ _ (by omega), sr_ne _ _ (by omega), sr_ne _ _ (by omega)]
end SD8
