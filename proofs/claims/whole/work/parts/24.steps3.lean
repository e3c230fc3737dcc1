/-! ===== hides, finds, undo, images, text, sights, marks, side by side ===== -/
def hsum (hd : Nat → Nat) : Nat := hd 0 + hd 1 + hd 2 + hd 3 + hd 4 + hd 5
theorem hsum_set (hd : Nat → Nat) {j : Nat} (hj : j < 6) (x : Nat) : hsum (fun i => if i = j then x else hd i) + hd j = hsum hd + x := by
  unfold hsum
  rcases (by omega : j = 0 ∨ j = 1 ∨ j = 2 ∨ j = 3 ∨ j = 4 ∨ j = 5) with rfl | rfl | rfl | rfl | rfl | rfl <;> simp <;> omega
theorem Vq.money {n ns c : Nat} {v : Nat → Int32} (h : Vq n ns c v) {j ch x w : Nat} (hj : j < 6) (hw : w ≤ c) (hs : ∀ ch0 hd, v 2 = nI ch0 → (∀ h, h < 6 → v (21 + h) = nI (hd h)) → ch0 + hsum hd ≤ 100 * c → ch + x ≤ ch0 + hd j) : Vq n ns c (upd (upd (upd v 2 (nI ch)) (21 + j) (nI x)) (9 + j) (nI w)) := by
  obtain ⟨⟨a, a1, a2⟩, ⟨mt, tk, m1, m2, m3, m4⟩, ⟨ch0, hd, h3, h4, h5⟩, h6, h7⟩ := h
  have e : ∀ k, k ≠ 2 → k ≠ 21 + j → k ≠ 9 + j → upd (upd (upd v 2 (nI ch)) (21 + j) (nI x)) (9 + j) (nI w) k = v k := fun k g1 g2 g3 => by rw [pk_un g3, pk_un g2, pk_un g1]
  have hss := hs ch0 hd h3 h4 h5
  have hset := hsum_set hd hj x
  refine ⟨⟨a, a1, by rw [e 0 (by omega) (by omega) (by omega)]; exact a2⟩, ⟨mt, tk, m1, by rw [e 33 (by omega) (by omega) (by omega)]; exact m2, by rw [e 34 (by omega) (by omega) (by omega)]; exact m3, m4⟩, ⟨ch, fun i => if i = j then x else hd i, by rw [pk_un (by omega), pk_un (by omega), pk_us], fun h hh => ?_, ?_⟩, fun h hh => ?_, fun h hh => ?_⟩
  · by_cases z : h = j
    · subst z
      rw [pk_un (by omega), pk_us]; dsimp only; rw [if_pos rfl]
    · dsimp only; rw [if_neg z, e _ (by omega) (by omega) (by omega)]
      exact h4 h hh
  · show ch + hsum (fun i => if i = j then x else hd i) ≤ 100 * c
    have : ch0 + hsum hd ≤ 100 * c := h5
    omega
  · by_cases z : h = j
    · subst z
      exact ⟨w, hw, by rw [pk_us]⟩
    · obtain ⟨w', g1, g2⟩ := h6 h hh
      exact ⟨w', g1, by rw [e _ (by omega) (by omega) (by omega)]; exact g2⟩
  · obtain ⟨w', g1, g2, g3⟩ := h7 h hh
    exact ⟨w', g1, by rw [e _ (by omega) (by omega) (by omega)]; exact g2, g3⟩
theorem upd_self (f : Nat → Int32) (j : Nat) : upd f j (f j) = f := by
  funext k
  by_cases h : k = j
  · subst h; rw [pk_us]
  · rw [pk_un h]
theorem fIn_199 {q : Int32} (hf : ¬ fIn q 1 99 = 0) : ∃ qn : Nat, 1 ≤ qn ∧ qn ≤ 99 ∧ q = nI qn := by
  rcases pk_ix q (n := 100) (by decide) with z | z | ⟨j, hj, rfl⟩
  · exact absurd (by unfold fIn; rw [if_pos (Int32.lt_trans z (by decide))]) hf
  · refine absurd ?_ hf
    unfold fIn
    by_cases y : q < 1
    · rw [if_pos y]
    · rw [if_neg y, if_pos (Int32.lt_of_lt_of_le (show (99 : Int32) < nI 100 by decide) z)]
  · refine ⟨j, ?_, by omega, rfl⟩
    rcases Nat.eq_zero_or_pos j with rfl | hp
    · exact absurd (by decide) hf
    · exact hp
section SD4
variable {c rot : Nat} {Mm : AM} {Lm : AL} {Mx : AM} {Lx : AL}
theorem st_hides (hc : c < 100000) (hR : Rel c rot Mm Lm Mx Lx) (h q : Int32) : Step E8_hides E7_hides [.int h, .int q] c rot Mm Lm Mx Lx := by
  obtain ⟨n, ns, np, hT, hL, hI, hX, hS, hl⟩ := id hR
  obtain ⟨⟨n6, n5, p5⟩, ⟨hn, hn'⟩, -⟩ := id hT
  obtain ⟨v0, v1, v2, -, -, -, w9, -, w21, -⟩ := vec_all hL.1
  obtain ⟨-, -, k, k10, k2, k3, -⟩ := id hL
  have k2 : Mm 13 35 = nI k := by simpa using k2
  obtain ⟨-, -, ⟨ch, hd, c1, c2, c3⟩, c4, -⟩ := id hL.2.1
  have c1 : Mm 13 2 = nI ch := by simpa using c1
  have c2 : ∀ h, h < 6 → Mm 13 (21 + h) = nI (hd h) := fun h hh => by simpa using c2 h hh
  by_cases hf : fIn q 1 99 = 0
  · exact step_read hR (.int (-1)) (fun Q hQ => cm_hides hn n6 k2 k10 (fun _ => hQ) (fun j hj e y => absurd hf y) (fun j hj e y => absurd hf y)) (fun Q hQ => cx_hides hn' n6 k3 k10 (fun _ => hQ) (fun j hj e y => absurd hf y) (fun j hj e y => absurd hf y))
  rcases ix_cases h n6 with ⟨g, bad⟩ | ⟨j, hj, rfl, bad, uq⟩
  · exact step_read hR (.int (-1)) (fun Q hQ => cm_hides hn n6 k2 k10 (fun _ => hQ) (fun j hj e => (bad j hj e).elim) (fun j hj e => (bad j hj e).elim)) (fun Q hQ => cx_hides hn' n6 k3 k10 (fun _ => hQ) (fun j hj e => (bad j hj e).elim) (fun j hj e => (bad j hj e).elim))
  have nb : ¬ ((nI j < 0 ∨ nI n ≤ nI j) ∨ fIn q 1 99 = 0) := fun y => y.elim bad hf
  by_cases z : fAb (Mm 13 0) (nI j) = 0 ∨ ¬ q ≤ Mm 13 2
  · refine step_read hR (.int (-2)) (fun Q hQ => cm_hides hn n6 k2 k10 (fun y => absurd y nb) (fun j' hj' e' _ _ => hQ) (fun j' hj' e' _ y1 y2 => ?_)) (fun Q hQ => cx_hides hn' n6 k3 k10 (fun y => absurd y nb) (fun j' hj' e' _ _ => hQ) (fun j' hj' e' _ y1 y2 => ?_))
    · cases uq j' hj' e'; exact absurd z (fun z => z.elim y1 (fun z => z y2))
    · cases uq j' hj' e'
      rw [v0] at y1; rw [v2] at y2
      exact absurd z (fun z => z.elim y1 (fun z => z y2))
  have z1 : ¬ fAb (Mm 13 0) (nI j) = 0 := fun y => z (Or.inl y)
  have z2 : q ≤ Mm 13 2 := Classical.byContradiction fun y => z (Or.inr y)
  obtain ⟨qn, q1, q99, rfl⟩ := fIn_199 hf
  have hcc : ch < 2 ^ 31 := by omega
  have hqc : qn ≤ ch := by rw [c1] at z2; exact (nI_leI (by omega) hcc).mp z2
  have ec : Mm 13 2 - nI qn = nI (ch - qn) := by rw [c1, pk_sub hqc]
  have eh : Mm 13 (21 + j) + nI qn = nI (hd j + qn) := by rw [c2 j (by omega), nI_add]
  refine ⟨.int (nI (hd j + qn)), um (um (kM Mm k) 13 2 (nI (ch - qn))) 13 (21 + j) (nI (hd j + qn)), Lm, fun Q hQ => cm_hides hn n6 k2 k10 (fun y => absurd y nb) (fun j' hj' e' _ y => ?_) (fun j' hj' e' _ y1 y2 => ?_), fun Q hQ => cx_hides hn' n6 k3 k10 (fun y => absurd y nb) (fun j' hj' e' _ y => ?_) (fun j' hj' e' _ y1 y2 rot' Mr hr => ?_)⟩
  · cases uq j' hj' e'; exact absurd y z
  · cases uq j' hj' e'; rw [ec, eh]; exact hQ
  · cases uq j' hj' e'; rw [v0, v2] at y; exact absurd y z
  · cases uq j' hj' e'
    rw [v2, ec, w21 j (by omega), eh]
    have hb := rem_base hL hr
    obtain ⟨w, cw1, cw2⟩ := c4 j (by omega)
    have cw2 : Mm 13 (9 + j) = nI w := by simpa using cw2
    have e9 : upd (upd (upd (knowV (Mm 13) k) 2 (nI (ch - qn))) (21 + j) (nI (hd j + qn))) (9 + j) (nI w) = upd (upd (knowV (Mm 13) k) 2 (nI (ch - qn))) (21 + j) (nI (hd j + qn)) := by
      have : nI w = upd (upd (knowV (Mm 13) k) 2 (nI (ch - qn))) (21 + j) (nI (hd j + qn)) (9 + j) := by
        rw [pk_un (by omega), pk_un (by omega), knowV_lt (by omega), cw2]
      rw [this, upd_self]
    refine hQ rot' _ Lx (mk_step hT hL hI hX hS hl k10 k3 hr (fun l hl => by rw [um_ne _ _ _ hl, um_ne _ _ _ hl, kM_ne _ _ hl]) (fun i hi => by rw [um_upd, um_upd, kM_at, pk_un (by omega), pk_un (by omega)]) (fun l hl => by rw [um_ne _ _ _ (by omega), um_ne _ _ _ (by omega)]) (fun i hi => ?_) ?_)
    · rw [um_upd, um_upd, kM_at, mv_um_a _ 9 4 j _ (by omega) (by omega) hi]
      refine upd_congr ?_ rfl
      rw [mv_um_f _ _ _ _ (by decide) hi]
      exact upd_congr (hb i hi) rfl
    · rw [um_upd, um_upd, kM_at, ← e9]
      refine (Vq.known hL).money (by omega) (by omega) (fun ch0 hd0 y1 y2 y3 => ?_)
      rw [knowV_lt (by decide), c1] at y1
      have y1 := (nI_eq hcc (by omega)).mp y1
      have y2 := y2 j (by omega)
      have hh : hd j ≤ 100 * c := by
        unfold hsum at *
        rcases (by omega : j = 0 ∨ j = 1 ∨ j = 2 ∨ j = 3 ∨ j = 4 ∨ j = 5) with rfl | rfl | rfl | rfl | rfl | rfl <;> omega
      have hh0 : hd0 j ≤ 100 * (c + 1) := by
        unfold hsum at y3
        rcases (by omega : j = 0 ∨ j = 1 ∨ j = 2 ∨ j = 3 ∨ j = 4 ∨ j = 5) with rfl | rfl | rfl | rfl | rfl | rfl <;> omega
      rw [knowV_lt (by omega), c2 j (by omega)] at y2
      have y2 := (nI_eq (by omega) (by omega)).mp y2
      omega
theorem st_finds (hc : c < 100000) (hR : Rel c rot Mm Lm Mx Lx) (h : Int32) : Step E8_finds E7_finds [.int h] c rot Mm Lm Mx Lx := by
  obtain ⟨n, ns, np, hT, hL, hI, hX, hS, hl⟩ := id hR
  obtain ⟨⟨n6, n5, p5⟩, ⟨hn, hn'⟩, -⟩ := id hT
  obtain ⟨v0, v1, v2, -, -, -, w9, -, w21, -⟩ := vec_all hL.1
  obtain ⟨-, -, k, k10, k2, k3, -⟩ := id hL
  have k2 : Mm 13 35 = nI k := by simpa using k2
  obtain ⟨-, -, ⟨ch, hd, c1, c2, c3⟩, c4, -⟩ := id hL.2.1
  have c1 : Mm 13 2 = nI ch := by simpa using c1
  have c2 : ∀ h, h < 6 → Mm 13 (21 + h) = nI (hd h) := fun h hh => by simpa using c2 h hh
  rcases ix_cases h n6 with ⟨g, bad⟩ | ⟨j, hj, rfl, bad, uq⟩
  · exact step_read hR (.int (-1)) (fun Q hQ => cm_finds hn n6 k2 k10 (fun _ => hQ) (fun j hj e => (bad j hj e).elim) (fun j hj e => (bad j hj e).elim)) (fun Q hQ => cx_finds hn' n6 k3 k10 (fun _ => hQ) (fun j hj e => (bad j hj e).elim) (fun j hj e => (bad j hj e).elim))
  by_cases z : Mm 13 (21 + j) = 0
  · refine step_read hR (.int (-2)) (fun Q hQ => cm_finds hn n6 k2 k10 (fun y => absurd y bad) (fun j' hj' e' _ => hQ) (fun j' hj' e' y1 => ?_)) (fun Q hQ => cx_finds hn' n6 k3 k10 (fun y => absurd y bad) (fun j' hj' e' _ => hQ) (fun j' hj' e' y1 => ?_))
    · cases uq j' hj' e'; exact absurd z y1
    · cases uq j' hj' e'; rw [w21 j (by omega)] at y1; exact absurd z y1
  obtain ⟨w, cw1, cw2⟩ := c4 j (by omega)
  have cw2 : Mm 13 (9 + j) = nI w := by simpa using cw2
  have ec : Mm 13 2 + Mm 13 (21 + j) = nI (ch + hd j) := by rw [c1, c2 j (by omega), nI_add]
  have ew : Mm 13 (9 + j) + 1 = nI (w + 1) := by rw [cw2, nI_1]
  refine ⟨.int (Mm 13 (21 + j)), um (um (um (kM Mm k) 13 2 (nI (ch + hd j))) 13 (21 + j) (nI 0)) 13 (9 + j) (nI (w + 1)), Lm, fun Q hQ => cm_finds hn n6 k2 k10 (fun y => absurd y bad) (fun j' hj' e' y => ?_) (fun j' hj' e' y1 => ?_), fun Q hQ => cx_finds hn' n6 k3 k10 (fun y => absurd y bad) (fun j' hj' e' y => ?_) (fun j' hj' e' y1 rot' Mr hr => ?_)⟩
  · cases uq j' hj' e'; exact absurd y z
  · cases uq j' hj' e'; rw [ec, ew]; exact hQ
  · cases uq j' hj' e'; rw [w21 j (by omega)] at y; exact absurd y z
  · cases uq j' hj' e'
    rw [v2, w21 j (by omega), ec, w9 j (by omega), ew]
    have hb := rem_base hL hr
    refine hQ rot' _ Lx (mk_step hT hL hI hX hS hl k10 k3 hr (fun l hl => by rw [um_ne _ _ _ hl, um_ne _ _ _ hl, um_ne _ _ _ hl, kM_ne _ _ hl]) (fun i hi => by rw [um_upd, um_upd, um_upd, kM_at, pk_un (by omega), pk_un (by omega), pk_un (by omega)]) (fun l hl => by rw [um_ne _ _ _ (by omega), um_ne _ _ _ (by omega), um_ne _ _ _ (by omega)]) (fun i hi => ?_) ?_)
    · rw [um_upd, um_upd, um_upd, kM_at, mv_um_a _ 9 2 j _ (by omega) (by omega) hi]
      refine upd_congr ?_ rfl
      rw [mv_um_a _ 9 4 j _ (by omega) (by omega) hi]
      refine upd_congr ?_ rfl
      rw [mv_um_f _ _ _ _ (by decide) hi]
      exact upd_congr (hb i hi) rfl
    · rw [um_upd, um_upd, um_upd, kM_at]
      refine (Vq.known hL).money (by omega) (by omega) (fun ch0 hd0 y1 y2 y3 => ?_)
      rw [knowV_lt (by decide), c1] at y1
      have y1 := (nI_eq (by omega) (by omega)).mp y1
      have y2 := y2 j (by omega)
      have hh : hd j ≤ 100 * c := by
        rcases (by omega : j = 0 ∨ j = 1 ∨ j = 2 ∨ j = 3 ∨ j = 4 ∨ j = 5) with rfl | rfl | rfl | rfl | rfl | rfl <;> omega
      have hh0 : hd0 j ≤ 100 * (c + 1) := by
        unfold hsum at y3
        rcases (by omega : j = 0 ∨ j = 1 ∨ j = 2 ∨ j = 3 ∨ j = 4 ∨ j = 5) with rfl | rfl | rfl | rfl | rfl | rfl <;> omega
      rw [knowV_lt (by omega), c2 j (by omega)] at y2
      have y2 := (nI_eq (by omega) (by omega)).mp y2
      omega
theorem st_undo (hR : Rel c rot Mm Lm Mx Lx) : Step E8_undo E7_undo [] c rot Mm Lm Mx Lx := by
  obtain ⟨n, ns, np, hT, hL, hI, hX, hS, hl⟩ := id hR
  obtain ⟨L1, L2, k, k10, k2, k3, k4⟩ := id hL
  have k2 : Mm 13 35 = nI k := by simpa using k2
  rcases Nat.eq_zero_or_pos k with rfl | hk
  · exact step_read hR (.int (-2)) (fun Q hQ => cm_undo k2 k10 (fun _ => hQ) (fun k' e => absurd e (by omega))) (fun Q hQ => cx_undo k3 k10 (fun _ => hQ) (fun k' e => absurd e (by omega)))
  obtain ⟨k', rfl⟩ : ∃ k', k = k' + 1 := ⟨k - 1, by omega⟩
  refine ⟨.int (nI k'), sr Mm 13 (fun j => if j < 35 then Mm 13 (36 + 35 * k' + j) else if j = 35 then nI k' else Mm 13 j), Lm, fun Q hQ => cm_undo k2 k10 (fun e => absurd e (by omega)) (fun k'' e => ?_), fun Q hQ => cx_undo k3 k10 (fun e => absurd e (by omega)) (fun k'' e => ?_)⟩
  · have : k'' = k' := by omega
    subst this; exact hQ
  · have : k'' = k' := by omega
    subst this
    have hpr := pl_range rot k''
    refine hQ rot _ Lx (mk_deed hT hI hX hS hl (fun l h => sr_ne _ _ h) (fun j hj => by rw [sr_at, if_neg (by omega), if_neg (by omega)]) (fun l h => by rw [momCopy_ne (by omega), um_ne _ _ _ (by omega)]) ?_)
    have hrow : ∀ j, j < 35 → mv (um Mx 15 1 (nI k'')) (pl rot k'') j = Mm 13 (36 + 35 * k'' + j) := fun j hj => by
      rw [mv_congr (M := Mx) (fun l h1 h2 => um_ne _ _ _ (by omega)), (k4 k'' (by omega)).1 j hj]
    refine ⟨fun j hj => ?_, ((k4 k'' (by omega)).2.mono (by omega)).congr (fun j hj => ?_), k'', by omega, ?_, ?_, fun i hi => ?_⟩
    · rw [mv_copy, hrow j hj, sr_at, if_pos (by omega), Nat.zero_add]
    · rw [sr_at, if_pos (by omega)]
      exact congrArg (Mm 13) (by omega)
    · rw [sr_at, if_neg (by omega), if_pos (by omega)]
    · rw [momCopy_ne (by omega), um_same]
    · have hpi := pl_range rot i
      have row : ∀ j, j < 35 → sr Mm 13 (fun j => if j < 35 then Mm 13 (36 + 35 * k'' + j) else if j = 35 then nI k'' else Mm 13 j) 13 (0 + 36 + 35 * i + j) = Mm 13 (0 + 36 + 35 * i + j) := fun j hj => by
        rw [sr_at, if_neg (by omega), if_neg (by omega)]
      refine ⟨fun j hj => ?_, ((k4 i (by omega)).2.mono (by omega)).congr (fun j hj => row j hj)⟩
      rw [mv_copy_ne (by omega), mv_congr (M := Mx) (fun l h1 h2 => um_ne _ _ _ (by omega)), (k4 i (by omega)).1 j hj, row j hj]
theorem st_keep (hR : Rel c rot Mm Lm Mx Lx) (x : Int32) : Step E8_keep E7_keep [.int x] c rot Mm Lm Mx Lx := by
  obtain ⟨n, ns, np, hT, hL, hI, hX, hS, hl⟩ := id hR
  obtain ⟨v0, v1, v2, -⟩ := vec_all hL.1
  rcases im_ix x with ⟨-, g2, g3⟩ | ⟨im, g1, rfl, -⟩
  · exact step_read hR (.int (-1)) (fun Q hQ => cm_keepI (fun _ _ => hQ) (fun im h e => by
      subst e
      rcases (by omega : im = 0 ∨ im = 1) with rfl | rfl
      · exact absurd rfl g2
      · exact absurd rfl g3)) (fun Q hQ => cx_keepP (fun _ _ => hQ) (fun im h e => by
      subst e
      rcases (by omega : im = 0 ∨ im = 1) with rfl | rfl
      · exact absurd rfl g2
      · exact absurd rfl g3))
  have nx : ¬ nI im = 0 → ¬ nI im = 1 → False := fun y1 y2 => by
    rcases (by omega : im = 0 ∨ im = 1) with rfl | rfl
    · exact y1 rfl
    · exact y2 rfl
  refine ⟨.int (Mm 13 2), um (sr Mm 13 (fun j => if 386 * (1 + im) ≤ j ∧ j < 386 * (1 + im) + 386 then Mm 13 (j - 386 * (1 + im)) else Mm 13 j)) 14 im 1, Lm, fun Q hQ => cm_keepI (fun y1 y2 => (nx y1 y2).elim) (fun im' h e => ?_), fun Q hQ => cx_keepP (fun y1 y2 => (nx y1 y2).elim) (fun im' h e M' hM => ?_)⟩
  · cases ((nI_eq (by omega) (by omega)).mp e)
    exact hQ
  · cases ((nI_eq (by omega) (by omega)).mp e)
    rw [v2]
    obtain ⟨m1, m2, m3, m4, m5⟩ := hM
    have x2 : ∀ l, l ≠ 99 + 68 * im → um M' (99 + 68 * im) 2 1 l = M' l := fun l h => um_ne _ _ _ h
    have x3 : ∀ l, l < 99 + 68 * im ∨ 167 + 68 * im ≤ l → um M' (99 + 68 * im) 2 1 l = Mx l := fun l h => by rw [x2 l (by omega), m5 l (by omega)]
    have y13 : um (sr Mm 13 (fun j => if 386 * (1 + im) ≤ j ∧ j < 386 * (1 + im) + 386 then Mm 13 (j - 386 * (1 + im)) else Mm 13 j)) 14 im 1 13 = fun j => if 386 * (1 + im) ≤ j ∧ j < 386 * (1 + im) + 386 then Mm 13 (j - 386 * (1 + im)) else Mm 13 j := by
      rw [um_ne _ _ _ (by decide), sr_at]
    have yo : ∀ l, l ≠ 13 → l ≠ 14 → um (sr Mm 13 (fun j => if 386 * (1 + im) ≤ j ∧ j < 386 * (1 + im) + 386 then Mm 13 (j - 386 * (1 + im)) else Mm 13 j)) 14 im 1 l = Mm l := fun l h1 h2 => by rw [um_ne _ _ _ h2, sr_ne _ _ h1]
    refine hQ rot _ Lx ⟨n, ns, np, hT.keep (fun l h1 h2 => yo l (by omega) (by omega)) (fun l h1 h2 => x3 l (by omega)), (hL.mono (by omega)).move (fun k hk => ?_) (mv_congr (fun l h1 h2 => x3 l (by omega))) (by rw [x3 15 (by omega)]) (fun i hi => mv_congr (fun l h1 h2 => x3 l (by have := pl_range rot i; omega))), fun im' him => ?_, ?_, ?_, hl⟩
    · rw [y13]; dsimp only; rw [if_neg (by omega)]
    · by_cases hii : im' = im
      · subst hii
        refine Or.inr ⟨um_same _ _ _ _, um_same _ _ _ _, (hL.mono (by omega)).move (fun k hk => ?_) ?_ ?_ (fun i hi => ?_)⟩
        · rw [y13]; dsimp only; rw [if_pos (by omega)]
          exact congrArg (Mm 13) (by omega)
        · rw [mv_congr (M := M') (fun l h1 h2 => x2 l (by omega)), show 100 + 68 * im' = 99 + 68 * im' + 1 by omega]
          exact m1
        · rw [um_oth _ _ _ (by decide)]
          exact m2
        · rw [mv_congr (M := M') (fun l h1 h2 => x2 l (by omega)), show 107 + 68 * im' + 6 * i = 99 + 68 * im' + 8 + 6 * i by omega]
          exact m3 i hi
      · refine ((hI im' him).mono (by omega)).keep him (fun k hk => ?_) ?_ (fun l h1 h2 => x3 l (by omega))
        · rw [y13]; dsimp only; rw [if_neg (by omega)]
        · rw [um_oth _ _ _ hii, sr_ne _ _ (by decide)]
    · unfold RX at hX ⊢
      rw [yo 0 (by decide) (by decide), yo 1 (by decide) (by decide), x3 17 (by omega), x3 18 (by omega)]
      exact hX
    · unfold RS at hS ⊢
      rw [yo 0 (by decide) (by decide), yo 19 (by decide) (by decide), yo 20 (by decide) (by decide), x3 0 (by omega), x3 29 (by omega), x3 30 (by omega)]
      exact hS
theorem st_back (hR : Rel c rot Mm Lm Mx Lx) (x : Int32) : Step E8_back E7_back [.int x] c rot Mm Lm Mx Lx := by
  obtain ⟨n, ns, np, hT, hL, hI, hX, hS, hl⟩ := id hR
  rcases im_ix x with ⟨-, g2, g3⟩ | ⟨im, g1, rfl, -⟩
  · have nx : ∀ im, im < 2 → x = nI im → False := fun im h e => by
      subst e
      rcases (by omega : im = 0 ∨ im = 1) with rfl | rfl
      · exact g2 rfl
      · exact g3 rfl
    exact step_read hR (.int (-1)) (fun Q hQ => cm_back (fun _ _ => hQ) (fun im h e => (nx im h e).elim) (fun im h e => (nx im h e).elim)) (fun Q hQ => cx_backP (fun _ _ => hQ) (fun im h e => (nx im h e).elim) (fun im h e => (nx im h e).elim))
  have nx : ¬ nI im = 0 → ¬ nI im = 1 → False := fun y1 y2 => by
    rcases (by omega : im = 0 ∨ im = 1) with rfl | rfl
    · exact y1 rfl
    · exact y2 rfl
  rcases hI im g1 with ⟨i1, i2⟩ | ⟨i1, i2, i3⟩
  · refine step_read hR (.int (-2)) (fun Q hQ => cm_back (fun y1 y2 => (nx y1 y2).elim) (fun im' h e _ => hQ) (fun im' h e y => ?_)) (fun Q hQ => cx_backP (fun y1 y2 => (nx y1 y2).elim) (fun im' h e _ => hQ) (fun im' h e y => ?_))
    · cases ((nI_eq (by omega) (by omega)).mp e); exact absurd i1 y
    · cases ((nI_eq (by omega) (by omega)).mp e); exact absurd i2 y
  refine ⟨.int (Mm 13 (386 * (1 + im) + 2)), sr Mm 13 (fun j => if j < 386 then Mm 13 (386 * (1 + im) + j) else Mm 13 j), Lm, fun Q hQ => cm_back (fun y1 y2 => (nx y1 y2).elim) (fun im' h e y => ?_) (fun im' h e y => ?_), fun Q hQ => cx_backP (fun y1 y2 => (nx y1 y2).elim) (fun im' h e y => ?_) (fun im' h e y M' hM => ?_)⟩
  · cases ((nI_eq (by omega) (by omega)).mp e); rw [i1] at y; exact absurd y (by decide)
  · cases ((nI_eq (by omega) (by omega)).mp e); exact hQ
  · cases ((nI_eq (by omega) (by omega)).mp e); rw [i2] at y; exact absurd y (by decide)
  · cases ((nI_eq (by omega) (by omega)).mp e)
    obtain ⟨m1, m2, m3, m4, m5⟩ := hM
    have hLG : LG n ns (c + 1) (sr Mm 13 (fun j => if j < 386 then Mm 13 (386 * (1 + im) + j) else Mm 13 j)) M' 0 9 15 (pl rot) := by
      refine (i3.mono (by omega)).move (fun k hk => ?_) ?_ m2 (fun i hi => ?_)
      · rw [sr_at, if_pos (by omega), Nat.zero_add]
      · rw [m1, show 100 + 68 * im = 99 + 68 * im + 1 by omega]
      · rw [m3 i hi, show 107 + 68 * im + 6 * i = 99 + 68 * im + 8 + 6 * i by omega]
    have e2 : M' 9 2 = Mm 13 (386 * (1 + im) + 2) := by
      have := hLG.1 2 (by decide)
      rw [sr_at, if_pos (by omega)] at this
      exact this
    rw [e2]
    exact hQ rot M' Lx (mk_deed hT hI hX hS hl (fun l h => sr_ne _ _ h) (fun j hj => by rw [sr_at, if_neg (by omega)]) (fun l h => m5 l (by omega) (by omega)) hLG)
end SD4
