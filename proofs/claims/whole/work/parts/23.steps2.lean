/-! ===== deeds, side by side ===== -/
theorem Vq.congr2 {n ns c : Nat} {v v' : Nat → Int32} (h : Vq n ns c v) (hv : ∀ k, k < 35 → k ≠ 1 → ¬ (3 ≤ k ∧ k < 9) → ¬ (27 ≤ k ∧ k < 33) → v' k = v k) : Vq n ns c v' := by
  obtain ⟨⟨a, a1, a2⟩, ⟨mt, tk, m1, m2, m3, m4⟩, ⟨ch, hd, h3, h4, h5⟩, h6, h7⟩ := h
  refine ⟨⟨a, a1, by rw [hv 0 (by decide) (by decide) (by omega) (by omega)]; exact a2⟩, ⟨mt, tk, m1, by rw [hv 33 (by decide) (by decide) (by omega) (by omega)]; exact m2, by rw [hv 34 (by decide) (by decide) (by omega) (by omega)]; exact m3, m4⟩, ⟨ch, hd, by rw [hv 2 (by decide) (by decide) (by omega) (by omega)]; exact h3, fun h hh => by rw [hv _ (by omega) (by omega) (by omega) (by omega)]; exact h4 h hh, h5⟩, fun h hh => ?_, fun h hh => ?_⟩
  · obtain ⟨w, g1, g2⟩ := h6 h hh
    exact ⟨w, g1, by rw [hv _ (by omega) (by omega) (by omega) (by omega)]; exact g2⟩
  · obtain ⟨w, g1, g2, g3⟩ := h7 h hh
    exact ⟨w, g1, by rw [hv _ (by omega) (by omega) (by omega) (by omega)]; exact g2, g3⟩
theorem kM_at (M : AM) (k : Nat) : kM M k 13 = knowV (M 13) k := sr_at _ _ _
theorem kM_ne (M : AM) (k : Nat) {l : Nat} (h : l ≠ 13) : kM M k l = M l := sr_ne _ _ h
theorem um_upd (M : AM) (l j : Nat) (v : Int32) : um M l j v l = upd (M l) j v := by
  rw [um_eq_sr, sr_at]
theorem knowV_hi {v : Nat → Int32} {k j : Nat} (hk : k ≤ 10) (h : 386 ≤ j) : knowV v k j = v j := by
  unfold knowV
  rw [if_neg (by omega)]
  split
  · rw [if_neg (by omega), if_neg (by omega)]
  · rw [if_neg (by omega)]
theorem rem_base {n ns c rot rot' k : Nat} {Mm Mx Mr : AM} (hL : LG n ns c Mm Mx 0 9 15 (pl rot)) (hr : rem Mx Mr rot rot' k) : ∀ j, j < 35 → mv Mr 9 j = knowV (Mm 13) k j := by
  intro j hj
  rw [mv_congr (M := Mx) (fun l h1 h2 => hr.1 l (by omega)), hL.1 j hj, knowV_lt hj, Nat.zero_add]
theorem Vq.known {n ns c k : Nat} {Mm Mx : AM} {rot : Nat} (hL : LG n ns c Mm Mx 0 9 15 (pl rot)) : Vq n ns (c + 1) (knowV (Mm 13) k) := (hL.2.1.mono (by omega)).congr (fun j hj => by rw [knowV_lt hj, Nat.zero_add])
/-- the deed's end: both vectors changed alike -/
theorem mk_step {n ns np c rot rot' k : Nat} {Mm Mx Mr Mm' Mx' : AM} {Lm Lx : AL} (hT : RT n ns np Mm Mx) (hL : LG n ns c Mm Mx 0 9 15 (pl rot)) (hI : ∀ im, im < 2 → RI n ns c Mm Mx im) (hX : RX Mm Mx) (hS : RS n Mm Mx) (hl : Lm 0 0 = Lx 0 11) (hk10 : k ≤ 10) (hk : Mx 15 1 = nI k) (hr : rem Mx Mr rot rot' k)
    (hmo : ∀ l, l ≠ 13 → Mm' l = Mm l) (hm : ∀ j, 35 ≤ j → Mm' 13 j = knowV (Mm 13) k j) (hx : ∀ l, l < 9 ∨ 15 ≤ l → Mx' l = Mr l) (hv : ∀ j, j < 35 → mv Mx' 9 j = Mm' 13 j) (hq : Vq n ns (c + 1) (Mm' 13)) : Rel (c + 1) rot' Mm' Lm Mx' Lx :=
  mk_deed hT hI hX hS hl hmo (fun j hj => by rw [hm j (by omega), knowV_hi hk10 hj]) (fun l h => by rw [hx l (by omega), hr.1 l (by omega)]) (hL.deed hk hr (fun j h1 _ => hm j h1) hx hv hq)
section SD3
variable {c rot : Nat} {Mm : AM} {Lm : AL} {Mx : AM} {Lx : AL}
theorem st_votes (hR : Rel c rot Mm Lm Mx Lx) (h : Int32) : Step E8_votes E7_votes [.int h] c rot Mm Lm Mx Lx := by
  obtain ⟨n, ns, np, hT, hL, hI, hX, hS, hl⟩ := id hR
  obtain ⟨⟨n6, n5, p5⟩, ⟨hn, hn'⟩, -⟩ := id hT
  obtain ⟨b, b1, b2, b3, b4⟩ := likes_of hT
  obtain ⟨v0, v1, -⟩ := vec_all hL.1
  obtain ⟨⟨a, a1, a2⟩, -⟩ := hL.2.1
  have a2 : Mm 13 0 = nI a := by simpa using a2
  have hp := pow_le6 n6
  obtain ⟨-, -, k, k10, k2, k3, -⟩ := id hL
  have k2 : Mm 13 35 = nI k := by simpa using k2
  rcases ix_cases h n6 with ⟨g, bad⟩ | ⟨j, hj, rfl, bad, uq⟩
  · exact step_read hR (.int (-1)) (fun Q hQ => cm_votes hn n6 k2 k10 (fun _ => hQ) (fun j hj e => (bad j hj e).elim) (fun j hj e => (bad j hj e).elim)) (fun Q hQ => cx_votes hn' n6 k3 k10 (fun _ => hQ) (fun j hj e => (bad j hj e).elim) (fun j hj e => (bad j hj e).elim))
  by_cases z : fAb (Mm 13 0) (nI j) = 0 ∨ Mm 13 1 = nI j
  · refine step_read hR (.int (-2)) (fun Q hQ => cm_votes hn n6 k2 k10 (fun y => absurd y bad) (fun j' hj' e' _ => hQ) (fun j' hj' e' y1 y2 => ?_)) (fun Q hQ => cx_votes hn' n6 k3 k10 (fun y => absurd y bad) (fun j' hj' e' _ => hQ) (fun j' hj' e' y1 y2 => ?_))
    · cases uq j' hj' e'; exact absurd z (fun z => z.elim y1 y2)
    · cases uq j' hj' e'
      rw [v0] at y1; rw [v1] at y2
      exact absurd z (fun z => z.elim y1 y2)
  have z1 : ¬ fAb (Mm 13 0) (nI j) = 0 := fun y => z (Or.inl y)
  have z2 : ¬ Mm 13 1 = nI j := fun y => z (Or.inr y)
  have hlk : gLack (Mx 9 0) (Mx 5) n j = 0 ↔ ¬ fVoted (Mm 13 0) (Mm 6) n j = 0 := by
    rw [v0, gLack_congr b2, a2]
    exact (lack_eq n6 hj (by omega) b1 (fun h => b3 j h)).2
  refine ⟨.int (if fVoted (Mm 13 0) (Mm 6) n j = 0 then Mm 13 1 else nI j), um (kM Mm k) 13 1 (if fVoted (Mm 13 0) (Mm 6) n j = 0 then Mm 13 1 else nI j), Lm, fun Q hQ => cm_votes hn n6 k2 k10 (fun y => absurd y bad) (fun j' hj' e' y => ?_) (fun j' hj' e' y1 y2 => ?_), fun Q hQ => cx_votes hn' n6 k3 k10 (fun y => absurd y bad) (fun j' hj' e' y => ?_) (fun j' hj' e' y1 y2 rot' Mr hr => ?_)⟩
  · cases uq j' hj' e'; exact absurd y z
  · cases uq j' hj' e'; exact hQ
  · cases uq j' hj' e'; rw [v0, v1] at y; exact absurd y z
  · cases uq j' hj' e'
    have hb := rem_base hL hr
    constructor
    · intro hg
      have hf := hlk.mp hg
      rw [if_neg hf] at hQ
      refine hQ rot' _ Lx (mk_step hT hL hI hX hS hl k10 k3 hr (fun l hl => by rw [um_ne _ _ _ hl, kM_ne _ _ hl]) (fun i hi => by rw [um_upd, kM_at, pk_un (by omega)]) (fun l hl => um_ne _ _ _ (by omega)) (fun i hi => ?_) ?_)
      · rw [mv_um_f _ _ _ _ (by decide) hi, um_upd, kM_at]
        exact upd_congr (hb i hi) rfl
      · rw [um_upd, kM_at]
        exact (Vq.known hL).congr2 (fun i h1 h2 h3 h4 => pk_un h2)
    · intro hg
      have hf : fVoted (Mm 13 0) (Mm 6) n j = 0 := Classical.byContradiction fun y => hg (hlk.mpr y)
      rw [if_pos hf, ← v1] at hQ
      refine hQ rot' _ Lx (mk_step hT hL hI hX hS hl k10 k3 hr (fun l hl => by rw [um_ne _ _ _ hl, kM_ne _ _ hl]) (fun i hi => by rw [um_upd, kM_at, pk_un (by omega)]) (fun l hl => rfl) (fun i hi => ?_) ?_)
      · rw [um_upd, kM_at, hb i hi]
        by_cases h1 : i = 1
        · subst h1; rw [pk_us, knowV_lt (by decide), v1]
        · rw [pk_un h1]
      · rw [um_upd, kM_at]
        exact (Vq.known hL).congr2 (fun i h1 h2 h3 h4 => pk_un h2)
theorem clr_nI : ∀ a, a < 64 → ∀ j, j < 6 → nI a &&& ((1 : Int32) <<< (nI j &&& 31) ^^^ -1) = nI (a &&& (63 - 2 ^ j)) := by decide +kernel
theorem Vq.aboard {n ns c a : Nat} {v : Nat → Int32} (h : Vq n ns c v) (ha : a < 2 ^ n) (x : Int32) : Vq n ns c (upd (upd v 0 (nI a)) 1 x) := by
  obtain ⟨-, ⟨mt, tk, m1, m2, m3, m4⟩, ⟨ch, hd, h3, h4, h5⟩, h6, h7⟩ := h
  have e : ∀ k, k ≠ 0 → k ≠ 1 → upd (upd v 0 (nI a)) 1 x k = v k := fun k h0 h1 => by rw [pk_un h1, pk_un h0]
  refine ⟨⟨a, ha, by rw [pk_un (by decide), pk_us]⟩, ⟨mt, tk, m1, by rw [e 33 (by decide) (by decide)]; exact m2, by rw [e 34 (by decide) (by decide)]; exact m3, m4⟩, ⟨ch, hd, by rw [e 2 (by decide) (by decide)]; exact h3, fun h hh => by rw [e _ (by omega) (by omega)]; exact h4 h hh, h5⟩, fun h hh => ?_, fun h hh => ?_⟩
  · obtain ⟨w, g1, g2⟩ := h6 h hh
    exact ⟨w, g1, by rw [e _ (by omega) (by omega)]; exact g2⟩
  · obtain ⟨w, g1, g2, g3⟩ := h7 h hh
    exact ⟨w, g1, by rw [e _ (by omega) (by omega)]; exact g2, g3⟩
theorem st_maroons (hR : Rel c rot Mm Lm Mx Lx) (h : Int32) : Step E8_maroons E7_maroons [.int h] c rot Mm Lm Mx Lx := by
  obtain ⟨n, ns, np, hT, hL, hI, hX, hS, hl⟩ := id hR
  obtain ⟨⟨n6, n5, p5⟩, ⟨hn, hn'⟩, -⟩ := id hT
  obtain ⟨v0, v1, -⟩ := vec_all hL.1
  obtain ⟨⟨a, a1, a2⟩, -⟩ := hL.2.1
  have a2 : Mm 13 0 = nI a := by simpa using a2
  have hp := pow_le6 n6
  obtain ⟨-, -, k, k10, k2, k3, -⟩ := id hL
  have k2 : Mm 13 35 = nI k := by simpa using k2
  rcases ix_cases h n6 with ⟨g, bad⟩ | ⟨j, hj, rfl, bad, uq⟩
  · exact step_read hR (.int (-1)) (fun Q hQ => cm_maroons hn n6 k2 k10 (fun _ => hQ) (fun j hj e => (bad j hj e).elim) (fun j hj e => (bad j hj e).elim)) (fun Q hQ => cx_maroons hn' n6 k3 k10 (fun _ => hQ) (fun j hj e => (bad j hj e).elim) (fun j hj e => (bad j hj e).elim))
  by_cases z : fAb (Mm 13 0) (nI j) = 0
  · refine step_read hR (.int (-2)) (fun Q hQ => cm_maroons hn n6 k2 k10 (fun y => absurd y bad) (fun j' hj' e' _ => hQ) (fun j' hj' e' y1 => ?_)) (fun Q hQ => cx_maroons hn' n6 k3 k10 (fun y => absurd y bad) (fun j' hj' e' _ => hQ) (fun j' hj' e' y1 => ?_))
    · cases uq j' hj' e'; exact absurd z y1
    · cases uq j' hj' e'; rw [v0] at y1; exact absurd z y1
  have ea : Mm 13 0 &&& ((1 : Int32) <<< (nI j &&& 31) ^^^ -1) = nI (a &&& (63 - 2 ^ j)) := by rw [a2, clr_nI a (by omega) j (by omega)]
  have hlt : a &&& (63 - 2 ^ j) < 2 ^ n := Nat.lt_of_le_of_lt Nat.and_le_left a1
  generalize hA : a &&& (63 - 2 ^ j) = A at ea hlt
  have e64 : A < 64 := by omega
  refine ⟨.int (manyUp (nI A) 6), um (um (kM Mm k) 13 0 (nI A)) 13 1 (if Mm 13 1 = nI j then firstUp (nI A) 0 6 else Mm 13 1), Lm, fun Q hQ => cm_maroons hn n6 k2 k10 (fun y => absurd y bad) (fun j' hj' e' y => ?_) (fun j' hj' e' y1 A' cp' hA' hcp' => ?_), fun Q hQ => cx_maroons hn' n6 k3 k10 (fun y => absurd y bad) (fun j' hj' e' y => ?_) (fun j' hj' e' y1 rot' Mr hr A' hA' => ?_)⟩
  · cases uq j' hj' e'; exact absurd y z
  · cases uq j' hj' e'
    rw [ea] at hA'
    subst hA'
    subst hcp'
    exact hQ
  · cases uq j' hj' e'; rw [v0] at y; exact absurd y z
  · cases uq j' hj' e'
    rw [v0, ea] at hA'
    subst hA'
    have hb := rem_base hL hr
    have fin : ∀ x Mx', (∀ l, l < 9 ∨ 15 ≤ l → Mx' l = Mr l) → (∀ i, i < 35 → mv Mx' 9 i = upd (upd (knowV (Mm 13) k) 0 (nI A)) 1 x i) → Rel (c + 1) rot' (um (um (kM Mm k) 13 0 (nI A)) 13 1 x) Lm Mx' Lx := fun x Mx' h1 h2 => mk_step hT hL hI hX hS hl k10 k3 hr (fun l hl => by rw [um_ne _ _ _ hl, um_ne _ _ _ hl, kM_ne _ _ hl]) (fun i hi => by rw [um_upd, um_upd, kM_at, pk_un (by omega), pk_un (by omega)]) h1 (fun i hi => by rw [um_upd, um_upd, kM_at]; exact h2 i hi) (by rw [um_upd, um_upd, kM_at]; exact (Vq.known hL).aboard hlt x)
    rw [bit_nI A e64, ← many_nI A e64]
    constructor
    · intro hc
      rw [v1] at hc
      rw [if_pos hc] at hQ
      refine hQ rot' _ Lx (fin _ _ (fun l hl => by rw [um_ne _ _ _ (by omega), um_ne _ _ _ (by omega)]) (fun i hi => ?_))
      rw [mv_um_f _ _ _ _ (by decide) hi]
      refine upd_congr ?_ rfl
      rw [mv_um_f _ _ _ _ (by decide) hi]
      exact upd_congr (hb i hi) rfl
    · intro hc
      rw [v1] at hc
      rw [if_neg hc] at hQ
      refine hQ rot' _ Lx (fin _ _ (fun l hl => um_ne _ _ _ (by omega)) (fun i hi => ?_))
      rw [mv_um_f _ _ _ _ (by decide) hi]
      by_cases h1 : i = 1
      · subst h1
        rw [pk_us]
        show upd (mv Mr 9) 0 (nI A) 1 = _
        rw [pk_un (by decide), hb 1 (by decide), knowV_lt (by decide)]
      · rw [pk_un h1]
        exact upd_congr (hb i hi) rfl
end SD3
