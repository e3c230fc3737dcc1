/-! ===== raid: the class's call ===== -/
def wkN (st : Nat → Nat) : Option Nat → Nat
  | none => 0
  | some h => st h
theorem cx_raidR {d rot ns mt F : Nat} {w : Option Nat} {st gn go : Nat → Nat} {M : AM} {L : AL} {Q : QT} (n5 : ns ≤ 5) (hs : M 1 1 = nI ns) (hgn : ∀ s, s < ns → M 6 s = nI (gn s)) (hgo : ∀ s, s < ns → M 7 s = nI (go s)) (gnb : ∀ s, gn s ≤ 60) (gob : ∀ s, go s ≤ 99) (hm : M 9 3 = nI mt) (m32 : mt < 32) (mp : pc6 mt ≤ ns) (hF : fcX M = nI F) (F30 : F < 2 ^ 29) (hw : wkX M = w) (hst : ∀ h, w = some h → fStr (M 3 h - M 11 h) = nI (st h)) (WF : wkN st w ≤ F)
    (hq : ∀ M', RDm M M' F (wkN st w) (ns - pc6 mt) [] (fdR (fun os => rnL gn go F (wkN st w) os 0 0) [] (ordL ns (ns - pc6 mt) mt) (0, [])) → Q none (Sx rot) M' L) : CW E3_reckon (d + (ns - pc6 mt) + 4) 0 [.ref 26, .ref 1, .ref 9] (Sx rot) M L Q := by
  refine cw_ent ok3_reckon (at1 38) 60 ?_
  refine cx_forceOf (d := d + (ns - pc6 mt) + 1) ?_
  refine cx_weakestOf (d := d + (ns - pc6 mt) + 1) ?_
  generalize hM1 : um M 26 4 (sumTo (fun h => if fAb (M 9 0) (nI h) = 0 then 0 else fStr (M 3 h - M 11 h)) 6) = M1
  have f1 : ∀ l, l ≠ 26 → M1 l = M l := fun l hl => by rw [← hM1, um_ne _ _ _ hl]
  have e4 : M1 26 4 = nI F := by rw [← hM1, um_same]; exact hF
  have ew : wkX M1 = w := by
    rw [← hw]; unfold wkX; rw [f1 9 (by decide), f1 3 (by decide), f1 11 (by decide)]
  have tail : ∀ v3, AW E3_reckon (d + (ns - pc6 mt) + 4) 0 (Sx rot).length Q 38 [some (.ref 26), some (.ref 1), some (.ref 9), v3] [.int (nI (wkN st w)), .ref 26] (Sx rot) M1 L 0 := by
    intro v3
    refine aw_run ok3_reckon noStop 60 ?_
    refine cx_bitCount ?_
    have b1 : fBit (M1 9 3) = nI (pc6 mt) := by rw [f1 9 (by decide), hm]; exact bit_nI mt (by omega)
    have s1 : M1 1 1 = nI ns := by rw [f1 1 (by decide)]; exact hs
    have m3 : M1 9 3 = nI mt := by rw [f1 9 (by decide)]; exact hm
    have mc : fBit (M1 9 3) = nI (pc6 mt) := b1
    have k0 := fun Q => cx_chaseNext (d := d + 1) (rot := rot) (M0 := M) (F := F) (W := wkN st w) (rl := ns - pc6 mt) (gn := gn) (go := go) (L := L) (by omega) n5 hs hgn hgo gnb gob WF F30 (ns - pc6 mt) mt 0 0 [] (0, []) (um (um (um M1 26 5 (nI (wkN st w))) 26 2 (M1 1 1 - fBit (M1 9 3))) 26 1 (-1)) Q m32 (Nat.zero_add _) (by omega) (by omega) (by decide) ⟨fun l hl => ?_, ?_, ?_, ?_, ?_, fun p hp => absurd hp (by exact Nat.not_lt_zero p), fun y => absurd y (by decide)⟩
    · rw [← m3] at k0
      rw [show d + 1 + (ns - pc6 mt) + 2 = d + (ns - pc6 mt) + 3 by omega] at k0
      refine k0 _ (fun M' h' => hq M' h')
    · rw [um_ne _ _ _ (by omega), um_ne _ _ _ (by omega), um_ne _ _ _ (by omega)]; exact f1 l (by omega)
    · rw [um_oth _ _ _ (by decide), um_oth _ _ _ (by decide), um_oth _ _ _ (by decide)]; exact e4
    · rw [um_oth _ _ _ (by decide), um_oth _ _ _ (by decide), um_same]
    · rw [um_oth _ _ _ (by decide), um_same, s1, b1, pk_sub mp]
    · rw [um_same]; decide
  have e9 : M1 9 0 = M 9 0 := by rw [f1 9 (by decide)]
  cases w with
  | none =>
    have := tail (some (.int (-9)))
    rw [ew]
    refine cx_hasAboard ?_
    exact this
  | some h =>
    obtain ⟨h6, hab⟩ := upB_rng (ab := fun h => fAb (M 9 0) (nI h)) (lt := ltS (fun h => fStr (M 3 h - M 11 h))) 6 h hw
    have := tail (some (.int (nI h)))
    rw [ew]
    refine cx_has h6 ?_
    refine ifF (c := fAb (M1 9 0) (nI h) = 0) (by rw [e9]; exact hab) ?_
    refine cx_strengthOf (d := d + (ns - pc6 mt) + 2) h6 ?_
    rw [f1 3 (by decide), f1 11 (by decide), hst h rfl]
    exact this
theorem cx_raid {d rot ns mt F : Nat} {i : Int32} {w : Option Nat} {st gn go : Nat → Nat} {M : AM} {L : AL} {Q : QT} (n5 : ns ≤ 5) (hs : M 1 1 = nI ns) (hgn : ∀ s, s < ns → M 6 s = nI (gn s)) (hgo : ∀ s, s < ns → M 7 s = nI (go s)) (gnb : ∀ s, gn s ≤ 60) (gob : ∀ s, go s ≤ 99) (hm : M 9 3 = nI mt) (m32 : mt < 32) (mp : pc6 mt ≤ ns) (hF : fcX M = nI F) (F30 : F < 2 ^ 29) (hw : wkX M = w) (hst : ∀ h, w = some h → fStr (M 3 h - M 11 h) = nI (st h)) (WF : wkN st w ≤ F)
    {s : Nat × List Nat} (hS : fdR (fun os => rnL gn go F (wkN st w) os 0 0) [] (ordL ns (ns - pc6 mt) mt) (0, []) = s) (s0 : 0 < s.1)
    (h1 : fIn i (-1) 4 = 0 → Q (some (.int (-1))) (Sx rot) M L) (h2 : i = -1 → ∀ M', xj M M' → Q (some (.int (nI s.1 - 1))) (Sx rot) M' L) (h3 : ∀ j, j < 5 → i = nI j → ns - pc6 mt ≤ j → ∀ M', xj M M' → Q (some (.int (-9))) (Sx rot) M' L) (h4 : ∀ j, j < ns - pc6 mt → i = nI j → ∀ M', xj M M' → Q (some (.int (nI (gtL s.2 j)))) (Sx rot) M' L) : CW E7_raid (d + (ns - pc6 mt) + 5) 0 [.ref 0, .int i] (Sx rot) M L Q := by
  have rk := fun Q hq => cx_raidR (d := d) (rot := rot) (L := L) (Q := Q) n5 hs hgn hgo gnb gob hm m32 mp hF F30 hw hst WF hq
  rw [hS] at rk
  refine cw_ent ok7_raid noStop 60 ?_
  refine iteI (fun (y : i < -1) => h1 (by unfold fIn; rw [if_pos y])) (fun (y : ¬ i < -1) => ?_)
  refine iteI (fun (z : i < 5) => ?_) (fun (z : ¬ i < 5) => h1 (by unfold fIn; rw [if_neg y, if_pos (Int32.lt_of_lt_of_le (by decide) (Int32.not_lt.mp z))]))
  refine rk _ (fun M' h' => ?_)
  have hx : xj M M' := fun l hl => h'.1 l (by omega)
  refine iteI (fun (e : i = -1) => ?_) (fun (e : ¬ i = -1) => ?_)
  · have := h2 e M' hx
    rw [← h'.2.2.2.2.1] at this
    exact this
  · obtain ⟨j, hj, rfl⟩ : ∃ j, j < 5 ∧ i = nI j := by
      rcases pk_ix i (n := 5) (by decide) with q | q | ⟨x, hx, rfl⟩
      · exfalso
        apply e
        rw [Int32.lt_iff_toInt_lt] at q y
        have z0 : (0 : Int32).toInt = 0 := by decide
        have z1 : (-1 : Int32).toInt = -1 := by decide
        exact Int32.toInt_inj.mp (by omega)
      · exact absurd z (Int32.not_lt.mpr q)
      · exact ⟨x, hx, rfl⟩
    by_cases q : ns - pc6 mt ≤ j
    · refine ifT (c := M' 26 2 ≤ nI j) (by rw [h'.2.2.2.1]; exact nI_le q (by omega)) ?_
      exact h3 j hj rfl q M' hx
    · refine ifF (c := M' 26 2 ≤ nI j) (by rw [h'.2.2.2.1]; exact nI_ge (by omega) (by omega)) ?_
      refine inBI (n := 5) j rfl hj ?_
      have := h4 j (by omega) rfl M' hx
      rw [← h'.2.2.2.2.2.2 s0 j (by omega)] at this
      exact this
