/-! ===== the class: deeds without sharing, images, sights, marks ===== -/
/-- what remember() leaves: k moments were known -/
def rem (M Mr : AM) (rot rot' k : Nat) : Prop := (∀ l, l < 15 ∨ (15 < l ∧ l < 39) ∨ 99 ≤ l → Mr l = M l) ∧ (∀ j, j ≠ 1 → Mr 15 j = M 15 j) ∧ ((k < 10 ∧ rot' = rot ∧ Mr 15 1 = nI (k + 1) ∧ (∀ i, i < k → mv Mr (pl rot i) = mv M (pl rot i)) ∧ mv Mr (pl rot k) = mv M 9) ∨ (k = 10 ∧ rot' = rot + 1 ∧ Mr 15 1 = nI 10 ∧ (∀ i, i < 9 → mv Mr (pl (rot + 1) i) = mv M (pl rot (i + 1))) ∧ mv Mr (pl (rot + 1) 9) = mv M 9))
theorem cx_rem {d rot k : Nat} {M : AM} {L : AL} {Q : QT} (hk : M 15 1 = nI k) (hk10 : k ≤ 10) (hq : ∀ rot' Mr, rem M Mr rot rot' k → Q none (Sx rot') Mr L) : CW E1_remember (d + 1) 0 [.ref 15] (Sx rot) M L Q := by
  refine cx_remember hk hk10 (fun hlt => hq _ _ ?_) (fun h10 => hq _ _ ?_)
  · have hr := pl_range rot k
    refine ⟨fun l hl => ?_, fun j hj => ?_, Or.inl ⟨hlt, rfl, um_same _ _ _ _, fun i hi => ?_, ?_⟩⟩
    · rw [um_ne _ _ _ (by omega), momCopy_ne (by omega)]
    · rw [um_oth _ _ _ hj, momCopy_ne (by omega)]
    · have h1 := pl_range rot i
      have h2 := pl_apart (rot := rot) (i := i) (j := k) (by omega) hlt (by omega)
      rw [mv_congr (M := momCopy M 9 (pl rot k)) (fun l g1 g2 => um_ne _ _ _ (by omega)), mv_copy_ne h2]
    · rw [mv_congr (M := momCopy M 9 (pl rot k)) (fun l g1 g2 => um_ne _ _ _ (by omega)), mv_copy]
  · have hr := pl_range (rot + 1) 9
    refine ⟨fun l hl => ?_, fun j hj => ?_, Or.inr ⟨h10, rfl, um_same _ _ _ _, fun i hi => ?_, ?_⟩⟩
    · rw [um_ne _ _ _ (by omega), momCopy_ne (by omega), um_ne _ _ _ (by omega)]
    · rw [um_oth _ _ _ hj, momCopy_ne (by omega), um_oth _ _ _ hj]
    · have h1 := pl_range (rot + 1) i
      have h2 := pl_apart (rot := rot + 1) (i := i) (j := 9) (by omega) (by decide) (by omega)
      rw [mv_congr (M := momCopy (um M 15 1 9) 9 (pl (rot + 1) 9)) (fun l g1 g2 => um_ne _ _ _ (by omega)), mv_copy_ne h2, mv_congr (M := M) (fun l g1 g2 => um_ne _ _ _ (by omega)), pl_next hi]
    · rw [mv_congr (M := momCopy (um M 15 1 9) 9 (pl (rot + 1) 9)) (fun l g1 g2 => um_ne _ _ _ (by omega)), mv_copy, mv_congr (M := M) (fun l g1 g2 => um_ne _ _ _ (by omega))]
theorem cx_votes {d rot n k : Nat} {h : Int32} {M : AM} {L : AL} {Q : QT} (hn : M 1 0 = nI n) (hn6 : n ≤ 6) (hk : M 15 1 = nI k) (hk10 : k ≤ 10) (h1 : (h < 0 ∨ nI n ≤ h) → Q (some (.int (-1))) (Sx rot) M L)
    (h2 : ∀ j, j < n → h = nI j → (fAb (M 9 0) (nI j) = 0 ∨ M 9 1 = nI j) → Q (some (.int (-2))) (Sx rot) M L)
    (h3 : ∀ j, j < n → h = nI j → ¬ fAb (M 9 0) (nI j) = 0 → ¬ M 9 1 = nI j → ∀ rot' Mr, rem M Mr rot rot' k → (gLack (M 9 0) (M 5) n j = 0 → Q (some (.int (nI j))) (Sx rot') (um Mr 9 1 (nI j)) L) ∧ (¬ gLack (M 9 0) (M 5) n j = 0 → Q (some (.int (M 9 1))) (Sx rot') Mr L)) : CW E7_votes (d + 3) 0 [.ref 0, .int h] (Sx rot) M L Q := by
  refine cw_ent ok7_votes noStop 60 ?_
  refine cx_isHand hn hn6 (fun e => h1 e) (fun j hj e => ?_)
  subst e
  refine cx_has (by omega) ?_
  refine iteI (fun e => h2 j hj rfl (Or.inl e)) (fun e => ?_)
  refine iteI (fun e1 => h2 j hj rfl (Or.inr e1)) (fun e1 => ?_)
  refine cx_rem hk hk10 (fun rot' Mr hr => ?_)
  have hq := h3 j hj rfl e e1 rot' Mr hr
  have m1 : Mr 1 0 = nI n := by rw [hr.1 1 (by omega)]; exact hn
  refine cx_lacking m1 hn6 (by omega) ?_
  rw [← hr.1 9 (by omega), ← hr.1 5 (by omega)] at hq
  refine iteI (fun e2 => ?_) (fun e2 => ?_)
  · exact hq.1 e2
  · exact hq.2 e2
theorem cx_maroons {d rot n k : Nat} {h : Int32} {M : AM} {L : AL} {Q : QT} (hn : M 1 0 = nI n) (hn6 : n ≤ 6) (hk : M 15 1 = nI k) (hk10 : k ≤ 10) (h1 : (h < 0 ∨ nI n ≤ h) → Q (some (.int (-1))) (Sx rot) M L)
    (h2 : ∀ j, j < n → h = nI j → fAb (M 9 0) (nI j) = 0 → Q (some (.int (-2))) (Sx rot) M L)
    (h3 : ∀ j, j < n → h = nI j → ¬ fAb (M 9 0) (nI j) = 0 → ∀ rot' Mr, rem M Mr rot rot' k → ∀ a, a = M 9 0 &&& (1 <<< (nI j &&& 31) ^^^ -1) → (M 9 1 = nI j → Q (some (.int (fBit a))) (Sx rot') (um (um Mr 9 0 a) 9 1 (firstUp a 0 6)) L) ∧ (¬ M 9 1 = nI j → Q (some (.int (fBit a))) (Sx rot') (um Mr 9 0 a) L)) : CW E7_maroons (d + 3) 0 [.ref 0, .int h] (Sx rot) M L Q := by
  refine cw_ent ok7_maroons noStop 60 ?_
  refine cx_isHand hn hn6 (fun e => h1 e) (fun j hj e => ?_)
  subst e
  refine cx_has (by omega) ?_
  refine iteI (fun e => h2 j hj rfl e) (fun e => ?_)
  refine cx_rem hk hk10 (fun rot' Mr hr => ?_)
  have hq := h3 j hj rfl e rot' Mr hr _ rfl
  rw [← hr.1 9 (by omega)] at hq
  refine iteI (fun e2 => ?_) (fun e2 => ?_)
  · refine cx_lowestOf ?_
    refine cx_bitCount ?_
    exact hq.1 e2
  · refine cx_bitCount ?_
    exact hq.2 e2
theorem cx_hides {d rot n k : Nat} {h c : Int32} {M : AM} {L : AL} {Q : QT} (hn : M 1 0 = nI n) (hn6 : n ≤ 6) (hk : M 15 1 = nI k) (hk10 : k ≤ 10) (h1 : ((h < 0 ∨ nI n ≤ h) ∨ fIn c 1 99 = 0) → Q (some (.int (-1))) (Sx rot) M L)
    (h2 : ∀ j, j < n → h = nI j → ¬ fIn c 1 99 = 0 → (fAb (M 9 0) (nI j) = 0 ∨ ¬ c ≤ M 9 2) → Q (some (.int (-2))) (Sx rot) M L)
    (h3 : ∀ j, j < n → h = nI j → ¬ fIn c 1 99 = 0 → ¬ fAb (M 9 0) (nI j) = 0 → c ≤ M 9 2 → ∀ rot' Mr, rem M Mr rot rot' k → Q (some (.int (M 13 j + c))) (Sx rot') (um (um Mr 9 2 (M 9 2 - c)) 13 j (M 13 j + c)) L) : CW E7_hides (d + 2) 0 [.ref 0, .int h, .int c] (Sx rot) M L Q := by
  refine cw_ent ok7_hides noStop 60 ?_
  refine cx_isHand hn hn6 (fun e => h1 (Or.inl e)) (fun j hj e => ?_)
  subst e
  refine iteI (fun e => h1 (Or.inr (by unfold fIn; rw [if_pos e]))) (fun e => ?_)
  refine iteI (fun e1 => ?_) (fun e1 => h1 (Or.inr (by unfold fIn; rw [if_neg e, if_pos (Int32.not_le.mp e1)])))
  have hf : ¬ fIn c 1 99 = 0 := by
    unfold fIn
    rw [if_neg e, if_neg (Int32.not_lt.mpr e1)]
    decide
  refine cx_has (by omega) ?_
  refine iteI (fun e2 => h2 j hj rfl hf (Or.inl e2)) (fun e2 => ?_)
  refine iteI (fun e3 => ?_) (fun e3 => h2 j hj rfl hf (Or.inr e3))
  refine cx_rem hk hk10 (fun rot' Mr hr => ?_)
  have hq := h3 j hj rfl hf e2 e3 rot' Mr hr
  rw [← hr.1 9 (by omega), ← hr.1 13 (by omega)] at hq
  refine inBI (n := 6) j rfl (by omega) ?_
  refine inBI (n := 6) j rfl (by omega) ?_
  refine inBI (n := 6) j rfl (by omega) ?_
  rw [um_same]
  exact hq
theorem cx_finds {d rot n k : Nat} {h : Int32} {M : AM} {L : AL} {Q : QT} (hn : M 1 0 = nI n) (hn6 : n ≤ 6) (hk : M 15 1 = nI k) (hk10 : k ≤ 10) (h1 : (h < 0 ∨ nI n ≤ h) → Q (some (.int (-1))) (Sx rot) M L)
    (h2 : ∀ j, j < n → h = nI j → M 13 j = 0 → Q (some (.int (-2))) (Sx rot) M L)
    (h3 : ∀ j, j < n → h = nI j → ¬ M 13 j = 0 → ∀ rot' Mr, rem M Mr rot rot' k → Q (some (.int (M 13 j))) (Sx rot') (um (um (um Mr 9 2 (M 9 2 + M 13 j)) 13 j 0) 11 j (M 11 j + 1)) L) : CW E7_finds (d + 2) 0 [.ref 0, .int h] (Sx rot) M L Q := by
  refine cw_ent ok7_finds noStop 60 ?_
  refine cx_isHand hn hn6 (fun e => h1 e) (fun j hj e => ?_)
  subst e
  refine inBI (n := 6) j rfl (by omega) ?_
  refine iteI (fun e => h2 j hj rfl e) (fun e => ?_)
  refine cx_rem hk hk10 (fun rot' Mr hr => ?_)
  have hq := h3 j hj rfl e rot' Mr hr
  rw [← hr.1 9 (by omega), ← hr.1 11 (by omega)] at hq
  refine inBI (n := 6) j rfl (by omega) ?_
  refine inBI (n := 6) j rfl (by omega) ?_
  refine inBI (n := 6) j rfl (by omega) ?_
  exact hq
theorem cx_undo {d rot k : Nat} {M : AM} {L : AL} {Q : QT} (hk : M 15 1 = nI k) (hk10 : k ≤ 10) (h1 : k = 0 → Q (some (.int (-2))) (Sx rot) M L)
    (h2 : ∀ k', k = k' + 1 → Q (some (.int (nI k'))) (Sx rot) (momCopy (um M 15 1 (nI k')) (pl rot k') 9) L) : CW E7_undo (d + 2) 0 [.ref 0] (Sx rot) M L Q := by
  refine cw_ent ok7_undo noStop 60 ?_
  refine cx_stepBack hk hk10 (fun e => h1 e) (fun k' e => ?_)
  have hq := h2 k' e
  have e1 : momCopy (um M 15 1 (nI k')) (pl rot k') 9 15 1 = nI k' := by
    rw [momCopy_ne (by omega), um_same]
  have hq' : Q (some (.int (momCopy (um M 15 1 (nI k')) (pl rot k') 9 15 1))) (Sx rot) (momCopy (um M 15 1 (nI k')) (pl rot k') 9) L := by rw [e1]; exact hq
  exact hq'
def gNow (M : AM) (n : Nat) (w : Int32) : Int32 := if w = 0 then M 9 2 else if w = 1 then M 9 1 else if w = 2 then M 9 0 else if w = 3 then sumTo (fun h => if fAb (M 9 0) (nI h) = 0 then 0 else fStr (M 3 h - M 11 h)) 6 else if w = 4 then sumTo (fPart (M 9 0) (M 9 1) (M 2)) 6 else if w = 5 then M 9 3 else if w = 6 then grivUp (M 9 0) (M 5) n n else -1
theorem cx_now {d rot n : Nat} {w : Int32} {M : AM} {L : AL} {Q : QT} (hn : M 1 0 = nI n) (hn6 : n ≤ 6) (hq : Q (some (.int (gNow M n w))) (Sx rot) M L) : CW E7_now (d + 4) 0 [.ref 0, .int w] (Sx rot) M L Q := by
  refine cw_ent ok7_now noStop 60 ?_
  unfold gNow at hq
  refine iteI (fun e => by rw [if_pos e] at hq; exact hq) (fun e => ?_)
  rw [if_neg e] at hq
  refine iteI (fun e => by rw [if_pos e] at hq; exact hq) (fun e => ?_)
  rw [if_neg e] at hq
  refine iteI (fun e => by rw [if_pos e] at hq; exact hq) (fun e => ?_)
  rw [if_neg e] at hq
  refine iteI (fun e => by rw [if_pos e] at hq; exact cx_forceOf hq) (fun e => ?_)
  rw [if_neg e] at hq
  refine iteI (fun e => by rw [if_pos e] at hq; exact cx_allParts hq) (fun e => ?_)
  rw [if_neg e] at hq
  refine iteI (fun e => by rw [if_pos e] at hq; exact hq) (fun e => ?_)
  rw [if_neg e] at hq
  refine iteI (fun e => by rw [if_pos e] at hq; exact cx_rivals hn hn6 hq) (fun e => ?_)
  rw [if_neg e] at hq
  exact hq
theorem cx_won {d rot n : Nat} {h : Int32} {M : AM} {L : AL} {Q : QT} (hn : M 1 0 = nI n) (hn6 : n ≤ 6) (h1 : (h < 0 ∨ nI n ≤ h) → Q (some (.int (-1))) (Sx rot) M L) (h2 : ∀ j, j < n → h = nI j → fAb (M 9 0) (nI j) = 0 → Q (some (.int (-9))) (Sx rot) M L)
    (h3 : ∀ j, j < n → h = nI j → ¬ fAb (M 9 0) (nI j) = 0 → Q (some (.int (gLack (M 9 0) (M 5) n j))) (Sx rot) M L) : CW E7_won (d + 3) 0 [.ref 0, .int h] (Sx rot) M L Q := by
  refine cw_ent ok7_won noStop 60 ?_
  refine cx_isHand hn hn6 (fun e => h1 e) (fun j hj e => ?_)
  subst e
  refine cx_has (by omega) ?_
  refine iteI (fun e => h2 j hj rfl e) (fun e => ?_)
  exact cx_lacking hn hn6 (by omega) (h3 j hj rfl e)
theorem cx_band {d rot n : Nat} {h : Int32} {M : AM} {L : AL} {Q : QT} (hn : M 1 0 = nI n) (hn6 : n ≤ 6) (h1 : (h < 0 ∨ nI n ≤ h) → Q (some (.int (-1))) (Sx rot) M L) (h2 : ∀ j, j < n → h = nI j → Q (some (.int (M 5 j &&& lkUp (M 5) j n &&& M 9 0))) (Sx rot) M L) : CW E7_band (d + 2) 0 [.ref 0, .int h] (Sx rot) M L Q := by
  refine cw_ent ok7_band noStop 60 ?_
  refine cx_isHand hn hn6 (fun e => h1 e) (fun j hj e => ?_)
  subst e
  refine inBI (n := 6) j rfl (by omega) ?_
  refine cx_likersOf hn hn6 (by omega) ?_
  exact h2 j hj rfl
theorem cx_saw {d rot n k : Nat} {s h : Int32} {M : AM} {L : AL} {Q : QT} (hn : M 1 0 = nI n) (hn6 : n ≤ 6) (hk : M 0 10 = nI k) (hk6 : k ≤ 6)
    (h1 : (s < 1 ∨ (1 : Int32) <<< (nI n &&& 31) ≤ s ∨ (h < 0 ∨ nI n ≤ h) ∨ fIsIn s h = 0) → Q (some (.int (-1))) (Sx rot) M L)
    (h2 : ∀ j, j < n → h = nI j → ¬ s < 1 → ¬ (1 : Int32) <<< (nI n &&& 31) ≤ s → ¬ fIsIn s h = 0 → k = 6 → Q (some (.int (-3))) (Sx rot) M L)
    (h3 : ∀ j, j < n → h = nI j → ¬ s < 1 → ¬ (1 : Int32) <<< (nI n &&& 31) ≤ s → ¬ fIsIn s h = 0 → k < 6 → Q (some (.int (M 0 10 + 1))) (Sx rot) (um (um (um M 29 k s) 30 k h) 0 10 (M 0 10 + 1)) L) : CW E7_saw (d + 2) 0 [.ref 0, .int s, .int h] (Sx rot) M L Q := by
  refine cw_ent ok7_saw noStop 60 ?_
  rw [← hn] at h1 h2 h3
  refine iteI (fun e => h1 (Or.inl e)) (fun e => ?_)
  refine iteI (fun e1 => h1 (Or.inr (Or.inl e1))) (fun e1 => ?_)
  refine cx_isHand hn hn6 (fun e2 => h1 (Or.inr (Or.inr (Or.inl (by rw [hn]; exact e2))))) (fun j hj e2 => ?_)
  refine cw_isIn ?_
  refine iteI (fun e3 => h1 (Or.inr (Or.inr (Or.inr e3)))) (fun e3 => ?_)
  refine iteI (fun (e4 : M 0 10 < 6) => ?_) (fun (e4 : ¬ M 0 10 < 6) => ?_)
  · have hlt : k < 6 := by
      rw [hk] at e4
      exact (nI_ltI (by omega) (by decide)).mp (show nI k < nI 6 from e4)
    refine inBI (n := 6) k hk hlt ?_
    refine inBI (n := 6) k hk hlt ?_
    exact h3 j hj e2 e e1 e3 hlt
  · refine h2 j hj e2 e e1 e3 ?_
    have : ¬ k < 6 := fun z => e4 (by rw [hk]; exact nI_lt z (by decide))
    omega
theorem cx_keen {d rot k : Nat} {M : AM} {L : AL} {Q : QT} (hk : M 0 10 = nI k) (hk6 : k ≤ 6) (hq : Q (some (.int (keenUp ((1 : Int32) <<< (M 1 0 &&& 31) - 1) (M 29) (M 30) k))) (Sx rot) M L) : CW E7_keen d 0 [.ref 0] (Sx rot) M L Q := by
  refine cw_ent ok7_keen (at1 14) 30 ?_
  refine aw_loop k (fun i => [some (.ref 0), some (.int (keenUp ((1 : Int32) <<< (M 1 0 &&& 31) - 1) (M 29) (M 30) i)), some (.int (nI i))]) (fun _ => M) ?_ ?_
  · refine aw_run ok7_keen (at1 14) 40 ?_
    exact ifT (c := M 0 10 ≤ nI k) (by rw [hk]; exact Int32.le_refl _) hq
  · intro i hi ih
    rw [nI_succ] at ih
    refine aw_run ok7_keen (at1 14) 40 ?_
    refine ifF (c := M 0 10 ≤ nI i) (by rw [hk]; exact nI_ge hi (by omega)) ?_
    refine ifF (nI_ge (b := 6) (by omega) (by decide)) ?_
    refine inBI (n := 6) i rfl (by omega) ?_
    refine inBI (n := 6) i rfl (by omega) ?_
    exact ih
/-- the bodies of the kinds -/
theorem cx_asHand {d rot j : Nat} (hj : j < 6) {M : AM} {L : AL} {Q : QT} (hq : Q (some (.int (M 2 j))) (Sx rot) M (ul L 0 11 (L 0 11 + 1))) : CW E7_asHand d 0 [.ref 0, .int (nI j)] (Sx rot) M L Q := by
  refine cw_ent ok7_asHand noStop 60 ?_
  exact inBI (n := 6) j rfl hj hq
theorem ul_ul (L : AL) (a b : Nat) (v w : Int64) : ul (ul L a b v) a b w = ul L a b w := by
  funext k
  by_cases h : k = a
  · subst h
    rw [ul_at, ul_at, ul_at]
    funext j
    by_cases hj : j = b
    · subst hj; rw [show Nat.beq j j = true from Nat.beq_refl j]; rfl
    · rw [nbeq_ne hj]
      show (bif Nat.beq j b then v else L k j) = L k j
      rw [nbeq_ne hj]; rfl
  · rw [ul_ne _ _ _ h, ul_ne _ _ _ h, ul_ne _ _ _ h]
theorem cx_mark {d rot n : Nat} {kd h : Int32} {M : AM} {L : AL} {Q : QT} (hn : M 1 0 = nI n) (hn6 : n ≤ 6) (h1 : ((kd < 0 ∨ nI 6 ≤ kd) ∨ (h < 0 ∨ nI n ≤ h)) → Q (some (.int (-1000000))) (Sx rot) M L)
    (h2 : ∀ i j, i < 6 → j < n → kd = nI i → h = nI j → ∀ L', (∀ a b, ¬ (a = 0 ∧ b = 11) → L' a b = L a b) → L' 0 11 = L 0 11 + mkL i → Q (some (.int (if i = 0 then M 2 j else if i = 1 then M 2 j + M 3 j else if i = 2 then M 2 j - M 11 j else if i = 3 then (M 2 j + M 3 j) * 2 else if i = 4 then M 2 j - M 11 j + M 4 j else M 2 j + M 14 j))) (Sx rot) M L') : CW E7_mark (d + 4) 0 [.ref 0, .int kd, .int h] (Sx rot) M L Q := by
  refine cw_ent ok7_mark noStop 60 ?_
  refine cx_isHand hn hn6 (fun e => h1 (Or.inr e)) (fun j hj e => ?_)
  subst e
  have fin : ∀ (L' : AL), (∃ v w z, L' = ul (ul (ul L 0 11 v) 0 11 w) 0 11 z) ∨ (∃ v w, L' = ul (ul L 0 11 v) 0 11 w) ∨ (∃ v, L' = ul L 0 11 v) → ∀ a b, ¬ (a = 0 ∧ b = 11) → L' a b = L a b := by
    intro L' hL a b hab
    have key : ∀ v, ul L 0 11 v a b = L a b := fun v => by
      by_cases ha : a = 0
      · subst ha
        rw [ul_at]
        show (bif Nat.beq b 11 then v else L 0 b) = L 0 b
        rw [nbeq_ne (fun z => hab ⟨rfl, z⟩)]
        rfl
      · rw [ul_ne _ _ _ ha]
    rcases hL with ⟨v, w, z, rfl⟩ | ⟨v, w, rfl⟩ | ⟨v, rfl⟩
    · rw [ul_ul, ul_ul]; exact key _
    · rw [ul_ul]; exact key _
    · exact key _
  refine iteI (fun e => ?_) (fun e0 => ?_)
  · have hq := h2 0 j (by decide) hj e rfl
    exact cx_asHand (by omega) (hq _ (fin _ (Or.inr (Or.inr ⟨_, rfl⟩))) rfl)
  refine iteI (fun e => ?_) (fun e1 => ?_)
  · have hq := h2 1 j (by decide) hj e rfl
    refine cw_ent ok7_asCarpenter noStop 60 ?_
    refine cx_asHand (by omega) ?_
    exact inBI (n := 6) j rfl (by omega) (hq _ (fin _ (Or.inr (Or.inl ⟨_, _, rfl⟩))) (by
      show L 0 11 + 10 + 1 = L 0 11 + 11
      rw [Int64.add_assoc]; rfl))
  refine iteI (fun e => ?_) (fun e2 => ?_)
  · have hq := h2 2 j (by decide) hj e rfl
    refine cw_ent ok7_asMusician noStop 60 ?_
    refine cx_asHand (by omega) ?_
    exact inBI (n := 6) j rfl (by omega) (hq _ (fin _ (Or.inr (Or.inl ⟨_, _, rfl⟩))) (by
      show L 0 11 + 100 + 1 = L 0 11 + 101
      rw [Int64.add_assoc]; rfl))
  refine iteI (fun e => ?_) (fun e3 => ?_)
  · have hq := h2 3 j (by decide) hj e rfl
    refine cw_ent ok7_asBoy noStop 60 ?_
    refine cw_ent ok7_asCarpenter noStop 60 ?_
    refine cx_asHand (by omega) ?_
    exact inBI (n := 6) j rfl (by omega) (hq _ (fin _ (Or.inl ⟨_, _, _, rfl⟩)) (by
      show L 0 11 + 1000 + 10 + 1 = L 0 11 + 1011
      rw [Int64.add_assoc, Int64.add_assoc]; rfl))
  refine iteI (fun e => ?_) (fun e4 => ?_)
  · have hq := h2 4 j (by decide) hj e rfl
    refine cw_ent ok7_asSick noStop 60 ?_
    refine cw_ent ok7_asMusician noStop 60 ?_
    refine cx_asHand (by omega) ?_
    refine inBI (n := 6) j rfl (by omega) ?_
    exact inBI (n := 6) j rfl (by omega) (hq _ (fin _ (Or.inl ⟨_, _, _, rfl⟩)) (by
      show L 0 11 + 10000 + 100 + 1 = L 0 11 + 10101
      rw [Int64.add_assoc, Int64.add_assoc]; rfl))
  refine iteI (fun e => ?_) (fun e5 => ?_)
  · have hq := h2 5 j (by decide) hj e rfl
    refine cw_ent ok7_asCook noStop 60 ?_
    refine cx_asHand (by omega) ?_
    exact inBI (n := 6) j rfl (by omega) (hq _ (fin _ (Or.inr (Or.inl ⟨_, _, rfl⟩))) (by
      show L 0 11 + 100000 + 1 = L 0 11 + 100001
      rw [Int64.add_assoc]; rfl))
  refine h1 (Or.inl ?_)
  rcases pk_ix kd (n := 6) (by decide) with z | z | ⟨i, hi, rfl⟩
  · exact Or.inl z
  · exact Or.inr z
  · exfalso
    rcases (by omega : i = 0 ∨ i = 1 ∨ i = 2 ∨ i = 3 ∨ i = 4 ∨ i = 5) with rfl | rfl | rfl | rfl | rfl | rfl
    · exact e0 rfl
    · exact e1 rfl
    · exact e2 rfl
    · exact e3 rfl
    · exact e4 rfl
    · exact e5 rfl
/-- the image's log: 99 + 68 im -/
theorem cx_keepP {d rot : Nat} {x : Int32} {M : AM} {L : AL} {Q : QT} (h1 : ¬ x = 0 → ¬ x = 1 → Q (some (.int (-1))) (Sx rot) M L)
    (h2 : ∀ im, im < 2 → x = nI im → ∀ M', kept M M' rot (99 + 68 * im) → Q (some (.int (M 9 2))) (Sx rot) (um M' (99 + 68 * im) 2 1) L) : CW E7_keep (d + 2) 0 [.ref 0, .int x] (Sx rot) M L Q := by
  refine cw_ent ok7_keep noStop 60 ?_
  refine cw_ent ok7_imageOf noStop 60 ?_
  refine iteI (fun e => ?_) (fun e => ?_)
  · refine cx_keep (Or.inl rfl) (fun M' hM => ?_)
    have hq := h2 0 (by decide) e M' hM
    have e9 : M' 9 2 = M 9 2 := by rw [hM.2.2.2.2 9 (by omega)]
    rw [← e9] at hq
    exact hq
  refine iteI (fun e1 => ?_) (fun e1 => h1 e e1)
  refine cx_keep (Or.inr rfl) (fun M' hM => ?_)
  have hq := h2 1 (by decide) e1 M' hM
  have e9 : M' 9 2 = M 9 2 := by rw [hM.2.2.2.2 9 (by omega)]
  rw [← e9] at hq
  exact hq
theorem cx_backP {d rot : Nat} {x : Int32} {M : AM} {L : AL} {Q : QT} (h1 : ¬ x = 0 → ¬ x = 1 → Q (some (.int (-1))) (Sx rot) M L) (h2 : ∀ im, im < 2 → x = nI im → M (99 + 68 * im) 2 = 0 → Q (some (.int (-2))) (Sx rot) M L)
    (h3 : ∀ im, im < 2 → x = nI im → ¬ M (99 + 68 * im) 2 = 0 → ∀ M', backed M M' rot (99 + 68 * im) → Q (some (.int (M' 9 2))) (Sx rot) M' L) : CW E7_back (d + 2) 0 [.ref 0, .int x] (Sx rot) M L Q := by
  refine cw_ent ok7_back noStop 60 ?_
  refine cw_ent ok7_imageOf noStop 60 ?_
  refine iteI (fun e => ?_) (fun e => ?_)
  · refine iteI (fun e2 => h2 0 (by decide) e e2) (fun e2 => ?_)
    refine cx_back (Or.inl rfl) (fun M' hM => ?_)
    exact h3 0 (by decide) e e2 M' hM
  refine iteI (fun e1 => ?_) (fun e1 => h1 e e1)
  refine iteI (fun e2 => h2 1 (by decide) e1 e2) (fun e2 => ?_)
  refine cx_back (Or.inr rfl) (fun M' hM => ?_)
  exact h3 1 (by decide) e1 e2 M' hM
