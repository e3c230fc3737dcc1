/-! ===== the class: small methods ===== -/
def ushr (x k : Int32) : Int32 := (x.toUInt32 >>> (k.toUInt32 &&& Int32.toUInt32 31)).toInt32
def bc1 (x : Int32) : Int32 := x - (ushr x 1 &&& 1431655765)
def bc2 (x : Int32) : Int32 := (x &&& 858993459) + (ushr x 2 &&& 858993459)
def bc3 (x : Int32) : Int32 := (x + ushr x 4) &&& 252645135
def bc4 (x : Int32) : Int32 := x + ushr x 8
def bc5 (x : Int32) : Int32 := x + ushr x 16
def fBit (x : Int32) : Int32 := bc5 (bc4 (bc3 (bc2 (bc1 x)))) &&& 63
theorem cx_bitCount {d : Nat} {x : Int32} {S : AS} {M : AM} {L : AL} {Q : QT} (hq : Q (some (.int (fBit x))) S M L) : CW E10_bitCount d 0 [.int x] S M L Q := by
  refine cw_ent ok10_bitCount noStop 60 ?_
  exact hq
theorem cx_lowestOf {d : Nat} {s : Int32} {S : AS} {M : AM} {L : AL} {Q : QT} (h : Q (some (.int (firstUp s 0 6))) S M L) : CW E7_lowestOf (d + 1) 0 [.int s] S M L Q := by
  refine cw_ent ok7_lowestOf (at1 2) 30 ?_
  have key : ∀ n i, i + n = 6 → Q (some (.int (firstUp s i n))) S M L → AW E7_lowestOf (d + 1) 0 S.length Q 2 [some (.int s), some (.int (nI i))] [] S M L 0 := by
    intro n
    induction n with
    | zero =>
      intro i hi hq
      have : i = 6 := by omega
      subst this
      refine aw_run ok7_lowestOf (at1 2) 30 ?_
      exact hq
    | succ n ih =>
      intro i hi hq
      refine aw_run ok7_lowestOf (at1 2) 30 ?_
      refine ifF (nI_ge (b := 6) (by omega) (by decide)) ?_
      refine cw_isIn ?_
      rw [fIsIn_nI (by omega)]
      unfold firstUp at hq
      by_cases h1 : s >>> (nI i &&& 31) &&& 1 = 1
      · rw [if_pos h1] at hq
        refine ifF (by unfold fAb; rw [if_pos h1]; decide) ?_
        exact hq
      · rw [if_neg h1] at hq
        refine ifT (by unfold fAb; rw [if_neg h1]) ?_
        have := ih (i + 1) (by omega) hq
        rw [nI_succ] at this
        exact this
  exact key 6 0 rfl h
theorem cx_isHand {d rot n : Nat} {h : Int32} {M : AM} {L : AL} {Q : QT} (hn : M 1 0 = nI n) (hn6 : n ≤ 6) (h1 : (h < 0 ∨ nI n ≤ h) → Q (some (.int 0)) (Sx rot) M L) (h2 : ∀ j, j < n → h = nI j → Q (some (.int 1)) (Sx rot) M L) : CW E7_isHand d 0 [.ref 0, .int h] (Sx rot) M L Q := by
  refine cw_ent ok7_isHand noStop 30 ?_
  refine iteI (fun e => h1 (Or.inl e)) (fun e => ?_)
  refine iteI (fun (e1 : M 1 0 ≤ h) => h1 (Or.inr (hn ▸ e1))) (fun (e1 : ¬ M 1 0 ≤ h) => ?_)
  rw [hn] at e1
  rcases pk_ix h (n := n) (by omega) with z | z | ⟨j, hj, rfl⟩
  · exact absurd z e
  · exact absurd z e1
  · exact h2 j hj rfl
theorem cx_isShip {d rot n : Nat} {h : Int32} {M : AM} {L : AL} {Q : QT} (hn : M 1 1 = nI n) (hn6 : n ≤ 6) (h1 : (h < 0 ∨ nI n ≤ h) → Q (some (.int 0)) (Sx rot) M L) (h2 : ∀ j, j < n → h = nI j → Q (some (.int 1)) (Sx rot) M L) : CW E7_isShip d 0 [.ref 0, .int h] (Sx rot) M L Q := by
  refine cw_ent ok7_isShip noStop 30 ?_
  refine iteI (fun e => h1 (Or.inl e)) (fun e => ?_)
  refine iteI (fun (e1 : M 1 1 ≤ h) => h1 (Or.inr (hn ▸ e1))) (fun (e1 : ¬ M 1 1 ≤ h) => ?_)
  rw [hn] at e1
  rcases pk_ix h (n := n) (by omega) with z | z | ⟨j, hj, rfl⟩
  · exact absurd z e
  · exact absurd z e1
  · exact h2 j hj rfl
theorem cx_isPiece {d rot n : Nat} {h : Int32} {M : AM} {L : AL} {Q : QT} (hn : M 1 2 = nI n) (hn6 : n ≤ 6) (h1 : (h < 0 ∨ nI n ≤ h) → Q (some (.int 0)) (Sx rot) M L) (h2 : ∀ j, j < n → h = nI j → Q (some (.int 1)) (Sx rot) M L) : CW E7_isPiece d 0 [.ref 0, .int h] (Sx rot) M L Q := by
  refine cw_ent ok7_isPiece noStop 30 ?_
  refine iteI (fun e => h1 (Or.inl e)) (fun e => ?_)
  refine iteI (fun (e1 : M 1 2 ≤ h) => h1 (Or.inr (hn ▸ e1))) (fun (e1 : ¬ M 1 2 ≤ h) => ?_)
  rw [hn] at e1
  rcases pk_ix h (n := n) (by omega) with z | z | ⟨j, hj, rfl⟩
  · exact absurd z e
  · exact absurd z e1
  · exact h2 j hj rfl
theorem cx_type {d rot t : Nat} {c : Int32} {M : AM} {L : AL} {Q : QT} (ht : M 17 1 = nI t) (ht2 : t ≤ 150) (h1 : fIn c 0 255 = 0 → Q (some (.int (-1))) (Sx rot) M L) (h2 : ¬ fIn c 0 255 = 0 → t = 150 → Q (some (.int (-3))) (Sx rot) M L)
    (h3 : ¬ fIn c 0 255 = 0 → t < 150 → Q (some (.int (M 17 1 + 1))) (Sx rot) (um (um M 18 t c) 17 1 (M 17 1 + 1)) L) : CW E7_type (d + 1) 0 [.ref 0, .int c] (Sx rot) M L Q := by
  refine cw_ent ok7_type noStop 60 ?_
  refine iteI (fun e => h1 (by unfold fIn; rw [if_pos e])) (fun e => ?_)
  refine iteI (fun e1 => ?_) (fun e1 => h1 (by unfold fIn; rw [if_neg e, if_pos (Int32.not_le.mp e1)]))
  have hf : ¬ fIn c 0 255 = 0 := by
    unfold fIn
    rw [if_neg e, if_neg (Int32.not_lt.mpr e1)]
    decide
  refine cw_ent ok4_append noStop 60 ?_
  refine ifF (c := M 17 1 < 0) (by rw [ht]; exact nI_pos (by omega)) ?_
  refine iteI (fun (e2 : M 17 1 < 150) => ?_) (fun (e2 : ¬ M 17 1 < 150) => ?_)
  · have hlt : t < 150 := by
      rw [ht] at e2
      exact (nI_ltI (by omega) (by decide)).mp (show nI t < nI 150 from e2)
    refine inBI (n := 150) t ht hlt ?_
    exact h3 hf hlt
  · refine h2 hf ?_
    have : ¬ t < 150 := fun z => e2 (by rw [ht]; exact nI_lt z (by decide))
    omega
theorem cx_clear {d rot : Nat} {M : AM} {L : AL} {Q : QT} (h : Q (some (.int (M 17 1))) (Sx rot) (um M 17 1 0) L) : CW E7_clear d 0 [.ref 0] (Sx rot) M L Q := by
  refine cw_ent ok7_clear noStop 60 ?_
  exact h
theorem cx_forget {d rot : Nat} {M : AM} {L : AL} {Q : QT} (h : Q (some (.int (M 0 10))) (Sx rot) (um M 0 10 0) L) : CW E7_forget d 0 [.ref 0] (Sx rot) M L Q := by
  refine cw_ent ok7_forget noStop 60 ?_
  exact h
theorem cx_trace {d rot : Nat} {M : AM} {L : AL} {Q : QT} (h : Q (some (.long (L 0 11))) (Sx rot) M L) : CW E7_trace d 0 [.ref 0] (Sx rot) M L Q := by
  refine cw_ent ok7_trace noStop 60 ?_
  exact h
theorem cx_piece {d rot n : Nat} {p : Int32} {M : AM} {L : AL} {Q : QT} (hn : M 1 2 = nI n) (hn5 : n ≤ 5) (h1 : (p < 0 ∨ nI n ≤ p) → Q (some (.int (-1))) (Sx rot) M L) (h2 : ∀ j, j < n → p = nI j → Q (some (.int (M 8 j))) (Sx rot) M L) : CW E7_piece (d + 1) 0 [.ref 0, .int p] (Sx rot) M L Q := by
  refine cw_ent ok7_piece noStop 60 ?_
  refine cx_isPiece hn (by omega) (fun e => h1 e) (fun j hj e => ?_)
  exact inBI (n := 5) j e (by omega) (h2 j hj e)
def gHand (M : AM) (j : Nat) (w : Int32) : Int32 := if w = 0 then M 2 j else if w = 1 then M 3 j else if w = 2 then M 4 j else if w = 3 then M 5 j else if w = 4 then fAb (M 9 0) (nI j) else if w = 5 then M 10 j else if w = 6 then M 11 j else if w = 7 then M 12 j else if w = 8 then M 13 j else if w = 9 then M 14 j else -1
theorem cx_hand {d rot n : Nat} {h w : Int32} {M : AM} {L : AL} {Q : QT} (hn : M 1 0 = nI n) (hn6 : n ≤ 6) (h1 : (h < 0 ∨ nI n ≤ h) → Q (some (.int (-1))) (Sx rot) M L) (h2 : ∀ j, j < n → h = nI j → Q (some (.int (gHand M j w))) (Sx rot) M L) : CW E7_hand (d + 2) 0 [.ref 0, .int h, .int w] (Sx rot) M L Q := by
  refine cw_ent ok7_hand noStop 60 ?_
  refine cx_isHand hn hn6 (fun e => h1 e) (fun j hj e => ?_)
  subst e
  have hq := h2 j hj rfl
  unfold gHand at hq
  refine iteI (fun e => ?_) (fun e => ?_)
  · rw [if_pos e] at hq
    exact inBI (n := 6) j rfl (by omega) hq
  rw [if_neg e] at hq
  refine iteI (fun e => ?_) (fun e => ?_)
  · rw [if_pos e] at hq
    exact inBI (n := 6) j rfl (by omega) hq
  rw [if_neg e] at hq
  refine iteI (fun e => ?_) (fun e => ?_)
  · rw [if_pos e] at hq
    exact inBI (n := 6) j rfl (by omega) hq
  rw [if_neg e] at hq
  refine iteI (fun e => ?_) (fun e => ?_)
  · rw [if_pos e] at hq
    exact inBI (n := 6) j rfl (by omega) hq
  rw [if_neg e] at hq
  refine iteI (fun e => ?_) (fun e => ?_)
  · rw [if_pos e] at hq
    refine cx_has (by omega) ?_
    rcases fAb_01 (M 9 0) (nI j) with z | z
    · rw [z] at hq
      exact ifT z hq
    · rw [z] at hq
      exact ifF (by rw [z]; decide) hq
  rw [if_neg e] at hq
  refine iteI (fun e => ?_) (fun e => ?_)
  · rw [if_pos e] at hq
    exact inBI (n := 6) j rfl (by omega) hq
  rw [if_neg e] at hq
  refine iteI (fun e => ?_) (fun e => ?_)
  · rw [if_pos e] at hq
    exact inBI (n := 6) j rfl (by omega) hq
  rw [if_neg e] at hq
  refine iteI (fun e => ?_) (fun e => ?_)
  · rw [if_pos e] at hq
    exact inBI (n := 6) j rfl (by omega) hq
  rw [if_neg e] at hq
  refine iteI (fun e => ?_) (fun e => ?_)
  · rw [if_pos e] at hq
    exact inBI (n := 6) j rfl (by omega) hq
  rw [if_neg e] at hq
  refine iteI (fun e => ?_) (fun e => ?_)
  · rw [if_pos e] at hq
    exact inBI (n := 6) j rfl (by omega) hq
  rw [if_neg e] at hq
  exact hq
def gCount (M : AM) (w : Int32) : Int32 := if w = 0 then M 1 0 else if w = 1 then M 1 1 else if w = 2 then M 1 2 else if w = 3 then M 1 3 else if w = 4 then M 0 10 else if w = 5 then M 15 1 else if w = 6 then M 17 1 else -1
theorem cx_count {d rot : Nat} {w : Int32} {M : AM} {L : AL} {Q : QT} (hq : Q (some (.int (gCount M w))) (Sx rot) M L) : CW E7_count d 0 [.ref 0, .int w] (Sx rot) M L Q := by
  refine cw_ent ok7_count noStop 60 ?_
  unfold gCount at hq
  refine iteI (fun e => by rw [if_pos e] at hq; exact hq) (fun e => ?_)
  rw [if_neg e] at hq
  refine iteI (fun e => by rw [if_pos e] at hq; exact hq) (fun e => ?_)
  rw [if_neg e] at hq
  refine iteI (fun e => by rw [if_pos e] at hq; exact hq) (fun e => ?_)
  rw [if_neg e] at hq
  refine iteI (fun e => by rw [if_pos e] at hq; exact hq) (fun e => ?_)
  rw [if_neg e] at hq
  refine iteI (fun e => by rw [if_pos e] at hq; exact hq) (fun e => ?_)
  rw [if_neg e] at hq
  refine iteI (fun e => by rw [if_pos e] at hq; exact hq) (fun e => ?_)
  rw [if_neg e] at hq
  refine iteI (fun e => by rw [if_pos e] at hq; exact hq) (fun e => ?_)
  rw [if_neg e] at hq
  exact hq
theorem cx_ship {d rot n : Nat} {s w : Int32} {M : AM} {L : AL} {Q : QT} (hn : M 1 1 = nI n) (hn5 : n ≤ 5) (h1 : ((s < 0 ∨ nI n ≤ s) ∨ (¬ w = 0 ∧ ¬ w = 1 ∧ ¬ w = 2)) → Q (some (.int (-1))) (Sx rot) M L)
    (h2 : ∀ j, j < n → s = nI j → (w = 0 ∨ w = 1 ∨ w = 2) → Q (some (.int (if w = 0 then M 6 j else if w = 1 then M 7 j else if fAb (M 9 3) (nI j) = 0 then 0 else if fAb (M 9 4) (nI j) = 0 then 2 else 1))) (Sx rot) M L) : CW E7_ship (d + 1) 0 [.ref 0, .int s, .int w] (Sx rot) M L Q := by
  refine cw_ent ok7_ship noStop 60 ?_
  refine cx_isShip hn (by omega) (fun e => h1 (Or.inl e)) (fun j hj e => ?_)
  subst e
  refine iteI (fun e => ?_) (fun e => ?_)
  · have hq := h2 j hj rfl (Or.inl e)
    rw [if_pos e] at hq
    exact inBI (n := 5) j rfl (by omega) hq
  refine iteI (fun e1 => ?_) (fun e1 => ?_)
  · have hq := h2 j hj rfl (Or.inr (Or.inl e1))
    rw [if_neg e, if_pos e1] at hq
    exact inBI (n := 5) j rfl (by omega) hq
  refine iteI (fun e2 => ?_) (fun e2 => h1 (Or.inr ⟨e, e1, e2⟩))
  have hq := h2 j hj rfl (Or.inr (Or.inr e2))
  rw [if_neg e, if_neg e1] at hq
  refine cw_isIn ?_
  rw [fIsIn_nI (by omega)]
  refine iteI (fun e3 => ?_) (fun e3 => ?_)
  · have e3 : fAb (M 9 3) (nI j) = 0 := e3
    rw [if_pos e3] at hq; exact hq
  have e3 : ¬ fAb (M 9 3) (nI j) = 0 := e3
  rw [if_neg e3] at hq
  refine cw_isIn ?_
  rw [fIsIn_nI (by omega)]
  refine iteI (fun e4 => ?_) (fun e4 => ?_)
  · have e4 : fAb (M 9 4) (nI j) = 0 := e4
    rw [if_pos e4] at hq; exact hq
  · have e4 : ¬ fAb (M 9 4) (nI j) = 0 := e4
    rw [if_neg e4] at hq; exact hq
def lkUp (lk : Nat → Int32) (h : Nat) : Nat → Int32
  | 0 => 0
  | i + 1 => if fAb (lk i) (nI h) = 0 then lkUp lk h i else lkUp lk h i ||| (1 : Int32) <<< (nI i &&& 31)
theorem cx_likersOf {d rot n h : Nat} {M : AM} (hn : M 1 0 = nI n) (hn6 : n ≤ 6) (hh : h < 6) {L : AL} {Q : QT} (hq : Q (some (.int (lkUp (M 5) h n))) (Sx rot) M L) : CW E7_likersOf (d + 1) 0 [.ref 0, .int (nI h)] (Sx rot) M L Q := by
  refine cw_ent ok7_likersOf (at1 4) 30 ?_
  refine aw_loop n (fun i => [some (.ref 0), some (.int (nI h)), some (.int (lkUp (M 5) h i)), some (.int (nI i))]) (fun _ => M) ?_ ?_
  · refine aw_run ok7_likersOf (at1 4) 40 ?_
    exact ifT (c := M 1 0 ≤ nI n) (by rw [hn]; exact Int32.le_refl _) hq
  · intro i hi ih
    rw [nI_succ] at ih
    refine aw_run ok7_likersOf (at1 4) 40 ?_
    refine ifF (c := M 1 0 ≤ nI i) (by rw [hn]; exact nI_ge hi (by omega)) ?_
    refine inBI (n := 6) i rfl (by omega) ?_
    refine cw_isIn ?_
    rw [fIsIn_nI (by omega)]
    unfold lkUp at ih
    refine iteI (fun e => ?_) (fun e => ?_)
    · rw [if_pos e] at ih; exact ih
    · rw [if_neg e] at ih; exact ih
def gLack (a : Int32) (lk : Nat → Int32) (n h : Nat) : Int32 := fMx0 (fBit a / 2 + 1 - (fBit (lkUp lk h n &&& a) + 1))
theorem cx_lacking {d rot n h : Nat} {M : AM} (hn : M 1 0 = nI n) (hn6 : n ≤ 6) (hh : h < 6) {L : AL} {Q : QT} (hq : Q (some (.int (gLack (M 9 0) (M 5) n h))) (Sx rot) M L) : CW E7_lacking (d + 2) 0 [.ref 0, .int (nI h)] (Sx rot) M L Q := by
  refine cw_ent ok7_lacking noStop 60 ?_
  refine cx_bitCount ?_
  refine cx_likersOf hn hn6 hh ?_
  refine cx_bitCount ?_
  exact hq
def grivUp (a : Int32) (lk : Nat → Int32) (n : Nat) : Nat → Int32
  | 0 => 0
  | i + 1 => if fAb a (nI i) = 0 then grivUp a lk n i else if gLack a lk n i = 0 then grivUp a lk n i ||| (1 : Int32) <<< (nI i &&& 31) else grivUp a lk n i
theorem cx_rivals {d rot n : Nat} {M : AM} (hn : M 1 0 = nI n) (hn6 : n ≤ 6) {L : AL} {Q : QT} (hq : Q (some (.int (grivUp (M 9 0) (M 5) n n))) (Sx rot) M L) : CW E7_rivals (d + 3) 0 [.ref 0] (Sx rot) M L Q := by
  refine cw_ent ok7_rivals (at1 4) 30 ?_
  refine aw_loop n (fun i => [some (.ref 0), some (.int (grivUp (M 9 0) (M 5) n i)), some (.int (nI i))]) (fun _ => M) ?_ ?_
  · refine aw_run ok7_rivals (at1 4) 40 ?_
    exact ifT (c := M 1 0 ≤ nI n) (by rw [hn]; exact Int32.le_refl _) hq
  · intro i hi ih
    rw [nI_succ] at ih
    refine aw_run ok7_rivals (at1 4) 40 ?_
    refine ifF (c := M 1 0 ≤ nI i) (by rw [hn]; exact nI_ge hi (by omega)) ?_
    unfold grivUp at ih
    refine cx_has (by omega) ?_
    refine iteI (fun e => ?_) (fun e => ?_)
    · rw [if_pos e] at ih; exact ih
    rw [if_neg e] at ih
    refine cx_lacking hn hn6 (by omega) ?_
    refine iteI (fun e => ?_) (fun e => ?_)
    · rw [if_pos e] at ih; exact ih
    · rw [if_neg e] at ih; exact ih
