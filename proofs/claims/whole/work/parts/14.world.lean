/-! ===== the class's world ===== -/
def momS (b : Nat) : AS := [.inl (2, [.int 0, .int 0, .int 0, .int 0, .int 0, .ref (b + 1), .ref (b + 2), .ref (b + 3), .ref (b + 4), .ref (b + 5)]), .inr (.int, 6, fun _ => none), .inr (.int, 6, fun _ => none), .inr (.int, 6, fun _ => none), .inr (.int, 6, fun _ => none), .inr (.int, 6, fun _ => none)]
def pastS (b : Nat) : AS := momS b ++ momS (b + 6) ++ momS (b + 12) ++ momS (b + 18) ++ momS (b + 24) ++ momS (b + 30) ++ momS (b + 36) ++ momS (b + 42) ++ momS (b + 48) ++ momS (b + 54)
def imgS (l : Nat) : AS := .inl (1, [.ref (l + 1), .int 0, .int 0, .ref (l + 7)]) :: (momS (l + 1) ++ (.inr (.object RX2, 10, fun i => some (l + 8 + 6 * i)) :: pastS (l + 8)))
/-- where the log's i-th past moment lies, after rot rotations -/
def pl (rot i : Nat) : Nat := 39 + 6 * (if i < 10 then (i + rot) % 10 else 0)
def SxG (pg : Nat → Option Nat) : AS := (.inl (7, [.ref 17, .ref 15, .ref 99, .ref 167, .ref 9, .ref 19, .ref 22, .ref 26, .ref 29, .ref 30, .int 0, .long 0, .ref 1, .ref 31]) : Sh) :: (.inl (6, [.int 0, .int 0, .int 0, .int 0, .int 0, .ref 2, .ref 3, .ref 4, .ref 5, .ref 6, .ref 7, .ref 8]) : Sh) :: (.inr (.int, 6, fun _ => none) : Sh) :: (.inr (.int, 6, fun _ => none) : Sh) :: (.inr (.int, 6, fun _ => none) : Sh) :: (.inr (.int, 6, fun _ => none) : Sh) :: (.inr (.int, 5, fun _ => none) : Sh) :: (.inr (.int, 5, fun _ => none) : Sh) :: (.inr (.int, 5, fun _ => none) : Sh) :: (.inl (2, [.int 0, .int 0, .int 0, .int 0, .int 0, .ref 10, .ref 11, .ref 12, .ref 13, .ref 14]) : Sh) :: (.inr (.int, 6, fun _ => none) : Sh) :: (.inr (.int, 6, fun _ => none) : Sh) :: (.inr (.int, 6, fun _ => none) : Sh) :: (.inr (.int, 6, fun _ => none) : Sh) :: (.inr (.int, 6, fun _ => none) : Sh) :: (.inl (1, [.ref 9, .int 0, .int 0, .ref 16]) : Sh) :: (.inr (.object RX2, 10, pg) : Sh) :: (.inl (4, [.ref 18, .int 0, .int 0, .int 0, .int 0, .int 0, .int 0]) : Sh) :: (.inr (.int, 150, fun _ => none) : Sh) :: (.inl (5, [.ref 20, .ref 21, .int 0, .int 0]) : Sh) :: (.inr (.int, 6, fun _ => none) : Sh) :: (.inr (.int, 6, fun _ => none) : Sh) :: (.inl (0, [.ref 23, .int 0, .ref 24, .ref 25, .int 0]) : Sh) :: (.inr (.int, 5, fun _ => none) : Sh) :: (.inr (.int, 5, fun _ => none) : Sh) :: (.inr (.int, 6, fun _ => none) : Sh) :: (.inl (3, [.ref 27, .int 0, .int 0, .ref 28, .int 0, .int 0]) : Sh) :: (.inr (.int, 5, fun _ => none) : Sh) :: (.inr (.int, 5, fun _ => none) : Sh) :: (.inr (.int, 6, fun _ => none) : Sh) :: (.inr (.int, 6, fun _ => none) : Sh) :: (.inl (6, [.int 0, .int 0, .int 0, .int 0, .int 0, .ref 32, .ref 33, .ref 34, .ref 35, .ref 36, .ref 37, .ref 38]) : Sh) :: (.inr (.int, 6, fun _ => none) : Sh) :: (.inr (.int, 6, fun _ => none) : Sh) :: (.inr (.int, 6, fun _ => none) : Sh) :: (.inr (.int, 6, fun _ => none) : Sh) :: (.inr (.int, 5, fun _ => none) : Sh) :: (.inr (.int, 5, fun _ => none) : Sh) :: (.inr (.int, 5, fun _ => none) : Sh) :: (pastS 39 ++ (imgS 99 ++ imgS 167))
def Sx (rot : Nat) : AS := SxG (fun i => some (pl rot i))
set_option maxRecDepth 100000 in
theorem Sx_len (rot : Nat) : (Sx rot).length = 235 := rfl
theorem cx_hasAboard {d rot : Nat} {h : Int32} {M : AM} {L : AL} {Q : QT} (hq : Q (some (.int (if h < 0 then 0 else if 6 ≤ h then 0 else fIsIn (M 9 0) h))) (Sx rot) M L) : CW E2_hasAboard (d + 1) 0 [.ref 9, .int h] (Sx rot) M L Q := by
  refine cw_ent ok2_hasAboard noStop 40 ?_
  refine iteI (fun e => ?_) (fun e => ?_)
  · rw [if_pos e] at hq; exact hq
  rw [if_neg e] at hq
  refine iteI (fun e => ?_) (fun e => ?_)
  · rw [if_pos e] at hq; exact hq
  rw [if_neg e] at hq
  refine cw_isIn ?_
  have h01 : fIsIn (M 9 0) h = 0 ∨ fIsIn (M 9 0) h = 1 := by
    unfold fIsIn
    split
    · exact Or.inl rfl
    · split
      · exact Or.inr rfl
      · exact Or.inl rfl
  rcases h01 with z | z
  · rw [z] at hq
    exact ifT z hq
  · rw [z] at hq
    exact ifF (by rw [z]; decide) hq
theorem fIsIn_nI {a : Int32} {h : Nat} (hh : h < 31) : fIsIn a (nI h) = fAb a (nI h) := by
  unfold fIsIn fAb
  rw [if_neg]
  intro z
  rcases z with z | z
  · exact nI_pos (by omega) z
  · exact nI_ge (a := h) (b := 31) hh (by decide) z
theorem cx_has {d rot h : Nat} (hh : h < 6) {M : AM} {L : AL} {Q : QT} (hq : Q (some (.int (fAb (M 9 0) (nI h)))) (Sx rot) M L) : CW E2_hasAboard (d + 1) 0 [.ref 9, .int (nI h)] (Sx rot) M L Q := by
  refine cx_hasAboard ?_
  rw [if_neg (nI_pos (by omega)), if_neg (show ¬ (6 : Int32) ≤ nI h from nI_ge (a := h) (b := 6) hh (by decide)), fIsIn_nI (by omega)]
  exact hq
theorem cx_partOf {d rot h : Nat} (hh : h < 6) {M : AM} {L : AL} {Q : QT} (hq : Q (some (.int (fPart (M 9 0) (M 9 1) (M 2) h))) (Sx rot) M L) : CW E7_partOf (d + 2) 0 [.ref 1, .ref 9, .int (nI h)] (Sx rot) M L Q := by
  refine cw_ent ok7_partOf noStop 40 ?_
  refine cx_has hh ?_
  unfold fPart at hq
  refine iteI (fun e => ?_) (fun e => ?_)
  · rw [if_pos e] at hq; exact hq
  rw [if_neg e] at hq
  refine iteI (fun e => ?_) (fun e => ?_)
  · rw [if_pos e] at hq
    exact inBI (n := 6) h rfl hh hq
  · rw [if_neg e] at hq
    exact inBI (n := 6) h rfl hh hq
theorem cx_allParts {d rot : Nat} {M : AM} {L : AL} {Q : QT} (hq : Q (some (.int (sumTo (fPart (M 9 0) (M 9 1) (M 2)) 6))) (Sx rot) M L) : CW E7_allParts (d + 3) 0 [.ref 1, .ref 9] (Sx rot) M L Q := by
  refine cw_ent ok7_allParts (at1 4) 30 ?_
  refine aw_loop 6 (fun i => [some (.ref 1), some (.ref 9), some (.int (sumTo (fPart (M 9 0) (M 9 1) (M 2)) i)), some (.int (nI i))]) (fun _ => M) ?_ ?_
  · refine aw_run ok7_allParts (at1 4) 30 ?_
    exact hq
  · intro i hi ih
    rw [nI_succ] at ih
    refine aw_run ok7_allParts (at1 4) 30 ?_
    refine ifF (nI_ge (b := 6) hi (by decide)) ?_
    exact cx_partOf hi ih
def fMx0 (x : Int32) : Int32 := if 0 < x then x else 0
theorem fMx0_eq (x : Int32) : fMx0 x = fStr x := by
  unfold fMx0 fStr
  by_cases h : 0 < x
  · rw [if_pos h, if_pos (Int32.le_of_lt h)]
  · rw [if_neg h]
    by_cases h2 : 0 ≤ x
    · rw [if_pos h2]
      exact Int32.le_antisymm h2 (Int32.not_lt.mp h)
    · rw [if_neg h2]
theorem cx_strengthOf {d rot h : Nat} (hh : h < 6) {M : AM} {L : AL} {Q : QT} (hq : Q (some (.int (fStr (M 3 h - M 11 h)))) (Sx rot) M L) : CW E7_strengthOf (d + 1) 0 [.ref 1, .ref 9, .int (nI h)] (Sx rot) M L Q := by
  refine cw_ent ok7_strengthOf noStop 40 ?_
  refine inBI (n := 6) h rfl hh ?_
  refine inBI (n := 6) h rfl hh ?_
  rw [← fMx0_eq] at hq
  exact hq
theorem cx_forceOf {d rot : Nat} {set : Int32} {M : AM} {L : AL} {Q : QT} (hq : Q (some (.int (sumTo (fun h => if fAb set (nI h) = 0 then 0 else fStr (M 3 h - M 11 h)) 6))) (Sx rot) M L) : CW E7_forceOf (d + 2) 0 [.ref 1, .ref 9, .int set] (Sx rot) M L Q := by
  refine cw_ent ok7_forceOf (at1 5) 30 ?_
  refine aw_loop 6 (fun i => [some (.ref 1), some (.ref 9), some (.int set), some (.int (sumTo (fun h => if fAb set (nI h) = 0 then 0 else fStr (M 3 h - M 11 h)) i)), some (.int (nI i))]) (fun _ => M) ?_ ?_
  · refine aw_run ok7_forceOf (at1 5) 30 ?_
    exact hq
  · intro i hi ih
    rw [nI_succ] at ih
    refine aw_run ok7_forceOf (at1 5) 30 ?_
    refine ifF (nI_ge (b := 6) hi (by decide)) ?_
    refine cw_isIn ?_
    unfold sumTo at ih
    rw [fIsIn_nI (by omega)]
    refine iteI (fun e => ?_) (fun e => ?_)
    · rw [if_pos e, Int32.add_zero] at ih
      exact ih
    · rw [if_neg e] at ih
      exact cx_strengthOf hi ih
