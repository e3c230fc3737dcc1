/-! ===== methods that touch no cell ===== -/
theorem iteI {c : Prop} [Decidable c] {A B : Prop} (h1 : c → A) (h2 : ¬ c → B) : if c then A else B := by
  by_cases hc : c
  · rw [if_pos hc]; exact h1 hc
  · rw [if_neg hc]; exact h2 hc
def noStop (_ : Nat) : Bool := false
/-- isIn(set, i) -/
def fIsIn (set i : Int32) : Int32 := if i < 0 ∨ 31 ≤ i then 0 else if (set >>> (i &&& 31)) &&& 1 = 1 then 1 else 0
theorem cw_isIn {d : Nat} {set i : Int32} {S : AS} {M : AM} {L : AL} {Q : QT} (h : Q (some (.int (fIsIn set i))) S M L) : CW E7_isIn d 0 [.int set, .int i] S M L Q := by
  refine cw_ent ok7_isIn noStop 30 ?_
  unfold fIsIn at h
  refine iteI (fun h1 => ?_) (fun h1 => ?_)
  · rw [if_pos (Or.inl h1)] at h
    exact h
  · refine iteI (fun h2 => ?_) (fun h2 => ?_)
    · rw [if_pos (Or.inr h2)] at h
      exact h
    · rw [if_neg (fun q => q.elim h1 h2)] at h
      refine iteI (fun h3 => ?_) (fun h3 => ?_)
      · rw [if_pos h3] at h
        exact h
      · rw [if_neg h3] at h
        exact h
