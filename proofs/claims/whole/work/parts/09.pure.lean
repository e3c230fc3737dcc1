/-! ===== methods that touch no cell ===== -/
theorem iteI {c : Prop} [Decidable c] {A B : Prop} (h1 : c → A) (h2 : ¬ c → B) : if c then A else B := by
  by_cases hc : c
  · rw [if_pos hc]; exact h1 hc
  · rw [if_neg hc]; exact h2 hc
theorem ifT {c : Prop} [Decidable c] {A B : Prop} (h : c) (a : A) : if c then A else B := by rw [if_pos h]; exact a
theorem ifF {c : Prop} [Decidable c] {A B : Prop} (h : ¬ c) (b : B) : if c then A else B := by rw [if_neg h]; exact b
theorem inBI {i : Int32} {n : Nat} {f : Nat → Prop} (j : Nat) (h : i = nI j) (hj : j < n) (a : f j) (hn : n ≤ 4096 := by decide) : ∃ j : Nat, i = nI j ∧ (j < n ∧ n ≤ 4096) ∧ f j := ⟨j, h, ⟨hj, hn⟩, a⟩
/-- a counted loop: the states at its head, one by one -/
theorem aw_loop {E : ME} {d mc n0 : Nat} {Q : QT} {pc : Nat} {S : AS} {L : AL} {u : Nat} (n : Nat) (lv : Nat → LV) (M : Nat → AM) (hend : AW E d mc n0 Q pc (lv n) [] S (M n) L u) (hstep : ∀ i, i < n → AW E d mc n0 Q pc (lv (i + 1)) [] S (M (i + 1)) L u → AW E d mc n0 Q pc (lv i) [] S (M i) L u) : AW E d mc n0 Q pc (lv 0) [] S (M 0) L u := by
  have key : ∀ k, k ≤ n → AW E d mc n0 Q pc (lv (n - k)) [] S (M (n - k)) L u := by
    intro k
    induction k with
    | zero => intro _; exact hend
    | succ k ih =>
      intro hk
      have h1 := ih (by omega)
      refine hstep (n - (k + 1)) (by omega) ?_
      rw [show n - (k + 1) + 1 = n - k by omega]
      exact h1
  have := key n (Nat.le_refl n)
  rwa [Nat.sub_self] at this
def at1 (p : Nat) (q : Nat) : Bool := Nat.beq q p
def noStop (_ : Nat) : Bool := false
/-- isIn(set, i) -/
def fIsIn (set i : Int32) : Int32 := if i < 0 ∨ 31 ≤ i then 0 else if (set >>> (i &&& 31)) &&& 1 = 1 then 1 else 0
theorem cw_isIn {d : Nat} {set i : Int32} {S : AS} {M : AM} {L : AL} {Q : QT} (h : Q (some (.int (fIsIn set i))) S M L) : CW E7_isIn d 0 [.int set, .int i] S M L Q := by
  refine cw_ent ok7_isIn noStop 30 ?_
  unfold fIsIn at h
  refine iteI (fun h1 => ?_) (fun h1 => ?_)
  · rw [if_pos (Or.inl h1)] at h
    exact h
  · refine iteI (fun h2 => ?_) (fun h2 => ?_)
    · rw [if_pos (Or.inr h2)] at h
      exact h
    · rw [if_neg (fun q => q.elim h1 h2)] at h
      refine iteI (fun h3 => ?_) (fun h3 => ?_)
      · rw [if_pos h3] at h
        exact h
      · rw [if_neg h3] at h
        exact h
