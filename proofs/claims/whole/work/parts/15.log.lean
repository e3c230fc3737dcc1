/-! ===== moments copied; the log ===== -/
theorem um_app (M : AM) (k j : Nat) (v : Int32) (k' j' : Nat) : um M k j v k' j' = if k' = k ∧ j' = j then v else M k' j' := by
  by_cases hk : k' = k
  · subst hk
    by_cases hj : j' = j
    · subst hj; rw [um_same, if_pos ⟨rfl, rfl⟩]
    · rw [um_oth _ _ _ hj, if_neg (fun z => hj z.2)]
  · rw [um_ne _ _ _ hk, if_neg (fun z => hk z.1)]
def cpI (M : AM) (i : Nat) : AM := fun k h => if k = 6 then (if h < 5 then M 0 h else M 6 h) else if 7 ≤ k ∧ k ≤ 11 then (if h < i then M (k - 6) h else M k h) else M k h
theorem cpI_0 (M : AM) : um (um (um (um (um M 6 0 (M 0 0)) 6 1 (M 0 1)) 6 2 (M 0 2)) 6 3 (M 0 3)) 6 4 (M 0 4) = cpI M 0 := by
  funext k h
  simp only [um_app, cpI]
  by_cases hk : k = 6
  · subst hk
    by_cases h5 : h < 5
    · rcases (by omega : h = 0 ∨ h = 1 ∨ h = 2 ∨ h = 3 ∨ h = 4) with rfl | rfl | rfl | rfl | rfl <;> simp
    · rw [if_neg (by omega), if_neg (by omega), if_neg (by omega), if_neg (by omega), if_neg (by omega)]
      simp [h5]
  · simp [hk]
theorem cpI_S (M : AM) (i : Nat) : um (um (um (um (um (cpI M i) 7 i (M 1 i)) 8 i (M 2 i)) 9 i (M 3 i)) 10 i (M 4 i)) 11 i (M 5 i) = cpI M (i + 1) := by
  funext k h
  simp only [um_app, cpI]
  by_cases hk : 7 ≤ k ∧ k ≤ 11
  · by_cases hi : h = i
    · subst hi
      rcases (by omega : k = 7 ∨ k = 8 ∨ k = 9 ∨ k = 10 ∨ k = 11) with rfl | rfl | rfl | rfl | rfl <;> simp
    · rw [if_neg (fun z => hi z.2), if_neg (fun z => hi z.2), if_neg (fun z => hi z.2), if_neg (fun z => hi z.2), if_neg (fun z => hi z.2)]
      have h2 : h < i + 1 ↔ h < i := by omega
      simp only [h2]
  · rw [if_neg (by omega), if_neg (by omega), if_neg (by omega), if_neg (by omega), if_neg (by omega), if_neg hk, if_neg hk]
theorem cx_copy0 {d : Nat} {M : AM} {L : AL} {Q : QT} (hq : Q none (momS 0 ++ momS 6) (cpI M 6) L) : CW E2_copy d 0 [.ref 0, .ref 6] (momS 0 ++ momS 6) M L Q := by
  refine cw_ent ok2_copy (at1 51) 60 ?_
  have key : AW E2_copy d 0 (momS 0 ++ momS 6).length Q 51 [some (.ref 0), some (.ref 6), some (.int (nI 0))] [] (momS 0 ++ momS 6) (cpI M 0) L 0 := by
    refine aw_loop 6 (fun i => [some (.ref 0), some (.ref 6), some (.int (nI i))]) (fun i => cpI M i) ?_ ?_
    · refine aw_run ok2_copy (at1 51) 60 ?_
      exact hq
    · intro i hi ih
      rw [nI_succ, ← cpI_S] at ih
      refine aw_run ok2_copy (at1 51) 60 ?_
      refine ifF (nI_ge (b := 6) hi (by decide)) ?_
      refine inBI (n := 6) i rfl hi ?_
      refine inBI (n := 6) i rfl hi ?_
      refine inBI (n := 6) i rfl hi ?_
      refine inBI (n := 6) i rfl hi ?_
      refine inBI (n := 6) i rfl hi ?_
      refine inBI (n := 6) i rfl hi ?_
      refine inBI (n := 6) i rfl hi ?_
      refine inBI (n := 6) i rfl hi ?_
      refine inBI (n := 6) i rfl hi ?_
      refine inBI (n := 6) i rfl hi ?_
      exact ih
  rw [← cpI_0] at key
  exact key
/-- a moment lies at b -/
def momAt (S : AS) (b : Nat) : Prop := ∀ j, j < 6 → S[b + j]? = (momS b)[j]?
def momCopy (M : AM) (f t : Nat) : AM := fun k h => if k = t then (if h < 5 then M f h else M t h) else if t + 1 ≤ k ∧ k ≤ t + 5 then (if h < 6 then M (f + (k - t)) h else M k h) else M k h
def ioC (f t k : Nat) : Nat := if k < 6 then f + k else t + (k - 6)
theorem momS_shm (b : Nat) (ι : Nat → Nat) (b' : Nat) (h : ∀ j, j < 6 → ι (b + j) = b' + j) {j : Nat} {sh : Sh} (hs : (momS b)[j]? = some sh) : j < 6 ∧ (momS b')[j]? = some (shm ι sh) := by
  have hj : j < 6 := (List.getElem?_eq_some_iff.mp hs).1
  refine ⟨hj, ?_⟩
  have h1 := h 1 (by decide)
  have h2 := h 2 (by decide)
  have h3 := h 3 (by decide)
  have h4 := h 4 (by decide)
  have h5 := h 5 (by decide)
  rcases (by omega : j = 0 ∨ j = 1 ∨ j = 2 ∨ j = 3 ∨ j = 4 ∨ j = 5) with rfl | rfl | rfl | rfl | rfl | rfl
  · cases hs
    simp [shm, momS, mp, h1, h2, h3, h4, h5]
  all_goals (cases hs; rfl)
theorem cx_copy {d f t : Nat} {S : AS} {M : AM} {L : AL} {Q : QT} (hf : momAt S f) (ht : momAt S t) (hft : f + 6 ≤ t ∨ t + 6 ≤ f) (hq : Q none S (momCopy M f t) L) : CW E2_copy d 0 [.ref f, .ref t] S M L Q := by
  have hlen : (momS 0 ++ momS 6).length = 12 := rfl
  refine cw_embed (as := [.ref 0, .ref 6]) (Sc := momS 0 ++ momS 6) (Qc := fun r S' M' L' => r = none ∧ S' = momS 0 ++ momS 6 ∧ M' = cpI (fun k => M (ioC f t k)) 6 ∧ L' = fun k => L (ioC f t k)) (ioC f t) ?_ ?_ ?_ ?_
  · intro i j hi hj hij
    rw [hlen] at hi hj
    unfold ioC at hij
    split at hij <;> split at hij <;> omega
  · intro i sh hi
    have hi12 : i < 12 := by rw [← hlen]; exact (List.getElem?_eq_some_iff.mp hi).1
    by_cases h6 : i < 6
    · rw [List.getElem?_append_left h6] at hi
      have e : ioC f t i = f + i := if_pos h6
      obtain ⟨g1, g2⟩ := momS_shm 0 (ioC f t) f (fun j hj => by rw [Nat.zero_add]; exact if_pos hj) hi
      rw [e, hf i h6, g2]
    · rw [List.getElem?_append_right (show (momS 0).length ≤ i by show 6 ≤ i; omega)] at hi
      have e : ioC f t i = t + (i - 6) := if_neg h6
      obtain ⟨g1, g2⟩ := momS_shm 6 (ioC f t) t (fun j hj => by unfold ioC; rw [if_neg (by omega)]; omega) hi
      rw [e, ht (i - 6) (by omega)]
      exact g2
  · exact cx_copy0 ⟨rfl, rfl, rfl, rfl⟩
  · rintro r S' M' L' ⟨rfl, rfl, rfl, rfl⟩
    refine ⟨rfl, fun Mf Lf hin hout => ?_⟩
    have e1 : Mf = momCopy M f t := by
      funext k
      by_cases hk : t ≤ k ∧ k < t + 6
      · have := (hin (6 + (k - t)) (by rw [hlen]; omega)).1
        have e : ioC f t (6 + (k - t)) = k := by unfold ioC; rw [if_neg (by omega)]; omega
        rw [e] at this
        rw [this]
        funext h
        unfold cpI momCopy
        by_cases hkt : k = t
        · subst hkt
          have e6 : 6 + (k - k) = 6 := by omega
          rw [e6, if_pos rfl, if_pos rfl]
          show (if h < 5 then M (ioC f k 0) h else M (ioC f k 6) h) = _
          rfl
        · have e7 : ioC f t (6 + (k - t) - 6) = f + (k - t) := by
            unfold ioC; rw [if_pos (by omega)]; omega
          rw [if_neg (show ¬ 6 + (k - t) = 6 by omega), if_pos (show 7 ≤ 6 + (k - t) ∧ 6 + (k - t) ≤ 11 by omega), if_neg hkt, if_pos (show t + 1 ≤ k ∧ k ≤ t + 5 by omega)]
          show (if h < 6 then M (ioC f t (6 + (k - t) - 6)) h else M (ioC f t (6 + (k - t))) h) = _
          rw [e7, e]
      · by_cases hk2 : f ≤ k ∧ k < f + 6
        · have := (hin (k - f) (by rw [hlen]; omega)).1
          have e : ioC f t (k - f) = k := by unfold ioC; rw [if_pos (by omega)]; omega
          rw [e] at this
          rw [this]
          funext h
          unfold cpI momCopy
          rw [if_neg (by omega), if_neg (by omega), if_neg (by omega), if_neg (by omega)]
          show M (ioC f t (k - f)) h = M k h
          rw [e]
        · rw [(hout k (fun i hi he => by
            rw [hlen] at hi
            unfold ioC at he
            split at he <;> omega)).1]
          funext h
          unfold momCopy
          rw [if_neg (by omega), if_neg (by omega)]
    have e2 : Lf = L := by
      funext k
      by_cases hk : ∃ i, i < 12 ∧ ioC f t i = k
      · obtain ⟨i, hi, rfl⟩ := hk
        exact (hin i (by rw [hlen]; exact hi)).2
      · exact (hout k (fun i hi he => hk ⟨i, by rw [← hlen]; exact hi, he⟩)).2
    rw [e1, e2]
    exact hq
/-- a moment as the model has it -/
def mv (M : AM) (b : Nat) (k : Nat) : Int32 := if k = 0 then M b 0 else if k = 1 then M b 1 else if k = 2 then M b 2 else if k < 9 then M (b + 1) (k - 3) else if k < 15 then M (b + 2) (k - 9) else if k < 21 then M (b + 3) (k - 15) else if k < 27 then M (b + 4) (k - 21) else if k < 33 then M (b + 5) (k - 27) else if k = 33 then M b 3 else M b 4
theorem mv_copy {M : AM} {f t : Nat} : mv (momCopy M f t) t = mv M f := by
  funext k
  unfold mv
  have e0 : ∀ h, h < 5 → momCopy M f t t h = M f h := fun h hh => by unfold momCopy; rw [if_pos rfl, if_pos hh]
  have e1 : ∀ a h, 1 ≤ a → a ≤ 5 → h < 6 → momCopy M f t (t + a) h = M (f + a) h := fun a h h1 h2 h3 => by
    unfold momCopy
    rw [if_neg (by omega), if_pos (by omega), if_pos h3, show t + a - t = a by omega]
  rw [e0 0 (by decide), e0 1 (by decide), e0 2 (by decide), e0 3 (by decide), e0 4 (by decide)]
  by_cases h9 : k < 9
  · rw [if_pos h9, if_pos h9]
    by_cases h3 : 3 ≤ k
    · rw [e1 1 (k - 3) (by decide) (by decide) (by omega)]
    · split
      · rfl
      · split
        · rfl
        · split
          · rfl
          · omega
  · rw [if_neg h9, if_neg h9]
    by_cases h15 : k < 15
    · rw [if_pos h15, if_pos h15, e1 2 (k - 9) (by decide) (by decide) (by omega)]
    · rw [if_neg h15, if_neg h15]
      by_cases h21 : k < 21
      · rw [if_pos h21, if_pos h21, e1 3 (k - 15) (by decide) (by decide) (by omega)]
      · rw [if_neg h21, if_neg h21]
        by_cases h27 : k < 27
        · rw [if_pos h27, if_pos h27, e1 4 (k - 21) (by decide) (by decide) (by omega)]
        · rw [if_neg h27, if_neg h27]
          by_cases h33 : k < 33
          · rw [if_pos h33, if_pos h33, e1 5 (k - 27) (by decide) (by decide) (by omega)]
          · rw [if_neg h33, if_neg h33]
theorem momCopy_ne {M : AM} {f t k : Nat} (h : k < t ∨ t + 6 ≤ k) : momCopy M f t k = M k := by
  funext j
  unfold momCopy
  rw [if_neg (by omega), if_neg (by omega)]
theorem mv_congr {M M' : AM} {b : Nat} (h : ∀ k, b ≤ k → k < b + 6 → M' k = M k) : mv M' b = mv M b := by
  funext k
  unfold mv
  rw [h b (by omega) (by omega), h (b + 1) (by omega) (by omega), h (b + 2) (by omega) (by omega), h (b + 3) (by omega) (by omega), h (b + 4) (by omega) (by omega), h (b + 5) (by omega) (by omega)]
theorem mv_copy_ne {M : AM} {f t b : Nat} (h : b + 6 ≤ t ∨ t + 6 ≤ b) : mv (momCopy M f t) b = mv M b := mv_congr (fun k h1 h2 => momCopy_ne (by omega))
