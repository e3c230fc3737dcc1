/-! ===== the model: votes, maroons, hides, finds, undo, images, sights, marks ===== -/
theorem knowV_lt {v : Nat → Int32} {k j : Nat} (h : j < 35) : knowV v k j = v j := by
  unfold knowV
  rw [if_neg (by omega)]
  split
  · rw [if_neg (by omega), if_neg (by omega)]
  · rw [if_neg (by omega)]
theorem um_same (M : AM) (k j : Nat) (v : Int32) : um M k j v k j = v := by
  rw [um_at]; show (bif Nat.beq j j then v else M k j) = v
  rw [show Nat.beq j j = true from Nat.beq_refl j]; rfl
theorem um_oth (M : AM) (k : Nat) {j j' : Nat} (v : Int32) (h : j' ≠ j) : um M k j v k j' = M k j' := by
  rw [um_at]; show (bif Nat.beq j' j then v else M k j') = M k j'
  rw [nbeq_ne h]; rfl
def fVo (a : Int32) (lk : Nat → Int32) (h o : Nat) : Int32 := if nI o = nI h then 0 else if fAb a (nI o) = 0 then 0 else if (lk o >>> (nI h &&& 31)) &&& 1 = 1 then 1 else 0
def voUp (a : Int32) (lk : Nat → Int32) (h : Nat) : Nat → Int32
  | 0 => 1
  | n + 1 => voUp a lk h n + fVo a lk h n
theorem cm_voices {d n h : Nat} {M : AM} (hn : M 2 0 = nI n) (hn6 : n ≤ 6) {L : AL} {Q : QT} (hq : Q (some (.int (voUp (M 13 0) (M 6) h n))) Sm M L) : CW E8_voices (d + 1) 0 [.ref 0, .int (nI h)] Sm M L Q := by
  refine cw_ent ok8_voices (at1 4) 30 ?_
  refine aw_loop n (fun i => [some (.ref 0), some (.int (nI h)), some (.int (voUp (M 13 0) (M 6) h i)), some (.int (nI i))]) (fun _ => M) ?_ ?_
  · refine aw_run ok8_voices (at1 4) 40 ?_
    refine inBI 0 rfl (by decide) ?_
    exact ifT (by rw [hn]; exact Int32.le_refl _) hq
  · intro i hi ih
    rw [nI_succ] at ih
    refine aw_run ok8_voices (at1 4) 40 ?_
    refine inBI 0 rfl (by decide) ?_
    refine ifF (by rw [hn]; exact nI_ge hi (by omega)) ?_
    unfold voUp fVo at ih
    refine iteI (fun e => ?_) (fun e => ?_)
    · rw [if_pos e] at ih; exact ih
    · rw [if_neg e] at ih
      refine cm_isAboard (Or.inl rfl) ?_
      refine iteI (fun e1 => ?_) (fun e1 => ?_)
      · rw [if_pos e1] at ih; exact ih
      · rw [if_neg e1] at ih
        refine inBI (n := 12) i rfl (by omega) ?_
        refine iteI (fun e2 => ?_) (fun e2 => ?_)
        · rw [if_pos e2] at ih; exact ih
        · rw [if_neg e2] at ih; exact ih
def fVoted (a : Int32) (lk : Nat → Int32) (n h : Nat) : Int32 := if 2 * voUp a lk h n ≤ manyUp a 6 then 0 else 1
theorem cm_isVoted {d n h : Nat} {M : AM} (hn : M 2 0 = nI n) (hn6 : n ≤ 6) {L : AL} {Q : QT} (hq : Q (some (.int (fVoted (M 13 0) (M 6) n h))) Sm M L) : CW E8_isVoted (d + 2) 0 [.ref 0, .int (nI h)] Sm M L Q := by
  refine cw_ent ok8_isVoted noStop 40 ?_
  refine cm_voices hn hn6 ?_
  refine inBI 0 rfl (by decide) ?_
  refine cm_many ?_
  unfold fVoted at hq
  refine iteI (fun e => ?_) (fun e => ?_)
  · rw [if_pos e] at hq; exact hq
  · rw [if_neg e] at hq; exact hq
def rivUp (a : Int32) (lk : Nat → Int32) (n : Nat) : Nat → Int32
  | 0 => 0
  | i + 1 => rivUp a lk n i ||| (if fAb a (nI i) = 0 then (0 : Int32) else if fVoted a lk n i = 0 then (0 : Int32) else (1 : Int32) <<< (nI i &&& 31))
theorem cm_rivals {d n : Nat} {M : AM} (hn : M 2 0 = nI n) (hn6 : n ≤ 6) {L : AL} {Q : QT} (hq : Q (some (.int (rivUp (M 13 0) (M 6) n n))) Sm M L) : CW E8_rivals (d + 3) 0 [.ref 0] Sm M L Q := by
  refine cw_ent ok8_rivals (at1 4) 30 ?_
  refine aw_loop n (fun i => [some (.ref 0), some (.int (rivUp (M 13 0) (M 6) n i)), some (.int (nI i))]) (fun _ => M) ?_ ?_
  · refine aw_run ok8_rivals (at1 4) 40 ?_
    refine inBI 0 rfl (by decide) ?_
    exact ifT (by rw [hn]; exact Int32.le_refl _) hq
  · intro i hi ih
    rw [nI_succ] at ih
    refine aw_run ok8_rivals (at1 4) 40 ?_
    refine inBI 0 rfl (by decide) ?_
    refine ifF (by rw [hn]; exact nI_ge hi (by omega)) ?_
    unfold rivUp at ih
    refine cm_isAboard (Or.inl rfl) ?_
    refine iteI (fun e => ?_) (fun e => ?_)
    · rw [if_pos e] at ih; exact ih
    · rw [if_neg e] at ih
      refine cm_isVoted hn hn6 ?_
      refine iteI (fun e1 => ?_) (fun e1 => ?_)
      · rw [if_pos e1] at ih; exact ih
      · rw [if_neg e1] at ih; exact ih
/-- the memory once known -/
def kM (M : AM) (k : Nat) : AM := sr M 13 (knowV (M 13) k)
theorem cm_votes {d n k : Nat} {h : Int32} {M : AM} {L : AL} {Q : QT} (hn : M 2 0 = nI n) (hn6 : n ≤ 6) (hk : M 13 35 = nI k) (hk10 : k ≤ 10) (h1 : (h < 0 ∨ nI n ≤ h) → Q (some (.int (-1))) Sm M L)
    (h2 : ∀ j, j < n → h = nI j → (fAb (M 13 0) (nI j) = 0 ∨ M 13 1 = nI j) → Q (some (.int (-2))) Sm M L)
    (h3 : ∀ j, j < n → h = nI j → ¬ fAb (M 13 0) (nI j) = 0 → ¬ M 13 1 = nI j → Q (some (.int (if fVoted (M 13 0) (M 6) n j = 0 then M 13 1 else nI j))) Sm (um (kM M k) 13 1 (if fVoted (M 13 0) (M 6) n j = 0 then M 13 1 else nI j)) L) : CW E8_votes (d + 3) 0 [.ref 0, .int h] Sm M L Q := by
  refine cw_ent ok8_votes noStop 60 ?_
  refine cm_isHand ?_
  rcases fIn_ix h (n := n) (by omega) with ⟨g1, g2⟩ | ⟨j, g1, rfl, g3⟩
  · exact ifT (by rw [hn]; exact g1) (h1 g2)
  · refine ifF (by rw [hn, g3]; decide) ?_
    refine cm_isAboard (Or.inl rfl) ?_
    refine iteI (fun e => h2 j g1 rfl (Or.inl e)) (fun e => ?_)
    refine inBI 1 rfl (by decide) ?_
    refine iteI (fun e1 => h2 j g1 rfl (Or.inr e1)) (fun e1 => ?_)
    have hq := h3 j g1 rfl e e1
    refine cm_know hk hk10 ?_
    have hn' : sr M 13 (knowV (M 13) k) 2 0 = nI n := hn
    refine cm_isVoted hn' hn6 ?_
    have e0 : sr M 13 (knowV (M 13) k) 13 0 = M 13 0 := by rw [sr_at]; exact knowV_lt (by decide)
    have e2 : sr M 13 (knowV (M 13) k) 13 1 = M 13 1 := by rw [sr_at]; exact knowV_lt (by decide)
    have e3 : fVoted (sr M 13 (knowV (M 13) k) 13 0) (sr M 13 (knowV (M 13) k) 6) n j = fVoted (M 13 0) (M 6) n j := by rw [e0]; rfl
    refine iteI (fun e4 => ?_) (fun e4 => ?_)
    · rw [e3] at e4
      rw [if_pos e4, ← e2] at hq
      refine inBI 1 rfl (by decide) ?_
      refine inBI 1 rfl (by decide) ?_
      refine inBI 1 rfl (by decide) ?_
      exact hq
    · rw [e3] at e4
      rw [if_neg e4] at hq
      refine inBI 1 rfl (by decide) ?_
      refine inBI 1 rfl (by decide) ?_
      exact hq
theorem cm_maroons {d n k : Nat} {h : Int32} {M : AM} {L : AL} {Q : QT} (hn : M 2 0 = nI n) (hn6 : n ≤ 6) (hk : M 13 35 = nI k) (hk10 : k ≤ 10) (h1 : (h < 0 ∨ nI n ≤ h) → Q (some (.int (-1))) Sm M L)
    (h2 : ∀ j, j < n → h = nI j → fAb (M 13 0) (nI j) = 0 → Q (some (.int (-2))) Sm M L)
    (h3 : ∀ j, j < n → h = nI j → ¬ fAb (M 13 0) (nI j) = 0 → ∀ a cp, a = M 13 0 &&& (1 <<< (nI j &&& 31) ^^^ -1) → cp = (if M 13 1 = nI j then firstUp a 0 6 else M 13 1) → Q (some (.int (manyUp a 6))) Sm (um (um (kM M k) 13 0 a) 13 1 cp) L) : CW E8_maroons (d + 2) 0 [.ref 0, .int h] Sm M L Q := by
  refine cw_ent ok8_maroons noStop 60 ?_
  refine cm_isHand ?_
  rcases fIn_ix h (n := n) (by omega) with ⟨g1, g2⟩ | ⟨j, g1, rfl, g3⟩
  · exact ifT (by rw [hn]; exact g1) (h1 g2)
  · refine ifF (by rw [hn, g3]; decide) ?_
    refine cm_isAboard (Or.inl rfl) ?_
    refine iteI (fun e => h2 j g1 rfl e) (fun e => ?_)
    have hq := h3 j g1 rfl e _ _ rfl rfl
    refine cm_know hk hk10 ?_
    have e0 : knowV (M 13) k 0 = M 13 0 := knowV_lt (by decide)
    have e2 : knowV (M 13) k 1 = M 13 1 := knowV_lt (by decide)
    rw [← e0, ← e2] at hq
    refine inBI 0 rfl (by decide) ?_
    refine inBI 0 rfl (by decide) ?_
    refine inBI 1 rfl (by decide) ?_
    refine iteI (fun e4 => ?_) (fun e4 => ?_)
    · have e4 : knowV (M 13) k 1 = nI j := e4
      rw [if_pos e4] at hq
      refine inBI 0 rfl (by decide) ?_
      refine cm_first ?_
      refine inBI 1 rfl (by decide) ?_
      refine inBI 0 rfl (by decide) ?_
      exact cm_many hq
    · have e4 : ¬ knowV (M 13) k 1 = nI j := e4
      rw [if_neg e4] at hq
      refine inBI 1 rfl (by decide) ?_
      refine inBI 1 rfl (by decide) ?_
      refine inBI 0 rfl (by decide) ?_
      exact cm_many hq
theorem cm_hides {d n k : Nat} {h c : Int32} {M : AM} {L : AL} {Q : QT} (hn : M 2 0 = nI n) (hn6 : n ≤ 6) (hk : M 13 35 = nI k) (hk10 : k ≤ 10) (h1 : ((h < 0 ∨ nI n ≤ h) ∨ fIn c 1 99 = 0) → Q (some (.int (-1))) Sm M L)
    (h2 : ∀ j, j < n → h = nI j → ¬ fIn c 1 99 = 0 → (fAb (M 13 0) (nI j) = 0 ∨ ¬ c ≤ M 13 2) → Q (some (.int (-2))) Sm M L)
    (h3 : ∀ j, j < n → h = nI j → ¬ fIn c 1 99 = 0 → ¬ fAb (M 13 0) (nI j) = 0 → c ≤ M 13 2 → Q (some (.int (M 13 (21 + j) + c))) Sm (um (um (kM M k) 13 2 (M 13 2 - c)) 13 (21 + j) (M 13 (21 + j) + c)) L) : CW E8_hides (d + 2) 0 [.ref 0, .int h, .int c] Sm M L Q := by
  refine cw_ent ok8_hides noStop 60 ?_
  refine cm_isHand ?_
  rcases fIn_ix h (n := n) (by omega) with ⟨g1, g2⟩ | ⟨j, g1, rfl, g3⟩
  · exact ifT (by rw [hn]; exact g1) (h1 (Or.inl g2))
  · refine ifF (by rw [hn, g3]; decide) ?_
    refine cm_in ?_
    refine iteI (fun e => h1 (Or.inr e)) (fun e => ?_)
    refine cm_isAboard (Or.inl rfl) ?_
    refine iteI (fun e1 => h2 j g1 rfl e (Or.inl e1)) (fun e1 => ?_)
    refine inBI 2 rfl (by decide) ?_
    refine iteI (fun e2 => ?_) (fun e2 => h2 j g1 rfl e (Or.inr e2))
    have hq := h3 j g1 rfl e e1 e2
    refine cm_know hk hk10 ?_
    have q0 : knowV (M 13) k 2 = M 13 2 := knowV_lt (by decide)
    have q2 : knowV (M 13) k (21 + j) = M 13 (21 + j) := knowV_lt (by omega)
    rw [← q0, ← q2] at hq
    refine inBI 2 rfl (by decide) ?_
    refine inBI 2 rfl (by decide) ?_
    refine inBI (n := 1158) (21 + j) (nI_add 21 j) (by omega) ?_
    refine inBI (n := 1158) (21 + j) (nI_add 21 j) (by omega) ?_
    refine inBI (n := 1158) (21 + j) (nI_add 21 j) (by omega) ?_
    have r1 : um (sr M 13 (knowV (M 13) k)) 13 2 (sr M 13 (knowV (M 13) k) 13 2 - c) 13 (21 + j) = knowV (M 13) k (21 + j) := by
      rw [um_sr, sr_at, pk_un (by omega)]
    have r2 : ∀ v, um (um (sr M 13 (knowV (M 13) k)) 13 2 (sr M 13 (knowV (M 13) k) 13 2 - c)) 13 (21 + j) v 13 (21 + j) = v := by
      intro v
      exact um_same _ _ _ _
    rw [r2, r1]
    exact hq
theorem cm_finds {d n k : Nat} {h : Int32} {M : AM} {L : AL} {Q : QT} (hn : M 2 0 = nI n) (hn6 : n ≤ 6) (hk : M 13 35 = nI k) (hk10 : k ≤ 10) (h1 : (h < 0 ∨ nI n ≤ h) → Q (some (.int (-1))) Sm M L)
    (h2 : ∀ j, j < n → h = nI j → M 13 (21 + j) = 0 → Q (some (.int (-2))) Sm M L)
    (h3 : ∀ j, j < n → h = nI j → ¬ M 13 (21 + j) = 0 → Q (some (.int (M 13 (21 + j)))) Sm (um (um (um (kM M k) 13 2 (M 13 2 + M 13 (21 + j))) 13 (21 + j) 0) 13 (9 + j) (M 13 (9 + j) + 1)) L) : CW E8_finds (d + 2) 0 [.ref 0, .int h] Sm M L Q := by
  refine cw_ent ok8_finds noStop 60 ?_
  refine cm_isHand ?_
  rcases fIn_ix h (n := n) (by omega) with ⟨g1, g2⟩ | ⟨j, g1, rfl, g3⟩
  · exact ifT (by rw [hn]; exact g1) (h1 g2)
  · refine ifF (by rw [hn, g3]; decide) ?_
    refine inBI (n := 1158) (21 + j) (nI_add 21 j) (by omega) ?_
    refine iteI (fun e => h2 j g1 rfl e) (fun e => ?_)
    have hq := h3 j g1 rfl e
    refine cm_know hk hk10 ?_
    have q0 : knowV (M 13) k 2 = M 13 2 := knowV_lt (by decide)
    have q2 : knowV (M 13) k (21 + j) = M 13 (21 + j) := knowV_lt (by omega)
    have q3 : knowV (M 13) k (9 + j) = M 13 (9 + j) := knowV_lt (by omega)
    rw [← q0, ← q2, ← q3] at hq
    refine inBI (n := 1158) (21 + j) (nI_add 21 j) (by omega) ?_
    refine inBI 2 rfl (by decide) ?_
    refine inBI 2 rfl (by decide) ?_
    refine inBI (n := 1158) (21 + j) (nI_add 21 j) (by omega) ?_
    refine inBI (n := 1158) (9 + j) (nI_add 9 j) (by omega) ?_
    refine inBI (n := 1158) (9 + j) (nI_add 9 j) (by omega) ?_
    have r1 : ∀ v w, um (um (sr M 13 (knowV (M 13) k)) 13 2 v) 13 (21 + j) w 13 (9 + j) = knowV (M 13) k (9 + j) := by
      intro v w
      rw [um_sr, um_sr, sr_at, pk_un (by omega), pk_un (by omega)]
    rw [r1]
    exact hq
