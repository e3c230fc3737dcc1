/-! ===== chases ===== -/
def oI : Option Nat → Int32
  | none => -9
  | some j => nI j
/-- the model's way: from the highest down, an equal one takes the place -/
def dnB (ab : Nat → Int32) (le : Nat → Nat → Bool) (n : Nat) : Nat → Option Nat
  | 0 => none
  | i + 1 => bif (ab (n - 1 - i)).toInt == 0 then dnB ab le n i else match dnB ab le n i with
    | none => some (n - 1 - i)
    | some w => bif le (n - 1 - i) w then some (n - 1 - i) else some w
theorem dnB_lt {ab : Nat → Int32} {le : Nat → Nat → Bool} {n : Nat} : ∀ i, i ≤ n → ∀ w, dnB ab le n i = some w → w < n
  | 0, _, w, h => by cases h
  | i + 1, hi, w, h => by
    unfold dnB at h
    cases e : (ab (n - 1 - i)).toInt == 0 with
    | true => rw [e] at h; exact dnB_lt i (by omega) w h
    | false =>
      rw [e] at h
      cases e2 : dnB ab le n i with
      | none =>
        rw [e2] at h
        injection h with h
        omega
      | some w' =>
        rw [e2] at h
        have hw := dnB_lt i (by omega) w' e2
        cases e3 : le (n - 1 - i) w' with
        | true =>
          dsimp only [cond_false] at h
          rw [e3] at h
          injection h with h
          omega
        | false =>
          dsimp only [cond_false] at h
          rw [e3] at h
          injection h with h
          omega
def u1 (M : AM) (r o : Nat) : Option Nat → AM
  | none => M
  | some j => um M r (o + j) (M r (o + j) + 1)
def chM (M : AM) (r : Nat) (tk : Bool) (g : Int32) (s : Nat) (w k : Option Nat) : AM :=
  let M1 := bif tk then um (um M r 2 (M r 2 + g)) r 34 (um M r 2 (M r 2 + g) r 34 ||| (1 : Int32) <<< (nI s &&& 31)) else u1 (u1 M r 9 w) r 15 w
  let M2 := um M1 r 33 (M1 r 33 ||| (1 : Int32) <<< (nI s &&& 31))
  u1 M2 r 27 k
def leW (M : AM) (r : Nat) (h w : Nat) : Bool := decide (fStr (M 4 h - M r (9 + h)) ≤ fStr (M 4 w - M r (9 + w)))
def leK (M : AM) (h w : Nat) : Bool := decide (M 5 w ≤ M 5 h)
theorem oI_n9 {j : Nat} (h : j < 6) : ¬ nI j = -9 := by
  have : ∀ j, j < 6 → ¬ nI j = -9 := by decide +kernel
  exact this j h
def at2 (p p' : Nat) (q : Nat) : Bool := Nat.beq q p || Nat.beq q p'
section DN
variable {ab : Nat → Int32} {le : Nat → Nat → Bool} {n i m : Nat}
theorem dnB_skip (hm : n - 1 - i = m) (h : ab m = 0) : dnB ab le n (i + 1) = dnB ab le n i := by
  rw [dnB, hm, h]; rfl
theorem nz_beq {x : Int32} (h : ¬ x = 0) : (x.toInt == 0) = false := by
  rw [beq_eq_false_iff_ne]
  intro e
  exact h (Int32.toInt_inj.mp (e.trans (by decide)))
theorem dnB_none (hm : n - 1 - i = m) (h : ¬ ab m = 0) (e : dnB ab le n i = none) : dnB ab le n (i + 1) = some m := by
  rw [dnB, hm, nz_beq h, e]; rfl
theorem dnB_le {w : Nat} (hm : n - 1 - i = m) (h : ¬ ab m = 0) (e : dnB ab le n i = some w) (h2 : le m w = true) : dnB ab le n (i + 1) = some m := by
  rw [dnB, hm, nz_beq h, e]
  show (bif le m w then _ else _) = _
  rw [h2]; rfl
theorem dnB_gt {w : Nat} (hm : n - 1 - i = m) (h : ¬ ab m = 0) (e : dnB ab le n i = some w) (h2 : le m w = false) : dnB ab le n (i + 1) = some w := by
  rw [dnB, hm, nz_beq h, e]
  show (bif le m w then _ else _) = _
  rw [h2]; rfl
end DN
theorem nI_dec (m : Nat) : nI m - 1 = nI m + (-1) := Int32.sub_eq_add_neg _ _
theorem cm_chaseL {d r n n0 s : Nat} (hr : isV r) (hs : s < 5) {b : Bool} {M : AM} {L : AL} {Q : QT} (hn : M 2 0 = nI n) (hn6 : n ≤ 6)
    (hq : Q (some (.int (bif b then M 9 s else -5))) Sm (chM M r b (M 9 s) s (dnB (fun h => fAb (M r 0) (nI h)) (leW M r) n n) (dnB (fun h => fAb (M r 0) (nI h)) (leK M) n n)) L) :
    AW E8_chase (d + 2) 0 n0 Q 39 [some (.ref 0), some (.ref r), some (.int (nI s)), some (.int (bif b then 1 else 0)), some (.int (-9)), some (.int (-9)), some (.int (nI n - 1))] [] Sm M L 0 := by
  refine aw_loop n (fun i => [some (.ref 0), some (.ref r), some (.int (nI s)), some (.int (bif b then 1 else 0)), some (.int (oI (dnB (fun h => fAb (M r 0) (nI h)) (leW M r) n i))), some (.int (oI (dnB (fun h => fAb (M r 0) (nI h)) (leK M) n i))), some (.int (nI (n - i) - 1))]) (fun _ => M) ?_ ?_
  · have w1 := dnB_lt (ab := fun h => fAb (M r 0) (nI h)) (le := leW M r) n (Nat.le_refl n)
    have w2 := dnB_lt (ab := fun h => fAb (M r 0) (nI h)) (le := leK M) n (Nat.le_refl n)
    generalize dnB (fun h => fAb (M r 0) (nI h)) (leW M r) n n = w at hq w1 ⊢
    generalize dnB (fun h => fAb (M r 0) (nI h)) (leK M) n n = k at hq w2 ⊢
    have tail : ∀ M1 : AM, M1 9 = M 9 → Q (some (.int (bif b then M 9 s else -5))) Sm (u1 (um M1 r 33 (M1 r 33 ||| (1 : Int32) <<< (nI s &&& 31))) r 27 k) L → AW E8_chase (d + 2) 0 n0 Q 184 [some (.ref 0), some (.ref r), some (.int (nI s)), some (.int (bif b then 1 else 0)), some (.int (oI w)), some (.int (oI k)), some (.int (nI (n - n) - 1))] [] Sm M1 L 0 := by
      intro M1 h9 hq
      have hr9 : (9 : Nat) ≠ r := by rcases hr with rfl | rfl <;> decide
      rw [← h9] at hq
      refine aw_run ok8_chase noStop 80 ?_
      rcases hr with rfl | rfl
      · refine inBI 33 rfl (by decide) ?_
        refine inBI 33 rfl (by decide) ?_
        cases k with
        | none =>
          cases b with
          | false => exact hq
          | true => exact inBI (n := 10) s rfl (by omega) hq
        | some k =>
          refine ifF (oI_n9 (by have := w2 k rfl; omega)) ?_
          refine inBI (n := 1158) (27 + k) (nI_add 27 k) (by have := w2 k rfl; omega) ?_
          refine inBI (n := 1158) (27 + k) (nI_add 27 k) (by have := w2 k rfl; omega) ?_
          cases b with
          | false => exact hq
          | true => exact inBI (n := 10) s rfl (by omega) hq
      · refine inBI 33 rfl (by decide) ?_
        refine inBI 33 rfl (by decide) ?_
        cases k with
        | none =>
          cases b with
          | false => exact hq
          | true => exact inBI (n := 10) s rfl (by omega) hq
        | some k =>
          refine ifF (oI_n9 (by have := w2 k rfl; omega)) ?_
          refine inBI (n := 35) (27 + k) (nI_add 27 k) (by have := w2 k rfl; omega) ?_
          refine inBI (n := 35) (27 + k) (nI_add 27 k) (by have := w2 k rfl; omega) ?_
          cases b with
          | false => exact hq
          | true => exact inBI (n := 10) s rfl (by omega) hq
    refine aw_run ok8_chase (at2 39 184) 80 ?_
    refine ifT (by rw [Nat.sub_self]; decide) ?_
    cases b with
    | true =>
      rcases hr with rfl | rfl
      · refine inBI 2 rfl (by decide) ?_
        refine inBI (n := 10) s rfl (by omega) ?_
        refine inBI 2 rfl (by decide) ?_
        refine inBI 34 rfl (by decide) ?_
        refine inBI 34 rfl (by decide) ?_
        refine tail _ ?_ hq
        rw [um_ne _ _ _ (by decide), um_ne _ _ _ (by decide)]
      · refine inBI 2 rfl (by decide) ?_
        refine inBI (n := 10) s rfl (by omega) ?_
        refine inBI 2 rfl (by decide) ?_
        refine inBI 34 rfl (by decide) ?_
        refine inBI 34 rfl (by decide) ?_
        refine tail _ ?_ hq
        rw [um_ne _ _ _ (by decide), um_ne _ _ _ (by decide)]
    | false =>
      cases w with
      | none => exact tail M rfl hq
      | some w =>
        have hw := w1 w rfl
        refine ifF (oI_n9 (by omega)) ?_
        rcases hr with rfl | rfl
        · refine inBI (n := 1158) (9 + w) (nI_add 9 w) (by omega) ?_
          refine inBI (n := 1158) (9 + w) (nI_add 9 w) (by omega) ?_
          refine inBI (n := 1158) (15 + w) (nI_add 15 w) (by omega) ?_
          refine inBI (n := 1158) (15 + w) (nI_add 15 w) (by omega) ?_
          refine tail _ ?_ hq
          rw [um_ne _ _ _ (by decide), um_ne _ _ _ (by decide)]
        · refine inBI (n := 35) (9 + w) (nI_add 9 w) (by omega) ?_
          refine inBI (n := 35) (9 + w) (nI_add 9 w) (by omega) ?_
          refine inBI (n := 35) (15 + w) (nI_add 15 w) (by omega) ?_
          refine inBI (n := 35) (15 + w) (nI_add 15 w) (by omega) ?_
          refine tail _ ?_ hq
          rw [um_ne _ _ _ (by decide), um_ne _ _ _ (by decide)]
  · intro i hi ih
    obtain ⟨m, hm⟩ : ∃ m, n - i = m + 1 := ⟨n - i - 1, by omega⟩
    have hm1 : n - 1 - i = m := by omega
    have hm2 : n - (i + 1) = m := by omega
    rw [hm2, nI_dec] at ih
    rw [hm, nI_pred]
    have w1 := dnB_lt (ab := fun h => fAb (M r 0) (nI h)) (le := leW M r) (n := n) i (by omega)
    have w2 := dnB_lt (ab := fun h => fAb (M r 0) (nI h)) (le := leK M) (n := n) i (by omega)
    by_cases e : fAb (M r 0) (nI m) = 0
    · rw [dnB_skip hm1 e, dnB_skip hm1 e] at ih
      refine aw_run ok8_chase (at1 39) 80 ?_
      refine ifF (nI_pos (by omega)) ?_
      refine cm_isAboard hr ?_
      exact ifT e ih
    · have half : ∀ w : Int32, w = oI (dnB (fun h => fAb (M r 0) (nI h)) (leW M r) n (i + 1)) → AW E8_chase (d + 2) 0 n0 Q 87 [some (.ref 0), some (.ref r), some (.int (nI s)), some (.int (bif b then 1 else 0)), some (.int w), some (.int (oI (dnB (fun h => fAb (M r 0) (nI h)) (leK M) n i))), some (.int (nI m))] [] Sm M L 0 := by
        intro w hw
        rw [← hw] at ih
        cases ek : dnB (fun h => fAb (M r 0) (nI h)) (leK M) n i with
        | none =>
          rw [dnB_none hm1 e ek] at ih
          refine aw_run ok8_chase (at1 39) 80 ?_
          exact ih
        | some k =>
          have hk := w2 k ek
          refine aw_run ok8_chase (at1 39) 80 ?_
          refine ifF (oI_n9 (by omega)) ?_
          refine inBI (n := 12) m rfl (by omega) ?_
          refine inBI (n := 12) k rfl (by omega) ?_
          refine iteI (fun e2 => ?_) (fun e2 => ?_)
          · rw [dnB_gt hm1 e ek (decide_eq_false (Int32.not_le.mpr e2))] at ih
            exact ih
          · rw [dnB_le hm1 e ek (decide_eq_true (Int32.not_lt.mp e2))] at ih
            exact ih
      cases ew : dnB (fun h => fAb (M r 0) (nI h)) (leW M r) n i with
      | none =>
        rw [dnB_none hm1 e ew] at half
        refine aw_run ok8_chase (at2 39 87) 80 ?_
        refine ifF (nI_pos (by omega)) ?_
        refine cm_isAboard hr ?_
        refine ifF e ?_
        exact half _ rfl
      | some w =>
        have hw := w1 w ew
        refine aw_run ok8_chase (at2 39 87) 80 ?_
        refine ifF (nI_pos (by omega)) ?_
        refine cm_isAboard hr ?_
        refine ifF e ?_
        refine ifF (oI_n9 (by omega)) ?_
        refine cm_fightOf hr (by omega) ?_
        refine cm_fightOf hr (by omega) ?_
        refine iteI (fun e2 => ?_) (fun e2 => ?_)
        · rw [dnB_gt hm1 e ew (decide_eq_false (Int32.not_le.mpr e2))] at half
          exact half _ rfl
        · rw [dnB_le hm1 e ew (decide_eq_true (Int32.not_lt.mp e2))] at half
          exact half _ rfl
def fcM (M : AM) (r n : Nat) : Int32 := sumTo (fForce (M r 0) 0 (fun h => fStr (M 4 h - M r (9 + h)))) n
def wkM (M : AM) (r n : Nat) : Option Nat := dnB (fun h => fAb (M r 0) (nI h)) (leW M r) n n
def keM (M : AM) (r n : Nat) : Option Nat := dnB (fun h => fAb (M r 0) (nI h)) (leK M) n n
def tkM (M : AM) (r n s : Nat) : Bool := decide (M 8 s ≤ fcM M r n)
theorem cm_chase {d r n s : Nat} (hr : isV r) (hs : s < 5) {M : AM} {L : AL} {Q : QT} (hn : M 2 0 = nI n) (hn6 : n ≤ 6)
    (hq : Q (some (.int (bif tkM M r n s then M 9 s else -5))) Sm (chM M r (tkM M r n s) (M 9 s) s (wkM M r n) (keM M r n)) L) :
    CW E8_chase (d + 2) 0 [.ref 0, .ref r, .int (nI s)] Sm M L Q := by
  refine cw_ent ok8_chase (at1 39) 40 ?_
  refine cm_force hr hn hn6 ?_
  refine inBI (n := 10) s rfl (by omega) ?_
  have hL := fun b hq => cm_chaseL (d := d) (n0 := Sm.length) hr hs (b := b) (L := L) (Q := Q) hn hn6 hq
  rw [← hn] at hL
  refine iteI (fun e => ?_) (fun e => ?_)
  · refine inBI 0 rfl (by decide) ?_
    have e' : tkM M r n s = false := decide_eq_false (Int32.not_le.mpr e)
    rw [e'] at hq
    exact hL false hq
  · refine inBI 0 rfl (by decide) ?_
    have e' : tkM M r n s = true := decide_eq_true (Int32.not_lt.mp e)
    rw [e'] at hq
    exact hL true hq
theorem cm_chases {d n ns k : Nat} {s : Int32} {M : AM} {L : AL} {Q : QT} (hn : M 2 0 = nI n) (hn6 : n ≤ 6) (hs : M 7 0 = nI ns) (hs5 : ns ≤ 5) (hk : M 13 35 = nI k) (hk10 : k ≤ 10) (h1 : (s < 0 ∨ nI ns ≤ s) → Q (some (.int (-1))) Sm M L)
    (h2 : ∀ j, j < ns → s = nI j → M 13 33 >>> (nI j &&& 31) &&& 1 = 1 → Q (some (.int (-2))) Sm M L)
    (h3 : ∀ j, j < ns → s = nI j → ¬ M 13 33 >>> (nI j &&& 31) &&& 1 = 1 → Q (some (.int (bif tkM (kM M k) 13 n j then M 9 j else -5))) Sm (chM (kM M k) 13 (tkM (kM M k) 13 n j) (M 9 j) j (wkM (kM M k) 13 n) (keM (kM M k) 13 n)) L) : CW E8_chases (d + 3) 0 [.ref 0, .int s] Sm M L Q := by
  refine cw_ent ok8_chases noStop 60 ?_
  refine cm_isShip ?_
  rw [hs]
  rcases fIn_ix s (n := ns) (by omega) with ⟨g1, g2⟩ | ⟨j, hj, rfl, g⟩
  · exact ifT g1 (h1 g2)
  · refine ifF (by rw [g]; decide) ?_
    refine inBI 33 rfl (by decide) ?_
    refine iteI (fun e => h2 j hj rfl e) (fun e => ?_)
    refine cm_know hk hk10 ?_
    have hq := h3 j hj rfl e
    exact cm_chase (M := kM M k) (Or.inl rfl) (by omega) ((congrFun (sr_ne _ _ (by decide)) 0).trans hn) hn6 hq
