/-! ===== the log's methods ===== -/
theorem aw_loopS {E : ME} {d mc n0 : Nat} {Q : QT} {pc : Nat} {L : AL} {u : Nat} (n : Nat) (lv : Nat → LV) (S : Nat → AS) (M : Nat → AM) (hend : AW E d mc n0 Q pc (lv n) [] (S n) (M n) L u) (hstep : ∀ i, i < n → AW E d mc n0 Q pc (lv (i + 1)) [] (S (i + 1)) (M (i + 1)) L u → AW E d mc n0 Q pc (lv i) [] (S i) (M i) L u) : AW E d mc n0 Q pc (lv 0) [] (S 0) (M 0) L u := by
  have key : ∀ k, k ≤ n → AW E d mc n0 Q pc (lv (n - k)) [] (S (n - k)) (M (n - k)) L u := by
    intro k
    induction k with
    | zero => intro _; exact hend
    | succ k ih =>
      intro hk
      have h1 := ih (by omega)
      refine hstep (n - (k + 1)) (by omega) ?_
      rw [show n - (k + 1) + 1 = n - k by omega]
      exact h1
  have := key n (Nat.le_refl n)
  rwa [Nat.sub_self] at this
theorem six {j : Nat} {P : Nat → Prop} (hj : j < 6) (h0 : P 0) (h1 : P 1) (h2 : P 2) (h3 : P 3) (h4 : P 4) (h5 : P 5) : P j := by
  rcases (by omega : j = 0 ∨ j = 1 ∨ j = 2 ∨ j = 3 ∨ j = 4 ∨ j = 5) with rfl | rfl | rfl | rfl | rfl | rfl <;> assumption
theorem ten {j : Nat} {P : Nat → Prop} (hj : j < 10) (h0 : P 0) (h1 : P 1) (h2 : P 2) (h3 : P 3) (h4 : P 4) (h5 : P 5) (h6 : P 6) (h7 : P 7) (h8 : P 8) (h9 : P 9) : P j := by
  rcases (by omega : j = 0 ∨ j = 1 ∨ j = 2 ∨ j = 3 ∨ j = 4 ∨ j = 5 ∨ j = 6 ∨ j = 7 ∨ j = 8 ∨ j = 9) with rfl | rfl | rfl | rfl | rfl | rfl | rfl | rfl | rfl | rfl <;> assumption
theorem momAt_of {S : AS} {b : Nat} (h0 : S[b + 0]? = (momS b)[0]?) (h1 : S[b + 1]? = (momS b)[1]?) (h2 : S[b + 2]? = (momS b)[2]?) (h3 : S[b + 3]? = (momS b)[3]?) (h4 : S[b + 4]? = (momS b)[4]?) (h5 : S[b + 5]? = (momS b)[5]?) : momAt S b := fun j hj => six (P := fun j => S[b + j]? = (momS b)[j]?) hj h0 h1 h2 h3 h4 h5
set_option maxRecDepth 100000 in
theorem mom_at (pg : Nat → Option Nat) : momAt (SxG pg) 9 := momAt_of rfl rfl rfl rfl rfl rfl
set_option maxRecDepth 100000 in
theorem mom_past (pg : Nat → Option Nat) {r : Nat} (hr : r < 10) : momAt (SxG pg) (39 + 6 * r) := ten (P := fun r => momAt (SxG pg) (39 + 6 * r)) hr (momAt_of rfl rfl rfl rfl rfl rfl) (momAt_of rfl rfl rfl rfl rfl rfl) (momAt_of rfl rfl rfl rfl rfl rfl) (momAt_of rfl rfl rfl rfl rfl rfl) (momAt_of rfl rfl rfl rfl rfl rfl) (momAt_of rfl rfl rfl rfl rfl rfl) (momAt_of rfl rfl rfl rfl rfl rfl) (momAt_of rfl rfl rfl rfl rfl rfl) (momAt_of rfl rfl rfl rfl rfl rfl) (momAt_of rfl rfl rfl rfl rfl rfl)
/-- the images' logs: 99 and 167 -/
def isI (l : Nat) : Prop := l = 99 ∨ l = 167
set_option maxRecDepth 100000 in
theorem mom_im (pg : Nat → Option Nat) {l : Nat} (hl : isI l) : momAt (SxG pg) (l + 1) := by
  rcases hl with rfl | rfl
  · exact momAt_of rfl rfl rfl rfl rfl rfl
  · exact momAt_of rfl rfl rfl rfl rfl rfl
set_option maxRecDepth 100000 in
theorem mom_imp (pg : Nat → Option Nat) {l r : Nat} (hl : isI l) (hr : r < 10) : momAt (SxG pg) (l + 8 + 6 * r) := by
  rcases hl with rfl | rfl
  · exact ten (P := fun r => momAt (SxG pg) (99 + 8 + 6 * r)) hr (momAt_of rfl rfl rfl rfl rfl rfl) (momAt_of rfl rfl rfl rfl rfl rfl) (momAt_of rfl rfl rfl rfl rfl rfl) (momAt_of rfl rfl rfl rfl rfl rfl) (momAt_of rfl rfl rfl rfl rfl rfl) (momAt_of rfl rfl rfl rfl rfl rfl) (momAt_of rfl rfl rfl rfl rfl rfl) (momAt_of rfl rfl rfl rfl rfl rfl) (momAt_of rfl rfl rfl rfl rfl rfl) (momAt_of rfl rfl rfl rfl rfl rfl)
  · exact ten (P := fun r => momAt (SxG pg) (167 + 8 + 6 * r)) hr (momAt_of rfl rfl rfl rfl rfl rfl) (momAt_of rfl rfl rfl rfl rfl rfl) (momAt_of rfl rfl rfl rfl rfl rfl) (momAt_of rfl rfl rfl rfl rfl rfl) (momAt_of rfl rfl rfl rfl rfl rfl) (momAt_of rfl rfl rfl rfl rfl rfl) (momAt_of rfl rfl rfl rfl rfl rfl) (momAt_of rfl rfl rfl rfl rfl rfl) (momAt_of rfl rfl rfl rfl rfl rfl) (momAt_of rfl rfl rfl rfl rfl rfl)
theorem pl_form (rot i : Nat) : ∃ r, r < 10 ∧ pl rot i = 39 + 6 * r := by
  unfold pl
  by_cases h : i < 10
  · exact ⟨(i + rot) % 10, by omega, by rw [if_pos h]⟩
  · exact ⟨0, by decide, by rw [if_neg h]⟩
theorem pl_inj {rot i j : Nat} (hi : i < 10) (hj : j < 10) (h : pl rot i = pl rot j) : i = j := by
  unfold pl at h
  rw [if_pos hi, if_pos hj] at h
  omega
theorem pl_apart {rot i j : Nat} (hi : i < 10) (hj : j < 10) (h : i ≠ j) : pl rot i + 6 ≤ pl rot j ∨ pl rot j + 6 ≤ pl rot i := by
  unfold pl
  rw [if_pos hi, if_pos hj]
  omega
theorem pl_range (rot i : Nat) : 39 ≤ pl rot i ∧ pl rot i + 6 ≤ 99 := by
  obtain ⟨r, hr, e⟩ := pl_form rot i
  omega
theorem mom_pl (pg : Nat → Option Nat) (rot i : Nat) : momAt (SxG pg) (pl rot i) := by
  obtain ⟨r, hr, e⟩ := pl_form rot i
  rw [e]
  exact mom_past pg hr
theorem mom_obj {S : AS} {b : Nat} (h : momAt S b) : S[b]? = some (.inl (2, [.int 0, .int 0, .int 0, .int 0, .int 0, .ref (b + 1), .ref (b + 2), .ref (b + 3), .ref (b + 4), .ref (b + 5)])) := h 0 (by decide)
theorem pl_next {rot i : Nat} (hi : i < 9) : pl rot (i + 1) = pl (rot + 1) i := by
  unfold pl
  rw [if_pos (by omega), if_pos (by omega), show i + 1 + rot = i + (rot + 1) by omega]
theorem pl_last (rot : Nat) : pl rot 0 = pl (rot + 1) 9 := by
  unfold pl
  rw [if_pos (by omega), if_pos (by omega)]
  omega
set_option maxRecDepth 100000 in
theorem cx_dropOldest {d rot : Nat} {M : AM} {L : AL} {Q : QT} (hq : Q none (Sx (rot + 1)) (um M 15 1 9) L) : CW E1_dropOldest d 0 [.ref 15] (Sx rot) M L Q := by
  refine cw_ent ok1_dropOldest (at1 9) 40 ?_
  refine inBI (n := 10) 0 rfl (by decide) ?_
  have key : AW E1_dropOldest d 0 (Sx rot).length Q 9 [some (.ref 15), some (.ref (pl rot 0)), some (.int (nI (0 + 1)))] [] (SxG (fun j => some (if j < 0 then pl rot (j + 1) else pl rot j))) M L 0 := by
    refine aw_loopS 9 (fun i => [some (.ref 15), some (.ref (pl rot 0)), some (.int (nI (i + 1)))]) (fun i => SxG (fun j => some (if j < i then pl rot (j + 1) else pl rot j))) (fun _ => M) ?_ ?_
    · refine aw_run ok1_dropOldest (at1 9) 40 ?_
      refine ⟨_, mom_obj (mom_pl _ rot 0), ?_⟩
      refine inBI (n := 10) 9 rfl (by decide) ?_
      refine cast (congrArg (fun z => Q none (SxG z) (um M 15 1 9) L) ?_) hq
      funext j
      by_cases h9 : j = 9
      · subst h9
        show some (pl (rot + 1) 9) = va_up _ 9 (some (pl rot 0)) 9
        rw [va_up, if_pos rfl, pl_last]
      · show some (pl (rot + 1) j) = va_up _ 9 _ j
        rw [va_up, if_neg h9]
        dsimp only
        by_cases h : j < 9
        · rw [if_pos h, pl_next h]
        · rw [if_neg h]
          unfold pl
          rw [if_neg (by omega), if_neg (by omega)]
    · intro i hi ih
      rw [nI_succ (i + 1)] at ih
      refine aw_run ok1_dropOldest (at1 9) 40 ?_
      refine ifF (nI_ge (a := i + 1) (b := 10) (by omega) (by decide)) ?_
      refine inBI (n := 10) (i + 1) rfl (by omega) ?_
      refine ⟨_, mom_obj (b := if i + 1 < i then pl rot (i + 1 + 1) else pl rot (i + 1)) (by rw [if_neg (by omega)]; exact mom_pl _ rot (i + 1)), ?_⟩
      refine inBI (n := 10) i (nI_pred i) (by omega) ?_
      refine cast (congrArg (fun z => AW E1_dropOldest d 0 (Sx rot).length Q 9 [some (.ref 15), some (.ref (pl rot 0)), some (.int (nI (i + 1) + 1))] [] (SxG z) M L 0) ?_) ih
      funext j
      by_cases hj : j = i
      · subst hj
        show some _ = va_up _ j (some (if j + 1 < j then pl rot (j + 1 + 1) else pl rot (j + 1))) j
        rw [va_up, if_pos rfl, if_pos (by omega), if_neg (by omega)]
      · show some _ = va_up _ i _ j
        rw [va_up, if_neg hj]
        dsimp only
        by_cases h : j < i
        · rw [if_pos h, if_pos (by omega)]
        · rw [if_neg h, if_neg (by omega)]
  exact key
set_option maxRecDepth 100000 in
theorem cx_remember {d rot k : Nat} {M : AM} {L : AL} {Q : QT} (hk : M 15 1 = nI k) (hk10 : k ≤ 10) (h1 : k < 10 → Q none (Sx rot) (um (momCopy M 9 (pl rot k)) 15 1 (nI (k + 1))) L)
    (h2 : k = 10 → Q none (Sx (rot + 1)) (um (momCopy (um M 15 1 9) 9 (pl (rot + 1) 9)) 15 1 (nI 10)) L) : CW E1_remember (d + 1) 0 [.ref 15] (Sx rot) M L Q := by
  refine cw_ent ok1_remember noStop 40 ?_
  refine iteI (fun (e : M 15 1 < 10) => ?_) (fun (e : ¬ M 15 1 < 10) => ?_)
  · have hlt : k < 10 := by
      rw [hk] at e
      exact (nI_ltI (by omega) (by decide)).mp (show nI k < nI 10 from e)
    have hq := h1 hlt
    have hr := pl_range rot k
    refine inBI (n := 10) k hk hlt ?_
    refine cx_copy (mom_at _) (mom_pl _ rot k) (by omega) ?_
    have e1 : momCopy M 9 (pl rot k) 15 1 = M 15 1 := by rw [momCopy_ne (by omega)]
    rw [← nI_1, ← hk, ← e1] at hq
    exact hq
  · have h10 : k = 10 := by
      rw [hk] at e
      have : ¬ k < 10 := fun z => e (nI_lt z (by decide))
      omega
    have hq := h2 h10
    have hr := pl_range (rot + 1) 9
    refine cx_dropOldest ?_
    refine inBI (n := 10) 9 rfl (by decide) ?_
    refine cx_copy (mom_at _) (mom_pl _ (rot + 1) 9) (by omega) ?_
    have e1 : momCopy (um M 15 1 9) 9 (pl (rot + 1) 9) 15 1 = 9 := by rw [momCopy_ne (by omega)]; exact um_same _ _ _ _
    have hq' : Q none (Sx (rot + 1)) (um (momCopy (um M 15 1 9) 9 (pl (rot + 1) 9)) 15 1 (momCopy (um M 15 1 9) 9 (pl (rot + 1) 9) 15 1 + 1)) L := by
      rw [e1]; exact hq
    exact hq'
set_option maxRecDepth 100000 in
theorem cx_stepBack {d rot k : Nat} {M : AM} {L : AL} {Q : QT} (hk : M 15 1 = nI k) (hk10 : k ≤ 10) (h1 : k = 0 → Q (some (.int 0)) (Sx rot) M L)
    (h2 : ∀ k', k = k' + 1 → Q (some (.int 1)) (Sx rot) (momCopy (um M 15 1 (nI k')) (pl rot k') 9) L) : CW E1_stepBack (d + 1) 0 [.ref 15] (Sx rot) M L Q := by
  refine cw_ent ok1_stepBack noStop 40 ?_
  refine iteI (fun (e : M 15 1 ≤ 0) => ?_) (fun (e : ¬ M 15 1 ≤ 0) => ?_)
  · refine h1 ?_
    rw [hk] at e
    have := (nI_leI (a := k) (b := 0) (by omega) (by decide)).mp e
    omega
  · obtain ⟨k', rfl⟩ : ∃ k', k = k' + 1 := ⟨k - 1, by
      have : k ≠ 0 := fun z => e (by rw [hk, z]; exact Int32.le_refl _)
      omega⟩
    refine ifT (c := M 15 1 ≤ 10) (by rw [hk]; exact nI_le hk10 (by decide)) ?_
    have hq := h2 k' rfl
    have hr := pl_range rot k'
    have e1 : um M 15 1 (M 15 1 - 1) 15 1 = nI k' := by rw [um_same, hk, nI_pred]
    refine inBI (n := 10) k' e1 (by omega) ?_
    refine cx_copy (mom_pl _ rot k') (mom_at _) (by omega) ?_
    have e2 : M 15 1 - 1 = nI k' := by rw [hk, nI_pred]
    rw [← e2] at hq
    exact hq
/-- what keep() makes of an image -/
def kept (M M' : AM) (rot l : Nat) : Prop := mv M' (l + 1) = mv M 9 ∧ M' l 1 = M 15 1 ∧ (∀ i, i < 10 → mv M' (l + 8 + 6 * i) = mv M (pl rot i)) ∧ (∀ j, j ≠ 1 → M' l j = M l j) ∧ ∀ k, k < l ∨ l + 68 ≤ k → M' k = M k
set_option maxRecDepth 100000 in
theorem cx_keep {d rot l : Nat} (hl : isI l) {M : AM} {L : AL} {Q : QT} (hq : ∀ M', kept M M' rot l → Q none (Sx rot) M' L) : CW E1_become (d + 1) 0 [.ref l, .ref 15] (Sx rot) M L Q := by
  have hlr : 99 ≤ l := by rcases hl with rfl | rfl <;> decide
  have key : ∀ n i (M' : AM), i + n = 10 → mv M' (l + 1) = mv M 9 → M' l 1 = M 15 1 → (∀ j, j < i → mv M' (l + 8 + 6 * j) = mv M (pl rot j)) → (∀ j, j ≠ 1 → M' l j = M l j) → (∀ k, k < l ∨ l + 68 ≤ k → M' k = M k) → AW E1_become (d + 1) 0 (Sx rot).length Q 21 [some (.ref l), some (.ref 15), some (.int (nI i))] [] (Sx rot) M' L 0 := by
    intro n
    induction n with
    | zero =>
      intro i M' hi p1 p2 p3 p4 p5
      have : i = 10 := by omega
      subst this
      refine aw_run ok1_become (at1 21) 40 ?_
      exact hq M' ⟨p1, p2, p3, p4, p5⟩
    | succ n ih =>
      intro i M' hi p1 p2 p3 p4 p5
      refine aw_run ok1_become (at1 21) 40 ?_
      refine ifF (nI_ge (b := 10) (by omega) (by decide)) ?_
      refine inBI (n := 10) i rfl (by omega) ?_
      have hr := pl_range rot i
      rcases hl with rfl | rfl
      · refine inBI (n := 10) i rfl (by omega) ?_
        refine cx_copy (mom_pl _ rot i) (mom_imp _ (Or.inl rfl) (by omega)) (by omega) ?_
        have hn := ih (i + 1) (momCopy M' (pl rot i) (99 + 8 + 6 * i)) (by omega) ((mv_copy_ne (by omega)).trans p1) ((congrFun (momCopy_ne (by omega)) 1).trans p2) (fun j hj => by
          by_cases hji : j = i
          · subst hji
            rw [mv_copy]
            exact mv_congr (fun k h1 h2 => p5 k (by omega))
          · rw [mv_copy_ne (by omega)]
            exact p3 j (by omega)) (fun j hj => (congrFun (momCopy_ne (by omega)) j).trans (p4 j hj)) (fun k hk => (momCopy_ne (by omega)).trans (p5 k hk))
        rw [nI_succ] at hn
        exact hn
      · refine inBI (n := 10) i rfl (by omega) ?_
        refine cx_copy (mom_pl _ rot i) (mom_imp _ (Or.inr rfl) (by omega)) (by omega) ?_
        have hn := ih (i + 1) (momCopy M' (pl rot i) (167 + 8 + 6 * i)) (by omega) ((mv_copy_ne (by omega)).trans p1) ((congrFun (momCopy_ne (by omega)) 1).trans p2) (fun j hj => by
          by_cases hji : j = i
          · subst hji
            rw [mv_copy]
            exact mv_congr (fun k h1 h2 => p5 k (by omega))
          · rw [mv_copy_ne (by omega)]
            exact p3 j (by omega)) (fun j hj => (congrFun (momCopy_ne (by omega)) j).trans (p4 j hj)) (fun k hk => (momCopy_ne (by omega)).trans (p5 k hk))
        rw [nI_succ] at hn
        exact hn
  rcases hl with rfl | rfl
  · refine cw_ent ok1_become (at1 21) 40 ?_
    refine cx_copy (mom_at _) (mom_im _ (Or.inl rfl)) (by omega) ?_
    refine key 10 0 _ rfl ?_ ?_ (fun j hj => absurd hj (by omega)) ?_ ?_
    · rw [mv_congr (M := momCopy M 9 (99 + 1)) (fun k h1 h2 => um_ne _ _ _ (by omega)), mv_copy]
    · rw [um_same, momCopy_ne (by omega)]
    · intro j hj
      rw [um_oth _ _ _ hj, momCopy_ne (by omega)]
    · intro k hk
      rw [um_ne _ _ _ (by omega), momCopy_ne (by omega)]
  · refine cw_ent ok1_become (at1 21) 40 ?_
    refine cx_copy (mom_at _) (mom_im _ (Or.inr rfl)) (by omega) ?_
    refine key 10 0 _ rfl ?_ ?_ (fun j hj => absurd hj (by omega)) ?_ ?_
    · rw [mv_congr (M := momCopy M 9 (167 + 1)) (fun k h1 h2 => um_ne _ _ _ (by omega)), mv_copy]
    · rw [um_same, momCopy_ne (by omega)]
    · intro j hj
      rw [um_oth _ _ _ hj, momCopy_ne (by omega)]
    · intro k hk
      rw [um_ne _ _ _ (by omega), momCopy_ne (by omega)]
/-- what back() makes of the log -/
def backed (M M' : AM) (rot l : Nat) : Prop := mv M' 9 = mv M (l + 1) ∧ M' 15 1 = M l 1 ∧ (∀ i, i < 10 → mv M' (pl rot i) = mv M (l + 8 + 6 * i)) ∧ (∀ j, j ≠ 1 → M' 15 j = M 15 j) ∧ ∀ k, (k < 9 ∨ 15 < k) → (k < 39 ∨ 99 ≤ k) → M' k = M k
set_option maxRecDepth 100000 in
theorem cx_back {d rot l : Nat} (hl : isI l) {M : AM} {L : AL} {Q : QT} (hq : ∀ M', backed M M' rot l → Q none (Sx rot) M' L) : CW E1_become (d + 1) 0 [.ref 15, .ref l] (Sx rot) M L Q := by
  have key : ∀ n i (M' : AM), i + n = 10 → mv M' 9 = mv M (l + 1) → M' 15 1 = M l 1 → (∀ j, j < i → mv M' (pl rot j) = mv M (l + 8 + 6 * j)) → (∀ j, j ≠ 1 → M' 15 j = M 15 j) → (∀ k, (k < 9 ∨ 15 < k) → (k < 39 ∨ 99 ≤ k) → M' k = M k) → AW E1_become (d + 1) 0 (Sx rot).length Q 21 [some (.ref 15), some (.ref l), some (.int (nI i))] [] (Sx rot) M' L 0 := by
    intro n
    induction n with
    | zero =>
      intro i M' hi p1 p2 p3 p4 p5
      have : i = 10 := by omega
      subst this
      refine aw_run ok1_become (at1 21) 40 ?_
      exact hq M' ⟨p1, p2, p3, p4, p5⟩
    | succ n ih =>
      intro i M' hi p1 p2 p3 p4 p5
      refine aw_run ok1_become (at1 21) 40 ?_
      refine ifF (nI_ge (b := 10) (by omega) (by decide)) ?_
      have hr := pl_range rot i
      rcases hl with rfl | rfl
      · refine inBI (n := 10) i rfl (by omega) ?_
        refine inBI (n := 10) i rfl (by omega) ?_
        refine cx_copy (mom_imp _ (Or.inl rfl) (by omega)) (mom_pl _ rot i) (by omega) ?_
        have hn := ih (i + 1) (momCopy M' (99 + 8 + 6 * i) (pl rot i)) (by omega) ((mv_copy_ne (by omega)).trans p1) ((congrFun (momCopy_ne (by omega)) 1).trans p2) (fun j hj => by
          by_cases hji : j = i
          · subst hji
            rw [mv_copy]
            exact mv_congr (fun k h1 h2 => p5 k (by omega) (by omega))
          · have ha := pl_apart (rot := rot) (i := j) (j := i) (by omega) (by omega) hji
            rw [mv_copy_ne ha]
            exact p3 j (by omega)) (fun j hj => (congrFun (momCopy_ne (by omega)) j).trans (p4 j hj)) (fun k hk1 hk2 => (momCopy_ne (by omega)).trans (p5 k hk1 hk2))
        rw [nI_succ] at hn
        exact hn
      · refine inBI (n := 10) i rfl (by omega) ?_
        refine inBI (n := 10) i rfl (by omega) ?_
        refine cx_copy (mom_imp _ (Or.inr rfl) (by omega)) (mom_pl _ rot i) (by omega) ?_
        have hn := ih (i + 1) (momCopy M' (167 + 8 + 6 * i) (pl rot i)) (by omega) ((mv_copy_ne (by omega)).trans p1) ((congrFun (momCopy_ne (by omega)) 1).trans p2) (fun j hj => by
          by_cases hji : j = i
          · subst hji
            rw [mv_copy]
            exact mv_congr (fun k h1 h2 => p5 k (by omega) (by omega))
          · have ha := pl_apart (rot := rot) (i := j) (j := i) (by omega) (by omega) hji
            rw [mv_copy_ne ha]
            exact p3 j (by omega)) (fun j hj => (congrFun (momCopy_ne (by omega)) j).trans (p4 j hj)) (fun k hk1 hk2 => (momCopy_ne (by omega)).trans (p5 k hk1 hk2))
        rw [nI_succ] at hn
        exact hn
  rcases hl with rfl | rfl
  · refine cw_ent ok1_become (at1 21) 40 ?_
    refine cx_copy (mom_im _ (Or.inl rfl)) (mom_at _) (by omega) ?_
    refine key 10 0 _ rfl ?_ ?_ (fun j hj => absurd hj (by omega)) ?_ ?_
    · rw [mv_congr (M := momCopy M (99 + 1) 9) (fun k h1 h2 => um_ne _ _ _ (by omega)), mv_copy]
    · rw [um_same, momCopy_ne (by omega)]
    · intro j hj
      rw [um_oth _ _ _ hj, momCopy_ne (by omega)]
    · intro k hk1 hk2
      rw [um_ne _ _ _ (by omega), momCopy_ne (by omega)]
  · refine cw_ent ok1_become (at1 21) 40 ?_
    refine cx_copy (mom_im _ (Or.inr rfl)) (mom_at _) (by omega) ?_
    refine key 10 0 _ rfl ?_ ?_ (fun j hj => absurd hj (by omega)) ?_ ?_
    · rw [mv_congr (M := momCopy M (167 + 1) 9) (fun k h1 h2 => um_ne _ _ _ (by omega)), mv_copy]
    · rw [um_same, momCopy_ne (by omega)]
    · intro j hj
      rw [um_oth _ _ _ hj, momCopy_ne (by omega)]
    · intro k hk1 hk2
      rw [um_ne _ _ _ (by omega), momCopy_ne (by omega)]
