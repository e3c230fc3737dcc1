/-! ===== articles, side by side ===== -/
/-- S is the class's world but for the names of its cells -/
def SwB (π : Nat → Nat) (rot : Nat) (S : AS) : Prop := π 0 = 0 ∧ (∀ i j, π i = π j → i = j) ∧ (∀ k, 235 ≤ k → π k = k) ∧ ∀ i sh, (Sx rot)[i]? = some sh → S[π i]? = some (shm π sh)
def StepG {V : Type} (w : V → Value) (Em Ex : ME) (as : List Value) (c rot : Nat) (Mm : AM) (Lm : AL) (Mx : AM) (Lx : AL) : Prop := ∃ (r : V) (P : AM → AL → Prop), (∀ Q : QT, (∀ M' L', P M' L' → Q (some (w r)) Sm M' L') → CW Em 30 0 (.ref 0 :: as) Sm Mm Lm Q) ∧ ∀ Q : QT, (∀ π rot' S' Mx' Lx', S'.length = 235 → SwB π rot' S' → (∀ M' L', P M' L' → Rel (c + 1) rot' M' L' (fun k => Mx' (π k)) (fun k => Lx' (π k))) → Q (some (w r)) S' Mx' Lx') → CW Ex 30 0 (.ref 0 :: as) (Sx rot) Mx Lx Q
def StepB (Em Ex : ME) (as : List Value) (c rot : Nat) (Mm : AM) (Lm : AL) (Mx : AM) (Lx : AL) : Prop := StepG (V := RVi) Value.int Em Ex as c rot Mm Lm Mx Lx
theorem mp_id (v : Value) : mp (fun k => k) v = v := by cases v <;> rfl
theorem shm_id (sh : Sh) : shm (fun k => k) sh = sh := by
  cases sh with
  | inl q =>
    obtain ⟨a, l⟩ := q
    show Sum.inl (a, l.map (mp fun k => k)) = Sum.inl (a, l)
    rw [show (mp fun k => k) = id from funext mp_id, List.map_id]
  | inr q =>
    obtain ⟨a, n, f⟩ := q
    show Sum.inr (a, n, fun j => (f j).map fun k => k) = Sum.inr (a, n, f)
    have : (fun j => (f j).map fun k => k) = f := funext fun j => by cases f j <;> rfl
    rw [this]
theorem SwB_id (rot : Nat) : SwB (fun k => k) rot (Sx rot) := ⟨rfl, fun _ _ e => e, fun _ _ => rfl, fun i sh h => by rw [shm_id]; exact h⟩
theorem StepP.toB {Em Ex : ME} {as : List Value} {c rot : Nat} {Mm : AM} {Lm : AL} {Mx : AM} {Lx : AL} (h : StepP Em Ex as c rot Mm Lm Mx Lx) : StepB Em Ex as c rot Mm Lm Mx Lx := by
  obtain ⟨r, P, h1, h2⟩ := h
  exact ⟨r, P, h1, fun Q hQ => h2 Q (fun rot' Mx' Lx' hR => hQ (fun k => k) rot' _ Mx' Lx' (Sx_len rot') (SwB_id rot') hR)⟩
theorem StepL.toG {Em Ex : ME} {as : List Value} {c rot : Nat} {Mm : AM} {Lm : AL} {Mx : AM} {Lx : AL} (h : StepL Em Ex as c rot Mm Lm Mx Lx) : StepG Value.long Em Ex as c rot Mm Lm Mx Lx := by
  obtain ⟨r, M', L', h1, h2⟩ := h
  refine ⟨r, fun A B => A = M' ∧ B = L', fun Q hQ => h1 Q (hQ _ _ ⟨rfl, rfl⟩), fun Q hQ => h2 Q (fun rot' Mx' Lx' hR => hQ (fun k => k) rot' _ Mx' Lx' (Sx_len rot') (SwB_id rot') ?_)⟩
  rintro A B ⟨rfl, rfl⟩
  exact hR
def pw (k : Nat) : Nat := if 1 ≤ k ∧ k ≤ 8 then k + 30 else if 31 ≤ k ∧ k ≤ 38 then k - 30 else k
theorem pw_hi {k : Nat} (h : 39 ≤ k) : pw k = k := by unfold pw; rw [if_neg (by omega), if_neg (by omega)]
theorem pw_inj {i j : Nat} (h : pw i = pw j) : i = j := by
  unfold pw at h
  split at h <;> split at h <;> (try split at h) <;> (try split at h) <;> omega
/-- a cell whose names lie high -/
def hiS (sh : Sh) : Prop := shm pw sh = sh
theorem hi_arr (ty : FieldType) (n : Nat) : hiS (.inr (ty, n, fun _ => none)) := rfl
theorem hi_mom {m : Nat} (h : 39 ≤ m) : ∀ sh, sh ∈ momS m → hiS sh := by
  intro sh hs
  unfold momS at hs
  rcases List.mem_cons.mp hs with e | hs
  · subst e
    unfold hiS
    show Sum.inl (2, [Value.int 0, .int 0, .int 0, .int 0, .int 0, .ref (pw (m + 1)), .ref (pw (m + 2)), .ref (pw (m + 3)), .ref (pw (m + 4)), .ref (pw (m + 5))]) = _
    rw [pw_hi (by omega), pw_hi (by omega), pw_hi (by omega), pw_hi (by omega), pw_hi (by omega)]
  · rcases List.mem_cons.mp hs with e | hs
    · subst e; rfl
    · rcases List.mem_cons.mp hs with e | hs
      · subst e; rfl
      · rcases List.mem_cons.mp hs with e | hs
        · subst e; rfl
        · rcases List.mem_cons.mp hs with e | hs
          · subst e; rfl
          · rcases List.mem_cons.mp hs with e | hs
            · subst e; rfl
            · cases hs
theorem hi_past {m : Nat} (h : 39 ≤ m) : ∀ sh, sh ∈ pastS m → hiS sh := by
  intro sh hs
  unfold pastS at hs
  simp only [List.mem_append] at hs
  rcases hs with ((((((((hs | hs) | hs) | hs) | hs) | hs) | hs) | hs) | hs) | hs
  all_goals exact hi_mom (by omega) sh hs
theorem hi_img {l : Nat} (h : 39 ≤ l) : ∀ sh, sh ∈ imgS l → hiS sh := by
  intro sh hs
  unfold imgS at hs
  rcases List.mem_cons.mp hs with e | hs
  · subst e
    unfold hiS
    show Sum.inl (1, [Value.ref (pw (l + 1)), .int 0, .int 0, .ref (pw (l + 7))]) = _
    rw [pw_hi (by omega), pw_hi (by omega)]
  · rcases List.mem_append.mp hs with hs | hs
    · exact hi_mom (by omega) sh hs
    · rcases List.mem_cons.mp hs with e | hs
      · subst e
        unfold hiS
        show Sum.inr (FieldType.object RX2, 10, fun i => some (pw (l + 8 + 6 * i))) = _
        have : (fun i => some (pw (l + 8 + 6 * i))) = fun i => some (l + 8 + 6 * i) := funext fun i => by rw [pw_hi (by omega)]
        rw [this]
      · exact hi_past (by omega) sh hs
theorem Sx_cut (rot : Nat) : (Sx rot).drop 39 = pastS 39 ++ imgS 99 ++ imgS 167 := rfl
theorem Sx_hi {rot i : Nat} {sh : Sh} (h : 39 ≤ i) (hs : (Sx rot)[i]? = some sh) : hiS sh := by
  have h1 : (Sx rot)[i]? = ((Sx rot).drop 39)[i - 39]? := by rw [List.getElem?_drop]; congr 1; omega
  rw [h1, Sx_cut] at hs
  have hm := List.mem_of_getElem? hs
  rcases List.mem_append.mp hm with hm | hm
  · rcases List.mem_append.mp hm with hm | hm
    · exact hi_past (by omega) sh hm
    · exact hi_img (by omega) sh hm
  · exact hi_img (by omega) sh hm
set_option maxRecDepth 100000 in
theorem Sw_lo (rot : Nat) : ∀ i, i < 39 → i ≠ 16 → ((Sx rot)[i]?).map (shm pw) = (Sw rot)[pw i]?
  | 0, _, _ => rfl
  | 1, _, _ => rfl
  | 2, _, _ => rfl
  | 3, _, _ => rfl
  | 4, _, _ => rfl
  | 5, _, _ => rfl
  | 6, _, _ => rfl
  | 7, _, _ => rfl
  | 8, _, _ => rfl
  | 9, _, _ => rfl
  | 10, _, _ => rfl
  | 11, _, _ => rfl
  | 12, _, _ => rfl
  | 13, _, _ => rfl
  | 14, _, _ => rfl
  | 15, _, _ => rfl
  | 16, _, h => absurd rfl h
  | 17, _, _ => rfl
  | 18, _, _ => rfl
  | 19, _, _ => rfl
  | 20, _, _ => rfl
  | 21, _, _ => rfl
  | 22, _, _ => rfl
  | 23, _, _ => rfl
  | 24, _, _ => rfl
  | 25, _, _ => rfl
  | 26, _, _ => rfl
  | 27, _, _ => rfl
  | 28, _, _ => rfl
  | 29, _, _ => rfl
  | 30, _, _ => rfl
  | 31, _, _ => rfl
  | 32, _, _ => rfl
  | 33, _, _ => rfl
  | 34, _, _ => rfl
  | 35, _, _ => rfl
  | 36, _, _ => rfl
  | 37, _, _ => rfl
  | 38, _, _ => rfl
  | n + 39, h, _ => absurd h (by omega)
theorem Sw_ok (rot : Nat) : SwB pw rot (Sw rot) := by
  refine ⟨rfl, fun i j e => pw_inj e, fun k hk => pw_hi (by omega), fun i sh hs => ?_⟩
  by_cases h : i < 39
  · by_cases e : i = 16
    · subst e
      have e1 : sh = .inr (.object RX2, 10, fun i => some (pl rot i)) := (Option.some.inj hs).symm
      subst e1
      show some (Sum.inr (FieldType.object RX2, 10, fun i => some (pl rot i))) = some (Sum.inr (FieldType.object RX2, 10, fun i => some (pw (pl rot i))))
      have : (fun i => some (pw (pl rot i))) = fun i => some (pl rot i) := funext fun i => by rw [pw_hi (by have := pl_range rot i; omega)]
      rw [this]
    · have := Sw_lo rot i h e
      rw [hs] at this
      exact this.symm
  · rw [pw_hi (by omega), show shm pw sh = sh from Sx_hi (by omega) hs]
    rw [← hs]
    obtain ⟨j, rfl⟩ : ∃ j, i = j + 1 := ⟨i - 1, by omega⟩
    rfl
