/-! ===== the start of both ===== -/
def p0 (k : Nat) : Nat := if k = 0 then 0 else if k ≤ 8 then k + 218 else if k ≤ 14 then k - 5 else if k = 15 then 3 else if k = 16 then 10 else if k = 17 then 1 else if k = 18 then 2 else if k ≤ 30 then k + 188 else if k ≤ 38 then k + 196 else k - 28
theorem p0_hi {k : Nat} (h : 39 ≤ k) : p0 k = k - 28 := by
  unfold p0
  rw [if_neg (by omega), if_neg (by omega), if_neg (by omega), if_neg (by omega), if_neg (by omega), if_neg (by omega), if_neg (by omega), if_neg (by omega), if_neg (by omega)]
theorem p0_lt : ∀ i, i < 235 → p0 i < 235 := by decide +kernel
def q0 (k : Nat) : Nat := if k = 0 then 0 else if 219 ≤ k ∧ k ≤ 226 then k - 218 else if 4 ≤ k ∧ k ≤ 9 then k + 5 else if k = 3 then 15 else if k = 10 then 16 else if k = 1 then 17 else if k = 2 then 18 else if 207 ≤ k ∧ k ≤ 218 then k - 188 else if 227 ≤ k ∧ k ≤ 234 then k - 196 else k + 28
theorem q0_p0 : ∀ i, i < 235 → q0 (p0 i) = i := by decide +kernel
theorem p0_inj {i j : Nat} (hi : i < 235) (hj : j < 235) (h : p0 i = p0 j) : i = j := by
  rw [← q0_p0 i hi, ← q0_p0 j hj, h]
theorem mom_dn {m : Nat} (h : 39 ≤ m) : (momS m).map (shm p0) = momS (m - 28) := by
  show ([.inl (2, [.int 0, .int 0, .int 0, .int 0, .int 0, .ref (p0 (m + 1)), .ref (p0 (m + 2)), .ref (p0 (m + 3)), .ref (p0 (m + 4)), .ref (p0 (m + 5))]), .inr (.int, 6, fun _ => none), .inr (.int, 6, fun _ => none), .inr (.int, 6, fun _ => none), .inr (.int, 6, fun _ => none), .inr (.int, 6, fun _ => none)] : AS) = _
  rw [p0_hi (by omega), p0_hi (by omega), p0_hi (by omega), p0_hi (by omega), p0_hi (by omega)]
  unfold momS
  rw [show m + 1 - 28 = m - 28 + 1 by omega, show m + 2 - 28 = m - 28 + 2 by omega, show m + 3 - 28 = m - 28 + 3 by omega, show m + 4 - 28 = m - 28 + 4 by omega, show m + 5 - 28 = m - 28 + 5 by omega]
theorem past_dn {m : Nat} (h : 39 ≤ m) : (pastS m).map (shm p0) = pastS (m - 28) := by
  unfold pastS
  simp only [List.map_append]
  rw [mom_dn h, mom_dn (by omega), mom_dn (by omega), mom_dn (by omega), mom_dn (by omega), mom_dn (by omega), mom_dn (by omega), mom_dn (by omega), mom_dn (by omega), mom_dn (by omega)]
  rw [show m + 6 - 28 = m - 28 + 6 by omega, show m + 12 - 28 = m - 28 + 12 by omega, show m + 18 - 28 = m - 28 + 18 by omega, show m + 24 - 28 = m - 28 + 24 by omega, show m + 30 - 28 = m - 28 + 30 by omega, show m + 36 - 28 = m - 28 + 36 by omega, show m + 42 - 28 = m - 28 + 42 by omega, show m + 48 - 28 = m - 28 + 48 by omega, show m + 54 - 28 = m - 28 + 54 by omega]
theorem img_dn {l : Nat} (h : 39 ≤ l) : (imgS l).map (shm p0) = imgS (l - 28) := by
  unfold imgS
  rw [List.map_cons, List.map_append, List.map_cons, mom_dn (by omega), past_dn (by omega)]
  have e1 : shm p0 (.inl (1, [.ref (l + 1), .int 0, .int 0, .ref (l + 7)])) = .inl (1, [.ref (l - 28 + 1), .int 0, .int 0, .ref (l - 28 + 7)]) := by
    show Sum.inl (1, [Value.ref (p0 (l + 1)), .int 0, .int 0, .ref (p0 (l + 7))]) = _
    rw [p0_hi (by omega), p0_hi (by omega), show l + 1 - 28 = l - 28 + 1 by omega, show l + 7 - 28 = l - 28 + 7 by omega]
  have e2 : shm p0 (.inr (.object RX2, 10, fun i => some (l + 8 + 6 * i))) = .inr (.object RX2, 10, fun i => some (l - 28 + 8 + 6 * i)) := by
    show Sum.inr (FieldType.object RX2, 10, fun i => some (p0 (l + 8 + 6 * i))) = _
    have : (fun i => some (p0 (l + 8 + 6 * i))) = fun i => some (l - 28 + 8 + 6 * i) := funext fun i => by rw [p0_hi (by omega)]; congr 1; omega
    rw [this]
  rw [e1, e2, show l + 1 - 28 = l - 28 + 1 by omega, show l + 8 - 28 = l - 28 + 8 by omega]
def fpl (i : Nat) : Option Nat := some (11 + 6 * (if i < 10 then i else 0))
def Sk0 : AS := (Sk.take 10) ++ (.inr (.object RX2, 10, fpl) :: Sk.drop 11)
set_option maxRecDepth 100000 in
theorem Sk_eq : eqS Sk Sk0 := by
  have e : Sk = Sk.take 10 ++ (.inr (.object RX2, 10, fun i => some (3 + 8 + 6 * i)) :: Sk.drop 11) := rfl
  rw [e]
  refine eqS_mid (eqC_arr (fun j hj => ?_))
  unfold fpl
  rw [if_pos hj]
set_option maxRecDepth 100000 in
theorem Sk0_cut : Sk0.drop 11 = (pastS 11 ++ imgS 71 ++ imgS 139) ++ Sk.drop 207 := rfl
set_option maxRecDepth 100000 in
theorem Sk0_len : Sk0.length = 235 := rfl
set_option maxRecDepth 100000 in
theorem Sk0_lo : ∀ i, i < 39 → i ≠ 16 → ((Sx 0)[i]?).map (shm p0) = Sk0[p0 i]?
  | 0, _, _ => rfl
  | 1, _, _ => rfl
  | 2, _, _ => rfl
  | 3, _, _ => rfl
  | 4, _, _ => rfl
  | 5, _, _ => rfl
  | 6, _, _ => rfl
  | 7, _, _ => rfl
  | 8, _, _ => rfl
  | 9, _, _ => rfl
  | 10, _, _ => rfl
  | 11, _, _ => rfl
  | 12, _, _ => rfl
  | 13, _, _ => rfl
  | 14, _, _ => rfl
  | 15, _, _ => rfl
  | 16, _, h => absurd rfl h
  | 17, _, _ => rfl
  | 18, _, _ => rfl
  | 19, _, _ => rfl
  | 20, _, _ => rfl
  | 21, _, _ => rfl
  | 22, _, _ => rfl
  | 23, _, _ => rfl
  | 24, _, _ => rfl
  | 25, _, _ => rfl
  | 26, _, _ => rfl
  | 27, _, _ => rfl
  | 28, _, _ => rfl
  | 29, _, _ => rfl
  | 30, _, _ => rfl
  | 31, _, _ => rfl
  | 32, _, _ => rfl
  | 33, _, _ => rfl
  | 34, _, _ => rfl
  | 35, _, _ => rfl
  | 36, _, _ => rfl
  | 37, _, _ => rfl
  | 38, _, _ => rfl
  | n + 39, h, _ => absurd h (by omega)
set_option maxRecDepth 100000 in
theorem Sk0_16 : Sk0[p0 16]? = some (.inr (.object RX2, 10, fpl)) := rfl
theorem Sk0_ok : ∀ i sh, (Sx 0)[i]? = some sh → Sk0[p0 i]? = some (shm p0 sh) := by
  intro i sh hs
  by_cases h : i < 39
  · by_cases e : i = 16
    · subst e
      have e1 : sh = .inr (.object RX2, 10, fun i => some (pl 0 i)) := (Option.some.inj hs).symm
      subst e1
      rw [Sk0_16]
      show some (Sum.inr (FieldType.object RX2, 10, fpl)) = some (Sum.inr (FieldType.object RX2, 10, fun i => some (p0 (pl 0 i))))
      have : (fun i => some (p0 (pl 0 i))) = fpl := funext fun i => by
        unfold fpl pl
        by_cases z : i < 10
        · rw [if_pos z, if_pos z, p0_hi (by omega)]
          congr 1
          omega
        · rw [if_neg z, if_neg z, p0_hi (by omega)]
      rw [this]
    · have := Sk0_lo i h e
      rw [hs] at this
      exact this.symm
  · have h1 : (Sx 0)[i]? = ((Sx 0).drop 39)[i - 39]? := by rw [List.getElem?_drop]; congr 1; omega
    have h2 : Sk0[p0 i]? = (Sk0.drop 11)[i - 39]? := by rw [p0_hi (by omega), List.getElem?_drop]; congr 1; omega
    rw [h1, Sx_cut] at hs
    rw [h2, Sk0_cut]
    have hl : i - 39 < (pastS 39 ++ imgS 99 ++ imgS 167).length := (List.getElem?_eq_some_iff.mp hs).1
    have em : (pastS 39 ++ imgS 99 ++ imgS 167).map (shm p0) = pastS 11 ++ imgS 71 ++ imgS 139 := by
      rw [List.map_append, List.map_append, past_dn (by decide), img_dn (by decide), img_dn (by decide)]
    rw [List.getElem?_append_left (by rw [← em, List.length_map]; exact hl), ← em, List.getElem?_map, hs]
    rfl
/-- both, in one world: the class at 0, the model at 235 -/
def LRel (c : Nat) (S : AS) (M : AM) (L : AL) : Prop := ∃ (π : Nat → Nat) (rot : Nat), S.length = 256 ∧ π 0 = 0 ∧ (∀ i j, π i = π j → i = j) ∧ (∀ i, i < 235 → π i < 235) ∧ (∀ k, 235 ≤ k → π k = k + 21) ∧ (∀ i sh, (Sx rot)[i]? = some sh → ∃ sh', S[π i]? = some sh' ∧ eqC sh' (shm π sh)) ∧ (∀ i sh, Sm[i]? = some sh → S[235 + i]? = some (shm (fun k => 235 + k) sh)) ∧ Rel c rot (fun k => M (235 + k)) (fun k => L (235 + k)) (fun k => M (π k)) (fun k => L (π k))
theorem Rel_start {M1 Mm : AM} {Lm : AL} {Mx : AM} {Lx : AL} (hT : TDm D0 M1 Mm) (h2 : Mm 0 2 = 0) (x1 : Mx 1 0 = 0 ∧ Mx 1 1 = 0 ∧ Mx 1 2 = 0 ∧ Mx 1 3 = 10) (hv : ∀ k, k < 35 → mv Mx 9 k = nwV 0 k) (h15 : Mx 15 1 = 0) (h17 : Mx 17 1 = 0) (h99 : Mx 99 2 = 0) (h167 : Mx 167 2 = 0) (h0 : Mx 0 10 = 0) (hl : Lm 0 0 = Lx 0 11) : Rel 0 0 Mm Lm Mx Lx := by
  obtain ⟨⟨a1, a2, a3, a4⟩, b1, b2, b3, b4, v1, v2, k0, k1, z29, zo, zl⟩ := hT
  obtain ⟨x0, x1, x2, x3⟩ := x1
  refine ⟨0, 0, 0, ⟨⟨by decide, by decide, by decide⟩, ⟨a1, x0⟩, ⟨a2, x1⟩, ⟨a3, x2⟩, ⟨10, by decide, a4, x3⟩, fun h hh => absurd hh (Nat.not_lt_zero h), fun h hh => absurd hh (Nat.not_lt_zero h), fun h hh => absurd hh (Nat.not_lt_zero h), fun h hh => absurd hh (Nat.not_lt_zero h), fun h hh => absurd hh (Nat.not_lt_zero h), fun h hh => absurd hh (Nat.not_lt_zero h), fun h hh => absurd hh (Nat.not_lt_zero h)⟩, ⟨fun k hk => ?_, ?_, 0, by omega, ?_, h15, fun i hi => absurd hi (Nat.not_lt_zero i)⟩, fun im hi => Or.inl ⟨?_, ?_⟩, ⟨0, by omega, h2, h17, fun j hj => absurd hj (Nat.not_lt_zero j)⟩, ⟨0, by omega, z29, h0, fun j hj => absurd hj (Nat.not_lt_zero j)⟩, hl⟩
  · rw [hv k hk, Nat.zero_add, v1 k hk]; rfl
  · exact Vq_new (by decide) (fun k hk => by show Mm 13 (0 + k) = _; rw [Nat.zero_add]; exact v1 k hk)
  · exact v2
  · rcases (show im = 0 ∨ im = 1 by omega) with rfl | rfl
    · exact k0
    · exact k1
  · rcases (show im = 0 ∨ im = 1 by omega) with rfl | rfl
    · exact h99
    · exact h167
theorem mv0 : ∀ k, k < 35 → mv (fun a b => cutG 235 (p0 a) b) 9 k = nwV 0 k := by decide +kernel
/-- a cell that names none but the class's own -/
def bdB (v : Value) : Bool := match v with
  | .ref r => decide (r < 235)
  | _ => true
def bdC (sh : Sh) : Prop := (∃ q, sh = .inl q ∧ q.2.all bdB = true) ∨ (∃ ty n, sh = .inr (ty, n, fun _ => none)) ∨ ∃ C n f, sh = .inr (.object C, n, f) ∧ ∀ j, j < n → ∀ r, f j = some r → r < 235
theorem bd_mom {m : Nat} (h : m + 5 < 235) : ∀ sh, sh ∈ momS m → bdC sh := by
  intro sh hs
  unfold momS at hs
  rcases List.mem_cons.mp hs with e | hs
  · subst e
    refine Or.inl ⟨_, rfl, List.all_eq_true.mpr (fun v hv => ?_)⟩
    simp only [List.mem_cons, List.not_mem_nil, or_false] at hv
    cases v with
    | ref r =>
      simp only [reduceCtorEq, Value.ref.injEq, false_or] at hv
      rcases hv with h1 | h1 | h1 | h1 | h1
      · rw [h1]; exact decide_eq_true (show m + 1 < 235 by omega)
      · rw [h1]; exact decide_eq_true (show m + 2 < 235 by omega)
      · rw [h1]; exact decide_eq_true (show m + 3 < 235 by omega)
      · rw [h1]; exact decide_eq_true (show m + 4 < 235 by omega)
      · rw [h1]; exact decide_eq_true (show m + 5 < 235 by omega)
    | _ => rfl
  · refine Or.inr (Or.inl ⟨.int, 6, ?_⟩)
    simp only [List.mem_cons, List.not_mem_nil, or_false, or_self] at hs
    exact hs
theorem bd_past {m : Nat} (h : m + 59 < 235) : ∀ sh, sh ∈ pastS m → bdC sh := by
  intro sh hs
  unfold pastS at hs
  simp only [List.mem_append] at hs
  rcases hs with ((((((((hs | hs) | hs) | hs) | hs) | hs) | hs) | hs) | hs) | hs
  all_goals exact bd_mom (by omega) sh hs
theorem bd_img {l : Nat} (h : l + 67 < 235) : ∀ sh, sh ∈ imgS l → bdC sh := by
  intro sh hs
  unfold imgS at hs
  rcases List.mem_cons.mp hs with e | hs
  · subst e
    refine Or.inl ⟨_, rfl, List.all_eq_true.mpr (fun v hv => ?_)⟩
    simp only [List.mem_cons, List.not_mem_nil, or_false] at hv
    cases v with
    | ref r =>
      simp only [reduceCtorEq, Value.ref.injEq, false_or] at hv
      rcases hv with h1 | h1
      · rw [h1]; exact decide_eq_true (show l + 1 < 235 by omega)
      · rw [h1]; exact decide_eq_true (show l + 7 < 235 by omega)
    | _ => rfl
  · rcases List.mem_append.mp hs with hs | hs
    · exact bd_mom (by omega) sh hs
    · rcases List.mem_cons.mp hs with e | hs
      · subst e
        refine Or.inr (Or.inr ⟨RX2, 10, _, rfl, fun j hj r hr => ?_⟩)
        have := Option.some.inj hr
        omega
      · exact bd_past (by omega) sh hs
set_option maxRecDepth 100000 in
theorem Sx_bd0 (rot : Nat) : ∀ i, i < 39 → i ≠ 16 → ∃ sh, (Sx rot)[i]? = some sh ∧ bdC sh
  | 0, _, _ => ⟨_, rfl, Or.inl ⟨_, rfl, rfl⟩⟩
  | 1, _, _ => ⟨_, rfl, Or.inl ⟨_, rfl, rfl⟩⟩
  | 2, _, _ => ⟨_, rfl, Or.inr (Or.inl ⟨_, _, rfl⟩)⟩
  | 3, _, _ => ⟨_, rfl, Or.inr (Or.inl ⟨_, _, rfl⟩)⟩
  | 4, _, _ => ⟨_, rfl, Or.inr (Or.inl ⟨_, _, rfl⟩)⟩
  | 5, _, _ => ⟨_, rfl, Or.inr (Or.inl ⟨_, _, rfl⟩)⟩
  | 6, _, _ => ⟨_, rfl, Or.inr (Or.inl ⟨_, _, rfl⟩)⟩
  | 7, _, _ => ⟨_, rfl, Or.inr (Or.inl ⟨_, _, rfl⟩)⟩
  | 8, _, _ => ⟨_, rfl, Or.inr (Or.inl ⟨_, _, rfl⟩)⟩
  | 9, _, _ => ⟨_, rfl, Or.inl ⟨_, rfl, rfl⟩⟩
  | 10, _, _ => ⟨_, rfl, Or.inr (Or.inl ⟨_, _, rfl⟩)⟩
  | 11, _, _ => ⟨_, rfl, Or.inr (Or.inl ⟨_, _, rfl⟩)⟩
  | 12, _, _ => ⟨_, rfl, Or.inr (Or.inl ⟨_, _, rfl⟩)⟩
  | 13, _, _ => ⟨_, rfl, Or.inr (Or.inl ⟨_, _, rfl⟩)⟩
  | 14, _, _ => ⟨_, rfl, Or.inr (Or.inl ⟨_, _, rfl⟩)⟩
  | 15, _, _ => ⟨_, rfl, Or.inl ⟨_, rfl, rfl⟩⟩
  | 16, _, h => absurd rfl h
  | 17, _, _ => ⟨_, rfl, Or.inl ⟨_, rfl, rfl⟩⟩
  | 18, _, _ => ⟨_, rfl, Or.inr (Or.inl ⟨_, _, rfl⟩)⟩
  | 19, _, _ => ⟨_, rfl, Or.inl ⟨_, rfl, rfl⟩⟩
  | 20, _, _ => ⟨_, rfl, Or.inr (Or.inl ⟨_, _, rfl⟩)⟩
  | 21, _, _ => ⟨_, rfl, Or.inr (Or.inl ⟨_, _, rfl⟩)⟩
  | 22, _, _ => ⟨_, rfl, Or.inl ⟨_, rfl, rfl⟩⟩
  | 23, _, _ => ⟨_, rfl, Or.inr (Or.inl ⟨_, _, rfl⟩)⟩
  | 24, _, _ => ⟨_, rfl, Or.inr (Or.inl ⟨_, _, rfl⟩)⟩
  | 25, _, _ => ⟨_, rfl, Or.inr (Or.inl ⟨_, _, rfl⟩)⟩
  | 26, _, _ => ⟨_, rfl, Or.inl ⟨_, rfl, rfl⟩⟩
  | 27, _, _ => ⟨_, rfl, Or.inr (Or.inl ⟨_, _, rfl⟩)⟩
  | 28, _, _ => ⟨_, rfl, Or.inr (Or.inl ⟨_, _, rfl⟩)⟩
  | 29, _, _ => ⟨_, rfl, Or.inr (Or.inl ⟨_, _, rfl⟩)⟩
  | 30, _, _ => ⟨_, rfl, Or.inr (Or.inl ⟨_, _, rfl⟩)⟩
  | 31, _, _ => ⟨_, rfl, Or.inl ⟨_, rfl, rfl⟩⟩
  | 32, _, _ => ⟨_, rfl, Or.inr (Or.inl ⟨_, _, rfl⟩)⟩
  | 33, _, _ => ⟨_, rfl, Or.inr (Or.inl ⟨_, _, rfl⟩)⟩
  | 34, _, _ => ⟨_, rfl, Or.inr (Or.inl ⟨_, _, rfl⟩)⟩
  | 35, _, _ => ⟨_, rfl, Or.inr (Or.inl ⟨_, _, rfl⟩)⟩
  | 36, _, _ => ⟨_, rfl, Or.inr (Or.inl ⟨_, _, rfl⟩)⟩
  | 37, _, _ => ⟨_, rfl, Or.inr (Or.inl ⟨_, _, rfl⟩)⟩
  | 38, _, _ => ⟨_, rfl, Or.inr (Or.inl ⟨_, _, rfl⟩)⟩
  | n + 39, h, _ => absurd h (by omega)
theorem Sx_bd {rot i : Nat} {sh : Sh} (hs : (Sx rot)[i]? = some sh) : bdC sh := by
  by_cases h : i < 39
  · by_cases e : i = 16
    · subst e
      have e1 : sh = .inr (.object RX2, 10, fun i => some (pl rot i)) := (Option.some.inj hs).symm
      subst e1
      refine Or.inr (Or.inr ⟨RX2, 10, _, rfl, fun j hj r hr => ?_⟩)
      have := Option.some.inj hr
      have := pl_range rot j
      omega
    · obtain ⟨sh', h1, h2⟩ := Sx_bd0 rot i h e
      rw [hs] at h1
      cases h1
      exact h2
  · have h1 : (Sx rot)[i]? = ((Sx rot).drop 39)[i - 39]? := by rw [List.getElem?_drop]; congr 1; omega
    rw [h1, Sx_cut] at hs
    have hm := List.mem_of_getElem? hs
    rcases List.mem_append.mp hm with hm | hm
    · rcases List.mem_append.mp hm with hm | hm
      · exact bd_past (by omega) sh hm
      · exact bd_img (by omega) sh hm
    · exact bd_img (by omega) sh hm
theorem eq_bd {π ι : Nat → Nat} (h : ∀ k, k < 235 → π k = ι k) {sh : Sh} (hs : bdC sh) : eqC (shm π sh) (shm ι sh) := by
  rcases hs with ⟨q, rfl, hq⟩ | ⟨ty, n, rfl⟩ | ⟨C, n, f, rfl, hf⟩
  · have : q.2.map (mp π) = q.2.map (mp ι) := List.map_congr_left (fun v hv => by
      have := List.all_eq_true.mp hq v hv
      cases v with
      | ref r => show Value.ref (π r) = Value.ref (ι r); rw [h r (of_decide_eq_true this)]
      | _ => rfl)
    show eqC (.inl (q.1, q.2.map (mp π))) (.inl (q.1, q.2.map (mp ι)))
    rw [this]
    exact eqC.refl _
  · exact eqC.refl _
  · refine eqC_arr (fun j hj => ?_)
    show (f j).map π = (f j).map ι
    cases e : f j with
    | none => rfl
    | some r => show some (π r) = some (ι r); rw [h r (hf j hj r e)]
def pi0 (k : Nat) : Nat := if k < 235 then p0 k else k + 21
theorem LRel_start {A B : AM} {LA LB : AL} (ha : ∀ k j, A k j = cutG 235 k j) (la : ∀ k j, LA k j = 0) (h1 : PMm (fun k => B (235 + k)) (fun k => LB (235 + k))) (h2 : ∀ k, k < 235 → B k = A k ∧ LB k = LA k) : LRel 0 (Sk0 ++ Sm.map (shm (fun k => 235 + k))) B LB := by
  obtain ⟨⟨M1, hT⟩, t2, l0⟩ := h1
  have px : ∀ k, k < 235 → pi0 k = p0 k := fun k hk => if_pos hk
  have py : ∀ k, ¬ k < 235 → pi0 k = k + 21 := fun k hk => if_neg hk
  have bx : ∀ k j, k < 235 → B (pi0 k) j = cutG 235 (p0 k) j := fun k j hk => by rw [px k hk, (h2 _ (p0_lt k hk)).1]; exact ha _ j
  refine ⟨pi0, 0, ?_, rfl, fun i j e => ?_, fun i hi => by rw [px i hi]; exact p0_lt i hi, fun k hk => py k (by omega), fun i sh hs => ?_, fun i sh hs => ?_, Rel_start hT t2 ⟨?_, ?_, ?_, ?_⟩ (fun k hk => ?_) ?_ ?_ ?_ ?_ ?_ ?_⟩
  · rw [List.length_append, List.length_map, Sk0_len]; rfl
  · by_cases a : i < 235
    · rw [px i a] at e
      by_cases b : j < 235
      · rw [px j b] at e; exact p0_inj a b e
      · rw [py j b] at e; have := p0_lt i a; omega
    · rw [py i a] at e
      by_cases b : j < 235
      · rw [px j b] at e; have := p0_lt j b; omega
      · rw [py j b] at e; omega
  · have hi : i < 235 := by rw [← Sx_len 0]; exact (List.getElem?_eq_some_iff.mp hs).1
    refine ⟨shm p0 sh, ?_, eq_bd (fun k hk => (px k hk).symm) (Sx_bd hs)⟩
    rw [px i hi, List.getElem?_append_left (by rw [Sk0_len]; exact p0_lt i hi)]
    exact Sk0_ok i sh hs
  · rw [List.getElem?_append_right (by rw [Sk0_len]; omega), Sk0_len, Nat.add_sub_cancel_left, List.getElem?_map, hs]
    rfl
  · exact (bx 1 0 (by decide)).trans rfl
  · exact (bx 1 1 (by decide)).trans rfl
  · exact (bx 1 2 (by decide)).trans rfl
  · exact (bx 1 3 (by decide)).trans rfl
  · rw [← mv0 k hk]
    exact congrFun (mv_congr (fun l g1 g2 => funext fun j => bx l j (by omega))) k
  · exact (bx 15 1 (by decide)).trans rfl
  · exact (bx 17 1 (by decide)).trans rfl
  · exact (bx 99 2 (by decide)).trans rfl
  · exact (bx 167 2 (by decide)).trans rfl
  · exact (bx 0 10 (by decide)).trans rfl
  · show LB (235 + 0) 0 = LB (pi0 0) 11
    have : LB (pi0 0) 11 = 0 := by rw [(h2 (pi0 0) (by decide)).2]; exact la _ _
    rw [this]; exact l0
