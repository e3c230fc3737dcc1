/-! ===== soundness of the abstract machine ===== -/
theorem bif_some {α : Type} {c : Bool} {x : Option α} {v : α} (h : (bif c then x else none) = some v) : c = true := by
  cases c with
  | true => rfl
  | false => cases h
theorem fres_ok {o i : Nat} {q : Nat × Nat} (h : fres o i = some q) : tb_f o i = true := by
  have hb := bif_some h
  simp only [Bool.and_eq_true, Nat.blt_eq] at hb
  exact all2_at tb_f_ok hb.1 hb.2
theorem mres_ok {o i : Nat} {q : ME × Bool × Nat} (h : mres o i = some q) : tb_m o i = true := by
  have hb := bif_some h
  simp only [Bool.and_eq_true, Nat.blt_eq] at hb
  exact all2_at tb_m_ok hb.1 hb.2
theorem xres_ok {o i : Nat} {q : Nat} (h : xres o i = some q) : tb_x o i = true := by
  have hb := bif_some h
  simp only [Bool.and_eq_true, Nat.blt_eq] at hb
  exact all2_at tb_x_ok hb.1 hb.2
theorem cres_ok {o i : Nat} {q : Int32} (h : cres o i = some q) : tb_c o i = true := by
  have hb := bif_some h
  simp only [Bool.and_eq_true, Nat.blt_eq] at hb
  exact all2_at tb_c_ok hb.1 hb.2
theorem lres_ok {o i : Nat} {q : Int64} (h : lres o i = some q) : tb_l o i = true := by
  have hb := bif_some h
  simp only [Bool.and_eq_true, Nat.blt_eq] at hb
  exact all2_at tb_l_ok hb.1 hb.2
theorem nres_ok {o i : Nat} {q : Nat} (h : nres o i = some q) : tb_n o i = true := by
  have hb := bif_some h
  simp only [Bool.and_eq_true, Nat.blt_eq] at hb
  exact all2_at tb_n_ok hb.1 hb.2
theorem fres_spec {o i : Nat} {q : Nat × Nat} (h : fres o i = some q) : ∃ r : vw_C, vwCl[q.1]? = some r ∧ q.2 < r.2.2 ∧ (r.2.1 q.2).1 = r.1 ∧ Cond.fieldLink (ownN o) i r.1 (r.2.1 q.2).2.1 (r.2.1 q.2).2.2.1 ∈ wt := by
  have h1 := fres_ok h
  unfold tb_f at h1
  rw [h] at h1
  dsimp only at h1
  cases hr : vwCl[q.1]? with
  | none => rw [hr] at h1; cases h1
  | some r =>
    rw [hr] at h1
    simp only [Bool.and_eq_true, Nat.blt_eq, decide_eq_true_eq] at h1
    exact ⟨r, rfl, h1.1.1, h1.1.2, wt_of (List.mem_of_getElem? h1.2) rfl⟩
theorem cres_spec {o i : Nat} {v : Int32} (h : cres o i = some v) : Cond.constant (ownN o) i v ∈ wt := by
  have h1 := cres_ok h
  unfold tb_c at h1
  rw [h] at h1
  exact wt_of (by simpa using h1) rfl
theorem lres_spec {o i : Nat} {v : Int64} (h : lres o i = some v) : Cond.constantLong (ownN o) i v ∈ wt := by
  have h1 := lres_ok h
  unfold tb_l at h1
  rw [h] at h1
  exact wt_of (by simpa using h1) rfl
theorem nres_spec {o i ci : Nat} (h : nres o i = some ci) : ∃ r : vw_C, vwCl[ci]? = some r ∧ Cond.classLink (ownN o) i r.1 ∈ wt ∧ Cond.instantiable r.1 r.2.2 ∈ wt ∧ Cond.initialized r.1 ∈ wt := by
  have h1 := nres_ok h
  unfold tb_n at h1
  rw [h] at h1
  dsimp only at h1
  cases hr : vwCl[ci]? with
  | none => rw [hr] at h1; cases h1
  | some r =>
    rw [hr] at h1
    simp only [Bool.and_eq_true, decide_eq_true_eq] at h1
    exact ⟨r, rfl, wt_of h1.1.1 rfl, wt_of h1.1.2 rfl, wt_of h1.2 rfl⟩
theorem mres_spec {o i : Nat} {q : ME × Bool × Nat} (h : mres o i = some q) : (q.2.1 = true → Cond.methodLinkNest (ownN o) i (mN q.1) "RingArticles" ∈ wt) ∧ (q.2.1 = false → Cond.methodLink (ownN o) i (mN q.1) ∈ wt) := by
  have h1 := mres_ok h
  unfold tb_m at h1
  rw [h] at h1
  dsimp only at h1
  refine ⟨fun hq => ?_, fun hq => ?_⟩
  · rw [hq] at h1
    simp only [cond_true, decide_eq_true_eq] at h1
    exact wt_of (List.mem_of_getElem? h1) rfl
  · rw [hq] at h1
    simp only [cond_false, decide_eq_true_eq] at h1
    exact wt_of (List.mem_of_getElem? h1) rfl
theorem ores_spec {o i : Nat} (h : ores o i = true) : Cond.methodLink (ownN o) i objectInit ∈ wt := by
  have hb : o < 12 ∧ i < 4 := by
    have h2 := h
    unfold ores at h2
    simp only [Bool.or_eq_true, Bool.and_eq_true, Nat.beq_eq] at h2
    omega
  have h1 := all2_at tb_o_ok hb.1 hb.2
  unfold tb_o at h1
  rw [h] at h1
  exact wt_of (by simpa using h1) rfl
theorem objI_in : Cond.instanceMethod objectInit ∈ wt := wt_of (by decide +kernel) rfl
theorem objC_in : Cond.code objectInit ⟨#[0xb1]⟩ 1 none ∈ wt := wt_of (by decide +kernel) rfl
theorem max_in : Cond.static Lib.Math.max.name ∈ wt ∧ Cond.code Lib.Math.max.name Lib.Math.max.code 2 (some .int) ∈ wt := ⟨wt_of (by decide +kernel) rfl, wt_of (by decide +kernel) rfl⟩
theorem min_in : Cond.static Lib.Math.min.name ∈ wt ∧ Cond.code Lib.Math.min.name Lib.Math.min.code 2 (some .int) ∈ wt := ⟨wt_of (by decide +kernel) rfl, wt_of (by decide +kernel) rfl⟩
theorem abs_in : Cond.static Lib.Math.abs.name ∈ wt ∧ Cond.code Lib.Math.abs.name Lib.Math.abs.code 1 (some .int) ∈ wt := ⟨wt_of (by decide +kernel) rfl, wt_of (by decide +kernel) rfl⟩
theorem math_in : Cond.initialized "java/lang/Math" ∈ wt := wt_of (by decide +kernel) rfl
theorem arr_in : Cond.arrayClass .int ∈ wt ∧ Cond.arrayClass .byte ∈ wt ∧ Cond.arrayClass .boolean ∈ wt ∧ Cond.arrayOver (.object RX2) ∈ wt := ⟨wt_of (by decide +kernel) rfl, wt_of (by decide +kernel) rfl, wt_of (by decide +kernel) rfl, wt_of (by decide +kernel) rfl⟩
/-- a class's tables -/
theorem uw_in {C : String} {T : u_T} {N : Nat} (h : ∀ w ∈ u_ws C T N, w ∈ lw_tbl) : ∀ w ∈ u_ws C T N, w ∈ wt := fun w hw => by
  refine wt_of (h w hw) ?_
  obtain ⟨k, -, rfl⟩ := List.mem_map.mp hw
  unfold u_lay
  split <;> rfl
theorem cl_spec : ∀ (ci : Nat) (r : vw_C), vwCl[ci]? = some r → (∀ w ∈ u_ws r.1 r.2.1 r.2.2, w ∈ wt) ∧ (∀ k, k < r.2.2 → parseFieldDescriptor (r.2.1 k).2.2.1 = some (tyF ci k)) ∧ (∀ a, a < r.2.2 → ∀ b, b < r.2.2 → a ≠ b → (r.2.1 a).2.1 ≠ (r.2.1 b).2.1)
  | 0, _, h => by cases h; exact ⟨uw_in (by decide +kernel), tyX0_ok, nmX0⟩
  | 1, _, h => by cases h; exact ⟨uw_in (by decide +kernel), tyX1_ok, nmX1⟩
  | 2, _, h => by cases h; exact ⟨uw_in (by decide +kernel), tyX2_ok, nmX2⟩
  | 3, _, h => by cases h; exact ⟨uw_in (by decide +kernel), tyX3_ok, nmX3⟩
  | 4, _, h => by cases h; exact ⟨uw_in (by decide +kernel), tyX4_ok, nmX4⟩
  | 5, _, h => by cases h; exact ⟨uw_in (by decide +kernel), tyX5_ok, nmX5⟩
  | 6, _, h => by cases h; exact ⟨uw_in (by decide +kernel), tyX6_ok, nmX6⟩
  | 7, _, h => by cases h; exact ⟨uw_in (by decide +kernel), tyX7_ok, nmX7⟩
  | 8, _, h => by cases h; exact ⟨uw_in (by decide +kernel), tyX8_ok, nmX8⟩
  | _ + 9, _, h => by simp [vwCl] at h
/-! words -/
theorem wd_all : ∀ w ∈ wt, wdB w = true := fun _ h => (List.mem_filter.mp h).2
theorem wd_cases {w : Cond} (hb : wdB w = true) : goodWord w = true ∨ (∃ a i x h, w = .methodLinkNest a i x h) ∨ ∃ C, w = .arrayOver (.object C) := by
  unfold wdB at hb
  split at hb
  · exact Or.inr (Or.inl ⟨_, _, _, _, rfl⟩)
  · exact Or.inr (Or.inr ⟨_, rfl⟩)
  · exact Or.inl hb
theorem wd_moved {w : Cond} (hb : wdB w = true) {u U : State} (hW : u.WarmedH U.vm) (h : va_Nw w u) : va_Nw w U := by
  rcases wd_cases hb with g | ⟨a, i, x, hh, rfl⟩ | ⟨C, rfl⟩
  · exact word_at hW (good_of_word g) h
  · exact va_Nw.warmM hW h
  · exact va_AO.moved hW.alike h
theorem wd_args {w : Cond} (hb : wdB w = true) {U : State} (h : va_Nw w U) (A : Array Value) : w.before A U = true := by
  rcases wd_cases hb with g | ⟨a, i, x, hh, rfl⟩ | ⟨C, rfl⟩
  · exact word_at (State.WarmedH.refl U) (good_of_word g) h
  · exact va_Nw.use rfl h
  · exact va_AO.use h
theorem Kn.moved {dC : Nat → ClassId} {dI : Nat → Nat → Nat} {cA : FieldType → ClassId} {u U : State} (hW : u.WarmedH U.vm) (h : Kn dC dI cA u) : Kn dC dI cA U := ⟨va_K.moved hW.alike h.1, fun w hw => wd_moved (wd_all w hw) hW (h.2 w hw)⟩
theorem Kn.wd {dC : Nat → ClassId} {dI : Nat → Nat → Nat} {cA : FieldType → ClassId} {U : State} (h : Kn dC dI cA U) (A : Array Value) : ∀ w ∈ wt, w.before A U = true := fun w hw => wd_args (wd_all w hw) (h.2 w hw) A
/-! locals -/
def lvp (ρ : Nat → Nat) (lv : LV) : List (Nat × Value) := (List.range lv.length).filterMap fun i => match lv[i]? with
  | some (some v) => some (i, mp ρ v)
  | _ => none
theorem LR.has {ρ : Nat → Nat} {ls : Array Slot} {nL : Nat} {lv : LV} (h : LR ρ ls nL lv) : lv_has ls nL (lvp ρ lv) := by
  refine ⟨h.1, h.2.1, fun q hq => ?_⟩
  obtain ⟨i, -, hi⟩ := List.mem_filterMap.mp hq
  split at hi
  next v hv => cases hi; exact (h.2.2.2 i v hv).2
  next => cases hi
theorem cat1_mp {ρ : Nat → Nat} {v : Value} (h : cat1 v = true) : (mp ρ v).category = 1 := by
  cases v <;> first | rfl | cases h
theorem LR.st {ρ : Nat → Nat} {ls ls' : Array Slot} {nL : Nat} {lv : LV} {i : Nat} {v : Value} (h : LR ρ ls nL lv) (hi : i < lv.length) (hc : cat1 v = true) (h' : lv_has ls' nL ((i, mp ρ v) :: (lvp ρ lv).filter (fun q => !(q.1 == i) && !(q.1 + 1 == i && q.2.category == 2)))) : LR ρ ls' nL (lv.set i (some v)) := by
  refine ⟨h'.1, h'.2.1, by simp [h.2.2.1], fun j w hj => ?_⟩
  by_cases hji : j = i
  · subst hji
    rw [List.getElem?_set_self hi] at hj
    cases hj
    exact ⟨hc, h'.2.2 (j, mp ρ v) List.mem_cons_self⟩
  · rw [List.getElem?_set_ne (Ne.symm hji)] at hj
    obtain ⟨c1, c2⟩ := h.2.2.2 j w hj
    refine ⟨c1, h'.2.2 (j, mp ρ w) (List.mem_cons_of_mem _ (List.mem_filter.mpr ⟨?_, ?_⟩))⟩
    · have hl : j < lv.length := (List.getElem?_eq_some_iff.mp hj).1
      exact List.mem_filterMap.mpr ⟨j, List.mem_range.mpr hl, by rw [hj]⟩
    · have := cat1_mp (ρ := ρ) c1
      simp [hji, this]
/-! reading the helpers -/
theorem ldv_inv {lv : LV} {i : Nat} {f : Value → Prop} (h : ldv lv i f) : ∃ v, lv[i]? = some (some v) ∧ f v := by
  unfold ldv at h
  split at h
  next v hv => exact ⟨v, hv, h⟩
  next => exact h.elim
theorem pI_inv {st : List Value} {f : Int32 → List Value → Prop} (h : pI st f) : ∃ a r, st = .int a :: r ∧ f a r := by
  unfold pI at h; split at h
  · exact ⟨_, _, rfl, h⟩
  · exact h.elim
theorem pII_inv {st : List Value} {f : Int32 → Int32 → List Value → Prop} (h : pII st f) : ∃ y x r, st = .int y :: .int x :: r ∧ f y x r := by
  unfold pII at h; split at h
  · exact ⟨_, _, _, rfl, h⟩
  · exact h.elim
theorem pJJ_inv {st : List Value} {f : Int64 → Int64 → List Value → Prop} (h : pJJ st f) : ∃ y x r, st = .long y :: .long x :: r ∧ f y x r := by
  unfold pJJ at h; split at h
  · exact ⟨_, _, _, rfl, h⟩
  · exact h.elim
theorem pR_inv {st : List Value} {f : Nat → List Value → Prop} (h : pR st f) : ∃ a r, st = .ref a :: r ∧ f a r := by
  unfold pR at h; split at h
  · exact ⟨_, _, rfl, h⟩
  · exact h.elim
theorem pIR_inv {st : List Value} {f : Int32 → Nat → List Value → Prop} (h : pIR st f) : ∃ i a r, st = .int i :: .ref a :: r ∧ f i a r := by
  unfold pIR at h; split at h
  · exact ⟨_, _, _, rfl, h⟩
  · exact h.elim
theorem pIIR_inv {st : List Value} {f : Int32 → Int32 → Nat → List Value → Prop} (h : pIIR st f) : ∃ x i a r, st = .int x :: .int i :: .ref a :: r ∧ f x i a r := by
  unfold pIIR at h; split at h
  · exact ⟨_, _, _, _, rfl, h⟩
  · exact h.elim
theorem pRIR_inv {st : List Value} {f : Nat → Int32 → Nat → List Value → Prop} (h : pRIR st f) : ∃ b i a r, st = .ref b :: .int i :: .ref a :: r ∧ f b i a r := by
  unfold pRIR at h; split at h
  · exact ⟨_, _, _, _, rfl, h⟩
  · exact h.elim
theorem pV_inv {st : List Value} {f : Value → List Value → Prop} (h : pV st f) : ∃ v r, st = v :: r ∧ f v r := by
  unfold pV at h; split at h
  · exact ⟨_, _, rfl, h⟩
  · exact h.elim
theorem pVV_inv {st : List Value} {f : Value → Value → List Value → Prop} (h : pVV st f) : ∃ v w r, st = v :: w :: r ∧ f v w r := by
  unfold pVV at h; split at h
  · exact ⟨_, _, _, rfl, h⟩
  · exact h.elim
theorem pVR_inv {st : List Value} {f : Value → Nat → List Value → Prop} (h : pVR st f) : ∃ v a r, st = v :: .ref a :: r ∧ f v a r := by
  unfold pVR at h; split at h
  · exact ⟨_, _, _, rfl, h⟩
  · exact h.elim
theorem objAt_inv {S : AS} {a : Nat} {f : Nat → List Value → Prop} (h : objAt S a f) : ∃ ci fs, S[a]? = some (.inl (ci, fs)) ∧ f ci fs := by
  unfold objAt at h; split at h
  next q hq => exact ⟨q.1, q.2, hq, h⟩
  next => exact h.elim
theorem arrAt_inv {S : AS} {a : Nat} {f : FieldType → Nat → (Nat → Option Nat) → Prop} (h : arrAt S a f) : ∃ ty n g, S[a]? = some (.inr (ty, n, g)) ∧ f ty n g := by
  unfold arrAt at h; split at h
  next q hq => exact ⟨q.1, q.2.1, q.2.2, hq, h⟩
  next => exact h.elim
theorem inB_inv {i : Int32} {n : Nat} {f : Nat → Prop} (h : ∃ j : Nat, i = nI j ∧ (j < n ∧ n ≤ 4096) ∧ f j) : vp_in i n ∧ f i.toNatClampNeg := by
  obtain ⟨j, rfl, ⟨hj, hn⟩, h⟩ := h
  have hc : (nI j).toNatClampNeg = j := nI_clamp (by omega)
  exact ⟨vp_in_nI hj (by omega), by rw [hc]; exact h⟩
theorem fat_inv {fs : List Value} {j : Nat} {f : Value → Prop} (h : fat fs j f) : ∃ v, fs[j]? = some v ∧ f v := by
  unfold fat at h; split at h
  next v hv => exact ⟨v, hv, h⟩
  next => exact h.elim
theorem bifF {c : Bool} {A : Prop} (h : bif c then A else False) : c = true ∧ A := by
  cases c with
  | true => exact ⟨rfl, h⟩
  | false => exact h.elim
theorem swl_lookup {pc : Nat} {x : Int32} {f : Nat → Prop} {tg : Nat} {dflt : Int} (ht : (pc : Int) + dflt = (tg : Int)) : ∀ (sw : List (Int32 × Nat)) (ps : List (Int × Int)), sw.map (fun (q : Int32 × Nat) => ((q.1.toInt, (q.2 : Int) - (pc : Int)) : Int × Int)) = ps → swl sw tg x f → ∃ (t : Nat) (off : Int), Op.lookupswitch.offset ps dflt x.toInt = off ∧ (pc : Int) + off = (t : Int) ∧ f t
  | [], ps, hm, h => by
    subst hm
    exact ⟨tg, dflt, rfl, ht, h⟩
  | (v, t) :: r, ps, hm, h => by
    subst hm
    unfold swl at h
    by_cases hx : x = v
    · rw [if_pos hx] at h
      refine ⟨t, (t : Int) - (pc : Int), ?_, by omega, h⟩
      rw [List.map_cons, Op.lookupswitch.offset_cons, if_pos (by rw [hx])]
    · rw [if_neg hx] at h
      obtain ⟨t', off, h1, h2, h3⟩ := swl_lookup ht r _ rfl h
      refine ⟨t', off, ?_, h2, h3⟩
      rw [List.map_cons, Op.lookupswitch.offset_cons, if_neg (fun q => hx (Int32.toInt_inj.mp q).symm), h1]
theorem swl_in {x : Int32} {f : Nat → Prop} {tg : Nat} : ∀ (sw : List (Int32 × Nat)), swl sw tg x f → (∃ (j : Nat) (q : Int32 × Nat), sw[j]? = some q ∧ x = q.1 ∧ f q.2) ∨ ((∀ q ∈ sw, ¬ x = q.1) ∧ f tg)
  | [], h => Or.inr ⟨fun q hq => (by cases hq), h⟩
  | (v, t) :: r, h => by
    unfold swl at h
    by_cases hx : x = v
    · rw [if_pos hx] at h
      exact Or.inl ⟨0, (v, t), rfl, hx, h⟩
    · rw [if_neg hx] at h
      rcases swl_in r h with ⟨j, q, h1, h2, h3⟩ | ⟨h1, h2⟩
      · exact Or.inl ⟨j + 1, q, h1, h2, h3⟩
      · refine Or.inr ⟨fun q hq => ?_, h2⟩
        rcases List.mem_cons.mp hq with rfl | hq
        · exact hx
        · exact h1 q hq
def dvok : FieldType → Bool
  | .float => false
  | .double => false
  | _ => true
theorem cl_dv : ∀ (ci : Nat) (r : vw_C), vwCl[ci]? = some r → numF ci = r.2.2 ∧ r.2.2 ≤ 1200 ∧ ∀ k, k < r.2.2 → dvok (tyF ci k) = true
  | 0, _, h => by cases h; decide +kernel
  | 1, _, h => by cases h; decide +kernel
  | 2, _, h => by cases h; decide +kernel
  | 3, _, h => by cases h; decide +kernel
  | 4, _, h => by cases h; decide +kernel
  | 5, _, h => by cases h; decide +kernel
  | 6, _, h => by cases h; decide +kernel
  | 7, _, h => by cases h; decide +kernel
  | 8, _, h => by cases h; decide +kernel
  | _ + 9, _, h => by simp [vwCl] at h
theorem dv_ok {ρ : Nat → Nat} {M : AM} {L : AL} {n j : Nat} {ty : FieldType} (hz : zr M L n) (h : dvok ty = true) : defaultValue ty = fk ρ M L n j (dv ty) := by
  cases ty <;> first | (simp [dv, fk, fkA, mp, defaultValue, hz.1, hz.2]; done) | (simp [dvok] at h; done)
theorem wo_push (cA : FieldType → ClassId) (ρ : Nat → Nat) (S : AS) (sh : Sh) (M : AM) (L : AL) : wo cA ρ (S ++ [sh]) M L = wo cA ρ S M L ++ [(ρ S.length, cv cA ρ M L S.length sh)] := by
  simp [wo, List.mapIdx_append]
theorem AA_sub {n0 : Nat} {cA : FieldType → ClassId} {ρ : Nat → Nat} {s0 sz : Nat} {S : AS} {M : AM} {L : AL} (hD : va_D (AA n0 ρ s0) (wo cA ρ S M L)) (hz : s0 ≤ sz) : ∀ q, AA S.length ρ sz q → AA n0 ρ s0 q := by
  rintro q (⟨k, hk, rfl⟩ | h)
  · exact hD.2 k _ (wo_at (List.getElem?_eq_getElem hk))
  · exact Or.inr (Nat.le_trans hz h)
section SD
variable {p : Program} {l : Launch} {e : Env} {s : State} {m : MethodId} {args : Array Value} {below : List Frame} {meth : Method} {c : Code} {dC : Nat → ClassId} {dI : Nat → Nat → Nat} {cA : FieldType → ClassId} {ρ : Nat → Nat}
theorem cq_call {R : Room} {H : Heap} {locs : List Loc} {cells slots mc' ms' pc : Nat} {ls : Array Slot} {st0 rest : List Value} {Qd : State → Prop} {Q' : QT} {S : AS} {A0 : Nat → Prop} {a : Array Value}
    (hr : va_Run p l e R s m args below meth c H locs cells slots mc' ms' (F0 m pc ls st0) rest (CQ dC dI cA ρ H.size S.length Q' a) (AA S.length ρ H.size)) (hS : va_S A0 s.heap H locs) (hA : ∀ q, AA S.length ρ H.size q → A0 q)
    (kk : ∀ (r : Option Value) (S' : AS) (M' : AM) (L' : AL) (H1 : Heap) (locs1 : List Loc), Q' r S' M' L' → S.length ≤ S'.length → H1.size + S.length = H.size + S'.length → va_P (dC, dI) vwCl (wo cA ρ S' M' L') H1 → va_D A0 (wo cA ρ S' M' L') → va_S A0 s.heap H1 locs1 → W p l e R s m args below meth c H1 locs1 (cells + mc') (slots + ms') Qd (F0 m (pc + 3) ls ((r.map (mp ρ)).toList ++ rest))) : W p l e R s m args below meth c H locs cells slots Qd (F0 m pc ls st0) := by
  intro T hT X
  obtain ⟨v, st₀, t, T', L, h0, X', hL, e1, e2, ⟨⟨r, S', M', L', hq, hv, hle, hsz, hP, hD⟩, hz, hk⟩, st⟩ := hr T hT X
  cases hv
  rw [h0] at hz hk
  obtain ⟨t2, a1, b1⟩ := kk r S' M' L' T'.heap (locs ++ L) hq hle (by rw [e1]; exact hsz) (by rw [e1]; exact hP) (hD.weaken (fun k q _ h => hA _ h))
    ⟨Nat.le_trans hS.1 (by rw [e1]; exact hz), fun q h1 h2 => by rw [e1, hk q (Nat.lt_of_lt_of_le h1 hS.1) (fun z => h2 (hA q z))]; exact hS.2.1 q h1 h2, fun q hq => by
      rcases List.mem_append.mp hq with h | h
      · exact hS.2.2 q h
      · exact hA _ (hL q h)⟩ T' rfl X'
  exact ⟨t2, st t2 a1, b1⟩
theorem cp_blind {sz mc : Nat} {S : AS} {M : AM} {L : AL} {as : List Value} : FrameBlind (CP dC dI cA ρ sz mc S M L as) := fun a U g mk q => by
  obtain ⟨q1, q2, q3, q4, q5, q6⟩ := q
  exact ⟨q1, q2, Kn.moved (u := U) (U := U.calling g mk a) (State.WarmedH.refl U) q3, q4, q5, q6⟩
theorem tbE_spec {E : ME} (h : tb_E E = true) : (mN E).cls = ownN (mO E) ∧ ((mN E).cls ≠ "java/lang/invoke/MethodHandle" ∧ (mN E).cls ≠ "java/lang/invoke/VarHandle" ∧ (parseMethodDescriptor (mN E).desc).map (fun d => d.parameters.length) = some (mP E)) ∧ plainName (mN E).cls = true ∧ Cond.code (mN E) (mB E) (mL E) (mR E) ∈ wt ∧ Cond.initialized (mN E).cls ∈ wt ∧ (mS E = true → Cond.static (mN E) ∈ wt) ∧ (mS E = false → Cond.instanceMethod (mN E) ∈ wt ∧ ((mN E).name ≠ "<init>" → Cond.selects (mN E).cls (mN E) (mN E) ∈ wt)) ∧ mL E ≤ 45 := by
  unfold tb_E at h
  simp only [Bool.and_eq_true, decide_eq_true_eq, Nat.ble_eq] at h
  obtain ⟨⟨⟨⟨⟨⟨⟨⟨h1, h2⟩, h3⟩, h4⟩, h5⟩, h6⟩, h7⟩, h8⟩, h9⟩ := h
  refine ⟨h1, ⟨h2, h3, h4⟩, h5, wt_of h6 rfl, wt_of h7 rfl, fun hs => ?_, fun hs => ?_, h9⟩
  · rw [hs] at h8; exact wt_of (by simpa using h8) rfl
  · rw [hs] at h8
    simp only [cond_false, Bool.and_eq_true, Bool.or_eq_true, decide_eq_true_eq] at h8
    exact ⟨wt_of h8.1 rfl, fun hn => wt_of (h8.2.resolve_left hn) rfl⟩
theorem good_code (y : MethodName) (b : ByteArray) (n : Nat) (r : Option FieldType) : ((Cond.code y b n r).onTables && (Cond.code y b n r).keeps) = true ∨ ∃ ty, Cond.code y b n r = .arrayClass ty := by
  first | exact Or.inl rfl | exact Or.inl (by simp [Cond.onTables, Cond.keeps, Cond.steady])
/-- what a call asks, whatever its kind -/
theorem call_cb {d' mc mc' : Nat} {E' : ME} {o x : Nat} (hts : ∀ w ∈ wt, w.before args s = true) (hE : tb_E E' = true) (hl : Cond.methodLink (ownN o) x (mN E') ∈ wt) : CallB (Rm (d' + 1) mc) s args (ownN o) x (mN E') (mB E') (mL E') (mR E') [Cond.code (mN E') (mB E') (mL E') (mR E')] (Rm d' mc') mc' (1200 * mc') (mP E') := by
  obtain ⟨h1, h2, h3, h4, h5, h6, h7, h8⟩ := tbE_spec hE
  exact callB_of (Ts := wt) (mP E') hts (fun w hw => by rw [List.mem_singleton.mp hw]; exact ⟨h4, good_code _ _ _ _⟩) rfl rfl rfl (hts _ h5) (hts _ hl) h2 ⟨Nat.le_refl _, by show 8 + (mL E' + 11) + 64 * d' ≤ 64 * (d' + 1); omega⟩
theorem call_cn {d' mc mc' : Nat} {E' : ME} {o x : Nat} (hK : Kn dC dI cA s) (hE : tb_E E' = true) (hl : Cond.methodLinkNest (ownN o) x (mN E') "RingArticles" ∈ wt) : va_CN (Rm (d' + 1) mc) s args (ownN o) x (mN E') "RingArticles" (mB E') (mL E') (mR E') [Cond.code (mN E') (mB E') (mL E') (mR E')] (Rm d' mc') mc' (1200 * mc') (mP E') := by
  obtain ⟨h1, h2, h3, h4, h5, h6, h7, h8⟩ := tbE_spec hE
  have hts := hK.wd args
  exact va_cnB (Ts := wt) (mP E') hts (fun w hw => by rw [List.mem_singleton.mp hw]; exact ⟨h4, good_code _ _ _ _⟩) rfl rfl rfl (hK.2 _ hl) (hts _ h5) h2 ⟨Nat.le_refl _, by show 8 + (mL E' + 11) + 64 * d' ≤ 64 * (d' + 1); omega⟩
theorem map_mp_cat {ρ : Nat → Nat} (r : List Value) (h : r.length ≤ 4) : ((r.map (mp ρ)).map fun v => v.category).sum ≤ 8 := by
  have key : ∀ r : List Value, ((r.map (mp ρ)).map fun v => v.category).sum ≤ 2 * r.length := by
    intro r
    induction r with
    | nil => simp
    | cons v r ih =>
      have : (mp ρ v).category ≤ 2 := by rcases lv_cat (mp ρ v) with h | h <;> omega
      simp only [List.map_cons, List.sum_cons, List.length_cons]
      omega
  have := key r
  omega
end SD
