/-! ===== chases: the class ===== -/
/-- the class's way: from the lowest up, only a better one takes the place -/
def upB (ab : Nat → Int32) (lt : Nat → Nat → Bool) : Nat → Option Nat
  | 0 => none
  | i + 1 => bif (ab i).toInt == 0 then upB ab lt i else match upB ab lt i with
    | none => some i
    | some w => bif lt i w then some i else some w
section UP
variable {ab : Nat → Int32} {lt : Nat → Nat → Bool} {i : Nat}
theorem upB_skip (h : ab i = 0) : upB ab lt (i + 1) = upB ab lt i := by
  rw [upB, h]; rfl
theorem upB_none (h : ¬ ab i = 0) (e : upB ab lt i = none) : upB ab lt (i + 1) = some i := by
  rw [upB, nz_beq h, e]; rfl
theorem upB_lt {w : Nat} (h : ¬ ab i = 0) (e : upB ab lt i = some w) (h2 : lt i w = true) : upB ab lt (i + 1) = some i := by
  rw [upB, nz_beq h, e]
  show (bif lt i w then _ else _) = _
  rw [h2]; rfl
theorem upB_ge {w : Nat} (h : ¬ ab i = 0) (e : upB ab lt i = some w) (h2 : lt i w = false) : upB ab lt (i + 1) = some w := by
  rw [upB, nz_beq h, e]
  show (bif lt i w then _ else _) = _
  rw [h2]; rfl
end UP
/-- the first of the best in a stretch -/
def Fst (ab : Nat → Int32) (g : Nat → Int) (lo hi : Nat) : Option Nat → Prop
  | none => ∀ h, lo ≤ h → h < hi → ab h = 0
  | some w => lo ≤ w ∧ w < hi ∧ ¬ ab w = 0 ∧ (∀ h, lo ≤ h → h < hi → ¬ ab h = 0 → g w ≤ g h) ∧ ∀ h, lo ≤ h → h < w → ¬ ab h = 0 → g w < g h
theorem Fst.uniq {ab : Nat → Int32} {g : Nat → Int} {lo hi : Nat} {o o' : Option Nat} (h : Fst ab g lo hi o) (h' : Fst ab g lo hi o') : o = o' := by
  cases o with
  | none =>
    cases o' with
    | none => rfl
    | some w => exact absurd (h w h'.1 h'.2.1) h'.2.2.1
  | some v =>
    cases o' with
    | none => exact absurd (h' v h.1 h.2.1) h.2.2.1
    | some w =>
      obtain ⟨a1, a2, a3, a4, a5⟩ := h
      obtain ⟨b1, b2, b3, b4, b5⟩ := h'
      have c1 := a4 w b1 b2 b3
      have c2 := b4 v a1 a2 a3
      congr 1
      rcases Nat.lt_trichotomy v w with z | z | z
      · have := b5 v a1 z a3; omega
      · exact z
      · have := a5 w b1 z b3; omega
theorem upB_spec {ab : Nat → Int32} {lt : Nat → Nat → Bool} {g : Nat → Int} (hlt : ∀ h w, lt h w = decide (g h < g w)) : ∀ i, Fst ab g 0 i (upB ab lt i)
  | 0 => fun h _ hh => absurd hh (by omega)
  | i + 1 => by
    have ih := upB_spec (ab := ab) hlt i
    by_cases e : ab i = 0
    · rw [upB_skip e]
      cases e2 : upB ab lt i with
      | none =>
        rw [e2] at ih
        intro h _ hh
        by_cases z : h = i
        · subst z; exact e
        · exact ih h (by omega) (by omega)
      | some w =>
        rw [e2] at ih
        obtain ⟨a1, a2, a3, a4, a5⟩ := ih
        refine ⟨a1, by omega, a3, fun h _ hh hb => ?_, a5⟩
        by_cases z : h = i
        · subst z; exact absurd e hb
        · exact a4 h (by omega) (by omega) hb
    · cases e2 : upB ab lt i with
      | none =>
        rw [e2] at ih
        rw [upB_none e e2]
        refine ⟨by omega, by omega, e, fun h _ hh hb => ?_, fun h _ hh hb => ?_⟩
        · by_cases z : h = i
          · subst z; exact Int.le_refl _
          · exact absurd (ih h (by omega) (by omega)) hb
        · exact absurd (ih h (by omega) hh) hb
      | some w =>
        rw [e2] at ih
        obtain ⟨a1, a2, a3, a4, a5⟩ := ih
        by_cases e3 : g i < g w
        · rw [upB_lt e e2 (by rw [hlt]; exact decide_eq_true e3)]
          refine ⟨by omega, by omega, e, fun h _ hh hb => ?_, fun h _ hh hb => ?_⟩
          · by_cases z : h = i
            · subst z; exact Int.le_refl _
            · have := a4 h (by omega) (by omega) hb; omega
          · have := a4 h (by omega) (by omega) hb; omega
        · rw [upB_ge e e2 (by rw [hlt]; exact decide_eq_false e3)]
          refine ⟨a1, by omega, a3, fun h _ hh hb => ?_, a5⟩
          by_cases z : h = i
          · subst z; omega
          · exact a4 h (by omega) (by omega) hb
theorem dnB_spec {ab : Nat → Int32} {le : Nat → Nat → Bool} {g : Nat → Int} {n : Nat} (hle : ∀ h w, le h w = decide (g h ≤ g w)) : ∀ i, i ≤ n → Fst ab g (n - i) n (dnB ab le n i)
  | 0, _ => fun h h1 hh => absurd hh (by omega)
  | i + 1, hi => by
    have ih := dnB_spec (ab := ab) (n := n) hle i (by omega)
    obtain ⟨m, hm⟩ : ∃ m, n - i = m + 1 := ⟨n - i - 1, by omega⟩
    have hm1 : n - 1 - i = m := by omega
    have hm2 : n - (i + 1) = m := by omega
    rw [hm] at ih
    rw [hm2]
    by_cases e : ab m = 0
    · rw [dnB_skip hm1 e]
      cases e2 : dnB ab le n i with
      | none =>
        rw [e2] at ih
        intro h h1 hh
        by_cases z : h = m
        · subst z; exact e
        · exact ih h (by omega) (by omega)
      | some w =>
        rw [e2] at ih
        obtain ⟨a1, a2, a3, a4, a5⟩ := ih
        refine ⟨by omega, a2, a3, fun h _ hh hb => ?_, fun h _ hh hb => ?_⟩
        · by_cases z : h = m
          · subst z; exact absurd e hb
          · exact a4 h (by omega) (by omega) hb
        · by_cases z : h = m
          · subst z; exact absurd e hb
          · exact a5 h (by omega) (by omega) hb
    · cases e2 : dnB ab le n i with
      | none =>
        rw [e2] at ih
        rw [dnB_none hm1 e e2]
        refine ⟨by omega, by omega, e, fun h _ hh hb => ?_, fun h _ hh hb => ?_⟩
        · by_cases z : h = m
          · subst z; exact Int.le_refl _
          · exact absurd (ih h (by omega) (by omega)) hb
        · omega
      | some w =>
        rw [e2] at ih
        obtain ⟨a1, a2, a3, a4, a5⟩ := ih
        by_cases e3 : g m ≤ g w
        · rw [dnB_le hm1 e e2 (by rw [hle]; exact decide_eq_true e3)]
          refine ⟨by omega, by omega, e, fun h _ hh hb => ?_, fun h _ hh hb => ?_⟩
          · by_cases z : h = m
            · subst z; exact Int.le_refl _
            · have := a4 h (by omega) (by omega) hb; omega
          · omega
        · rw [dnB_gt hm1 e e2 (by rw [hle]; exact decide_eq_false e3)]
          refine ⟨by omega, by omega, a3, fun h _ hh hb => ?_, fun h _ hh hb => ?_⟩
          · by_cases z : h = m
            · subst z; omega
            · exact a4 h (by omega) (by omega) hb
          · by_cases z : h = m
            · subst z; omega
            · exact a5 h (by omega) (by omega) hb
theorem Fst.cut {ab : Nat → Int32} {g : Nat → Int} {n : Nat} {o : Option Nat} (n6 : n ≤ 6) (h : Fst ab g 0 6 o) (hz : ∀ h, n ≤ h → h < 6 → ab h = 0) : Fst ab g 0 n o := by
  cases o with
  | none => exact fun h' _ h2 => h h' (by omega) (by omega)
  | some w =>
    obtain ⟨a1, a2, a3, a4, a5⟩ := h
    refine ⟨a1, ?_, a3, fun h' _ h2 hb => a4 h' (by omega) (by omega) hb, a5⟩
    exact Classical.byContradiction fun y => a3 (hz w (by omega) a2)
theorem Fst.congr {ab ab' : Nat → Int32} {g g' : Nat → Int} {lo hi : Nat} {o : Option Nat} (h : Fst ab g lo hi o) (ha : ∀ h, h < hi → ab' h = ab h) (hg : ∀ h, h < hi → ¬ ab h = 0 → g' h = g h) : Fst ab' g' lo hi o := by
  cases o with
  | none => exact fun h' h1 h2 => by rw [ha h' h2]; exact h h' h1 h2
  | some w =>
    obtain ⟨a1, a2, a3, a4, a5⟩ := h
    refine ⟨a1, a2, by rw [ha w a2]; exact a3, fun h' h1 h2 hb => ?_, fun h' h1 h2 hb => ?_⟩
    · rw [ha h' h2] at hb
      rw [hg w a2 a3, hg h' h2 hb]; exact a4 h' h1 h2 hb
    · rw [ha h' (by omega)] at hb
      rw [hg w a2 a3, hg h' (by omega) hb]; exact a5 h' h1 h2 hb
theorem u1_0 (M : AM) (r j : Nat) : u1 M r 0 (some j) = um M r j (M r j + 1) := by
  show um M r (0 + j) (M r (0 + j) + 1) = _
  rw [Nat.zero_add]
def lst (ab sv : Nat → Int32) : Nat → Option Value
  | 0 => none
  | i + 1 => bif (ab i).toInt == 0 then lst ab sv i else some (.int (sv i))
def oV (z : Int32) (sv : Nat → Int32) : Option Nat → Int32
  | none => z
  | some j => sv j
def ltS (sv : Nat → Int32) (h w : Nat) : Bool := decide (sv h < sv w)
def gtS (sv : Nat → Int32) (h w : Nat) : Bool := decide (sv w < sv h)
def wkX (M : AM) : Option Nat := upB (fun h => fAb (M 9 0) (nI h)) (ltS (fun h => fStr (M 3 h - M 11 h))) 6
def keX (M : AM) : Option Nat := upB (fun h => fAb (M 9 0) (nI h)) (gtS (M 4)) 6
theorem upB_rng {ab : Nat → Int32} {lt : Nat → Nat → Bool} : ∀ i w, upB ab lt i = some w → w < i ∧ ¬ ab w = 0
  | 0, w, h => by cases h
  | i + 1, w, h => by
    by_cases e : ab i = 0
    · rw [upB_skip e] at h
      have := upB_rng i w h
      exact ⟨by omega, this.2⟩
    · cases e2 : upB ab lt i with
      | none =>
        rw [upB_none e e2] at h
        cases h
        exact ⟨by omega, e⟩
      | some v =>
        cases e3 : lt i v with
        | true =>
          rw [upB_lt e e2 e3] at h
          cases h
          exact ⟨by omega, e⟩
        | false =>
          rw [upB_ge e e2 e3] at h
          have := upB_rng i w (e2.trans h)
          exact ⟨by omega, this.2⟩
theorem cx_weakestOf {d rot : Nat} {M : AM} {L : AL} {Q : QT} (hq : Q (some (.int (oI (wkX M)))) (Sx rot) M L) : CW E7_weakestOf (d + 2) 0 [.ref 1, .ref 9] (Sx rot) M L Q := by
  refine cw_ent ok7_weakestOf (at1 8) 40 ?_
  refine aw_loop 6 (fun i => [some (.ref 1), some (.ref 9), some (.int (oI (upB (fun h => fAb (M 9 0) (nI h)) (ltS (fun h => fStr (M 3 h - M 11 h))) i))), some (.int (oV 0 (fun h => fStr (M 3 h - M 11 h)) (upB (fun h => fAb (M 9 0) (nI h)) (ltS (fun h => fStr (M 3 h - M 11 h))) i))), some (.int (nI i)), lst (fun h => fAb (M 9 0) (nI h)) (fun h => fStr (M 3 h - M 11 h)) i]) (fun _ => M) ?_ ?_
  · refine aw_run ok7_weakestOf (at1 8) 40 ?_
    exact hq
  · intro i hi ih
    rw [nI_succ] at ih
    by_cases e : fAb (M 9 0) (nI i) = 0
    · rw [upB_skip e, lst, e] at ih
      refine aw_run ok7_weakestOf (at1 8) 40 ?_
      refine ifF (nI_ge (b := 6) hi (by decide)) ?_
      refine cx_has hi ?_
      exact ifT e ih
    · rw [lst, nz_beq e] at ih
      cases ew : upB (fun h => fAb (M 9 0) (nI h)) (ltS (fun h => fStr (M 3 h - M 11 h))) i with
      | none =>
        rw [upB_none e ew] at ih
        refine aw_run ok7_weakestOf (at1 8) 40 ?_
        refine ifF (nI_ge (b := 6) hi (by decide)) ?_
        refine cx_has hi ?_
        refine ifF e ?_
        refine cx_strengthOf hi ?_
        exact ih
      | some w =>
        have hw := upB_rng i w ew
        refine aw_run ok7_weakestOf (at1 8) 40 ?_
        refine ifF (nI_ge (b := 6) hi (by decide)) ?_
        refine cx_has hi ?_
        refine ifF e ?_
        refine cx_strengthOf hi ?_
        refine ifF (oI_n9 (by omega)) ?_
        refine iteI (fun e2 => ?_) (fun e2 => ?_)
        · rw [upB_ge e ew (decide_eq_false (Int32.not_lt.mpr e2))] at ih
          exact ih
        · rw [upB_lt e ew (decide_eq_true (Int32.not_le.mp e2))] at ih
          exact ih
theorem cx_woundWeakest {d rot : Nat} {M : AM} {L : AL} {Q : QT} (hq : Q none (Sx rot) (u1 (u1 M 11 0 (wkX M)) 12 0 (wkX M)) L) : CW E7_woundWeakest (d + 3) 0 [.ref 0] (Sx rot) M L Q := by
  refine cw_ent ok7_woundWeakest noStop 40 ?_
  refine cx_weakestOf ?_
  have hw := upB_rng (ab := fun h => fAb (M 9 0) (nI h)) (lt := ltS (fun h => fStr (M 3 h - M 11 h))) 6
  cases ew : wkX M with
  | none =>
    rw [ew] at hq
    exact cx_hasAboard hq
  | some w =>
    have := hw w ew
    rw [ew] at hq
    refine cx_has this.1 ?_
    refine ifF this.2 ?_
    rw [u1_0, u1_0] at hq
    refine inBI (n := 6) w rfl this.1 ?_
    refine inBI (n := 6) w rfl this.1 ?_
    refine inBI (n := 6) w rfl this.1 ?_
    refine inBI (n := 6) w rfl this.1 ?_
    exact hq
theorem cx_givePistol {d rot : Nat} {M : AM} {L : AL} {Q : QT} (hp : ∀ h, h < 6 → ¬ fAb (M 9 0) (nI h) = 0 → 0 ≤ M 4 h) (hq : Q none (Sx rot) (u1 M 14 0 (keX M)) L) : CW E7_givePistol (d + 2) 0 [.ref 0] (Sx rot) M L Q := by
  refine cw_ent ok7_givePistol (at1 7) 40 ?_
  refine aw_loop 6 (fun i => [some (.ref 0), some (.int (oI (upB (fun h => fAb (M 9 0) (nI h)) (gtS (M 4)) i))), some (.int (oV (-1) (M 4) (upB (fun h => fAb (M 9 0) (nI h)) (gtS (M 4)) i))), some (.int (nI i))]) (fun _ => M) ?_ ?_
  · refine aw_run ok7_givePistol (at1 7) 40 ?_
    have hw := upB_rng (ab := fun h => fAb (M 9 0) (nI h)) (lt := gtS (M 4)) 6
    unfold keX at hq
    cases ew : upB (fun h => fAb (M 9 0) (nI h)) (gtS (M 4)) 6 with
    | none =>
      rw [ew] at hq
      exact cx_hasAboard hq
    | some w =>
      have := hw w ew
      rw [ew] at hq
      refine cx_has this.1 ?_
      refine ifF this.2 ?_
      rw [u1_0] at hq
      refine inBI (n := 6) w rfl this.1 ?_
      refine inBI (n := 6) w rfl this.1 ?_
      exact hq
  · intro i hi ih
    rw [nI_succ] at ih
    by_cases e : fAb (M 9 0) (nI i) = 0
    · rw [upB_skip e] at ih
      refine aw_run ok7_givePistol (at1 7) 40 ?_
      refine ifF (nI_ge (b := 6) hi (by decide)) ?_
      refine cx_has hi ?_
      exact ifT e ih
    · cases ew : upB (fun h => fAb (M 9 0) (nI h)) (gtS (M 4)) i with
      | none =>
        rw [upB_none e ew] at ih
        refine aw_run ok7_givePistol (at1 7) 40 ?_
        refine ifF (nI_ge (b := 6) hi (by decide)) ?_
        refine cx_has hi ?_
        refine ifF e ?_
        refine inBI (n := 6) i rfl hi ?_
        refine ifF (Int32.not_le.mpr (Int32.lt_of_lt_of_le (show (-1 : Int32) < 0 by decide) (hp i hi e))) ?_
        refine inBI (n := 6) i rfl hi ?_
        exact ih
      | some w =>
        have hw := upB_rng i w ew
        refine aw_run ok7_givePistol (at1 7) 40 ?_
        refine ifF (nI_ge (b := 6) hi (by decide)) ?_
        refine cx_has hi ?_
        refine ifF e ?_
        refine inBI (n := 6) i rfl hi ?_
        refine iteI (fun e2 => ?_) (fun e2 => ?_)
        · rw [upB_ge e ew (decide_eq_false (Int32.not_lt.mpr e2))] at ih
          exact ih
        · rw [upB_lt e ew (decide_eq_true (Int32.not_le.mp e2))] at ih
          refine inBI (n := 6) i rfl hi ?_
          exact ih
def fcX (M : AM) : Int32 := sumTo (fun h => if fAb (M 9 0) (nI h) = 0 then 0 else fStr (M 3 h - M 11 h)) 6
def tkX (M : AM) (s : Nat) : Bool := decide (M 6 s ≤ fcX M)
def chX (M : AM) (tk : Bool) (g : Int32) (s : Nat) (w k : Option Nat) : AM :=
  let M1 := bif tk then um (um M 9 2 (M 9 2 + g)) 9 4 (um M 9 2 (M 9 2 + g) 9 4 ||| (1 : Int32) <<< (nI s &&& 31)) else u1 (u1 M 11 0 w) 12 0 w
  let M2 := um M1 9 3 (M1 9 3 ||| (1 : Int32) <<< (nI s &&& 31))
  u1 M2 14 0 k
theorem u1_ne {M : AM} {r o l : Nat} {w : Option Nat} (h : l ≠ r) : u1 M r o w l = M l := by
  cases w with
  | none => rfl
  | some w => exact um_ne _ _ _ h
theorem keX_congr {M M' : AM} (h9 : M' 9 0 = M 9 0) (h4 : M' 4 = M 4) : keX M' = keX M := by
  unfold keX
  rw [h9, h4]
theorem cx_chases {d rot ns k : Nat} {s : Int32} {M : AM} {L : AL} {Q : QT} (hs : M 1 1 = nI ns) (hs5 : ns ≤ 5) (hk : M 15 1 = nI k) (hk10 : k ≤ 10) (hp : ∀ h, h < 6 → ¬ fAb (M 9 0) (nI h) = 0 → 0 ≤ M 4 h) (h1 : (s < 0 ∨ nI ns ≤ s) → Q (some (.int (-1))) (Sx rot) M L)
    (h2 : ∀ j, j < ns → s = nI j → ¬ fAb (M 9 3) (nI j) = 0 → Q (some (.int (-2))) (Sx rot) M L)
    (h3 : ∀ j, j < ns → s = nI j → fAb (M 9 3) (nI j) = 0 → ∀ rot' Mr, rem M Mr rot rot' k → Q (some (.int (bif tkX Mr j then M 7 j else -5))) (Sx rot') (chX Mr (tkX Mr j) (M 7 j) j (wkX Mr) (keX Mr)) L) : CW E7_chases (d + 4) 0 [.ref 0, .int s] (Sx rot) M L Q := by
  refine cw_ent ok7_chases noStop 90 ?_
  refine cx_isShip hs (by omega) (fun e => h1 e) (fun j hj e => ?_)
  subst e
  refine cw_isIn ?_
  rw [fIsIn_nI (by omega)]
  refine iteI (fun e => ?_) (fun e => h2 j hj rfl e)
  refine cx_rem hk hk10 (fun rot' Mr hr => ?_)
  have hq := h3 j hj rfl e rot' Mr hr
  have g9 := hr.1 9 (by omega)
  have g4 := hr.1 4 (by omega)
  rw [← hr.1 7 (by omega)] at hq
  rw [← g9, ← g4] at hp
  refine cx_forceOf ?_
  refine inBI (n := 5) j rfl (by omega) ?_
  refine iteI (fun e2 => ?_) (fun e2 => ?_)
  · have e3 : tkX Mr j = false := decide_eq_false (Int32.not_le.mpr e2)
    rw [e3] at hq
    refine cx_woundWeakest ?_
    refine cx_givePistol ?_ ?_
    · intro h hh hb
      rw [um_ne _ _ _ (by decide), u1_ne (by decide), u1_ne (by decide)]
      refine hp h hh (fun y => hb ?_)
      rw [um_oth _ _ _ (by decide), u1_ne (by decide), u1_ne (by decide)]
      exact y
    · rw [keX_congr (M := Mr)]
      · exact hq
      · rw [um_oth _ _ _ (by decide), u1_ne (by decide), u1_ne (by decide)]
      · rw [um_ne _ _ _ (by decide), u1_ne (by decide), u1_ne (by decide)]
  · have e3 : tkX Mr j = true := decide_eq_true (Int32.not_lt.mp e2)
    rw [e3] at hq
    refine inBI (n := 5) j rfl (by omega) ?_
    refine cx_givePistol ?_ ?_
    · intro h hh hb
      rw [um_ne _ _ _ (by decide), um_ne _ _ _ (by decide), um_ne _ _ _ (by decide)]
      refine hp h hh (fun y => hb ?_)
      rw [um_oth _ _ _ (by decide), um_oth _ _ _ (by decide), um_oth _ _ _ (by decide)]
      exact y
    · rw [keX_congr (M := Mr)]
      · refine inBI (n := 5) j rfl (by omega) ?_
        have e7 : ∀ (A B C : Int32) (w : Option Nat), u1 (um (um (um Mr 9 2 A) 9 4 B) 9 3 C) 14 0 w 7 j = Mr 7 j := fun A B C w => by
          rw [u1_ne (by decide), um_ne _ _ _ (by decide), um_ne _ _ _ (by decide), um_ne _ _ _ (by decide)]
        refine (congrArg (fun z => Q (some (.int z)) (Sx rot') _ L) (e7 _ _ _ _)).mpr ?_
        exact hq
      · rw [um_oth _ _ _ (by decide), um_oth _ _ _ (by decide), um_oth _ _ _ (by decide)]
      · rw [um_ne _ _ _ (by decide), um_ne _ _ _ (by decide), um_ne _ _ _ (by decide)]
