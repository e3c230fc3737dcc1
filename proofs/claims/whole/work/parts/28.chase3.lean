/-! ===== chases, side by side ===== -/
def p1 (v : Nat → Int32) (o : Nat) : Option Nat → Nat → Int32
  | none => v
  | some j => upd v (o + j) (v (o + j) + 1)
def chV (v : Nat → Int32) (tk : Bool) (g b : Int32) (w k : Option Nat) : Nat → Int32 :=
  let v1 := bif tk then upd (upd v 2 (v 2 + g)) 34 (upd v 2 (v 2 + g) 34 ||| b) else p1 (p1 v 9 w) 15 w
  let v2 := upd v1 33 (v1 33 ||| b)
  p1 v2 27 k
theorem u1_p1 (M : AM) (r o : Nat) (w : Option Nat) : u1 M r o w r = p1 (M r) o w := by
  cases w with
  | none => rfl
  | some j => exact um_upd _ _ _ _
theorem chM_at (M : AM) (r : Nat) (tk : Bool) (g : Int32) (s : Nat) (w k : Option Nat) : chM M r tk g s w k r = chV (M r) tk g ((1 : Int32) <<< (nI s &&& 31)) w k := by
  unfold chM chV
  dsimp only
  rw [u1_p1, um_upd]
  cases tk with
  | true => rw [cond_true, cond_true, um_upd, um_upd]
  | false => rw [cond_false, cond_false, u1_p1, u1_p1]
theorem chM_ne {M : AM} {r l : Nat} {tk : Bool} {g : Int32} {s : Nat} {w k : Option Nat} (h : l ≠ r) : chM M r tk g s w k l = M l := by
  unfold chM
  rw [u1_ne h, um_ne _ _ _ h]
  cases tk with
  | true => rw [cond_true, um_ne _ _ _ h, um_ne _ _ _ h]
  | false => rw [cond_false, u1_ne h, u1_ne h]
theorem chX_ne {M : AM} {l : Nat} {tk : Bool} {g : Int32} {s : Nat} {w k : Option Nat} (h : l < 9 ∨ 15 ≤ l) : chX M tk g s w k l = M l := by
  unfold chX
  rw [u1_ne (by omega), um_ne _ _ _ (by omega)]
  cases tk with
  | true => rw [cond_true, um_ne _ _ _ (by omega), um_ne _ _ _ (by omega)]
  | false => rw [cond_false, u1_ne (by omega), u1_ne (by omega)]
def EqV (f g : Nat → Int32) : Prop := ∀ k, k < 35 → f k = g k
theorem EqV_upd {f g : Nat → Int32} (h : EqV f g) (j : Nat) {x y : Int32} (hx : x = y) : EqV (upd f j x) (upd g j y) := fun k hk => upd_congr (h k hk) hx
theorem EqV_p1 {f g : Nat → Int32} (h : EqV f g) {o : Nat} {w : Option Nat} (hw : ∀ j, w = some j → o + j < 35) : EqV (p1 f o w) (p1 g o w) := by
  cases w with
  | none => exact h
  | some j => exact EqV_upd h _ (by rw [h _ (hw j rfl)])
theorem EqV_chV {f g : Nat → Int32} (h : EqV f g) (tk : Bool) (x b : Int32) {w k : Option Nat} (hw : ∀ j, w = some j → j < 6) (hk : ∀ j, k = some j → j < 6) : EqV (chV f tk x b w k) (chV g tk x b w k) := by
  have key : EqV (bif tk then upd (upd f 2 (f 2 + x)) 34 (upd f 2 (f 2 + x) 34 ||| b) else p1 (p1 f 9 w) 15 w) (bif tk then upd (upd g 2 (g 2 + x)) 34 (upd g 2 (g 2 + x) 34 ||| b) else p1 (p1 g 9 w) 15 w) := by
    cases tk with
    | true =>
      have h1 := EqV_upd h 2 (x := f 2 + x) (y := g 2 + x) (by rw [h 2 (by decide)])
      exact EqV_upd h1 34 (by rw [h1 34 (by decide)])
    | false => exact EqV_p1 (EqV_p1 h (fun j e => by have := hw j e; omega)) (fun j e => by have := hw j e; omega)
  exact EqV_p1 (EqV_upd key 33 (by rw [key 33 (by decide)])) (fun j e => by have := hk j e; omega)
theorem mv_u1 {M : AM} {a : Nat} {w : Option Nat} (ha : a = 2 ∨ a = 3 ∨ a = 5) (hw : ∀ j, w = some j → j < 6) : EqV (mv (u1 M (9 + a) 0 w) 9) (p1 (mv M 9) (6 * a - 3) w) := by
  cases w with
  | none => exact fun k hk => rfl
  | some j =>
    have hj := hw j rfl
    intro k hk
    rw [u1_0, mv_um_a M 9 a j _ (by omega) hj hk]
    refine upd_congr rfl ?_
    congr 1
    rcases ha with rfl | rfl | rfl
    · exact (mv_9 M 9 hj).symm
    · exact (mv_15 M 9 hj).symm
    · exact (mv_27 M 9 hj).symm
theorem EqV.trans {f g h : Nat → Int32} (h1 : EqV f g) (h2 : EqV g h) : EqV f h := fun k hk => (h1 k hk).trans (h2 k hk)
theorem chX_mv (M : AM) (tk : Bool) (g : Int32) (s : Nat) {w k : Option Nat} (hw : ∀ j, w = some j → j < 6) (hk : ∀ j, k = some j → j < 6) : EqV (mv (chX M tk g s w k) 9) (chV (mv M 9) tk g ((1 : Int32) <<< (nI s &&& 31)) w k) := by
  unfold chX chV
  dsimp only
  refine (mv_u1 (a := 5) (by omega) hk).trans ?_
  refine EqV_p1 ?_ (fun j e => by have := hk j e; omega)
  generalize hM1 : (bif tk then um (um M 9 2 (M 9 2 + g)) 9 4 (um M 9 2 (M 9 2 + g) 9 4 ||| (1 : Int32) <<< (nI s &&& 31)) else u1 (u1 M 11 0 w) 12 0 w) = M1
  have key : EqV (mv M1 9) (bif tk then upd (upd (mv M 9) 2 (mv M 9 2 + g)) 34 (upd (mv M 9) 2 (mv M 9 2 + g) 34 ||| (1 : Int32) <<< (nI s &&& 31)) else p1 (p1 (mv M 9) 9 w) 15 w) := by
    subst hM1
    cases tk with
    | true =>
      intro i hi
      rw [cond_true, cond_true, mv_um_f _ _ _ _ (by decide) hi]
      refine upd_congr ?_ ?_
      · rw [mv_um_f _ _ _ _ (by decide) hi]; rfl
      · rw [um_oth _ _ _ (by decide), pk_un (by decide)]; rfl
    | false => exact (mv_u1 (a := 3) (by omega) hw).trans (EqV_p1 (mv_u1 (a := 2) (by omega) hw) (fun j e => by have := hw j e; omega))
  intro i hi
  rw [mv_um_f _ _ _ _ (by decide) hi]
  refine upd_congr (key i hi) ?_
  rw [← key 33 (by decide)]; rfl
theorem p1_val (v : Nat → Int32) (o : Nat) (w : Option Nat) (h : Nat) : p1 v o w (o + h) = if w = some h then v (o + h) + 1 else v (o + h) := by
  cases w with
  | none => rfl
  | some j =>
    by_cases z : j = h
    · subst z; rw [if_pos rfl]; exact pk_us
    · rw [if_neg (by intro y; cases y; exact z rfl)]; exact pk_un (by omega)
theorem p1_ne {v : Nat → Int32} {o : Nat} {w : Option Nat} {i : Nat} (hw : ∀ j, w = some j → j < 6) (h : i < o ∨ o + 6 ≤ i) : p1 v o w i = v i := by
  cases w with
  | none => rfl
  | some j => have := hw j rfl; exact pk_un (by omega)
theorem or_nI5 : ∀ s, s < 5 → ∀ x, x < 32 → nI x ||| (1 : Int32) <<< (nI s &&& 31) = nI (x ||| 2 ^ s) := by decide +kernel
theorem or_sub : ∀ s, s < 5 → ∀ x, x < 32 → ∀ y, y < 32 → x &&& y = x → (x ||| 2 ^ s) &&& (y ||| 2 ^ s) = x ||| 2 ^ s ∧ x &&& (y ||| 2 ^ s) = x := by decide +kernel
theorem pow_le5 {i : Nat} (h : i ≤ 5) : 2 ^ i ≤ 32 := Nat.pow_le_pow_right (by decide) h
theorem Vq.chase {n ns c s gv : Nat} {v : Nat → Int32} (h : Vq n ns c v) (n6 : n ≤ 6) (n5 : ns ≤ 5) (hs : s < ns) (hg : gv ≤ 99) (tk : Bool) {w k : Option Nat} (hw : ∀ j, w = some j → j < n) (hk : ∀ j, k = some j → j < 6) : Vq n ns (c + 1) (chV v tk (nI gv) ((1 : Int32) <<< (nI s &&& 31)) w k) := by
  obtain ⟨⟨a, a1, a2⟩, ⟨mt, tn, m1, m2, m3, m4⟩, ⟨ch, hd, h3, h4, h5⟩, h6, h7⟩ := h
  have hw6 : ∀ j, w = some j → j < 6 := fun j e => by have := hw j e; omega
  have hp := pow_le5 n5
  have htn : tn ≤ mt := by rw [← m4]; exact Nat.and_le_right
  have hs2 : 2 ^ s < 2 ^ ns := Nat.pow_lt_pow_right (by decide) hs
  have hmt : mt ||| 2 ^ s < 2 ^ ns := Nat.or_lt_two_pow m1 hs2
  have os := or_sub s (by omega) tn (by omega) mt (by omega) m4
  generalize hb : (1 : Int32) <<< (nI s &&& 31) = b
  have ob : ∀ x, x < 32 → nI x ||| b = nI (x ||| 2 ^ s) := by subst hb; exact or_nI5 s (by omega)
  have low : ∀ i, i < 27 ∨ i = 34 → chV v tk (nI gv) b w k i = (bif tk then upd (upd v 2 (v 2 + nI gv)) 34 (upd v 2 (v 2 + nI gv) 34 ||| b) else p1 (p1 v 9 w) 15 w) i := fun i hi => by
    unfold chV
    rw [p1_ne hk (by omega), pk_un (by omega)]
  have c33 : chV v tk (nI gv) b w k 33 = v 33 ||| b := by
    unfold chV
    rw [p1_ne hk (by omega), pk_us]
    cases tk with
    | true => rw [cond_true, pk_un (by decide), pk_un (by decide)]
    | false => rw [cond_false, p1_ne hw6 (by omega), p1_ne hw6 (by omega)]
  have same : ∀ i, (i < 27 ∧ i ≠ 2 ∧ ¬ (9 ≤ i ∧ i < 21)) → chV v tk (nI gv) b w k i = v i := fun i hi => by
    rw [low i (by omega)]
    cases tk with
    | true => rw [cond_true, pk_un (by omega), pk_un (by omega)]
    | false => rw [cond_false, p1_ne hw6 (by omega), p1_ne hw6 (by omega)]
  refine ⟨⟨a, a1, by rw [same 0 (by omega)]; exact a2⟩, ⟨mt ||| 2 ^ s, bif tk then tn ||| 2 ^ s else tn, hmt, by rw [c33, m2, ob mt (by omega)], ?_, ?_⟩, ⟨bif tk then ch + gv else ch, hd, ?_, fun h hh => by rw [same _ (by omega)]; exact h4 h hh, ?_⟩, fun h hh => ?_, fun h hh => ?_⟩
  · rw [low 34 (by omega)]
    cases tk with
    | true => rw [cond_true, cond_true, pk_us, pk_un (by decide), m3, ob tn (by omega)]
    | false => rw [cond_false, cond_false, p1_ne hw6 (by omega), p1_ne hw6 (by omega), m3]
  · cases tk with
    | true => exact os.1
    | false => exact os.2
  · rw [low 2 (by omega)]
    cases tk with
    | true => rw [cond_true, cond_true, pk_un (by decide), pk_us, h3, nI_add]
    | false => rw [cond_false, cond_false, p1_ne hw6 (by omega), p1_ne hw6 (by omega), h3]
  · cases tk with
    | true => rw [cond_true]; omega
    | false => rw [cond_false]; omega
  · obtain ⟨x, x1, x2⟩ := h6 h hh
    rw [low _ (by omega)]
    cases tk with
    | true => exact ⟨x, by omega, by rw [cond_true, pk_un (by omega), pk_un (by omega)]; exact x2⟩
    | false =>
      rw [cond_false, p1_ne hw6 (by omega), p1_val]
      by_cases z : w = some h
      · exact ⟨x + 1, by omega, by rw [if_pos z, x2, nI_1]⟩
      · exact ⟨x, by omega, by rw [if_neg z, x2]⟩
  · obtain ⟨x, x1, x2, x3⟩ := h7 h hh
    rw [low _ (by omega)]
    cases tk with
    | true => exact ⟨x, by omega, by rw [cond_true, pk_un (by omega), pk_un (by omega)]; exact x2, x3⟩
    | false =>
      rw [cond_false, p1_val, p1_ne hw6 (by omega)]
      by_cases z : w = some h
      · exact ⟨x + 1, by omega, by rw [if_pos z, x2, nI_1], fun y => absurd (hw h z) (by omega)⟩
      · exact ⟨x, by omega, by rw [if_neg z, x2], x3⟩
theorem chV_hi {v : Nat → Int32} {tk : Bool} {g b : Int32} {w k : Option Nat} {i : Nat} (hw : ∀ j, w = some j → j < 6) (hk : ∀ j, k = some j → j < 6) (hi : 35 ≤ i) : chV v tk g b w k i = v i := by
  unfold chV
  rw [p1_ne hk (by omega), pk_un (by omega)]
  cases tk with
  | true => rw [cond_true, pk_un (by omega), pk_un (by omega)]
  | false => rw [cond_false, p1_ne hw (by omega), p1_ne hw (by omega)]
theorem wk_eq {n a : Nat} {sm sx : Nat → Int32} (n6 : n ≤ 6) (ha : a < 2 ^ n) (he : ∀ h, h < n → sx h = sm h) : upB (fun h => fAb (nI a) (nI h)) (ltS sx) 6 = dnB (fun h => fAb (nI a) (nI h)) (fun h w => decide (sm h ≤ sm w)) n n := by
  have h1 := upB_spec (ab := fun h => fAb (nI a) (nI h)) (lt := ltS sx) (g := fun h => (sx h).toInt) (fun h w => decide_eq_decide.mpr Int32.lt_iff_toInt_lt) 6
  have h2 := dnB_spec (ab := fun h => fAb (nI a) (nI h)) (le := fun h w => decide (sm h ≤ sm w)) (g := fun h => (sm h).toInt) (n := n) (fun h w => decide_eq_decide.mpr Int32.le_iff_toInt_le) n (Nat.le_refl n)
  rw [Nat.sub_self] at h2
  exact (h1.cut n6 (fun h g1 g2 => fAb_out ha n6 g1 g2)).uniq (h2.congr (fun h _ => rfl) (fun h hh _ => by rw [he h hh]))
theorem ke_eq {n a : Nat} {sm sx : Nat → Int32} (n6 : n ≤ 6) (ha : a < 2 ^ n) (he : ∀ h, h < n → sx h = sm h) : upB (fun h => fAb (nI a) (nI h)) (gtS sx) 6 = dnB (fun h => fAb (nI a) (nI h)) (fun h w => decide (sm w ≤ sm h)) n n := by
  have h1 := upB_spec (ab := fun h => fAb (nI a) (nI h)) (lt := gtS sx) (g := fun h => - (sx h).toInt) (fun h w => decide_eq_decide.mpr (Int32.lt_iff_toInt_lt.trans (by omega))) 6
  have h2 := dnB_spec (ab := fun h => fAb (nI a) (nI h)) (le := fun h w => decide (sm w ≤ sm h)) (g := fun h => - (sm h).toInt) (n := n) (fun h w => decide_eq_decide.mpr (Int32.le_iff_toInt_le.trans (by omega))) n (Nat.le_refl n)
  rw [Nat.sub_self] at h2
  exact (h1.cut n6 (fun h g1 g2 => fAb_out ha n6 g1 g2)).uniq (h2.congr (fun h _ => rfl) (fun h hh _ => by rw [he h hh]))
section SD6
variable {c rot : Nat} {Mm : AM} {Lm : AL} {Mx : AM} {Lx : AL}
theorem st_chases (hR : Rel c rot Mm Lm Mx Lx) (s : Int32) : Step E8_chases E7_chases [.int s] c rot Mm Lm Mx Lx := by
  obtain ⟨n, ns, np, hT, hL, hI, hX, hS, hl⟩ := id hR
  obtain ⟨⟨n6, n5, p5⟩, ⟨hn, hn'⟩, ⟨hs, hs'⟩, -, -, t3, t4, t5, -, tg, tgo, -⟩ := id hT
  obtain ⟨v0, v1, v2, v3, v4, -, w9, -, -, w27⟩ := vec_all hL.1
  obtain ⟨⟨a, a1, a2⟩, ⟨mt, tn, m1, m2, -⟩, -⟩ := id hL.2.1
  have a2 : Mm 13 0 = nI a := by simpa using a2
  have m2 : Mm 13 33 = nI mt := by simpa using m2
  obtain ⟨-, -, k, k10, k2, k3, -⟩ := id hL
  have k2 : Mm 13 35 = nI k := by simpa using k2
  have hp : ∀ h, h < 6 → ¬ fAb (Mx 9 0) (nI h) = 0 → 0 ≤ Mx 4 h := by
    intro h hh hb
    have hlt : h < n := Classical.byContradiction fun y => hb (by rw [v0, a2]; exact fAb_out a1 n6 (by omega) hh)
    obtain ⟨r, r1, -, r2⟩ := t5 h hlt
    rw [r2]
    exact Int32.not_lt.mp (nI_pos (by omega))
  rcases ix_cases s (n := ns) (by omega) with ⟨g, bad⟩ | ⟨j, hj, rfl, bad, uq⟩
  · exact step_read hR (.int (-1)) (fun Q hQ => cm_chases hn n6 hs n5 k2 k10 (fun _ => hQ) (fun j hj e => (bad j hj e).elim) (fun j hj e => (bad j hj e).elim)) (fun Q hQ => cx_chases hs' n5 k3 k10 hp (fun _ => hQ) (fun j hj e => (bad j hj e).elim) (fun j hj e => (bad j hj e).elim))
  have hz : fAb (Mx 9 3) (nI j) = 0 ↔ ¬ Mm 13 33 >>> (nI j &&& 31) &&& 1 = 1 := by
    rw [v3, fAb_zero]
    rcases and1 (Mm 13 33 >>> (nI j &&& 31)) with z | z
    · rw [z]; decide
    · rw [z]; decide
  by_cases z : Mm 13 33 >>> (nI j &&& 31) &&& 1 = 1
  · refine step_read hR (.int (-2)) (fun Q hQ => cm_chases hn n6 hs n5 k2 k10 (fun y => absurd y bad) (fun j' hj' e' _ => hQ) (fun j' hj' e' y1 => ?_)) (fun Q hQ => cx_chases hs' n5 k3 k10 hp (fun y => absurd y bad) (fun j' hj' e' _ => hQ) (fun j' hj' e' y1 => ?_))
    · cases uq j' hj' e'; exact absurd z y1
    · cases uq j' hj' e'; exact absurd z (hz.mp y1)
  obtain ⟨gv, g1, g2, g3⟩ := tgo j hj
  obtain ⟨gn, gn1, gn2, gn3⟩ := tg j hj
  have base : ∀ i, i < 35 → kM Mm k 13 i = Mm 13 i := fun i hi => by rw [kM_at, knowV_lt hi]
  have wlt : ∀ i, wkM (kM Mm k) 13 n = some i → i < n := dnB_lt n (Nat.le_refl n)
  have klt : ∀ i, keM (kM Mm k) 13 n = some i → i < n := dnB_lt n (Nat.le_refl n)
  generalize hw : wkM (kM Mm k) 13 n = w at wlt
  generalize hke : keM (kM Mm k) 13 n = ke at klt
  generalize htk : tkM (kM Mm k) 13 n j = tk
  have w6 : ∀ i, w = some i → i < 6 := fun i e => by have := wlt i e; omega
  have k6 : ∀ i, ke = some i → i < 6 := fun i e => by have := klt i e; omega
  refine ⟨.int (bif tk then nI gv else -5), chM (kM Mm k) 13 tk (nI gv) j w ke, Lm, fun Q hQ => cm_chases hn n6 hs n5 k2 k10 (fun y => absurd y bad) (fun j' hj' e' y => ?_) (fun j' hj' e' y => ?_), fun Q hQ => cx_chases hs' n5 k3 k10 hp (fun y => absurd y bad) (fun j' hj' e' y => ?_) (fun j' hj' e' y rot' Mr hr => ?_)⟩
  · cases uq j' hj' e'; exact absurd y z
  · cases uq j' hj' e'; rw [hw, hke, htk, g2]; exact hQ
  · cases uq j' hj' e'; exact absurd (hz.mpr z) y
  · cases uq j' hj' e'
    have hb := rem_base hL hr
    have r9 := hr.1 9 (by omega)
    have r3 := hr.1 3 (by omega)
    have r4 := hr.1 4 (by omega)
    have r6 := hr.1 6 (by omega)
    have r11 := hr.1 11 (by omega)
    have ew : wkX Mr = w := by
      rw [← hw]
      unfold wkX wkM
      rw [r9, v0, base 0 (by decide), a2]
      refine wk_eq (sm := fun h => fStr (kM Mm k 4 h - kM Mm k 13 (9 + h))) n6 a1 (fun h hh => ?_)
      obtain ⟨r, q1, q2, q3⟩ := t4 h hh
      rw [r3, r11, kM_ne _ _ (by decide), base _ (by omega), q2, q3, w9 h (by omega)]
    have ek : keX Mr = ke := by
      rw [← hke]
      unfold keX keM
      rw [r9, v0, base 0 (by decide), a2]
      refine ke_eq (sm := fun h => kM Mm k 5 h) n6 a1 (fun h hh => ?_)
      obtain ⟨r, q1, q2, q3⟩ := t5 h hh
      rw [r4, kM_ne _ _ (by decide), q2, q3]
    have et : tkX Mr j = tk := by
      rw [← htk]
      unfold tkX tkM
      have e1 : fcX Mr = fcM (kM Mm k) 13 n := by
        unfold fcX fcM
        rw [r9, r3, r11, force_eq hT hL]
        refine (sumTo_ext (fun h hh => ?_) n (Nat.le_refl n) (fun h h1 h2 => absurd h1 (by omega))).symm
        unfold fForce
        dsimp only
        rw [base 0 (by decide), kM_ne _ _ (by decide), base (9 + h) (by omega)]
      rw [e1, r6, kM_ne _ _ (by decide), gn2, gn3]
    rw [ew, ek, et, g3]
    have hb' : EqV (mv Mr 9) (knowV (Mm 13) k) := fun i hi => hb i hi
    refine hQ rot' _ Lx (mk_step hT hL hI hX hS hl k10 k3 hr (fun l hl => by rw [chM_ne hl, kM_ne _ _ hl]) (fun i hi => by rw [chM_at, kM_at, chV_hi w6 k6 hi]) (fun l hl => chX_ne hl) (fun i hi => ?_) ?_)
    · rw [chM_at, kM_at, chX_mv Mr tk _ j w6 k6 i hi]
      exact EqV_chV hb' tk _ _ w6 k6 i hi
    · rw [chM_at, kM_at]
      refine Vq.chase ?_ n6 n5 hj g1 tk wlt k6
      exact hL.2.1.congr (fun i hi => by rw [knowV_lt hi, Nat.zero_add])
end SD6
