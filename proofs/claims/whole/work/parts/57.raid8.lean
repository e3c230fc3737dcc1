/-! ===== raid, side by side ===== -/
theorem raid_chk : ∀ ns, ns < 6 → ∀ mt, mt < 32 → mt < 2 ^ ns → pc6 mt ≤ ns ∧ (upsL mt ns).length = ns - pc6 mt ∧ chn (ns - pc6 mt) (ordL ns (ns - pc6 mt) mt) = true ∧ (ordL ns (ns - pc6 mt) mt).head? = some (upsL mt ns) := by decide +kernel
theorem cm_raid {d n a F ns mt : Nat} {i : Int32} {vf wd gn go : Nat → Nat} {M : AM} {w : Option Nat} {L : AL} {Q : QT} (n6 : n ≤ 6) (hn : M 2 0 = nI n) (a64 : a < 64) (hout : ∀ h, n ≤ h → a.testBit h = false) (ha : M 13 0 = nI a) (hv : ∀ h, h < n → M 4 h = nI (vf h) ∧ vf h < 2 ^ 29) (hw : ∀ h, h < n → M 13 (9 + h) = nI (wd h) ∧ wd h < 2 ^ 29) (hF : Fst (fun h => fAb (nI a) (nI h)) (fun h => ((vf h - wd h : Nat) : Int)) 0 n w) (hwb : ∀ h, w = some h → h < n ∧ a.testBit h = true) (eF : FsN (fun h => vf h - wd h) a 6 = F) (F30 : F < 2 ^ 29)
    (ns5 : ns ≤ 5) (hs : M 7 0 = nI ns) (hgn : ∀ s, s < ns → M 8 s = nI (gn s)) (hgo : ∀ s, s < ns → M 9 s = nI (go s)) (gnb : ∀ s, gn s ≤ 60) (gob : ∀ s, go s ≤ 99) (hm : M 13 33 = nI mt) (m2 : mt < 2 ^ ns)
    {s : Nat × List Nat} (hS : fdR (fun os => rnL gn go F (wkN (fun h => vf h - wd h) w) os 0 0) [] (ordL ns (ns - pc6 mt) mt) (0, []) = s) (s0 : 0 < s.1)
    (h1 : fIn i (-1) 4 = 0 → Q (some (.int (-1))) Sm M L) (h2 : i = -1 → ∀ M', mj M M' → Q (some (.int (nI s.1 - 1))) Sm M' L) (h3 : ∀ j, j < 5 → i = nI j → ns - pc6 mt ≤ j → ∀ M', mj M M' → Q (some (.int (-9))) Sm M' L) (h4 : ∀ j, j < ns - pc6 mt → i = nI j → ∀ M', mj M M' → Q (some (.int (nI (gtL s.2 j)))) Sm M' L) : CW E8_raid (d + 3) 0 [.ref 0, .int i] Sm M L Q := by
  have hp5 := pow_le5 ns5
  have m32 : mt < 32 := by omega
  obtain ⟨c0, c1, c2, c3⟩ := raid_chk ns (by omega) mt m32 m2
  have r5 : ns - pc6 mt ≤ 5 := by omega
  have fill : ∀ k, k ≤ ns → ∀ T, RMm M T (upsL mt (ns - k)).length (upsL mt (ns - k)) (0, []) → ¬ fIn i (-1) 4 = 0 → AW E8_raid (d + 3) 0 Sm.length Q 18 [some (.ref 0), some (.int i), some (.int (nI (ns - k))), none, none, none] [] Sm T L 0 := by
    intro k
    induction k with
    | zero =>
      intro _ T hT hi
      rw [Nat.sub_zero, c1] at hT
      refine aw_run ok8_raid (at1 72) 60 ?_
      refine inBI 0 rfl (by decide) ?_
      refine ifT (c := T 7 0 ≤ nI (ns - 0)) (by rw [hT.1 7 (by decide) (by decide) (by decide) (by decide), hs]; exact Int32.le_refl _) ?_
      obtain ⟨R, ls, eL⟩ : ∃ R ls, ordL ns (ns - pc6 mt) mt = R :: ls := by
        cases e : ordL ns (ns - pc6 mt) mt with
        | nil => rw [e] at c2; cases c2
        | cons R ls => exact ⟨R, ls, rfl⟩
      have eR : R = upsL mt ns := by rw [eL] at c3; exact Option.some.inj c3
      rw [← eR] at hT
      have hlen := fun os ho => ordL_len (ns := ns) (ns - pc6 mt) mt os ho
      rw [eL] at hlen c2 hS
      have k0 := cm_raidL (d := d) (n0 := Sm.length) (i := i) (M0 := M) (L := L) (Q := Q) n6 hn a64 hout ha hv hw hF hwb eF F30 ns5 hgn hgo gnb gob r5 (sE := s) ?_ ls R T (0, []) none none hlen c2 (by decide) hT hS
      · exact k0
      · intro T' R' v4 v5 h'
        refine aw_run ok8_raid noStop 60 ?_
        refine iteI (fun (e : i = -1) => ?_) (fun (e : ¬ i = -1) => ?_)
        · exact h2 e T' h'.mj
        · obtain ⟨j, hj, rfl⟩ : ∃ j, j < 5 ∧ i = nI j := by
            have q1 : ¬ i < -1 := fun y => hi (by unfold fIn; rw [if_pos y])
            have q2 : ¬ (4 : Int32) < i := fun y => hi (by unfold fIn; rw [if_neg q1, if_pos y])
            rcases pk_ix i (n := 5) (by decide) with q | q | ⟨x, hx, rfl⟩
            · exfalso
              apply e
              rw [Int32.lt_iff_toInt_lt] at q q1
              have z0 : (0 : Int32).toInt = 0 := by decide
              have z1 : (-1 : Int32).toInt = -1 := by decide
              exact Int32.toInt_inj.mp (by omega)
            · exact absurd (Int32.lt_of_lt_of_le (by decide) q) q2
            · exact ⟨x, hx, rfl⟩
          by_cases q : ns - pc6 mt ≤ j
          · refine ifT (c := T' 0 26 ≤ nI j) (by rw [h'.2.2.1]; exact nI_le q (by omega)) ?_
            exact h3 j hj rfl q T' h'.mj
          · refine ifF (c := T' 0 26 ≤ nI j) (by rw [h'.2.2.1]; exact nI_ge (by omega) (by omega)) ?_
            refine inBI (n := 5) j rfl hj ?_
            have := h4 j (by omega) rfl T' h'.mj
            rw [← h'.2.2.2.2 s0 j (by omega)] at this
            exact this
    | succ k ih =>
      intro hk T hT hi
      obtain ⟨j, hj⟩ : ∃ j, ns - (k + 1) = j := ⟨_, rfl⟩
      rw [hj] at hT ⊢
      rw [show ns - k = j + 1 by omega, nI_succ] at ih
      have ih := ih (by omega)
      rw [upsL] at ih
      have len := upsL_len mt j
      obtain ⟨t1, t2, t3, t4, t5⟩ := id hT
      have e13 := t1 13 (by decide) (by decide) (by decide) (by decide)
      refine aw_run ok8_raid (at1 18) 60 ?_
      refine inBI 0 rfl (by decide) ?_
      refine ifF (c := T 7 0 ≤ nI j) (by rw [t1 7 (by decide) (by decide) (by decide) (by decide), hs]; exact nI_ge (by omega) (by omega)) ?_
      refine inBI (n := 1158) 33 rfl (by decide) ?_
      have fz := fAb_zero (nI mt) (nI j)
      rw [fAb_nI mt (by omega) j (by omega)] at fz
      cases et : mt.testBit j with
      | true =>
        rw [et] at fz
        rw [if_pos et] at ih
        refine ifF (c := T 13 33 >>> (nI j &&& 31) &&& 1 = 0) (by rw [e13, hm]; exact fun y => absurd (fz.mpr y) (by decide)) ?_
        exact ih T hT hi
      | false =>
        rw [et] at fz
        rw [if_neg (by rw [et]; decide)] at ih
        refine ifT (c := T 13 33 >>> (nI j &&& 31) &&& 1 = 0) (by rw [e13, hm]; exact fz.mp rfl) ?_
        refine inBI (n := 5) (upsL mt j).length t3 (by omega) ?_
        refine ih _ ?_ hi
        rw [List.length_append, show [j].length = 1 from rfl]
        refine ⟨fun l q1 q2 q3 q4 => ?_, fun p hp => ?_, ?_, fun p hp => ?_, fun y => absurd y (by decide)⟩
        · rw [um_ne _ _ _ q1, um_ne _ _ _ q3]; exact t1 l q1 q2 q3 q4
        · rw [um_oth _ _ _ hp, um_ne _ _ _ (by decide)]; exact t2 p hp
        · rw [um_same, nI_succ, ← t3]; rfl
        · rw [um_ne _ _ _ (by decide)]
          by_cases e : p = (upsL mt j).length
          · rw [e, um_same, gtL_r]
          · rw [um_oth _ _ _ e, gtL_l (by omega)]; exact t4 p (by omega)
  refine cw_ent ok8_raid (at1 18) 60 ?_
  refine cm_in ?_
  refine iteI (fun z => h1 z) (fun z => ?_)
  have k0 := fill ns (Nat.le_refl _) (um M 0 26 0) (by
    rw [Nat.sub_self]
    refine ⟨fun l q1 q2 q3 q4 => um_ne _ _ _ q1, fun p hp => um_oth _ _ _ hp, by rw [um_same]; rfl, fun p hp => absurd hp (Nat.not_lt_zero p), fun y => absurd y (by decide)⟩) z
  rw [Nat.sub_self] at k0
  exact k0
theorem upR_pos (v : Nat) (os : List Nat) (s : Nat × List Nat) : 0 < (upR v os s).1 := by
  unfold upR
  by_cases z : s.1 < v + 1
  · rw [if_pos z]; exact Nat.succ_pos v
  · rw [if_neg z]; omega
theorem fdR_pos {ev : List Nat → Nat} {pre : List Nat} : ∀ ls s, 0 < s.1 → 0 < (fdR ev pre ls s).1
  | [], _, h => h
  | os :: ls, s, _ => fdR_pos ls _ (upR_pos _ _ _)
section SD12
variable {c rot : Nat} {Mm : AM} {Lm : AL} {Mx : AM} {Lx : AL}
theorem st_raid (hc : c < 100000) (hR : Rel c rot Mm Lm Mx Lx) (i : Int32) : StepP E8_raid E7_raid [.int i] c rot Mm Lm Mx Lx := by
  obtain ⟨n, ns, np, hT, hL, -⟩ := id hR
  obtain ⟨⟨n6, n5, -⟩, ⟨hn, hn'⟩, ⟨hs, hs'⟩, -, -, -, t4, -, -, tg, tgo, -⟩ := id hT
  obtain ⟨v0, -, -, v3, -, -, w9, -⟩ := vec_all hL.1
  obtain ⟨⟨a, a1, a2⟩, ⟨mt, tn, m1, m2, -⟩, -, h6, -⟩ := id hL.2.1
  have a2 : Mm 13 0 = nI a := by simpa using a2
  have m2 : Mm 13 33 = nI mt := by simpa using m2
  have hp := pow_le6 n6
  have hp5 := pow_le5 n5
  have a64 : a < 64 := by omega
  have hx9 : Mx 9 0 = nI a := v0.trans a2
  have hx3 : Mx 9 3 = nI mt := v3.trans m2
  have hout : ∀ h, n ≤ h → a.testBit h = false := fun h hh => Nat.testBit_lt_two_pow (Nat.lt_of_lt_of_le a1 (Nat.pow_le_pow_right (by decide) hh))
  obtain ⟨vf, f1, f2, f3⟩ : ∃ vf : Nat → Nat, (∀ h, h < n → Mm 4 h = nI (vf h) ∧ vf h < 2 ^ 29) ∧ (∀ h, h < n → Mx 3 h = nI (vf h)) ∧ ∀ h, vf h ≤ 9 := by
    refine ⟨fun q => if hq : q < n then Classical.choose (t4 q hq) else 0, fun q hq => ?_, fun q hq => ?_, fun q => ?_⟩
    · have := Classical.choose_spec (t4 q hq); dsimp only; rw [dif_pos hq]; exact ⟨this.2.1, by omega⟩
    · have := Classical.choose_spec (t4 q hq); dsimp only; rw [dif_pos hq]; exact this.2.2
    · dsimp only
      by_cases y : q < n
      · have := Classical.choose_spec (t4 q y); rw [dif_pos y]; exact this.1
      · rw [dif_neg y]; omega
  obtain ⟨wd, d1, d2⟩ : ∃ wd : Nat → Nat, (∀ h, h < n → Mm 13 (9 + h) = nI (wd h) ∧ wd h < 2 ^ 29) ∧ (∀ h, h < n → Mx 11 h = nI (wd h)) := by
    refine ⟨fun q => if hq : q < 6 then Classical.choose (h6 q hq) else 0, fun q hq => ?_, fun q hq => ?_⟩
    · have hq : q < 6 := by omega
      have := Classical.choose_spec (h6 q hq); dsimp only; rw [dif_pos hq]; exact ⟨by simpa using this.2, by omega⟩
    · have hq6 : q < 6 := by omega
      have := Classical.choose_spec (h6 q hq6); dsimp only; rw [dif_pos hq6, w9 q hq6]; simpa using this.2
  obtain ⟨gn, gb, g1, g2⟩ : ∃ gn : Nat → Nat, (∀ q, gn q ≤ 60) ∧ (∀ q, q < ns → Mm 8 q = nI (gn q)) ∧ ∀ q, q < ns → Mx 6 q = nI (gn q) := by
    refine ⟨fun q => if hq : q < ns then Classical.choose (tg q hq) else 0, fun q => ?_, fun q hq => ?_, fun q hq => ?_⟩
    · dsimp only
      by_cases y : q < ns
      · have := Classical.choose_spec (tg q y); rw [dif_pos y]; exact this.1
      · rw [dif_neg y]; omega
    · have := Classical.choose_spec (tg q hq); dsimp only; rw [dif_pos hq]; exact this.2.1
    · have := Classical.choose_spec (tg q hq); dsimp only; rw [dif_pos hq]; exact this.2.2
  obtain ⟨go, ob, o1, o2⟩ : ∃ go : Nat → Nat, (∀ q, go q ≤ 99) ∧ (∀ q, q < ns → Mm 9 q = nI (go q)) ∧ ∀ q, q < ns → Mx 7 q = nI (go q) := by
    refine ⟨fun q => if hq : q < ns then Classical.choose (tgo q hq) else 0, fun q => ?_, fun q hq => ?_, fun q hq => ?_⟩
    · dsimp only
      by_cases y : q < ns
      · have := Classical.choose_spec (tgo q y); rw [dif_pos y]; exact this.1
      · rw [dif_neg y]; omega
    · have := Classical.choose_spec (tgo q hq); dsimp only; rw [dif_pos hq]; exact this.2.1
    · have := Classical.choose_spec (tgo q hq); dsimp only; rw [dif_pos hq]; exact this.2.2
  have sX : ∀ h, h < n → fStr (Mx 3 h - Mx 11 h) = nI (vf h - wd h) := fun h hh => by
    rw [f2 h hh, d2 h hh, fStr_sub (by have := (f1 h hh).2; omega) (by have := (d1 h hh).2; omega)]
  have ux := upB_spec (ab := fun h => fAb (nI a) (nI h)) (lt := ltS (fun h => fStr (Mx 3 h - Mx 11 h))) (g := fun h => (fStr (Mx 3 h - Mx 11 h)).toInt) (fun h w => decide_eq_decide.mpr Int32.lt_iff_toInt_lt) 6
  have ewk : wkX Mx = upB (fun h => fAb (nI a) (nI h)) (ltS (fun h => fStr (Mx 3 h - Mx 11 h))) 6 := by unfold wkX; rw [hx9]
  rw [← ewk] at ux
  generalize hw : wkX Mx = w at ux
  have hF : Fst (fun h => fAb (nI a) (nI h)) (fun h => ((vf h - wd h : Nat) : Int)) 0 n w := by
    refine (ux.cut n6 (fun h g1 g2 => fAb_out a1 n6 g1 g2)).congr (fun h _ => rfl) (fun h hh _ => ?_)
    rw [sX h hh, nI_toInt (by have := (f1 h hh).2; omega)]
  have hwb : ∀ h, w = some h → h < n ∧ a.testBit h = true := fun h e => by
    subst e
    obtain ⟨-, q2, q3, -⟩ := hF
    refine ⟨q2, ?_⟩
    have fa := fAb_nI a a64 h (by omega)
    cases et : a.testBit h with
    | true => rfl
    | false => rw [et] at fa; exact absurd fa q3
  have fcx : fcX Mx = nI (FsN (fun h => vf h - wd h) a 6) := by
    unfold fcX
    refine FsN_nI (fun i hi => ?_) 6 (by omega)
    rw [hx9, fAb_nI a a64 i hi]
    cases et : a.testBit i with
    | false => rfl
    | true =>
      have hin : i < n := Classical.byContradiction fun y => by
        rw [hout i (by omega)] at et; cases et
      rw [if_neg (by decide), sX i hin]; rfl
  have Fb : FsN (fun h => vf h - wd h) a 6 ≤ 6 * 9 := FsN_le (fun i _ => by have := f3 i; omega) 6 (by omega)
  generalize eF : FsN (fun h => vf h - wd h) a 6 = F at fcx Fb
  have WF : wkN (fun h => vf h - wd h) w ≤ F := by
    cases w with
    | none => exact Nat.zero_le _
    | some h =>
      obtain ⟨q1, q2⟩ := hwb h rfl
      have := (FsN_cut (st := fun h => vf h - wd h) (l := 0) q2 6).2 (by omega)
      rw [eF] at this
      exact this
  have m32 : mt < 32 := by omega
  obtain ⟨c0, c1, c2, c3⟩ := raid_chk ns (by omega) mt m32 m1
  obtain ⟨s, hS⟩ : ∃ s, fdR (fun os => rnL gn go F (wkN (fun h => vf h - wd h) w) os 0 0) [] (ordL ns (ns - pc6 mt) mt) (0, []) = s := ⟨_, rfl⟩
  have s0 : 0 < s.1 := by
    rw [← hS]
    cases e : ordL ns (ns - pc6 mt) mt with
    | nil => rw [e] at c2; cases c2
    | cons R ls => exact fdR_pos ls _ (upR_pos _ _ _)
  obtain ⟨d, hd⟩ : ∃ d, 30 = d + (ns - pc6 mt) + 5 := ⟨25 - (ns - pc6 mt), by omega⟩
  have cx := fun Q h1 h2 h3 h4 => cx_raid (d := d) (rot := rot) (i := i) (st := fun h => vf h - wd h) (M := Mx) (L := Lx) (Q := Q) n5 hs' g2 o2 gb ob hx3 m32 c0 fcx (by omega) hw (fun h e => sX h (hwb h e).1) WF hS s0 h1 h2 h3 h4
  rw [← hd] at cx
  have cm := fun Q h1 h2 h3 h4 => cm_raid (d := 27) (i := i) (M := Mm) (L := Lm) (Q := Q) n6 hn a64 hout a2 f1 d1 hF hwb eF (by omega) n5 hs g1 o1 gb ob m2 m1 hS s0 h1 h2 h3 h4
  have nn : ∀ j, j < 5 → ¬ nI j = -1 := by decide +kernel
  have inn : ∀ j, j < 5 → ¬ fIn (nI j) (-1) 4 = 0 := by decide +kernel
  by_cases bad : fIn i (-1) 4 = 0
  · refine (step_read hR (.int (-1)) (fun Q hQ => cm Q (fun _ => hQ) (fun e => ?_) (fun j hj e => ?_) (fun j hj e => ?_)) (fun Q hQ => cx Q (fun _ => hQ) (fun e => ?_) (fun j hj e => ?_) (fun j hj e => ?_))).toP
    all_goals exfalso
    · subst e; exact absurd bad (by decide)
    · subst e; exact inn j hj bad
    · subst e; exact inn j (by omega) bad
    · subst e; exact absurd bad (by decide)
    · subst e; exact inn j hj bad
    · subst e; exact inn j (by omega) bad
  by_cases e1 : i = -1
  · refine step_junk hR (.int (nI s.1 - 1)) (fun Q hQ => cm Q (fun y => absurd y bad) (fun _ => hQ) (fun j hj e => ?_) (fun j hj e => ?_)) (fun Q hQ => cx Q (fun y => absurd y bad) (fun _ => hQ) (fun j hj e => ?_) (fun j hj e => ?_))
    · exact absurd (e.symm.trans e1) (nn j hj)
    · exact absurd (e.symm.trans e1) (nn j (by omega))
    · exact absurd (e.symm.trans e1) (nn j hj)
    · exact absurd (e.symm.trans e1) (nn j (by omega))
  obtain ⟨j, hj, rfl⟩ : ∃ j, j < 5 ∧ i = nI j := by
    have q1 : ¬ i < -1 := fun y => bad (by unfold fIn; rw [if_pos y])
    have q2 : ¬ (4 : Int32) < i := fun y => bad (by unfold fIn; rw [if_neg q1, if_pos y])
    rcases pk_ix i (n := 5) (by decide) with q | q | ⟨x, hx, rfl⟩
    · exfalso
      apply e1
      rw [Int32.lt_iff_toInt_lt] at q q1
      have z0 : (0 : Int32).toInt = 0 := by decide
      have z1 : (-1 : Int32).toInt = -1 := by decide
      exact Int32.toInt_inj.mp (by omega)
    · exact absurd (Int32.lt_of_lt_of_le (by decide) q) q2
    · exact ⟨x, hx, rfl⟩
  by_cases q : ns - pc6 mt ≤ j
  · refine step_junk hR (.int (-9)) (fun Q hQ => cm Q (fun y => absurd y bad) (fun e => absurd e e1) (fun _ _ _ _ => hQ) (fun j' hj' e => ?_)) (fun Q hQ => cx Q (fun y => absurd y bad) (fun e => absurd e e1) (fun _ _ _ _ => hQ) (fun j' hj' e => ?_))
    · cases (nI_eq (by omega) (by omega)).mp e; omega
    · cases (nI_eq (by omega) (by omega)).mp e; omega
  · refine step_junk hR (.int (nI (gtL s.2 j))) (fun Q hQ => cm Q (fun y => absurd y bad) (fun e => absurd e e1) (fun j' hj' e y => ?_) (fun j' hj' e => ?_)) (fun Q hQ => cx Q (fun y => absurd y bad) (fun e => absurd e e1) (fun j' hj' e y => ?_) (fun j' hj' e => ?_))
    · cases (nI_eq (by omega) (by omega)).mp e; exact absurd y q
    · cases (nI_eq (by omega) (by omega)).mp e; exact hQ
    · cases (nI_eq (by omega) (by omega)).mp e; exact absurd y q
    · cases (nI_eq (by omega) (by omega)).mp e; exact hQ
end SD12
