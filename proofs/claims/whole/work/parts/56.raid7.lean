/-! ===== raid: the model's rows ===== -/
theorem add_sub_l (x y : Int32) : x + y - x = y := by rw [Int32.add_comm, Int32.add_sub_cancel]
section RM2
variable {d n a F : Nat} {vf wd gn go : Nat → Nat} {M0 : AM} {w : Option Nat} {L : AL} {Q : QT}
theorem cm_raid1 {n0 ns rl V : Nat} {i : Int32} (n6 : n ≤ 6) (hn : M0 2 0 = nI n) (a64 : a < 64) (hout : ∀ h, n ≤ h → a.testBit h = false) (ha : M0 13 0 = nI a) (hv : ∀ h, h < n → M0 4 h = nI (vf h) ∧ vf h < 2 ^ 29) (hw : ∀ h, h < n → M0 13 (9 + h) = nI (wd h) ∧ wd h < 2 ^ 29) (hF : Fst (fun h => fAb (nI a) (nI h)) (fun h => ((vf h - wd h : Nat) : Int)) 0 n w) (hwb : ∀ h, w = some h → h < n ∧ a.testBit h = true) (eF : FsN (fun h => vf h - wd h) a 6 = F) (F30 : F < 2 ^ 29)
    (ns5 : ns ≤ 5) (hgn : ∀ s, s < ns → M0 8 s = nI (gn s)) (hgo : ∀ s, s < ns → M0 9 s = nI (go s)) (gnb : ∀ s, gn s ≤ 60) (r5 : rl ≤ 5) {R : List Nat} {T : AM} {s : Nat × List Nat} {v4 v5 : Option Value} (Rl : R.length = rl) (Rs : ∀ x, x ∈ R → x < ns) (s1 : s.1 ≤ 1000) (hT : RMm M0 T rl R s) (hV : rnL gn go F (wkN (fun h => vf h - wd h) w) R 0 0 = V) (V9 : V ≤ 495)
    (hq : ∀ T' v4 v5, RMm M0 T' rl R (upR V R s) → AW E8_raid (d + 3) 0 n0 Q 170 [some (.ref 0), some (.int i), some (.int (nI (upR V R s).1 - 1)), some (.int 1), v4, v5] [] Sm T' L 0) : AW E8_raid (d + 3) 0 n0 Q 72 [some (.ref 0), some (.int i), some (.int (nI s.1 - 1)), some (.int 1), v4, v5] [] Sm T L 0 := by
  obtain ⟨t1, t2, t3, t4, t5⟩ := id hT
  refine aw_run ok8_raid (at1 83) 60 ?_
  refine cm_take ?_
  generalize hT0 : sr T 15 (fun j => if j < 35 then T 13 j else T 15 j) = T0
  have z15 : ∀ j, j < 35 → T0 15 j = T 13 j := fun j hj => by rw [← hT0, sr_at, if_pos hj]
  have zne : ∀ k, k ≠ 15 → T0 k = T k := fun k hk => by rw [← hT0, sr_ne _ _ hk]
  have zm : ∀ k, k ≠ 0 → k ≠ 15 → k ≠ 17 → k ≠ 18 → T0 k = M0 k := fun k h1 h2 h3 h4 => by rw [zne k h2]; exact t1 k h1 h2 h3 h4
  have m13 : T0 13 = M0 13 := zm 13 (by decide) (by decide) (by decide) (by decide)
  have m4 : T0 4 = M0 4 := zm 4 (by decide) (by decide) (by decide) (by decide)
  have hI : ChI T0 T0 n w 0 0 := by
    refine ⟨fun _ _ => rfl, ?_, ?_, fun h hh => ?_⟩
    · rw [z15 0 (by decide), zne 13 (by decide)]
    · rw [z15 2 (by decide), zne 13 (by decide)]; exact (Int32.add_zero _).symm
    · rw [z15 _ (by omega), zne 13 (by decide)]
      have : (if w = some h then 0 else 0) = 0 := by split <;> rfl
      rw [this]; exact (Int32.add_zero _).symm
  refine cm_raidC (M0 := T0) (d := d) (R := R) (rl := rl) (ns := ns) (gn := gn) (go := go) n6 (by rw [zm 2 (by decide) (by decide) (by decide) (by decide)]; exact hn) a64 hout (by rw [m13]; exact ha) (by rw [m4]; exact hv) (by rw [m13]; exact hw) hF hwb eF F30 ns5 (by rw [zm 8 (by decide) (by decide) (by decide) (by decide)]; exact hgn) (by rw [zm 9 (by decide) (by decide) (by decide) (by decide)]; exact hgo) gnb r5 (by rw [zne 0 (by decide)]; exact t3) (by rw [zne 17 (by decide)]; exact t4) Rl Rs R [] T0 0 0 _ rfl (by omega) hI ?_
  intro T' e1 e2 v4
  rw [hV] at e2
  have eT : T' 15 2 - T' 13 2 = nI V := by rw [e2, e1 13 (by decide), add_sub_l]
  have lm := le_m1 (v := V) (m := s.1) (by omega) (by omega)
  have rm0 : ∀ s', (0 < s'.1 → ∀ p, p < rl → T' 18 p = nI (gtL s'.2 p)) → RMm M0 T' rl R s' := fun s' h5 => by
    refine ⟨fun l h1 h2 h3 h4 => ?_, fun j hj => ?_, ?_, fun p hp => ?_, h5⟩
    · rw [e1 l h2]; exact zm l h1 h2 h3 h4
    · rw [e1 0 (by decide), zne 0 (by decide)]; exact t2 j hj
    · rw [e1 0 (by decide), zne 0 (by decide)]; exact t3
    · rw [e1 17 (by decide), zne 17 (by decide)]; exact t4 p hp
  refine aw_run ok8_raid (at2 141 170) 60 ?_
  refine inBI (n := 35) 2 rfl (by decide) ?_
  refine inBI (n := 1158) 2 rfl (by decide) ?_
  by_cases y : s.1 < V + 1
  · refine ifF (c := T' 15 2 - T' 13 2 ≤ nI s.1 - 1) (by rw [eT]; exact fun z => (lm.mp z) y) ?_
    have eu : upR V R s = (V + 1, R) := if_pos y
    rw [eu] at hq
    rw [eT]
    have r26 : T' 0 26 = nI rl := (rm0 (0, []) (fun z => absurd z (by decide))).2.2.1
    have lp : AW E8_raid (d + 3) 0 n0 Q 141 [some (.ref 0), some (.int i), some (.int (nI V)), some (.int 1), some (.int (nI V)), some (.int (nI 0))] [] Sm (sr T' 18 (fun j => if j < 0 then T' 17 j else T' 18 j)) L 0 := by
      refine aw_loop rl (fun k => [some (.ref 0), some (.int i), some (.int (nI V)), some (.int 1), some (.int (nI V)), some (.int (nI k))]) (fun k => sr T' 18 (fun j => if j < k then T' 17 j else T' 18 j)) ?_ ?_
      · refine aw_run ok8_raid (at2 141 170) 60 ?_
        refine ifT (c := T' 0 26 ≤ nI rl) (by rw [r26]; exact Int32.le_refl _) ?_
        have k0 := hq (sr T' 18 (fun j => if j < rl then T' 17 j else T' 18 j)) (some (.int (nI V))) (some (.int (nI rl))) ?_
        · rw [nI_pred] at k0
          exact k0
        · obtain ⟨q1, q2, q3, q4, -⟩ := rm0 (0, []) (fun z => absurd z (by decide))
          refine ⟨fun l h1 h2 h3 h4 => ?_, fun j hj => ?_, ?_, fun p hp => ?_, fun _ p hp => ?_⟩
          · rw [sr_ne _ _ h4]; exact q1 l h1 h2 h3 h4
          · rw [sr_ne _ _ (by decide)]; exact q2 j hj
          · rw [sr_ne _ _ (by decide)]; exact q3
          · rw [sr_ne _ _ (by decide)]; exact q4 p hp
          · rw [sr_at, if_pos hp]; exact q4 p hp
      · intro k hk ih
        rw [nI_succ] at ih
        refine aw_run ok8_raid (at1 141) 60 ?_
        refine ifF (c := T' 0 26 ≤ nI k) (by rw [r26]; exact nI_ge hk (by omega)) ?_
        refine inBI (n := 5) k rfl (by omega) ?_
        refine inBI (n := 5) k rfl (by omega) ?_
        refine cast (congrArg (fun z => AW E8_raid (d + 3) 0 n0 Q 141 [some (.ref 0), some (.int i), some (.int (nI V)), some (.int 1), some (.int (nI V)), some (.int (nI k + 1))] [] Sm z L 0) ?_) ih
        show _ = um (sr T' 18 _) 18 k (T' 17 k)
        rw [um_sr]
        refine congrArg (sr T' 18) ?_
        funext j
        unfold upd
        by_cases e : j = k
        · subst e; simp
        · by_cases e2 : j < k
          · simp [e, e2, show j < k + 1 by omega]
          · simp [e, e2, show ¬ j < k + 1 by omega]
    rw [show (fun j => if j < 0 then T' 17 j else T' 18 j) = T' 18 from funext fun j => if_neg (Nat.not_lt_zero j), sr_self] at lp
    exact lp
  · refine ifT (c := T' 15 2 - T' 13 2 ≤ nI s.1 - 1) (by rw [eT]; exact lm.mpr y) ?_
    have eu : upR V R s = s := if_neg y
    rw [eu] at hq
    exact hq T' _ _ (rm0 s (fun z p hp => by rw [e1 18 (by decide), zne 18 (by decide)]; exact t5 z p hp))
theorem cm_raidL {n0 ns rl : Nat} {i : Int32} (n6 : n ≤ 6) (hn : M0 2 0 = nI n) (a64 : a < 64) (hout : ∀ h, n ≤ h → a.testBit h = false) (ha : M0 13 0 = nI a) (hv : ∀ h, h < n → M0 4 h = nI (vf h) ∧ vf h < 2 ^ 29) (hw : ∀ h, h < n → M0 13 (9 + h) = nI (wd h) ∧ wd h < 2 ^ 29) (hF : Fst (fun h => fAb (nI a) (nI h)) (fun h => ((vf h - wd h : Nat) : Int)) 0 n w) (hwb : ∀ h, w = some h → h < n ∧ a.testBit h = true) (eF : FsN (fun h => vf h - wd h) a 6 = F) (F30 : F < 2 ^ 29)
    (ns5 : ns ≤ 5) (hgn : ∀ s, s < ns → M0 8 s = nI (gn s)) (hgo : ∀ s, s < ns → M0 9 s = nI (go s)) (gnb : ∀ s, gn s ≤ 60) (gob : ∀ s, go s ≤ 99) (r5 : rl ≤ 5) {sE : Nat × List Nat} (hend : ∀ T R v4 v5, RMm M0 T rl R sE → AW E8_raid (d + 3) 0 n0 Q 178 [some (.ref 0), some (.int i), some (.int (nI sE.1 - 1)), some (.int 0), v4, v5] [] Sm T L 0)
    : ∀ (ls : List (List Nat)) (R : List Nat) (T : AM) (s : Nat × List Nat) (v4 v5 : Option Value), (∀ os, os ∈ R :: ls → os.length = rl ∧ ∀ x, x ∈ os → x < ns) → chn rl (R :: ls) = true → s.1 ≤ 1000 → RMm M0 T rl R s → fdR (fun os => rnL gn go F (wkN (fun h => vf h - wd h) w) os 0 0) [] (R :: ls) s = sE → AW E8_raid (d + 3) 0 n0 Q 72 [some (.ref 0), some (.int i), some (.int (nI s.1 - 1)), some (.int 1), v4, v5] [] Sm T L 0 := by
  have gtb : ∀ R : List Nat, R.length = rl → (∀ x, x ∈ R → x < ns) → ∀ p, gtL R p < 2 ^ 30 := fun R Rl Rs p => by
    unfold gtL
    cases e : R[p]? with
    | none => show 0 < 2 ^ 30; decide
    | some x =>
      have := Rs x (List.mem_of_getElem? e)
      show x < 2 ^ 30; omega
  intro ls
  induction ls with
  | nil =>
    intro R T s v4 v5 hos hch s1 hT hfd
    obtain ⟨Rl, Rs⟩ := hos R List.mem_cons_self
    have V9 := rnL_le (F := F) (W := wkN (fun h => vf h - wd h) w) (gn := gn) gob R 0 0
    rw [Rl] at V9
    refine cm_raid1 n6 hn a64 hout ha hv hw hF hwb eF F30 ns5 hgn hgo gnb r5 Rl Rs s1 hT rfl (by omega) (fun T' v4 v5 h' => ?_)
    have hs : upR (rnL gn go F (wkN (fun h => vf h - wd h) w) R 0 0) R s = sE := hfd
    rw [hs] at h' ⊢
    have hno : nxF rl (gtL R) = none := Option.isNone_iff_eq_none.mp hch
    refine aw_run ok8_raid (at2 72 178) 60 ?_
    refine cm_nextRow r5 h'.2.2.1 h'.2.2.2.1 (gtb R Rl Rs) (fun _ => ?_) (fun R' y => absurd (hno.symm.trans y) (by intro z; cases z))
    refine aw_run ok8_raid (at1 178) 60 ?_
    exact hend T' R _ _ h'
  | cons R2 ls ih =>
    intro R T s v4 v5 hos hch s1 hT hfd
    obtain ⟨Rl, Rs⟩ := hos R List.mem_cons_self
    have V9 := rnL_le (F := F) (W := wkN (fun h => vf h - wd h) w) (gn := gn) gob R 0 0
    rw [Rl] at V9
    refine cm_raid1 n6 hn a64 hout ha hv hw hF hwb eF F30 ns5 hgn hgo gnb r5 Rl Rs s1 hT rfl (by omega) (fun T' v4 v5 h' => ?_)
    have hfd : fdR (fun os => rnL gn go F (wkN (fun h => vf h - wd h) w) os 0 0) [] (R2 :: ls) (upR (rnL gn go F (wkN (fun h => vf h - wd h) w) R 0 0) R s) = sE := hfd
    generalize hs : upR (rnL gn go F (wkN (fun h => vf h - wd h) w) R 0 0) R s = s' at *
    have s1' : s'.1 ≤ 1000 := by rw [← hs]; exact upR_lt s1 (by omega)
    rw [chn] at hch
    refine aw_run ok8_raid (at1 72) 60 ?_
    refine cm_nextRow r5 h'.2.2.1 h'.2.2.2.1 (gtb R Rl Rs) (fun y => ?_) (fun R' y f hf => ?_)
    · rw [y] at hch; cases hch
    · rw [y, Bool.and_eq_true] at hch
      obtain ⟨c1, c2⟩ := hch
      have c1 : ∀ p, p < rl → R' p = gtL R2 p := fun p hp => by
        have := List.all_eq_true.mp c1 p (List.mem_range.mpr hp)
        exact eq_of_beq this
      refine ih R2 (sr T' 17 f) s' _ _ (fun os ho => hos os (List.mem_cons_of_mem _ ho)) c2 s1' ?_ hfd
      obtain ⟨q1, q2, q3, q4, q5⟩ := h'
      refine ⟨fun l h1 h2 h3 h4 => ?_, fun j hj => ?_, ?_, fun p hp => ?_, fun z p hp => ?_⟩
      · rw [sr_ne _ _ h3]; exact q1 l h1 h2 h3 h4
      · rw [sr_ne _ _ (by decide)]; exact q2 j hj
      · rw [sr_ne _ _ (by decide)]; exact q3
      · rw [sr_at, hf p hp, c1 p hp]
      · rw [sr_ne _ _ (by decide)]; exact q5 z p hp
end RM2
