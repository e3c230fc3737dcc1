/-! ===== sharing: the model's calls ===== -/
/-- what stands told of the money: wound, chest, unpaid -/
def Mon (n w ch : Nat) (u : Nat → Nat) (v : Nat → Int32) : Prop := n ≤ 6 ∧ w < 2 ^ 30 ∧ ch < 2 ^ 30 ∧ v 2 = nI ch ∧ (∀ h, h < n → u h < 2 ^ 30) ∧ ∀ h, h < n → v (15 + h) = nI (u h)
theorem Mon.congr {n w ch : Nat} {u : Nat → Nat} {v v' : Nat → Int32} (h : Mon n w ch u v) (e : ∀ j, j < 35 → v' j = v j) : Mon n w ch u v' := by
  obtain ⟨h1, h2, h3, h4, h5, h6⟩ := h
  exact ⟨h1, h2, h3, by rw [e 2 (by decide)]; exact h4, h5, fun h hh => by rw [e _ (by omega)]; exact h6 h hh⟩
theorem cm_shares {d n w ch k : Nat} {u : Nat → Nat} {M : AM} {L : AL} {Q : QT} (hn : M 2 0 = nI n) (hw : M 12 0 = nI w) (hm : Mon n w ch u (M 13)) (hk : M 13 35 = nI k) (hk10 : k ≤ 10) (h1 : M 13 0 = 0 → Q (some (.int (-2))) Sm M L)
    {pt e : Int32} (hpt : sumTo (fPart (M 13 0) (M 13 1) (M 3)) n = pt) (hp0 : ¬ M 13 0 = 0 → ¬ pt = 0) (he : nI (Cn w u ch n) / pt = e)
    (h2 : ¬ M 13 0 = 0 → Q (some (.int e)) Sm (sr (kM M k) 13 (shV w u ch (knowV (M 13) k) n e pt (fPart (M 13 0) (M 13 1) (M 3)))) L) : CW E8_shares (d + 4) 0 [.ref 0] Sm M L Q := by
  refine cw_ent ok8_shares noStop 60 ?_
  refine inBI 0 rfl (by decide) ?_
  refine iteI (fun (e : M 13 0 = 0) => h1 e) (fun (z : ¬ M 13 0 = 0) => ?_)
  have hq := h2 z
  refine cm_know hk hk10 ?_
  have hm' := hm.congr (v' := kM M k 13) (fun j hj => by rw [kM_at, knowV_lt hj])
  obtain ⟨n6, w2, c2, c3, u2, u3⟩ := hm'
  have a0 : kM M k 13 0 = M 13 0 := by rw [kM_at, knowV_lt (by decide)]
  have a1 : kM M k 13 1 = M 13 1 := by rw [kM_at, knowV_lt (by decide)]
  refine cm_shareAll13 (M := kM M k) (u := u) (pt := pt) (e := e) ((congrFun (kM_ne _ _ (by decide)) 0).trans hn) n6 ((congrFun (kM_ne _ _ (by decide)) 0).trans hw) w2 c2 c3 u2 u3 ?_ (hp0 z) he ?_
  · rw [a0, a1, kM_ne _ _ (by decide)]; exact hpt
  · rw [a0, a1, kM_ne _ _ (show (3 : Nat) ≠ 13 by decide), kM_at]; exact hq
theorem add_sub3 (x y z : Int32) : x + y + z - x = y + z := by
  rw [Int32.add_assoc, Int32.add_comm x, Int32.add_sub_cancel]
theorem cm_dueOf {d n w ch h : Nat} {u : Nat → Nat} {M : AM} {L : AL} {Q : QT} (hh : h < n) (hn : M 2 0 = nI n) (hw : M 12 0 = nI w) (hm : Mon n w ch u (M 13)) (h1 : M 13 0 = 0 → Q (some (.int 0)) Sm M L)
    {pt e : Int32} (hpt : sumTo (fPart (M 13 0) (M 13 1) (M 3)) n = pt) (hp0 : ¬ M 13 0 = 0 → ¬ pt = 0) (he : nI (Cn w u ch n) / pt = e)
    (h2 : ¬ M 13 0 = 0 → ∀ f, Q (some (.int (nI (w * Pn w u ch h) + e * fPart (M 13 0) (M 13 1) (M 3) h))) Sm (sr M 15 f) L) : CW E8_dueOf (d + 4) 0 [.ref 0, .int (nI h)] Sm M L Q := by
  refine cw_ent ok8_dueOf noStop 60 ?_
  refine inBI 0 rfl (by decide) ?_
  refine iteI (fun (e : M 13 0 = 0) => h1 e) (fun (z : ¬ M 13 0 = 0) => ?_)
  have hq := h2 z
  refine cm_take ?_
  have hn6 : n ≤ 6 := hm.1
  generalize hT : sr M 15 (fun j => if j < 35 then M 13 j else M 15 j) = T
  have t15 : ∀ j, j < 35 → T 15 j = M 13 j := fun j hj => by rw [← hT, sr_at, if_pos hj]
  have tne : ∀ l, l ≠ 15 → T l = M l := fun l hl => by rw [← hT, sr_ne _ _ hl]
  obtain ⟨n6, w2, c2, c3, u2, u3⟩ := hm.congr (v' := T 15) t15
  refine cm_shareAll15 (M := T) (u := u) (pt := pt) (e := e) ((congrFun (tne 2 (by decide)) 0).trans hn) n6 ((congrFun (tne 12 (by decide)) 0).trans hw) w2 c2 c3 u2 u3 ?_ (hp0 z) he ?_
  · rw [t15 0 (by decide), t15 1 (by decide), tne 3 (by decide)]; exact hpt
  · rw [t15 0 (by decide), t15 1 (by decide), tne 3 (by decide)]
    generalize hF : shV w u ch (T 15) n e pt (fPart (M 13 0) (M 13 1) (M 3)) = F
    have f3 : F (3 + h) = M 13 (3 + h) + nI (w * Pn w u ch h) + e * fPart (M 13 0) (M 13 1) (M 3) h := by
      rw [← hF]
      unfold shV payV
      rw [if_neg (by omega), if_pos (by omega), if_neg (by omega), if_pos (by omega), show 3 + h - 3 = h by omega, t15 _ (by omega)]
    refine inBI (n := 35) (3 + h) (nI_add 3 h) (by omega) ?_
    refine inBI (n := 1158) (3 + h) (nI_add 3 h) (by omega) ?_
    have hq := hq F
    rw [← add_sub3 (M 13 (3 + h)), ← f3] at hq
    have e1 : sr T 15 F = sr M 15 F := by
      funext l
      by_cases hl : l = 15
      · subst hl; rw [sr_at, sr_at]
      · rw [sr_ne _ _ hl, sr_ne _ _ hl, tne l hl]
    rw [e1, sr_at, sr_ne _ _ (show (13 : Nat) ≠ 15 by decide)]
    exact hq
theorem cm_due {d n w ch : Nat} {h : Int32} {u : Nat → Nat} {M : AM} {L : AL} {Q : QT} (hn : M 2 0 = nI n) (hw : M 12 0 = nI w) (hm : Mon n w ch u (M 13)) (h0 : (h < 0 ∨ nI n ≤ h) → Q (some (.int (-1))) Sm M L) (h1 : ∀ j, j < n → h = nI j → M 13 0 = 0 → Q (some (.int 0)) Sm M L)
    {pt e : Int32} (hpt : sumTo (fPart (M 13 0) (M 13 1) (M 3)) n = pt) (hp0 : ¬ M 13 0 = 0 → ¬ pt = 0) (he : nI (Cn w u ch n) / pt = e)
    (h2 : ∀ j, j < n → h = nI j → ¬ M 13 0 = 0 → ∀ f, Q (some (.int (nI (w * Pn w u ch j) + e * fPart (M 13 0) (M 13 1) (M 3) j))) Sm (sr M 15 f) L) : CW E8_due (d + 5) 0 [.ref 0, .int h] Sm M L Q := by
  have hn6 : n ≤ 6 := hm.1
  refine cw_ent ok8_due noStop 60 ?_
  refine cm_isHand ?_
  rw [hn]
  rcases fIn_ix h (n := n) (by omega) with ⟨g1, g2⟩ | ⟨j, hj, rfl, g⟩
  · exact ifT g1 (h0 g2)
  · refine ifF (by rw [g]; decide) ?_
    exact cm_dueOf hj hn hw hm (h1 j hj rfl) hpt hp0 he (h2 j hj rfl)
def holdUp (a : Int32) (dv : Nat → Int32) (q : Int32) : Nat → Int32
  | 0 => 0
  | i + 1 => holdUp a dv q i ||| (if fAb a (nI i) = 0 then 0 else if dv i < q then 0 else (1 : Int32) <<< (nI i &&& 31))
theorem cm_holds {d n w ch : Nat} {q : Int32} {u : Nat → Nat} {M : AM} {L : AL} {Q : QT} (hn : M 2 0 = nI n) (hw : M 12 0 = nI w) (hm : Mon n w ch u (M 13)) (h0 : fIn q 0 99 = 0 → Q (some (.int (-1))) Sm M L)
    {pt e : Int32} (hpt : sumTo (fPart (M 13 0) (M 13 1) (M 3)) n = pt) (hp0 : ¬ M 13 0 = 0 → ¬ pt = 0) (he : nI (Cn w u ch n) / pt = e) (hz : M 13 0 = 0 → ∀ j, j < n → fAb (M 13 0) (nI j) = 0)
    (h2 : ¬ fIn q 0 99 = 0 → ∀ f, Q (some (.int (holdUp (M 13 0) (fun j => nI (w * Pn w u ch j) + e * fPart (M 13 0) (M 13 1) (M 3) j) q n))) Sm (sr M 15 f) L) : CW E8_holds (d + 5) 0 [.ref 0, .int q] Sm M L Q := by
  have hn6 : n ≤ 6 := hm.1
  refine cw_ent ok8_holds (at1 16) 60 ?_
  refine cm_in ?_
  refine iteI (fun z => h0 z) (fun z => ?_)
  have hq := h2 z
  have key : ∀ k, k ≤ n → ∀ f, AW E8_holds (d + 5) 0 Sm.length Q 16 [some (.ref 0), some (.int q), some (.int (holdUp (M 13 0) (fun j => nI (w * Pn w u ch j) + e * fPart (M 13 0) (M 13 1) (M 3) j) q (n - k))), some (.int (nI (n - k)))] [] Sm (sr M 15 f) L 0 := by
    intro k
    induction k with
    | zero =>
      intro _ f
      refine aw_run ok8_holds (at1 16) 60 ?_
      refine inBI 0 rfl (by decide) ?_
      refine ifT (c := sr M 15 f 2 0 ≤ nI n) (by rw [sr_ne _ _ (by decide), hn]; exact Int32.le_refl _) ?_
      exact hq f
    | succ k ih =>
      intro hk f
      have ih := ih (by omega)
      obtain ⟨i, hi⟩ : ∃ i, n - k = i + 1 := ⟨n - k - 1, by omega⟩
      rw [hi, nI_succ] at ih
      rw [show n - (k + 1) = i by omega]
      generalize hN : sr M 15 f = N at *
      have n13 : N 13 = M 13 := by rw [← hN, sr_ne _ _ (by decide)]
      have n2 : N 2 = M 2 := by rw [← hN, sr_ne _ _ (by decide)]
      have n3 : N 3 = M 3 := by rw [← hN, sr_ne _ _ (by decide)]
      have n12 : N 12 = M 12 := by rw [← hN, sr_ne _ _ (by decide)]
      have nn : ∀ g, sr N 15 g = sr M 15 g := fun g => by
        funext l
        by_cases hl : l = 15
        · subst hl; rw [sr_at, sr_at]
        · rw [sr_ne _ _ hl, sr_ne _ _ hl, ← hN, sr_ne _ _ hl]
      unfold holdUp at ih
      refine aw_run ok8_holds (at1 16) 60 ?_
      refine inBI 0 rfl (by decide) ?_
      refine ifF (c := N 2 0 ≤ nI i) (by rw [n2, hn]; exact nI_ge (by omega) (by omega)) ?_
      refine cm_isAboard (Or.inl rfl) ?_
      rw [n13]
      by_cases z1 : fAb (M 13 0) (nI i) = 0
      · refine ifT z1 ?_
        have ih := ih f
        rw [if_pos z1, hN] at ih
        exact ih
      · refine ifF z1 ?_
        rw [if_neg z1] at ih
        refine cm_dueOf (n := n) (w := w) (ch := ch) (u := u) (h := i) (pt := pt) (e := e) (by omega) (by rw [n2]; exact hn) (by rw [n12]; exact hw) (by rw [n13]; exact hm) (fun y => ?_) (by rw [n13, n3]; exact hpt) (by rw [n13]; exact hp0) he (fun y g => ?_)
        · rw [n13] at y
          exact absurd (hz y i (by omega)) z1
        · rw [n13, n3, nn]
          have ih := ih g
          refine iteI (fun z2 => ?_) (fun z2 => ?_)
          · rw [if_pos z2] at ih; exact ih
          · rw [if_neg z2] at ih; exact ih
  have k0 := key n (Nat.le_refl n) (M 15)
  rw [Nat.sub_self, sr_self] at k0
  exact k0
