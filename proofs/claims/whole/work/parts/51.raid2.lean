/-! ===== raid: the class's search ===== -/
theorem ordS_mem {f : Nat → List (List Nat)} {os : List Nat} : ∀ c lo, os ∈ ordS f lo c → ∃ s, lo ≤ s ∧ s < lo + c ∧ os ∈ f s
  | 0, lo, h => absurd h (List.not_mem_nil)
  | c + 1, lo, h => by
    rw [ordS, List.mem_append] at h
    rcases h with h | h
    · exact ⟨lo, by omega, by omega, h⟩
    · obtain ⟨s, h1, h2, h3⟩ := ordS_mem c (lo + 1) h
      exact ⟨s, by omega, by omega, h3⟩
theorem ordL_len {ns : Nat} : ∀ k met os, os ∈ ordL ns k met → os.length = k ∧ ∀ s, s ∈ os → s < ns
  | 0, met, os, h => by
    rw [ordL, List.mem_singleton] at h
    subst h
    exact ⟨rfl, fun s hs => absurd hs List.not_mem_nil⟩
  | k + 1, met, os, h => by
    rw [ordL] at h
    obtain ⟨s, h1, h2, h3⟩ := ordS_mem ns 0 h
    by_cases z : met.testBit s = true
    · rw [if_pos z] at h3; exact absurd h3 List.not_mem_nil
    · rw [if_neg z, List.mem_map] at h3
      obtain ⟨os', g1, g2⟩ := h3
      subst g2
      obtain ⟨e1, e2⟩ := ordL_len k _ os' g1
      refine ⟨by rw [List.length_cons, e1], fun x hx => ?_⟩
      rcases List.mem_cons.mp hx with y | y
      · subst y; omega
      · exact e2 x y
theorem fdR_lt2 {B : Nat} {ev : List Nat → Nat} {pre : List Nat} : ∀ ls s, (∀ os, os ∈ ls → ev os < B) → s.1 ≤ B → (fdR ev pre ls s).1 ≤ B
  | [], _, _, hs => hs
  | os :: ls, s, hv, hs => fdR_lt2 ls _ (fun o ho => hv o (List.mem_cons_of_mem _ ho)) (upR_lt hs (hv os List.mem_cons_self))
section RD2
variable {M0 : AM} {F W rl : Nat}
theorem cx_chaseNext {d rot ns : Nat} {gn go : Nat → Nat} {L : AL} (r5 : rl ≤ 5) (n5 : ns ≤ 5) (hs : M0 1 1 = nI ns) (hgn : ∀ s, s < ns → M0 6 s = nI (gn s)) (hgo : ∀ s, s < ns → M0 7 s = nI (go s)) (gnb : ∀ s, gn s ≤ 60) (gob : ∀ s, go s ≤ 99) (WF : W ≤ F) (F30 : F < 2 ^ 29) : ∀ k met l g (pre : List Nat) s (M : AM) (Q : QT), met < 32 → pre.length + k = rl → l + k ≤ 1000 → g + 99 * k ≤ 100000 → s.1 ≤ 100001 → RDm M0 M F W rl pre s → (∀ M', RDm M0 M' F W rl pre (fdR (fun os => rnL gn go F W os l g) pre (ordL ns k met) s) → Q none (Sx rot) M' L) → CW E3_chaseNext (d + k + 2) 0 [.ref 26, .ref 1, .int (nI met), .int (nI pre.length), .int (nI l), .int (nI g)] (Sx rot) M L Q := by
  intro k
  induction k with
  | zero =>
    intro met l g pre s M Q m32 e lb gb s1 h hq
    have e : pre.length = rl := e
    refine cw_ent ok3_chaseNext (at1 43) 60 ?_
    refine ifF (c := nI pre.length < 0) (nI_pos (by omega)) ?_
    refine ifT (c := M 26 2 ≤ nI pre.length) (by rw [h.2.2.2.1, e]; exact Int32.le_refl _) ?_
    refine cx_weighR r5 e (by omega) (by omega) h (fun M' h' => hq M' ?_)
    have : fdR (fun os => rnL gn go F W os l g) pre (ordL ns 0 met) s = upR g pre s := by
      show upR _ (pre ++ []) s = _
      rw [List.append_nil]; rfl
    rw [this]; exact h'
  | succ k ih =>
    intro met l g pre s M Q m32 e lb gb s1 h hq
    have p5 : pre.length < 5 := by omega
    rw [ordL] at hq
    have key : ∀ j, j ≤ ns → ∀ (t : Nat × List Nat) (M : AM) v8 v9 v10, t.1 ≤ 100001 → RDm M0 M F W rl pre t → (∀ M', RDm M0 M' F W rl pre (fdR (fun os => rnL gn go F W os l g) pre (ordS (fun s => if met.testBit s then [] else (ordL ns k (met ||| 2 ^ s)).map (fun os => s :: os)) (ns - j) j) t) → Q none (Sx rot) M' L) → AW E3_chaseNext (d + (k + 1) + 2) 0 (Sx rot).length Q 43 [some (.ref 26), some (.ref 1), some (.int (nI met)), some (.int (nI pre.length)), some (.int (nI l)), some (.int (nI g)), some (.int (nI (F - min l W))), some (.int (nI (ns - j))), v8, v9, v10] [] (Sx rot) M L 0 := by
      intro j
      induction j with
      | zero =>
        intro _ t M v8 v9 v10 t1 ht hq
        refine aw_run ok3_chaseNext (at1 43) 60 ?_
        refine ifT (c := M 1 1 ≤ nI (ns - 0)) (by rw [ht.1 1 (by omega), hs]; exact Int32.le_refl _) ?_
        exact hq M ht
      | succ j jh =>
        intro hj t M v8 v9 v10 t1 ht hq
        obtain ⟨i, hi⟩ : ∃ i, ns - (j + 1) = i := ⟨_, rfl⟩
        have i5 : i < ns := by omega
        rw [hi] at hq ⊢
        rw [show ns - j = i + 1 by omega, nI_succ] at jh
        have jh := jh (by omega)
        rw [ordS] at hq
        refine aw_run ok3_chaseNext (at2 43 126) 60 ?_
        refine ifF (c := M 1 1 ≤ nI i) (by rw [ht.1 1 (by omega), hs]; exact nI_ge i5 (by omega)) ?_
        refine cw_isIn ?_
        rw [fIsIn_nI (by omega)]
        have fa := fAb_nI met (by omega) i (by omega)
        cases et : met.testBit i with
        | true =>
          rw [et] at fa
          refine ifF (c := fAb (nI met) (nI i) = 0) (by rw [fa]; decide) ?_
          refine jh t M v8 v9 v10 t1 ht (fun M' h' => hq M' ?_)
          rw [if_pos et, List.nil_append]
          exact h'
        | false =>
          rw [et] at fa
          refine ifT (c := fAb (nI met) (nI i) = 0) fa ?_
          refine inBI (n := 5) pre.length rfl p5 ?_
          refine inBI (n := 5) i rfl (by omega) ?_
          rw [if_neg (by rw [et]; decide), fdR_app, fdR_map] at hq
          have hor := or_nI5 i (by omega) met m32
          have mo : met ||| 2 ^ i < 32 := by
            have := Nat.or_lt_two_pow (n := 5) (x := met) (y := 2 ^ i) m32 (Nat.pow_lt_pow_right (by decide) (by omega))
            exact this
          have hP := ht.push (x := i)
          generalize hM1 : um M 28 pre.length (nI i) = M1 at hP
          have gM : M1 6 i = nI (gn i) := by rw [hP.1 6 (by omega)]; exact hgn i i5
          have goM : M1 7 i = nI (go i) := by rw [hP.1 7 (by omega)]; exact hgo i i5
          have go99 := gob i
          have gn60 := gnb i
          have tail : ∀ b l' g', (l' = (bif b then l else l + 1)) → (g' = bif b then g + go i else g) → b = decide (gn i ≤ F - min l W) → AW E3_chaseNext (d + (k + 1) + 2) 0 (Sx rot).length Q 126 [some (.ref 26), some (.ref 1), some (.int (nI met)), some (.int (nI pre.length)), some (.int (nI l)), some (.int (nI g)), some (.int (nI (F - min l W))), some (.int (nI i)), some (.int (bI b)), some (.int (nI l')), some (.int (nI g'))] [] (Sx rot) M1 L 0 := by
            intro b l' g' el eg eb
            have lb' : l' + k ≤ 1000 := by rw [el]; cases b <;> simp <;> omega
            have gb' : g' + 99 * k ≤ 100000 := by rw [eg]; cases b <;> simp <;> omega
            have ev : (fun os => rnL gn go F W (i :: os) l g) = fun os => rnL gn go F W os l' g' := by
              funext os
              rw [rnL]
              cases b with
              | true => rw [if_pos (of_decide_eq_true eb.symm), el, eg]; rfl
              | false => rw [if_neg (of_decide_eq_false eb.symm), el, eg]; rfl
            rw [ev] at hq
            have ih := fun Q => ih (met ||| 2 ^ i) l' g' (pre ++ [i]) t M1 Q mo (by rw [List.length_append, show [i].length = 1 from rfl]; omega) lb' gb' t1 hP
            rw [← hor, List.length_append, show [i].length = 1 from rfl, nI_succ] at ih
            refine aw_run ok3_chaseNext (at1 43) 60 ?_
            refine ih _ (fun M' h' => ?_)
            refine jh _ M' _ _ _ ?_ h'.pop (fun M'' h'' => hq M'' h'')
            refine fdR_lt2 _ _ (fun os ho => ?_) t1
            have := rnL_le (F := F) (W := W) (gn := gn) gob os l' g'
            rw [(ordL_len k _ os ho).1] at this
            omega
          by_cases y : gn i ≤ F - min l W
          · refine ifF (c := nI (F - min l W) < M1 6 i) (by rw [gM]; exact nI_nlt y (by omega)) ?_
            refine inBI (n := 5) i rfl (by omega) ?_
            have k0 := tail true l (g + go i) rfl rfl (decide_eq_true y).symm
            rw [← nI_add, ← goM] at k0
            exact k0
          · refine ifT (c := nI (F - min l W) < M1 6 i) (by rw [gM]; exact nI_lt (by omega) (by omega)) ?_
            have k0 := tail false (l + 1) g rfl rfl (decide_eq_false y).symm
            rw [nI_succ] at k0
            exact k0
    refine cw_ent ok3_chaseNext (at1 43) 60 ?_
    refine ifF (c := nI pre.length < 0) (nI_pos (by omega)) ?_
    refine ifF (c := M 26 2 ≤ nI pre.length) (by rw [h.2.2.2.1]; exact nI_ge (by omega) (by omega)) ?_
    refine ifT (c := nI pre.length < 5) (nI_lt (b := 5) p5 (by decide)) ?_
    have k0 := key ns (Nat.le_refl _) s M none none none s1 h (by rw [Nat.sub_self]; exact hq)
    have m1 : min l W ≤ F := Nat.le_trans (Nat.min_le_right _ _) WF
    rw [Nat.sub_self, ← pk_sub m1, ← min_nI (by omega) (by omega), ← h.2.1, ← h.2.2.1] at k0
    exact k0
end RD2
