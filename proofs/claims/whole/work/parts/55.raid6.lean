/-! ===== raid: the model's call ===== -/
def chn (rl : Nat) : List (List Nat) → Bool
  | [] => false
  | [l] => (nxF rl (gtL l)).isNone
  | l :: l' :: r => (match nxF rl (gtL l) with
    | none => false
    | some R' => (List.range rl).all (fun p => R' p == gtL l' p)) && chn rl (l' :: r)
def upsL (mt : Nat) : Nat → List Nat
  | 0 => []
  | i + 1 => if mt.testBit i then upsL mt i else upsL mt i ++ [i]
theorem upsL_len (mt : Nat) : ∀ i, (upsL mt i).length ≤ i
  | 0 => Nat.le_refl _
  | i + 1 => by
    have := upsL_len mt i
    rw [upsL]
    by_cases z : mt.testBit i = true
    · rw [if_pos z]; omega
    · rw [if_neg z, List.length_append, show [i].length = 1 from rfl]; omega
def RMm (M0 T : AM) (rl : Nat) (R : List Nat) (s : Nat × List Nat) : Prop := (∀ l, l ≠ 0 → l ≠ 15 → l ≠ 17 → l ≠ 18 → T l = M0 l) ∧ (∀ j, j ≠ 26 → T 0 j = M0 0 j) ∧ T 0 26 = nI rl ∧ (∀ p, p < rl → T 17 p = nI (gtL R p)) ∧ (0 < s.1 → ∀ p, p < rl → T 18 p = nI (gtL s.2 p))
theorem RMm.mj {M0 T : AM} {rl : Nat} {R : List Nat} {s : Nat × List Nat} (h : RMm M0 T rl R s) : mj M0 T := ⟨fun l h1 h2 => h.1 l h1 (by omega) (by omega) (by omega), h.2.1 2 (by decide), h.2.1 29 (by decide)⟩
section RM
variable {d n a F : Nat} {vf wd gn go : Nat → Nat} {M0 : AM} {w : Option Nat} {L : AL} {Q : QT}
theorem cm_raidC {n0 ns rl : Nat} {R : List Nat} {v1 v2 v3 : Option Value} (n6 : n ≤ 6) (hn : M0 2 0 = nI n) (a64 : a < 64) (hout : ∀ h, n ≤ h → a.testBit h = false) (ha : M0 13 0 = nI a) (hv : ∀ h, h < n → M0 4 h = nI (vf h) ∧ vf h < 2 ^ 29) (hw : ∀ h, h < n → M0 13 (9 + h) = nI (wd h) ∧ wd h < 2 ^ 29) (hF : Fst (fun h => fAb (nI a) (nI h)) (fun h => ((vf h - wd h : Nat) : Int)) 0 n w) (hwb : ∀ h, w = some h → h < n ∧ a.testBit h = true) (eF : FsN (fun h => vf h - wd h) a 6 = F) (F30 : F < 2 ^ 29)
    (ns5 : ns ≤ 5) (hgn : ∀ s, s < ns → M0 8 s = nI (gn s)) (hgo : ∀ s, s < ns → M0 9 s = nI (go s)) (gnb : ∀ s, gn s ≤ 60) (r5 : rl ≤ 5) (hr : M0 0 26 = nI rl) (hR : ∀ p, p < rl → M0 17 p = nI (gtL R p)) (Rl : R.length = rl) (Rs : ∀ s, s ∈ R → s < ns)
    : ∀ (os pre : List Nat) (T : AM) (l g : Nat) (v5 : Option Value), R = pre ++ os → l + os.length ≤ 1000 → ChI M0 T n w l g → (∀ T', (∀ k, k ≠ 15 → T' k = M0 k) → T' 15 2 = M0 13 2 + nI (rnL gn go F (wkN (fun h => vf h - wd h) w) os l g) → ∀ v4, AW E8_raid (d + 3) 0 n0 Q 114 [some (.ref 0), v1, v2, v3, v4, v5] [] Sm T' L 0) → AW E8_raid (d + 3) 0 n0 Q 83 [some (.ref 0), v1, v2, v3, some (.int (nI pre.length)), v5] [] Sm T L 0 := by
  intro os
  induction os with
  | nil =>
    intro pre T l g v5 e lb hI hq
    rw [List.append_nil] at e
    refine aw_run ok8_raid (at2 83 114) 60 ?_
    refine ifT (c := T 0 26 ≤ nI pre.length) (by rw [hI.1 0 (by decide), hr, ← e, Rl]; exact Int32.le_refl _) ?_
    exact hq T hI.1 hI.2.2.1 _
  | cons s os ih =>
    intro pre T l g v5 e lb hI hq
    have pl : pre.length < rl := by rw [← Rl, e, List.length_append, List.length_cons]; omega
    have sR : gtL R pre.length = s := by
      rw [e]; unfold gtL; rw [List.getElem?_append_right (Nat.le_refl _), Nat.sub_self]; rfl
    have sn : s < ns := Rs s (by rw [e]; exact List.mem_append_right _ List.mem_cons_self)
    rw [List.length_cons] at lb
    refine aw_run ok8_raid (at1 83) 60 ?_
    refine ifF (c := T 0 26 ≤ nI pre.length) (by rw [hI.1 0 (by decide), hr]; exact nI_ge pl (by omega)) ?_
    refine inBI (n := 5) pre.length rfl (by omega) ?_
    have eT : T 17 pre.length = nI s := by rw [hI.1 17 (by decide), hR _ pl, sR]
    have wk := ch_wk hI ha hv hw (by omega) hF
    have fc := ch_fc hI n6 a64 hout ha hv hw (by omega) hwb
    rw [eF] at fc
    have tk : tkM T 15 n s = decide (gn s ≤ F - min l (wkN (fun h => vf h - wd h) w)) := by
      unfold tkM
      rw [fc, hI.1 8 (by decide), hgn s sn]
      have := gnb s
      exact decide_eq_decide.mpr (nI_leI (by omega) (by omega))
    have k6 : ∀ j, keM T 15 n = some j → j < 6 := fun j hj => by
      have := dnB_lt n (Nat.le_refl n) j hj; omega
    have w6 : ∀ j, w = some j → j < 6 := fun j hj => by have := (hwb j hj).1; omega
    have nx := hI.step (gv := go s) (s := s) (ke := keM T 15 n) n6 w6 k6 (tkM T 15 n s)
    have cc := fun Q hq => cm_chase (d := d) (r := 15) (n := n) (s := s) (Or.inr rfl) (by omega) (M := T) (L := L) (Q := Q) (by rw [hI.1 2 (by decide)]; exact hn) n6 hq
    rw [wk, hI.1 9 (by decide), hgo s sn, ← eT] at cc
    refine cc _ ?_
    have ih := ih (pre ++ [s]) _ _ _ v5 (by rw [e, List.append_assoc]; rfl) (by cases tkM T 15 n s <;> simp <;> omega) nx (by
      refine fun T' h1 h2 v4 => hq T' h1 ?_ v4
      rw [h2, rnL]
      rw [tk]
      by_cases y : gn s ≤ F - min l (wkN (fun h => vf h - wd h) w)
      · rw [if_pos y, decide_eq_true y]; rfl
      · rw [if_neg y, decide_eq_false y]; rfl)
    rw [List.length_append, show [s].length = 1 from rfl, nI_succ] at ih
    exact ih
end RM
