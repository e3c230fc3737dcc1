/-! ===== raid: the orders, as numbers; the class ===== -/
def gtL (l : List Nat) (p : Nat) : Nat := (l[p]?).getD 0
def rnL (gn go : Nat → Nat) (F W : Nat) : List Nat → Nat → Nat → Nat
  | [], _, g => g
  | s :: os, l, g => if gn s ≤ F - min l W then rnL gn go F W os l (g + go s) else rnL gn go F W os (l + 1) g
def upR (v : Nat) (os : List Nat) (s : Nat × List Nat) : Nat × List Nat := if s.1 < v + 1 then (v + 1, os) else s
def ordS (f : Nat → List (List Nat)) : Nat → Nat → List (List Nat)
  | _, 0 => []
  | lo, c + 1 => f lo ++ ordS f (lo + 1) c
def ordL (ns : Nat) : Nat → Nat → List (List Nat)
  | 0, _ => [[]]
  | k + 1, met => ordS (fun s => if met.testBit s then [] else (ordL ns k (met ||| 2 ^ s)).map (fun os => s :: os)) 0 ns
def fdR (ev : List Nat → Nat) (pre : List Nat) (ls : List (List Nat)) (s : Nat × List Nat) : Nat × List Nat := ls.foldl (fun s os => upR (ev os) (pre ++ os) s) s
theorem fdR_app (ev : List Nat → Nat) (pre : List Nat) (a b : List (List Nat)) (s : Nat × List Nat) : fdR ev pre (a ++ b) s = fdR ev pre b (fdR ev pre a s) := List.foldl_append
theorem fdR_map (ev : List Nat → Nat) (pre : List Nat) (x : Nat) (ls : List (List Nat)) (s : Nat × List Nat) : fdR ev pre (ls.map (fun os => x :: os)) s = fdR (fun os => ev (x :: os)) (pre ++ [x]) ls s := by
  unfold fdR
  rw [List.foldl_map]
  refine congrArg (fun f => List.foldl f s ls) ?_
  funext s os
  rw [List.append_assoc]; rfl
theorem gtL_l {a b : List Nat} {p : Nat} (h : p < a.length) : gtL (a ++ b) p = gtL a p := by
  unfold gtL; rw [List.getElem?_append_left h]
theorem gtL_r {a : List Nat} {x : Nat} : gtL (a ++ [x]) a.length = x := by
  unfold gtL; rw [List.getElem?_append_right (Nat.le_refl _), Nat.sub_self]; rfl
def RDm (M0 M : AM) (F W rl : Nat) (pre : List Nat) (s : Nat × List Nat) : Prop := (∀ l, l < 26 ∨ 28 < l → M l = M0 l) ∧ M 26 4 = nI F ∧ M 26 5 = nI W ∧ M 26 2 = nI rl ∧ M 26 1 = nI s.1 - 1 ∧ (∀ p, p < pre.length → M 28 p = nI (gtL pre p)) ∧ (0 < s.1 → ∀ p, p < rl → M 27 p = nI (gtL s.2 p))
theorem le_m1 {v m : Nat} (hv : v < 2 ^ 30) (hm : m < 2 ^ 30) : nI v ≤ nI m - 1 ↔ ¬ m < v + 1 := by
  have t1 : (nI m - 1).toInt = (m : Int) - 1 := pk_sub_toInt (b := 1) hm (by decide)
  rw [Int32.le_iff_toInt_le, t1, nI_toInt (by omega)]
  omega
section RD
variable {M0 : AM} {F W rl : Nat}
theorem RDm.push {M : AM} {pre : List Nat} {s : Nat × List Nat} {x : Nat} (h : RDm M0 M F W rl pre s) : RDm M0 (um M 28 pre.length (nI x)) F W rl (pre ++ [x]) s := by
  obtain ⟨h1, h2, h3, h4, h5, h6, h7⟩ := h
  refine ⟨fun l hl => ?_, ?_, ?_, ?_, ?_, fun p hp => ?_, fun hs p hp => ?_⟩
  · rw [um_ne _ _ _ (by omega)]; exact h1 l hl
  · rw [um_ne _ _ _ (by decide)]; exact h2
  · rw [um_ne _ _ _ (by decide)]; exact h3
  · rw [um_ne _ _ _ (by decide)]; exact h4
  · rw [um_ne _ _ _ (by decide)]; exact h5
  · by_cases e : p = pre.length
    · rw [e, um_same, gtL_r]
    · have hp : p < pre.length := by rw [List.length_append] at hp; have : [x].length = 1 := rfl; omega
      rw [um_oth _ _ _ e, gtL_l hp]; exact h6 p hp
  · rw [um_ne _ _ _ (by decide)]; exact h7 hs p hp
theorem RDm.pop {M : AM} {pre : List Nat} {s : Nat × List Nat} {x : Nat} (h : RDm M0 M F W rl (pre ++ [x]) s) : RDm M0 M F W rl pre s := by
  obtain ⟨h1, h2, h3, h4, h5, h6, h7⟩ := h
  exact ⟨h1, h2, h3, h4, h5, fun p hp => by rw [h6 p (by rw [List.length_append]; omega), gtL_l hp], h7⟩
theorem cx_weighR {d rot g : Nat} {pre : List Nat} {s : Nat × List Nat} {M : AM} {L : AL} {Q : QT} (r5 : rl ≤ 5) (hl : pre.length = rl) (g30 : g < 2 ^ 30) (s30 : s.1 < 2 ^ 30) (h : RDm M0 M F W rl pre s) (hq : ∀ M', RDm M0 M' F W rl pre (upR g pre s) → Q none (Sx rot) M' L) : CW E3_weigh d 0 [.ref 26, .int (nI g)] (Sx rot) M L Q := by
  obtain ⟨h1, h2, h3, h4, h5, h6, h7⟩ := id h
  have lm := le_m1 g30 s30
  refine cw_ent ok3_weigh (at1 15) 60 ?_
  by_cases y : s.1 < g + 1
  · refine ifF (c := nI g ≤ M 26 1) (by rw [h5]; exact fun z => (lm.mp z) y) ?_
    have eu : upR g pre s = (g + 1, pre) := if_pos y
    rw [eu] at hq
    generalize hM1 : um M 26 1 (nI g) = M1
    have hr1 : M1 26 2 = nI rl := by rw [← hM1, um_oth _ _ _ (by decide)]; exact h4
    have lp : AW E3_weigh d 0 (Sx rot).length Q 15 [some (.ref 26), some (.int (nI g)), some (.int (nI 0))] [] (Sx rot) (sr M1 27 (fun j => if j < 0 then M1 28 j else M1 27 j)) L 0 := by
      refine aw_loop rl (fun i => [some (.ref 26), some (.int (nI g)), some (.int (nI i))]) (fun i => sr M1 27 (fun j => if j < i then M1 28 j else M1 27 j)) ?_ ?_
      · refine aw_run ok3_weigh (at1 15) 60 ?_
        refine ifT (c := M1 26 2 ≤ nI rl) (by rw [hr1]; exact Int32.le_refl _) ?_
        refine hq _ ⟨fun l hl => ?_, ?_, ?_, ?_, ?_, fun p hp => ?_, fun hs p hp => ?_⟩
        · rw [sr_ne _ _ (by omega), ← hM1, um_ne _ _ _ (by omega)]; exact h1 l hl
        · rw [sr_ne _ _ (by decide), ← hM1, um_oth _ _ _ (by decide)]; exact h2
        · rw [sr_ne _ _ (by decide), ← hM1, um_oth _ _ _ (by decide)]; exact h3
        · rw [sr_ne _ _ (by decide)]; exact hr1
        · rw [sr_ne _ _ (by decide), ← hM1, um_same, nI_pred]
        · rw [sr_ne _ _ (by decide), ← hM1, um_ne _ _ _ (by decide)]; exact h6 p hp
        · rw [sr_at, if_pos hp, ← hM1, um_ne _ _ _ (by decide)]; exact h6 p (by omega)
      · intro i hi ih
        rw [nI_succ] at ih
        refine aw_run ok3_weigh (at1 15) 60 ?_
        refine ifF (c := M1 26 2 ≤ nI i) (by rw [hr1]; exact nI_ge hi (by omega)) ?_
        refine ifF (c := 5 ≤ nI i) (nI_ge (b := 5) (by omega) (by decide)) ?_
        refine inBI (n := 5) i rfl (by omega) ?_
        refine inBI (n := 5) i rfl (by omega) ?_
        refine cast (congrArg (fun z => AW E3_weigh d 0 (Sx rot).length Q 15 [some (.ref 26), some (.int (nI g)), some (.int (nI i + 1))] [] (Sx rot) z L 0) ?_) ih
        show _ = um (sr M1 27 _) 27 i (M1 28 i)
        rw [um_sr]
        refine congrArg (sr M1 27) ?_
        funext j
        unfold upd
        by_cases e : j = i
        · subst e; simp
        · by_cases e2 : j < i
          · simp [e, e2, show j < i + 1 by omega]
          · simp [e, e2, show ¬ j < i + 1 by omega]
    rw [show (fun j => if j < 0 then M1 28 j else M1 27 j) = M1 27 from funext fun j => if_neg (Nat.not_lt_zero j), sr_self] at lp
    subst hM1
    exact lp
  · refine ifT (c := nI g ≤ M 26 1) (by rw [h5]; exact lm.mpr y) ?_
    have eu : upR g pre s = s := if_neg y
    rw [eu] at hq
    exact hq M h
theorem min_nI {x y : Nat} (hx : x < 2 ^ 31) (hy : y < 2 ^ 31) : (if nI y < nI x then nI y else nI x) = nI (min x y) := by
  by_cases z : y < x
  · rw [if_pos (nI_lt z hx), Nat.min_eq_right (by omega)]
  · rw [if_neg (nI_nlt (by omega) hy), Nat.min_eq_left (by omega)]
theorem upR_lt {B v : Nat} {os : List Nat} {s : Nat × List Nat} (hs : s.1 ≤ B) (hv : v < B) : (upR v os s).1 ≤ B := by
  unfold upR
  by_cases z : s.1 < v + 1
  · rw [if_pos z]; exact hv
  · rw [if_neg z]; exact hs
theorem fdR_lt {B : Nat} {ev : List Nat → Nat} {pre : List Nat} (hv : ∀ os, ev os < B) : ∀ ls s, s.1 ≤ B → (fdR ev pre ls s).1 ≤ B
  | [], _, hs => hs
  | os :: ls, s, hs => fdR_lt hv ls _ (upR_lt hs (hv os))
theorem rnL_le {gn go : Nat → Nat} (gob : ∀ s, go s ≤ 99) : ∀ os l g, rnL gn go F W os l g ≤ g + 99 * os.length
  | [], l, g => Nat.le_refl _
  | s :: os, l, g => by
    rw [rnL, List.length_cons]
    have := gob s
    by_cases z : gn s ≤ F - min l W
    · rw [if_pos z]; have := rnL_le (gn := gn) gob os l (g + go s); omega
    · rw [if_neg z]; have := rnL_le (gn := gn) gob os (l + 1) g; omega
end RD
