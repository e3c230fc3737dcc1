/-! ===== articles: the class's items ===== -/
def DXx (D : Dr) (M : AM) : Prop := (M 31 0 = nI D.n ∧ M 31 1 = nI D.ns ∧ M 31 2 = nI D.np ∧ M 31 3 = nI D.wd ∧ M 31 4 = nI D.wt) ∧ (∀ h, h < D.n → M 32 h = nI (D.ha h) ∧ M 33 h = nI (D.fi h) ∧ M 34 h = nI (D.ey h)) ∧ (∀ h, h < 6 → M 35 h = nI (D.li h)) ∧ (∀ s, s < D.ns → M 36 s = nI (D.gu s) ∧ M 37 s = nI (D.go s)) ∧ ∀ s, s < D.np → M 38 s = nI (D.wo s)
def DFx (M M' : AM) : Prop := (∀ l, l ≠ 17 → l < 31 ∨ 38 < l → M' l = M l) ∧ ∀ j, j < 3 → M' 17 j = M 17 j
theorem DFx.refl (M : AM) : DFx M M := ⟨fun _ _ _ => rfl, fun _ _ => rfl⟩
theorem DFx.trans {A B C : AM} (h : DFx A B) (g : DFx B C) : DFx A C := ⟨fun l a b => (g.1 l a b).trans (h.1 l a b), fun j a => (g.2 j a).trans (h.2 j a)⟩
theorem G4.dx {A B : AM} (h : G4 A B) : DFx A B := ⟨fun l a _ => h.1 l a, h.2⟩
theorem DFx.um {A B : AM} (h : DFx A B) {l j : Nat} {v : Int32} (h1 : 31 ≤ l) (h2 : l ≤ 38) : DFx A (um B l j v) := ⟨fun k a c => by rw [um_ne _ _ _ (by omega)]; exact h.1 k a c, fun i a => by rw [um_ne _ _ _ (by omega)]; exact h.2 i a⟩
theorem TXx.dx {b : Nat → Nat} {t : Nat} {M M' : AM} (h : TXx b t M) (g : DFx M M') : TXx b t M' := ⟨h.1, (g.2 1 (by decide)).trans h.2.1, fun j hj => by rw [g.1 18 (by decide) (by decide)]; exact h.2.2 j hj⟩
theorem DXx.g4 {D : Dr} {M M' : AM} (h : DXx D M) (g : G4 M M') : DXx D M' := by
  obtain ⟨m1, m6, m7, m8, m9⟩ := h
  refine ⟨by rw [g.1 31 (by decide)]; exact m1, by rw [g.1 32 (by decide), g.1 33 (by decide), g.1 34 (by decide)]; exact m6, by rw [g.1 35 (by decide)]; exact m7, by rw [g.1 36 (by decide), g.1 37 (by decide)]; exact m8, by rw [g.1 38 (by decide)]; exact m9⟩
def Eix (r : Rz) (M : AM) : Prop := match r with
  | .error q => M 17 3 = nI q
  | .ok x => DXx x.1 M ∧ M 17 4 = nI x.2
def rI (r : Rz) : Int32 := match r with
  | .error _ => 0
  | .ok _ => 1
theorem XKV.two {k v : Nat} {tok val : Int32} (h : XKV k v tok val) : tok = 2 ↔ k = 1 := by
  rcases h with ⟨a, b⟩ | ⟨a, b, -⟩ | ⟨a, b⟩ | ⟨a, ⟨b, -⟩ | b⟩ | ⟨a, a', b, -⟩
  · rw [b]; exact ⟨fun e => absurd e (by decide), fun e => absurd e (by omega)⟩
  · rw [b]; exact ⟨fun _ => a, fun _ => rfl⟩
  · rw [b]; exact ⟨fun e => absurd e (by decide), fun e => absurd e (by omega)⟩
  · rw [b]; exact ⟨fun e => absurd e (by decide), fun e => absurd e (by omega)⟩
  · rw [b]; exact ⟨fun e => absurd e (by decide), fun e => absurd e (by omega)⟩
  · rw [b]; exact ⟨fun e => absurd e (by decide), fun e => absurd e (by omega)⟩
theorem XKV.three {k v : Nat} {tok val : Int32} (h : XKV k v tok val) : tok = 3 ↔ k = 2 := by
  rcases h with ⟨a, b⟩ | ⟨a, b, -⟩ | ⟨a, b⟩ | ⟨a, ⟨b, -⟩ | b⟩ | ⟨a, a', b, -⟩
  · rw [b]; exact ⟨fun e => absurd e (by decide), fun e => absurd e (by omega)⟩
  · rw [b]; exact ⟨fun e => absurd e (by decide), fun e => absurd e (by omega)⟩
  · rw [b]; exact ⟨fun _ => a, fun _ => rfl⟩
  · rw [b]; exact ⟨fun e => absurd e (by decide), fun e => absurd e (by omega)⟩
  · rw [b]; exact ⟨fun e => absurd e (by decide), fun e => absurd e (by omega)⟩
  · rw [b]; exact ⟨fun e => absurd e (by decide), fun e => absurd e (by omega)⟩
theorem XKV.zero {k v : Nat} {tok val : Int32} (h : XKV k v tok val) : tok = 0 ↔ k = 0 := by
  rcases h with ⟨a, b⟩ | ⟨a, b, -⟩ | ⟨a, b⟩ | ⟨a, ⟨b, -⟩ | b⟩ | ⟨a, a', b, -⟩
  · rw [b]; exact ⟨fun _ => a, fun _ => rfl⟩
  · rw [b]; exact ⟨fun e => absurd e (by decide), fun e => absurd e (by omega)⟩
  · rw [b]; exact ⟨fun e => absurd e (by decide), fun e => absurd e (by omega)⟩
  · rw [b]; exact ⟨fun e => absurd e (by decide), fun e => absurd e (by omega)⟩
  · rw [b]; exact ⟨fun e => absurd e (by decide), fun e => absurd e (by omega)⟩
  · rw [b]; exact ⟨fun e => absurd e (by decide), fun e => absurd e (by omega)⟩
theorem XKV.val {k v : Nat} {tok val : Int32} (h : XKV k v tok val) (e : k = 1) : val = nI v := by
  rcases h with ⟨a, b⟩ | ⟨a, b, c⟩ | ⟨a, b⟩ | ⟨a, ⟨b, -⟩ | b⟩ | ⟨a, a', b, -⟩
  · omega
  · exact c
  all_goals omega
section XI
variable {b : Nat → Nat} {t rot : Nat} {L : AL}
theorem cx_readNumber {d p : Nat} {lo hi : Int32} {c : Nat → Bool} {M : AM} {Q : QT} (hx : TXx b t M) (hp : M 17 4 = nI p) (pt : p ≤ t) (hc : ∀ v, v ≤ 99 → ((¬ nI v < lo ∧ ¬ hi < nI v) ↔ c v = true)) (h1 : ∀ M', G4 M M' → tK b t p = 1 ∧ c (tV b t p) = true → M' 17 4 = nI (tE b t p) → M' 17 6 = nI (tV b t p) → M' 17 3 = nI (tS b t p) → Q (some (.int 1)) (Sx rot) M' L) (h0 : ∀ M', G4 M M' → ¬ (tK b t p = 1 ∧ c (tV b t p) = true) → M' 17 3 = nI (tS b t p) → Q (some (.int 0)) (Sx rot) M' L) : CW E4_readNumber (d + 2) 0 [.ref 17, .int lo, .int hi] (Sx rot) M L Q := by
  refine cw_ent ok4_readNumber noStop 40 ?_
  refine cx_nextToken hx hp pt ?_
  rintro M' ⟨g1, g2, g3, g4⟩
  by_cases y : tK b t p = 1
  · refine ifT (c := M' 17 5 = 2) (g4.two.mpr y) ?_
    have ev := g4.val y
    have hc := hc (tV b t p) (tV_lt y)
    by_cases z1 : nI (tV b t p) < lo
    · refine ifT (c := M' 17 6 < lo) (by rw [ev]; exact z1) ?_
      exact h0 M' g1 (fun q => (hc.mpr q.2).1 z1) g3
    · refine ifF (c := M' 17 6 < lo) (by rw [ev]; exact z1) ?_
      by_cases z2 : hi < nI (tV b t p)
      · refine ifT (c := hi < M' 17 6) (by rw [ev]; exact z2) ?_
        exact h0 M' g1 (fun q => (hc.mpr q.2).2 z2) g3
      · refine ifF (c := hi < M' 17 6) (by rw [ev]; exact z2) ?_
        exact h1 M' g1 ⟨y, hc.mp ⟨z1, z2⟩⟩ g2 ev g3
  · refine ifF (c := M' 17 5 = 2) (fun e => y (g4.two.mp e)) ?_
    exact h0 M' g1 (fun q => y q.1) g3
theorem cx_readStop {d p : Nat} {M : AM} {Q : QT} (hx : TXx b t M) (hp : M 17 4 = nI p) (pt : p ≤ t) (h1 : ∀ M', G4 M M' → tK b t p = 2 → M' 17 4 = nI (tE b t p) → Q (some (.int 1)) (Sx rot) M' L) (h0 : ∀ M', G4 M M' → ¬ tK b t p = 2 → M' 17 3 = nI (tS b t p) → Q (some (.int 0)) (Sx rot) M' L) : CW E4_readStop (d + 2) 0 [.ref 17] (Sx rot) M L Q := by
  refine cw_ent ok4_readStop noStop 40 ?_
  refine cx_nextToken hx hp pt ?_
  rintro M' ⟨g1, g2, g3, g4⟩
  by_cases y : tK b t p = 2
  · refine ifT (c := M' 17 5 = 3) (g4.three.mpr y) ?_
    exact h1 M' g1 y g2
  · refine ifF (c := M' 17 5 = 3) (fun e => y (g4.three.mp e)) ?_
    exact h0 M' g1 y g3
theorem cmp_nI {lo hi : Nat} (h1 : lo < 256) (h2 : hi < 256) : ∀ v, v ≤ 99 → ((¬ nI v < nI lo ∧ ¬ nI hi < nI v) ↔ inR lo hi v = true) := fun v hv => by
  rw [nI_ltI (by omega) (by omega), nI_ltI (by omega) (by omega)]
  unfold inR
  exact ⟨fun e => decide_eq_true (by omega), fun e => by have := of_decide_eq_true e; omega⟩
theorem cx_readHand {d p : Nat} {D : Dr} {M : AM} {Q : QT} (hx : TXx b t M) (hD : DV D) (hM : DXx D M) (hn : D.n < 6) (hp : M 17 4 = nI p) (pt : p ≤ t) (hq : ∀ M', DFx M M' → Eix (itm b t D 104 p) M' → Q (some (.int (rI (itm b t D 104 p)))) (Sx rot) M' L) : CW E4_readHand (d + 3) 0 [.ref 17, .ref 31] (Sx rot) M L Q := by
  obtain ⟨⟨m1, m2, m3, m4, m5⟩, m6, m7, m8, m9⟩ := id hM
  unfold itm at hq
  rw [if_pos rfl] at hq
  refine cw_ent ok4_readHand noStop 90 ?_
  refine ifF (c := M 31 0 < 0) (by rw [m1]; exact nI_pos (by omega)) ?_
  refine ifF (c := 6 ≤ M 31 0) (by rw [m1]; exact nI_ge (b := 6) hn (by decide)) ?_
  refine cx_readNumber hx hp pt (cmp_nI (lo := 1) (hi := 9) (by decide) (by decide)) (fun A1 g1 k1 p1 v1 st1 => ?_) (fun A1 g1 k1 s1 => ?_)
  · rw [numR_pos k1] at hq
    have a1 : ∀ l, l ≠ 17 → A1 l = M l := g1.1
    refine inBI (n := 6) D.n m1 (by omega) ?_
    have hx1 := hx.dx (g1.dx.um (l := 32) (j := D.n) (v := A1 17 6) (by decide) (by decide))
    have e1 : tE b t p ≤ t := tE_le pt
    refine cx_readNumber hx1 (by rw [um_ne _ _ _ (by decide)]; exact p1) e1 (cmp_nI (lo := 0) (hi := 9) (by decide) (by decide)) (fun A2 g2 k2 p2 v2 st2 => ?_) (fun A2 g2 k2 s2 => ?_)
    · rw [numR_pos k2] at hq
      have a2 : ∀ l, l ≠ 17 → A2 l = um A1 32 D.n (A1 17 6) l := g2.1
      refine inBI (n := 6) D.n m1 (by omega) ?_
      have hx2 := hx1.dx (g2.dx.um (l := 33) (j := D.n) (v := A2 17 6) (by decide) (by decide))
      have e2 : tE b t (tE b t p) ≤ t := tE_le e1
      refine cx_readNumber hx2 (by rw [um_ne _ _ _ (by decide)]; exact p2) e2 (cmp_nI (lo := 0) (hi := 9) (by decide) (by decide)) (fun A3 g3 k3 p3 v3 st3 => ?_) (fun A3 g3 k3 s3 => ?_)
      · rw [numR_pos k3] at hq
        have a3 : ∀ l, l ≠ 17 → A3 l = um A2 33 D.n (A2 17 6) l := g3.1
        refine inBI (n := 6) D.n m1 (by omega) ?_
        have e31 : um A3 34 D.n (A3 17 6) 31 0 = nI D.n := by rw [um_ne _ _ _ (by decide), a3 31 (by decide), um_ne _ _ _ (by decide), a2 31 (by decide), um_ne _ _ _ (by decide), a1 31 (by decide), m1]
        have hC : ∀ l, l ≠ 17 → ∀ j, um (um A3 34 D.n (A3 17 6)) 31 0 (um A3 34 D.n (A3 17 6) 31 0 + 1) l j = if l = 31 ∧ j = 0 then nI (D.n + 1) else if l = 34 ∧ j = D.n then A3 17 6 else if l = 33 ∧ j = D.n then A2 17 6 else if l = 32 ∧ j = D.n then A1 17 6 else M l j := fun l hl j => by
          rw [um_app, e31, um_app, a3 l hl, um_app, a2 l hl, um_app, a1 l hl, nI_succ]
        have df : DFx M (um (um A3 34 D.n (A3 17 6)) 31 0 (um A3 34 D.n (A3 17 6) 31 0 + 1)) := ((g1.dx.um (l := 32) (j := D.n) (v := A1 17 6) (by decide) (by decide)).trans ((g2.dx.um (l := 33) (j := D.n) (v := A2 17 6) (by decide) (by decide)).trans (g3.dx.um (by decide) (by decide)))).um (by decide) (by decide)
        have q4 : um (um A3 34 D.n (A3 17 6)) 31 0 (um A3 34 D.n (A3 17 6) 31 0 + 1) 17 4 = nI (tE b t (tE b t (tE b t p))) := by rw [um_ne _ _ _ (by decide), um_ne _ _ _ (by decide)]; exact p3
        refine hq _ df ⟨⟨⟨?_, ?_, ?_, ?_, ?_⟩, fun h hh => ?_, fun h hh => ?_, fun s hs => ?_, fun s hs => ?_⟩, q4⟩
        · rw [hC 31 (by decide), if_pos ⟨rfl, rfl⟩]; rfl
        · rw [hC 31 (by decide), if_neg (by omega), if_neg (by omega), if_neg (by omega), if_neg (by omega)]; exact m2
        · rw [hC 31 (by decide), if_neg (by omega), if_neg (by omega), if_neg (by omega), if_neg (by omega)]; exact m3
        · rw [hC 31 (by decide), if_neg (by omega), if_neg (by omega), if_neg (by omega), if_neg (by omega)]; exact m4
        · rw [hC 31 (by decide), if_neg (by omega), if_neg (by omega), if_neg (by omega), if_neg (by omega)]; exact m5
        · have hh : h < D.n + 1 := hh
          rw [hC 32 (by decide), hC 33 (by decide), hC 34 (by decide)]
          show _ = nI (upN D.ha D.n (tV b t p) h) ∧ _ = nI (upN D.fi D.n (tV b t (tE b t p)) h) ∧ _ = nI (upN D.ey D.n (tV b t (tE b t (tE b t p))) h)
          by_cases e : h = D.n
          · subst e
            rw [upN_at, upN_at, upN_at]
            refine ⟨?_, ?_, ?_⟩
            · rw [if_neg (by omega), if_neg (by omega), if_neg (by omega), if_pos ⟨rfl, rfl⟩]; exact v1
            · rw [if_neg (by omega), if_neg (by omega), if_pos ⟨rfl, rfl⟩]; exact v2
            · rw [if_neg (by omega), if_pos ⟨rfl, rfl⟩]; exact v3
          · rw [upN_ne e, upN_ne e, upN_ne e]
            obtain ⟨o1, o2, o3⟩ := m6 h (by omega)
            refine ⟨?_, ?_, ?_⟩
            · rw [if_neg (by omega), if_neg (by omega), if_neg (by omega), if_neg (by omega)]; exact o1
            · rw [if_neg (by omega), if_neg (by omega), if_neg (by omega), if_neg (by omega)]; exact o2
            · rw [if_neg (by omega), if_neg (by omega), if_neg (by omega), if_neg (by omega)]; exact o3
        · rw [hC 35 (by decide), if_neg (by omega), if_neg (by omega), if_neg (by omega), if_neg (by omega)]; exact m7 h hh
        · rw [hC 36 (by decide), hC 37 (by decide), if_neg (by omega), if_neg (by omega), if_neg (by omega), if_neg (by omega), if_neg (by omega), if_neg (by omega), if_neg (by omega), if_neg (by omega)]; exact m8 s hs
        · rw [hC 38 (by decide), if_neg (by omega), if_neg (by omega), if_neg (by omega), if_neg (by omega)]; exact m9 s hs
      · rw [numR_neg k3] at hq
        exact hq A3 ((g1.dx.um (l := 32) (j := D.n) (v := A1 17 6) (by decide) (by decide)).trans ((g2.dx.um (l := 33) (j := D.n) (v := A2 17 6) (by decide) (by decide)).trans g3.dx)) s3
    · rw [numR_neg k2] at hq
      exact hq A2 ((g1.dx.um (l := 32) (j := D.n) (v := A1 17 6) (by decide) (by decide)).trans g2.dx) s2
  · rw [numR_neg k1] at hq
    exact hq A1 g1.dx s1
theorem cx_readShip {d p : Nat} {D : Dr} {M : AM} {Q : QT} (hx : TXx b t M) (hD : DV D) (hM : DXx D M) (hn : D.ns < 5) (hp : M 17 4 = nI p) (pt : p ≤ t) (hq : ∀ M', DFx M M' → Eix (itm b t D 115 p) M' → Q (some (.int (rI (itm b t D 115 p)))) (Sx rot) M' L) : CW E4_readShip (d + 3) 0 [.ref 17, .ref 31] (Sx rot) M L Q := by
  obtain ⟨⟨m1, m2, m3, m4, m5⟩, m6, m7, m8, m9⟩ := id hM
  unfold itm at hq
  rw [if_neg (by decide), if_neg (by decide), if_neg (by decide), if_pos rfl] at hq
  refine cw_ent ok4_readShip noStop 90 ?_
  refine ifF (c := M 31 1 < 0) (by rw [m2]; exact nI_pos (by omega)) ?_
  refine ifF (c := 5 ≤ M 31 1) (by rw [m2]; exact nI_ge (b := 5) hn (by decide)) ?_
  refine cx_readNumber hx hp pt (cmp_nI (lo := 0) (hi := 60) (by decide) (by decide)) (fun A1 g1 k1 p1 v1 st1 => ?_) (fun A1 g1 k1 s1 => ?_)
  · rw [numR_pos k1] at hq
    have a1 : ∀ l, l ≠ 17 → A1 l = M l := g1.1
    refine inBI (n := 5) D.ns m2 (by omega) ?_
    have hx1 := hx.dx (g1.dx.um (l := 36) (j := D.ns) (v := A1 17 6) (by decide) (by decide))
    have e1 : tE b t p ≤ t := tE_le pt
    refine cx_readNumber hx1 (by rw [um_ne _ _ _ (by decide)]; exact p1) e1 (cmp_nI (lo := 0) (hi := 99) (by decide) (by decide)) (fun A2 g2 k2 p2 v2 st2 => ?_) (fun A2 g2 k2 s2 => ?_)
    · rw [numR_pos k2] at hq
      have a2 : ∀ l, l ≠ 17 → A2 l = um A1 36 D.ns (A1 17 6) l := g2.1
      refine inBI (n := 5) D.ns m2 (by omega) ?_
      have e31 : um A2 37 D.ns (A2 17 6) 31 1 = nI D.ns := by rw [um_ne _ _ _ (by decide), a2 31 (by decide), um_ne _ _ _ (by decide), a1 31 (by decide), m2]
      have hC : ∀ l, l ≠ 17 → ∀ j, um (um A2 37 D.ns (A2 17 6)) 31 1 (um A2 37 D.ns (A2 17 6) 31 1 + 1) l j = if l = 31 ∧ j = 1 then nI (D.ns + 1) else if l = 37 ∧ j = D.ns then A2 17 6 else if l = 36 ∧ j = D.ns then A1 17 6 else M l j := fun l hl j => by
        rw [um_app, e31, um_app, a2 l hl, um_app, a1 l hl, nI_succ]
      have df : DFx M (um (um A2 37 D.ns (A2 17 6)) 31 1 (um A2 37 D.ns (A2 17 6) 31 1 + 1)) := ((g1.dx.um (l := 36) (j := D.ns) (v := A1 17 6) (by decide) (by decide)).trans (g2.dx.um (by decide) (by decide))).um (by decide) (by decide)
      have q4 : um (um A2 37 D.ns (A2 17 6)) 31 1 (um A2 37 D.ns (A2 17 6) 31 1 + 1) 17 4 = nI (tE b t (tE b t p)) := by rw [um_ne _ _ _ (by decide), um_ne _ _ _ (by decide)]; exact p2
      refine hq _ df ⟨⟨⟨?_, ?_, ?_, ?_, ?_⟩, fun h hh => ?_, fun h hh => ?_, fun s hs => ?_, fun s hs => ?_⟩, q4⟩
      · rw [hC 31 (by decide), if_neg (by omega), if_neg (by omega), if_neg (by omega)]; exact m1
      · rw [hC 31 (by decide), if_pos ⟨rfl, rfl⟩]; rfl
      · rw [hC 31 (by decide), if_neg (by omega), if_neg (by omega), if_neg (by omega)]; exact m3
      · rw [hC 31 (by decide), if_neg (by omega), if_neg (by omega), if_neg (by omega)]; exact m4
      · rw [hC 31 (by decide), if_neg (by omega), if_neg (by omega), if_neg (by omega)]; exact m5
      · rw [hC 32 (by decide), hC 33 (by decide), hC 34 (by decide), if_neg (by omega), if_neg (by omega), if_neg (by omega), if_neg (by omega), if_neg (by omega), if_neg (by omega), if_neg (by omega), if_neg (by omega), if_neg (by omega)]; exact m6 h hh
      · rw [hC 35 (by decide), if_neg (by omega), if_neg (by omega), if_neg (by omega)]; exact m7 h hh
      · have hs : s < D.ns + 1 := hs
        rw [hC 36 (by decide), hC 37 (by decide)]
        show _ = nI (upN D.gu D.ns (tV b t p) s) ∧ _ = nI (upN D.go D.ns (tV b t (tE b t p)) s)
        by_cases e : s = D.ns
        · subst e
          rw [upN_at, upN_at]
          refine ⟨?_, ?_⟩
          · rw [if_neg (by omega), if_neg (by omega), if_pos ⟨rfl, rfl⟩]; exact v1
          · rw [if_neg (by omega), if_pos ⟨rfl, rfl⟩]; exact v2
        · rw [upN_ne e, upN_ne e]
          obtain ⟨o1, o2⟩ := m8 s (by omega)
          refine ⟨?_, ?_⟩
          · rw [if_neg (by omega), if_neg (by omega), if_neg (by omega)]; exact o1
          · rw [if_neg (by omega), if_neg (by omega), if_neg (by omega)]; exact o2
      · rw [hC 38 (by decide), if_neg (by omega), if_neg (by omega), if_neg (by omega)]; exact m9 s hs
    · rw [numR_neg k2] at hq
      exact hq A2 ((g1.dx.um (l := 36) (j := D.ns) (v := A1 17 6) (by decide) (by decide)).trans g2.dx) s2
  · rw [numR_neg k1] at hq
    exact hq A1 g1.dx s1
theorem cx_readPiece {d p : Nat} {D : Dr} {M : AM} {Q : QT} (hx : TXx b t M) (hD : DV D) (hM : DXx D M) (hn : D.np < 5) (hp : M 17 4 = nI p) (pt : p ≤ t) (hq : ∀ M', DFx M M' → Eix (itm b t D 112 p) M' → Q (some (.int (rI (itm b t D 112 p)))) (Sx rot) M' L) : CW E4_readPiece (d + 3) 0 [.ref 17, .ref 31] (Sx rot) M L Q := by
  obtain ⟨⟨m1, m2, m3, m4, m5⟩, m6, m7, m8, m9⟩ := id hM
  unfold itm at hq
  rw [if_neg (by decide), if_neg (by decide), if_pos rfl] at hq
  refine cw_ent ok4_readPiece noStop 90 ?_
  refine ifF (c := M 31 2 < 0) (by rw [m3]; exact nI_pos (by omega)) ?_
  refine ifF (c := 5 ≤ M 31 2) (by rw [m3]; exact nI_ge (b := 5) hn (by decide)) ?_
  refine cx_readNumber hx hp pt (cmp_nI (lo := 1) (hi := 99) (by decide) (by decide)) (fun A1 g1 k1 p1 v1 st1 => ?_) (fun A1 g1 k1 s1 => ?_)
  · rw [numR_pos k1] at hq
    have a1 : ∀ l, l ≠ 17 → A1 l = M l := g1.1
    refine inBI (n := 5) D.np m3 (by omega) ?_
    have e31 : um A1 38 D.np (A1 17 6) 31 2 = nI D.np := by rw [um_ne _ _ _ (by decide), a1 31 (by decide), m3]
    have hC : ∀ l, l ≠ 17 → ∀ j, um (um A1 38 D.np (A1 17 6)) 31 2 (um A1 38 D.np (A1 17 6) 31 2 + 1) l j = if l = 31 ∧ j = 2 then nI (D.np + 1) else if l = 38 ∧ j = D.np then A1 17 6 else M l j := fun l hl j => by
      rw [um_app, e31, um_app, a1 l hl, nI_succ]
    have df : DFx M (um (um A1 38 D.np (A1 17 6)) 31 2 (um A1 38 D.np (A1 17 6) 31 2 + 1)) := (g1.dx.um (by decide) (by decide)).um (by decide) (by decide)
    have q4 : um (um A1 38 D.np (A1 17 6)) 31 2 (um A1 38 D.np (A1 17 6) 31 2 + 1) 17 4 = nI (tE b t p) := by rw [um_ne _ _ _ (by decide), um_ne _ _ _ (by decide)]; exact p1
    refine hq _ df ⟨⟨⟨?_, ?_, ?_, ?_, ?_⟩, fun h hh => ?_, fun h hh => ?_, fun s hs => ?_, fun s hs => ?_⟩, q4⟩
    · rw [hC 31 (by decide), if_neg (by omega), if_neg (by omega)]; exact m1
    · rw [hC 31 (by decide), if_neg (by omega), if_neg (by omega)]; exact m2
    · rw [hC 31 (by decide), if_pos ⟨rfl, rfl⟩]; rfl
    · rw [hC 31 (by decide), if_neg (by omega), if_neg (by omega)]; exact m4
    · rw [hC 31 (by decide), if_neg (by omega), if_neg (by omega)]; exact m5
    · rw [hC 32 (by decide), hC 33 (by decide), hC 34 (by decide), if_neg (by omega), if_neg (by omega), if_neg (by omega), if_neg (by omega), if_neg (by omega), if_neg (by omega)]; exact m6 h hh
    · rw [hC 35 (by decide), if_neg (by omega), if_neg (by omega)]; exact m7 h hh
    · rw [hC 36 (by decide), hC 37 (by decide), if_neg (by omega), if_neg (by omega), if_neg (by omega), if_neg (by omega)]; exact m8 s hs
    · have hs : s < D.np + 1 := hs
      rw [hC 38 (by decide), if_neg (by omega)]
      show _ = nI (upN D.wo D.np (tV b t p) s)
      by_cases e : s = D.np
      · subst e
        rw [upN_at, if_pos ⟨rfl, rfl⟩]; exact v1
      · rw [upN_ne e, if_neg (by omega)]; exact m9 s (by omega)
  · rw [numR_neg k1] at hq
    exact hq A1 g1.dx s1
theorem cx_readWound {d p : Nat} {D : Dr} {M : AM} {Q : QT} (hx : TXx b t M) (hD : DV D) (hM : DXx D M) (hn : D.wt = 0) (hp : M 17 4 = nI p) (pt : p ≤ t) (hq : ∀ M', DFx M M' → Eix (itm b t D 119 p) M' → Q (some (.int (rI (itm b t D 119 p)))) (Sx rot) M' L) : CW E4_readWound (d + 3) 0 [.ref 17, .ref 31] (Sx rot) M L Q := by
  obtain ⟨⟨m1, m2, m3, m4, m5⟩, m6, m7, m8, m9⟩ := id hM
  unfold itm at hq
  rw [if_neg (by decide), if_neg (by decide), if_neg (by decide), if_neg (by decide)] at hq
  refine cw_ent ok4_readWound noStop 90 ?_
  refine ifT (c := M 31 4 = 0) (by rw [m5, hn]; rfl) ?_
  refine cx_readNumber hx hp pt (cmp_nI (lo := 0) (hi := 50) (by decide) (by decide)) (fun A1 g1 k1 p1 v1 st1 => ?_) (fun A1 g1 k1 s1 => ?_)
  · rw [numR_pos k1] at hq
    have a1 : ∀ l, l ≠ 17 → A1 l = M l := g1.1
    have hC : ∀ l, l ≠ 17 → ∀ j, um (um A1 31 3 (A1 17 6)) 31 4 1 l j = if l = 31 ∧ j = 4 then 1 else if l = 31 ∧ j = 3 then A1 17 6 else M l j := fun l hl j => by
      rw [um_app, um_app, a1 l hl]
    have df : DFx M (um (um A1 31 3 (A1 17 6)) 31 4 1) := (g1.dx.um (by decide) (by decide)).um (by decide) (by decide)
    have q4 : um (um A1 31 3 (A1 17 6)) 31 4 1 17 4 = nI (tE b t p) := by rw [um_ne _ _ _ (by decide), um_ne _ _ _ (by decide)]; exact p1
    refine hq _ df ⟨⟨⟨?_, ?_, ?_, ?_, ?_⟩, fun h hh => ?_, fun h hh => ?_, fun s hs => ?_, fun s hs => ?_⟩, q4⟩
    · rw [hC 31 (by decide), if_neg (by omega), if_neg (by omega)]; exact m1
    · rw [hC 31 (by decide), if_neg (by omega), if_neg (by omega)]; exact m2
    · rw [hC 31 (by decide), if_neg (by omega), if_neg (by omega)]; exact m3
    · rw [hC 31 (by decide), if_neg (by omega), if_pos ⟨rfl, rfl⟩]; exact v1
    · rw [hC 31 (by decide), if_pos ⟨rfl, rfl⟩]; rfl
    · rw [hC 32 (by decide), hC 33 (by decide), hC 34 (by decide), if_neg (by omega), if_neg (by omega), if_neg (by omega), if_neg (by omega), if_neg (by omega), if_neg (by omega)]; exact m6 h hh
    · rw [hC 35 (by decide), if_neg (by omega), if_neg (by omega)]; exact m7 h hh
    · rw [hC 36 (by decide), hC 37 (by decide), if_neg (by omega), if_neg (by omega), if_neg (by omega), if_neg (by omega)]; exact m8 s hs
    · rw [hC 38 (by decide), if_neg (by omega), if_neg (by omega)]; exact m9 s hs
  · rw [numR_neg k1] at hq
    exact hq A1 g1.dx s1
theorem lt_cmp {n : Nat} (n6 : n ≤ 6) : ∀ v, v ≤ 99 → ((¬ nI v < 0 ∧ ¬ nI n - 1 < nI v) ↔ decide (v < n) = true) := by
  have : ∀ n, n < 7 → ∀ v, v < 100 → ((¬ nI v < 0 ∧ ¬ nI n - 1 < nI v) ↔ decide (v < n) = true) := by decide +kernel
  exact fun v hv => this n (by omega) v (by omega)
theorem cx_readLiking {d p : Nat} {D : Dr} {M : AM} {Q : QT} (hx : TXx b t M) (hD : DV D) (hM : DXx D M) (hp : M 17 4 = nI p) (pt : p ≤ t) (hq : ∀ M', DFx M M' → Eix (itm b t D 108 p) M' → Q (some (.int (rI (itm b t D 108 p)))) (Sx rot) M' L) : CW E4_readLiking (d + 3) 0 [.ref 17, .ref 31] (Sx rot) M L Q := by
  obtain ⟨⟨m1, m2, m3, m4, m5⟩, m6, m7, m8, m9⟩ := id hM
  obtain ⟨⟨n6, -⟩, -, d6, -⟩ := id hD
  unfold itm at hq
  rw [if_neg (by decide), if_pos rfl] at hq
  refine cw_ent ok4_readLiking noStop 90 ?_
  refine cx_readNumber (c := fun v => decide (v < D.n)) hx hp pt (by rw [m1]; exact lt_cmp n6) (fun A1 g1 k1 p1 v1 st1 => ?_) (fun A1 g1 k1 s1 => ?_)
  · rw [numR_pos k1] at hq
    have x1 := of_decide_eq_true k1.2
    have a1 : ∀ l, l ≠ 17 → A1 l = M l := g1.1
    have hx1 := hx.g4 g1
    have e1 : tE b t p ≤ t := tE_le pt
    refine cx_readNumber (c := fun v => decide (v < D.n)) hx1 p1 e1 (by rw [a1 31 (by decide), m1]; exact lt_cmp n6) (fun A2 g2 k2 p2 v2 st2 => ?_) (fun A2 g2 k2 s2 => ?_)
    · have x2 := of_decide_eq_true k2.2
      have a2 : ∀ l, l ≠ 17 → A2 l = M l := fun l hl => (g2.1 l hl).trans (a1 l hl)
      by_cases u : tV b t (tE b t p) = tV b t p
      · refine ifT (c := A2 17 6 = A1 17 6) (by rw [v2, v1, u]) ?_
        rw [numR_neg (fun q => (of_decide_eq_true q.2).2 u)] at hq
        exact hq A2 (g1.trans g2).dx st2
      · refine ifF (c := A2 17 6 = A1 17 6) (by rw [v2, v1]; exact fun q => u ((nI_eq (by omega) (by omega)).mp q)) ?_
        refine ifT (c := A1 17 6 < 6) (by rw [v1]; exact nI_lt (b := 6) (by omega) (by decide)) ?_
        rw [numR_pos ⟨k2.1, decide_eq_true ⟨x2, u⟩⟩] at hq
        refine inBI (n := 6) (tV b t p) v1 (by omega) ?_
        refine inBI (n := 6) (tV b t p) v1 (by omega) ?_
        have ev : A2 35 (tV b t p) ||| (1 : Int32) <<< (A2 17 6 &&& 31) = nI (D.li (tV b t p) ||| 2 ^ tV b t (tE b t p)) := by
          rw [a2 35 (by decide), m7 _ (by omega), v2]
          refine or_nI6 _ (by omega) _ ?_
          have := (d6 (tV b t p) (by omega)).1
          have hp := pow_le6 n6
          omega
        refine hq _ ((g1.trans g2).dx.um (by decide) (by decide)) ⟨⟨⟨?_, ?_, ?_, ?_, ?_⟩, fun h hh => ?_, fun h hh => ?_, fun s hs => ?_, fun s hs => ?_⟩, by rw [um_ne _ _ _ (by decide)]; exact p2⟩
        · rw [um_ne _ _ _ (by decide), a2 31 (by decide)]; exact m1
        · rw [um_ne _ _ _ (by decide), a2 31 (by decide)]; exact m2
        · rw [um_ne _ _ _ (by decide), a2 31 (by decide)]; exact m3
        · rw [um_ne _ _ _ (by decide), a2 31 (by decide)]; exact m4
        · rw [um_ne _ _ _ (by decide), a2 31 (by decide)]; exact m5
        · rw [um_ne _ _ _ (by decide), um_ne _ _ _ (by decide), um_ne _ _ _ (by decide), a2 32 (by decide), a2 33 (by decide), a2 34 (by decide)]; exact m6 h hh
        · show um A2 35 (tV b t p) _ 35 h = nI (upN D.li (tV b t p) (D.li (tV b t p) ||| 2 ^ tV b t (tE b t p)) h)
          by_cases e : h = tV b t p
          · rw [e, um_same, upN_at]; exact ev
          · rw [um_oth _ _ _ e, upN_ne e, a2 35 (by decide)]; exact m7 h hh
        · rw [um_ne _ _ _ (by decide), um_ne _ _ _ (by decide), a2 36 (by decide), a2 37 (by decide)]; exact m8 s hs
        · rw [um_ne _ _ _ (by decide), a2 38 (by decide)]; exact m9 s hs
    · rw [numR_neg (fun q => k2 ⟨q.1, decide_eq_true (of_decide_eq_true q.2).1⟩)] at hq
      exact hq A2 (g1.trans g2).dx s2
  · rw [numR_neg k1] at hq
    exact hq A1 g1.dx s1
end XI
