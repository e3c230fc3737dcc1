/-! ===== class and model side by side ===== -/
def Vq (n ns c : Nat) (v : Nat → Int32) : Prop := (∃ a, a < 2 ^ n ∧ v 0 = nI a) ∧ (∃ mt tk, mt < 2 ^ ns ∧ v 33 = nI mt ∧ v 34 = nI tk ∧ tk &&& mt = tk) ∧ (∃ (ch : Nat) (hd : Nat → Nat), v 2 = nI ch ∧ (∀ h, h < 6 → v (21 + h) = nI (hd h)) ∧ ch + (hd 0 + hd 1 + hd 2 + hd 3 + hd 4 + hd 5) ≤ 100 * c) ∧ (∀ h, h < 6 → ∃ w, w ≤ c ∧ v (9 + h) = nI w) ∧ ∀ h, h < 6 → ∃ u, u ≤ c ∧ v (15 + h) = nI u ∧ (n ≤ h → u = 0)
theorem Vq.mono {n ns c c' : Nat} {v : Nat → Int32} (h : Vq n ns c v) (hc : c ≤ c') : Vq n ns c' v := by
  obtain ⟨h1, h2, ⟨ch, hd, h3, h4, h5⟩, h6, h7⟩ := h
  refine ⟨h1, h2, ⟨ch, hd, h3, h4, by omega⟩, fun h hh => ?_, fun h hh => ?_⟩
  · obtain ⟨w, g1, g2⟩ := h6 h hh
    exact ⟨w, by omega, g2⟩
  · obtain ⟨w, g1, g2⟩ := h7 h hh
    exact ⟨w, by omega, g2⟩
theorem Vq.congr {n ns c : Nat} {v v' : Nat → Int32} (h : Vq n ns c v) (hv : ∀ k, k < 35 → v' k = v k) : Vq n ns c v' := by
  obtain ⟨⟨a, a1, a2⟩, ⟨mt, tk, m1, m2, m3, m4⟩, ⟨ch, hd, h3, h4, h5⟩, h6, h7⟩ := h
  refine ⟨⟨a, a1, by rw [hv 0 (by decide)]; exact a2⟩, ⟨mt, tk, m1, by rw [hv 33 (by decide)]; exact m2, by rw [hv 34 (by decide)]; exact m3, m4⟩, ⟨ch, hd, by rw [hv 2 (by decide)]; exact h3, fun h hh => by rw [hv _ (by omega)]; exact h4 h hh, h5⟩, fun h hh => ?_, fun h hh => ?_⟩
  · obtain ⟨w, g1, g2⟩ := h6 h hh
    exact ⟨w, g1, by rw [hv _ (by omega)]; exact g2⟩
  · obtain ⟨w, g1, g2, g3⟩ := h7 h hh
    exact ⟨w, g1, by rw [hv _ (by omega)]; exact g2, g3⟩
def RVec (Mm Mx : AM) (o b : Nat) : Prop := ∀ k, k < 35 → mv Mx b k = Mm 13 (o + k)
/-- a log as both have it: o its place in the model's row, mb its moment, kl its log, pb its past moments -/
def LG (n ns c : Nat) (Mm Mx : AM) (o mb kl : Nat) (pb : Nat → Nat) : Prop := RVec Mm Mx o mb ∧ Vq n ns c (fun k => Mm 13 (o + k)) ∧ ∃ kn, kn ≤ 10 ∧ Mm 13 (o + 35) = nI kn ∧ Mx kl 1 = nI kn ∧ ∀ i, i < kn → RVec Mm Mx (o + 36 + 35 * i) (pb i) ∧ Vq n ns c (fun k => Mm 13 (o + 36 + 35 * i + k))
theorem LG.mono {n ns c c' : Nat} {Mm Mx : AM} {o mb kl : Nat} {pb : Nat → Nat} (h : LG n ns c Mm Mx o mb kl pb) (hc : c ≤ c') : LG n ns c' Mm Mx o mb kl pb := by
  obtain ⟨h1, h2, kn, k1, k2, k3, k4⟩ := h
  exact ⟨h1, h2.mono hc, kn, k1, k2, k3, fun i hi => ⟨(k4 i hi).1, (k4 i hi).2.mono hc⟩⟩
/-- the same log elsewhere -/
theorem LG.move {n ns c : Nat} {Mm Mx Mm' Mx' : AM} {o mb kl o' mb' kl' : Nat} {pb pb' : Nat → Nat} (h : LG n ns c Mm Mx o mb kl pb) (hm : ∀ k, k < 386 → Mm' 13 (o' + k) = Mm 13 (o + k)) (hv : mv Mx' mb' = mv Mx mb) (hk : Mx' kl' 1 = Mx kl 1) (hp : ∀ i, i < 10 → mv Mx' (pb' i) = mv Mx (pb i)) : LG n ns c Mm' Mx' o' mb' kl' pb' := by
  obtain ⟨h1, h2, kn, k1, k2, k3, k4⟩ := h
  refine ⟨fun k hk => by rw [hv, h1 k hk, hm k (by omega)], h2.congr (fun k hk => hm k (by omega)), kn, k1, by rw [hm 35 (by decide)]; exact k2, hk.trans k3, fun i hi => ⟨fun k hk => ?_, (k4 i hi).2.congr (fun k hk => ?_)⟩⟩
  · rw [hp i (by omega), (k4 i hi).1 k hk]
    have := hm (36 + 35 * i + k) (by omega)
    rw [show o' + (36 + 35 * i + k) = o' + 36 + 35 * i + k by omega, show o + (36 + 35 * i + k) = o + 36 + 35 * i + k by omega] at this
    exact this.symm
  · have := hm (36 + 35 * i + k) (by omega)
    rw [show o' + (36 + 35 * i + k) = o' + 36 + 35 * i + k by omega, show o + (36 + 35 * i + k) = o + 36 + 35 * i + k by omega] at this
    exact this
def RT (n ns np : Nat) (Mm Mx : AM) : Prop := (n ≤ 6 ∧ ns ≤ 5 ∧ np ≤ 5) ∧ (Mm 2 0 = nI n ∧ Mx 1 0 = nI n) ∧ (Mm 7 0 = nI ns ∧ Mx 1 1 = nI ns) ∧ (Mm 10 0 = nI np ∧ Mx 1 2 = nI np) ∧ (∃ w, w ≤ 50 ∧ Mm 12 0 = nI w ∧ Mx 1 3 = nI w) ∧ (∀ h, h < n → ∃ v, 1 ≤ v ∧ v ≤ 9 ∧ Mm 3 h = nI v ∧ Mx 2 h = nI v) ∧ (∀ h, h < n → ∃ v, v ≤ 9 ∧ Mm 4 h = nI v ∧ Mx 3 h = nI v) ∧ (∀ h, h < n → ∃ v, v ≤ 9 ∧ Mm 5 h = nI v ∧ Mx 4 h = nI v) ∧ (∀ h, h < n → ∃ v, v < 2 ^ n ∧ v.testBit h = false ∧ Mm 6 h = nI v ∧ Mx 5 h = nI v) ∧ (∀ s, s < ns → ∃ v, v ≤ 60 ∧ Mm 8 s = nI v ∧ Mx 6 s = nI v) ∧ (∀ s, s < ns → ∃ v, v ≤ 99 ∧ Mm 9 s = nI v ∧ Mx 7 s = nI v) ∧ ∀ s, s < np → ∃ v, 1 ≤ v ∧ v ≤ 99 ∧ Mm 11 s = nI v ∧ Mx 8 s = nI v
def RX (Mm Mx : AM) : Prop := ∃ t, t ≤ 150 ∧ Mm 0 2 = nI t ∧ Mx 17 1 = nI t ∧ ∀ j, j < t → ∃ b, b < 256 ∧ Mx 18 j = nI b ∧ Mm 1 j &&& 255 = nI b
def RS (n : Nat) (Mm Mx : AM) : Prop := ∃ k, k ≤ 6 ∧ Mm 0 29 = nI k ∧ Mx 0 10 = nI k ∧ ∀ i, i < k → Mm 19 i = Mx 29 i ∧ Mm 20 i = Mx 30 i
def RI (n ns c : Nat) (Mm Mx : AM) (im : Nat) : Prop := (Mm 14 im = 0 ∧ Mx (99 + 68 * im) 2 = 0) ∨ (Mm 14 im = 1 ∧ Mx (99 + 68 * im) 2 = 1 ∧ LG n ns c Mm Mx (386 * (1 + im)) (100 + 68 * im) (99 + 68 * im) (fun i => 107 + 68 * im + 6 * i))
def Rel (c rot : Nat) (Mm : AM) (Lm : AL) (Mx : AM) (Lx : AL) : Prop := ∃ n ns np, RT n ns np Mm Mx ∧ LG n ns c Mm Mx 0 9 15 (pl rot) ∧ (∀ im, im < 2 → RI n ns c Mm Mx im) ∧ RX Mm Mx ∧ RS n Mm Mx ∧ Lm 0 0 = Lx 0 11
abbrev RVi : Type := Int32
abbrev RVi.int (x : Int32) : RVi := x
/-- one call on both: the same answer, and again side by side -/
def Step (Em Ex : ME) (as : List Value) (c rot : Nat) (Mm : AM) (Lm : AL) (Mx : AM) (Lx : AL) : Prop := ∃ (r : RVi) (Mm' : AM) (Lm' : AL), (∀ Q : QT, Q (some (.int r)) Sm Mm' Lm' → CW Em 30 0 (.ref 0 :: as) Sm Mm Lm Q) ∧ ∀ Q : QT, (∀ rot' Mx' Lx', Rel (c + 1) rot' Mm' Lm' Mx' Lx' → Q (some (.int r)) (Sx rot') Mx' Lx') → CW Ex 30 0 (.ref 0 :: as) (Sx rot) Mx Lx Q
def StepL (Em Ex : ME) (as : List Value) (c rot : Nat) (Mm : AM) (Lm : AL) (Mx : AM) (Lx : AL) : Prop := ∃ (r : Int64) (Mm' : AM) (Lm' : AL), (∀ Q : QT, Q (some (.long r)) Sm Mm' Lm' → CW Em 30 0 (.ref 0 :: as) Sm Mm Lm Q) ∧ ∀ Q : QT, (∀ rot' Mx' Lx', Rel (c + 1) rot' Mm' Lm' Mx' Lx' → Q (some (.long r)) (Sx rot') Mx' Lx') → CW Ex 30 0 (.ref 0 :: as) (Sx rot) Mx Lx Q
theorem RI.mono {n ns c c' : Nat} {Mm Mx : AM} {im : Nat} (h : RI n ns c Mm Mx im) (hc : c ≤ c') : RI n ns c' Mm Mx im := by
  rcases h with h | ⟨h1, h2, h3⟩
  · exact Or.inl h
  · exact Or.inr ⟨h1, h2, h3.mono hc⟩
theorem Rel.next {c rot : Nat} {Mm : AM} {Lm : AL} {Mx : AM} {Lx : AL} (h : Rel c rot Mm Lm Mx Lx) : Rel (c + 1) rot Mm Lm Mx Lx := by
  obtain ⟨n, ns, np, h1, h2, h3, h4⟩ := h
  exact ⟨n, ns, np, h1, h2.mono (by omega), fun im hi => (h3 im hi).mono (by omega), h4⟩
/-- a call that changes nothing -/
theorem step_read {Em Ex : ME} {as : List Value} {c rot : Nat} {Mm : AM} {Lm : AL} {Mx : AM} {Lx : AL} (hR : Rel c rot Mm Lm Mx Lx) (r : RVi) (hm : ∀ Q : QT, Q (some (.int r)) Sm Mm Lm → CW Em 30 0 (.ref 0 :: as) Sm Mm Lm Q) (hx : ∀ Q : QT, Q (some (.int r)) (Sx rot) Mx Lx → CW Ex 30 0 (.ref 0 :: as) (Sx rot) Mx Lx Q) : Step Em Ex as c rot Mm Lm Mx Lx := ⟨r, Mm, Lm, hm, fun Q hQ => hx Q (hQ rot Mx Lx hR.next)⟩
theorem RT.keep {n ns np : Nat} {Mm Mx Mm' Mx' : AM} (h : RT n ns np Mm Mx) (hm : ∀ l, 2 ≤ l → l ≤ 12 → Mm' l = Mm l) (hx : ∀ l, 1 ≤ l → l ≤ 8 → Mx' l = Mx l) : RT n ns np Mm' Mx' := by
  unfold RT at h ⊢
  rw [hm 2 (by decide) (by decide), hm 3 (by decide) (by decide), hm 4 (by decide) (by decide), hm 5 (by decide) (by decide), hm 6 (by decide) (by decide), hm 7 (by decide) (by decide), hm 8 (by decide) (by decide), hm 9 (by decide) (by decide), hm 10 (by decide) (by decide), hm 11 (by decide) (by decide), hm 12 (by decide) (by decide), hx 1 (by decide) (by decide), hx 2 (by decide) (by decide), hx 3 (by decide) (by decide), hx 4 (by decide) (by decide), hx 5 (by decide) (by decide), hx 6 (by decide) (by decide), hx 7 (by decide) (by decide), hx 8 (by decide) (by decide)]
  exact h
/-- the images stand while the model's image cells and the class's image cells do -/
theorem RI.keep {n ns c : Nat} {Mm Mx Mm' Mx' : AM} {im : Nat} (h : RI n ns c Mm Mx im) (him : im < 2) (hm : ∀ k, k < 386 → Mm' 13 (386 * (1 + im) + k) = Mm 13 (386 * (1 + im) + k)) (hm2 : Mm' 14 im = Mm 14 im) (hx : ∀ l, 99 + 68 * im ≤ l → l < 167 + 68 * im → Mx' l = Mx l) : RI n ns c Mm' Mx' im := by
  rcases h with ⟨h1, h2⟩ | ⟨h1, h2, h3⟩
  · exact Or.inl ⟨hm2.trans h1, by rw [hx _ (by omega) (by omega)]; exact h2⟩
  · refine Or.inr ⟨hm2.trans h1, by rw [hx _ (by omega) (by omega)]; exact h2, h3.move hm (mv_congr (fun k g1 g2 => hx k (by omega) (by omega))) (by rw [hx _ (by omega) (by omega)]) (fun i hi => mv_congr (fun k g1 g2 => hx k (by omega) (by omega)))⟩
/-- behind a deed: what was known is known in both, the vectors changed alike -/
theorem LG.deed {n ns c rot rot' k : Nat} {Mm Mx Mr Mm' Mx' : AM} (h : LG n ns c Mm Mx 0 9 15 (pl rot)) (hk : Mx 15 1 = nI k) (hr : rem Mx Mr rot rot' k) (hm : ∀ j, 35 ≤ j → j < 386 → Mm' 13 j = knowV (Mm 13) k j) (hx : ∀ l, l < 9 ∨ 15 ≤ l → Mx' l = Mr l) (hv : ∀ j, j < 35 → mv Mx' 9 j = Mm' 13 j) (hq : Vq n ns (c + 1) (Mm' 13)) : LG n ns (c + 1) Mm' Mx' 0 9 15 (pl rot') := by
  obtain ⟨h1, h2, kn, k1, k2, k3, k4⟩ := h
  have hkk : kn = k ∨ True := Or.inr trivial
  have e35 : Mm 13 35 = nI kn := by simpa using k2
  rcases hr.2.2 with ⟨r1, rfl, r3, r4, r5⟩ | ⟨r1, rfl, r3, r4, r5⟩
  · have hkn : kn = k := (nI_eq (by omega) (by omega)).mp (k3.symm.trans hk)
    subst hkn
    refine ⟨fun j hj => by rw [hv j hj, Nat.zero_add], hq.congr (fun j _ => by rw [Nat.zero_add]), kn + 1, by omega, ?_, ?_, fun i hi => ?_⟩
    · rw [hm (0 + 35) (by omega) (by omega)]
      unfold knowV
      rw [if_pos rfl, if_neg (by omega)]
    · rw [hx 15 (by omega)]; exact r3
    · have hpr := pl_range rot' i
      have emv : mv Mx' (pl rot' i) = mv Mr (pl rot' i) := mv_congr (fun l g1 g2 => hx l (by omega))
      by_cases hik : i = kn
      · subst hik
        have row : ∀ j, j < 35 → Mm' 13 (0 + 36 + 35 * i + j) = Mm 13 j := fun j hj => by
          rw [hm _ (by omega) (by omega)]
          unfold knowV
          rw [if_neg (by omega), if_neg (by omega), if_pos (by omega)]
          exact congrArg (Mm 13) (by omega)
        refine ⟨fun j hj => ?_, (h2.mono (by omega)).congr (fun j hj => by rw [row j hj, Nat.zero_add])⟩
        rw [emv, r5, h1 j hj, row j hj, Nat.zero_add]
      · have hi2 : i < kn := by omega
        have row : ∀ j, j < 35 → Mm' 13 (0 + 36 + 35 * i + j) = Mm 13 (0 + 36 + 35 * i + j) := fun j hj => by
          rw [hm _ (by omega) (by omega)]
          unfold knowV
          rw [if_neg (by omega), if_neg (by omega), if_neg (by omega)]
        refine ⟨fun j hj => ?_, ((k4 i hi2).2.mono (by omega)).congr (fun j hj => row j hj)⟩
        rw [emv, r4 i hi2, (k4 i hi2).1 j hj, row j hj]
  · have hkn : kn = k := (nI_eq (by omega) (by omega)).mp (k3.symm.trans hk)
    subst hkn
    subst r1
    refine ⟨fun j hj => by rw [hv j hj, Nat.zero_add], hq.congr (fun j _ => by rw [Nat.zero_add]), 10, by omega, ?_, ?_, fun i hi => ?_⟩
    · rw [hm (0 + 35) (by omega) (by omega)]
      unfold knowV
      rw [if_pos rfl, if_pos rfl]
    · rw [hx 15 (by omega)]; exact r3
    · have hpr := pl_range (rot + 1) i
      have emv : mv Mx' (pl (rot + 1) i) = mv Mr (pl (rot + 1) i) := mv_congr (fun l g1 g2 => hx l (by omega))
      by_cases hik : i = 9
      · subst hik
        have row : ∀ j, j < 35 → Mm' 13 (0 + 36 + 35 * 9 + j) = Mm 13 j := fun j hj => by
          rw [hm _ (by omega) (by omega)]
          unfold knowV
          rw [if_neg (by omega), if_pos rfl, if_neg (by omega), if_pos (by omega)]
          exact congrArg (Mm 13) (by omega)
        refine ⟨fun j hj => ?_, (h2.mono (by omega)).congr (fun j hj => by rw [row j hj, Nat.zero_add])⟩
        rw [emv, r5, h1 j hj, row j hj, Nat.zero_add]
      · have row : ∀ j, j < 35 → Mm' 13 (0 + 36 + 35 * i + j) = Mm 13 (0 + 36 + 35 * (i + 1) + j) := fun j hj => by
          rw [hm _ (by omega) (by omega)]
          unfold knowV
          rw [if_neg (by omega), if_pos rfl, if_pos (by omega)]
          exact congrArg (Mm 13) (by omega)
        refine ⟨fun j hj => ?_, ((k4 (i + 1) (by omega)).2.mono (by omega)).congr (fun j hj => row j hj)⟩
        rw [emv, r4 i (by omega), (k4 (i + 1) (by omega)).1 j hj, row j hj]
