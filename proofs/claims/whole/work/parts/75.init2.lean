/-! ===== the log's constructor ===== -/
def eqS (S S' : AS) : Prop := S.length = S'.length ∧ ∀ (k : Nat) (a : Sh), S[k]? = some a → ∃ b, S'[k]? = some b ∧ eqC a b
/-- what no array has may be told as one likes -/
theorem cw_eqv {E : ME} {d mc : Nat} {as : List Value} {S : AS} {M : AM} {L : AL} {Q Q' : QT} (h : CW E d mc as S M L Q') (hq : ∀ r S' M' L', Q' r S' M' L' → ∃ S'', eqS S' S'' ∧ Q r S'' M' L') : CW E d mc as S M L Q := by
  refine ⟨h.1, fun l dC dI cA ρ sz => MetFree.mono (h.2 l dC dI cA ρ sz) (fun _ _ h => h) (fun _ _ _ _ _ h => h) ?_⟩
  rintro a U o t - ⟨⟨⟨r, S', M', L', g1, g2, g3, g4, g5, g6⟩, g7⟩, Lo, g8, g9⟩
  obtain ⟨S2, ⟨e1, e2⟩, hq⟩ := hq r S' M' L' g1
  have back : ∀ (k : Nat) (x : Nat × va_E), (wo cA ρ S2 M' L')[k]? = some x → ∃ y, (wo cA ρ S' M' L')[k]? = some y ∧ y.1 = x.1 ∧ (va_at (dC, dI) vwCl y t.heap → va_at (dC, dI) vwCl x t.heap) := by
    intro k x hx
    simp only [wo, List.getElem?_mapIdx] at hx
    cases hs : S2[k]? with
    | none => rw [hs] at hx; cases hx
    | some b =>
      rw [hs] at hx
      cases hx
      have hk : k < S'.length := by rw [e1]; exact (List.getElem?_eq_some_iff.mp hs).1
      obtain ⟨b', h1, h2⟩ := e2 k _ (List.getElem?_eq_getElem hk)
      rw [hs] at h1
      cases h1
      exact ⟨_, wo_at (List.getElem?_eq_getElem hk), rfl, fun h => h2 cA ρ M' L' k _ _ _ _ h⟩
  refine ⟨⟨⟨r, S2, M', L', hq, g2, by omega, by omega, fun k x hx => ?_, ⟨fun i j x y hi hj hxy => ?_, fun k x hx => ?_⟩⟩, g7⟩, Lo, g8, g9⟩
  · obtain ⟨y, h1, h2, h3⟩ := back k x hx
    exact h3 (g5 k y h1)
  · obtain ⟨x', h1, h2, -⟩ := back i x hi
    obtain ⟨y', k1, k2, -⟩ := back j y hj
    exact g6.1 i j x' y' h1 k1 (by rw [h2, k2]; exact hxy)
  · obtain ⟨y, h1, h2, -⟩ := back k x hx
    rw [← h2]
    exact g6.2 k y h1
theorem eqS_mid {A B : AS} {a b : Sh} (h : eqC a b) : eqS (A ++ (a :: B)) (A ++ (b :: B)) := by
  refine ⟨by simp, fun k x hx => ?_⟩
  by_cases h1 : k < A.length
  · rw [List.getElem?_append_left h1] at hx ⊢
    exact ⟨x, hx, eqC.refl x⟩
  · rw [List.getElem?_append_right (by omega)] at hx ⊢
    cases e : k - A.length with
    | zero =>
      rw [e] at hx
      cases hx
      exact ⟨b, rfl, h⟩
    | succ q =>
      rw [e] at hx
      exact ⟨x, hx, eqC.refl x⟩
def lgI (n k j : Nat) : Int32 := if j = 1 ∧ (k = 1 ∨ (8 ≤ k ∧ k < n ∧ (k - 8) % 6 = 0)) then -9 else 0
theorem lgI_next {n : Nat} (h8 : 8 ≤ n) (hm : (n - 8) % 6 = 0) {A A' : AM} (ha : ∀ k j, A k j = lgI n k j) (h1 : ∀ k j, A' (n + k) j = if k = 0 ∧ j = 1 then -9 else 0) (h2 : ∀ k, k < n → A' k = A k) : ∀ k j, A' k j = lgI (n + 6) k j := by
  intro k j
  by_cases z : k < n
  · rw [h2 k z, ha k j]
    unfold lgI
    by_cases e : j = 1 ∧ (k = 1 ∨ (8 ≤ k ∧ k < n ∧ (k - 8) % 6 = 0))
    · rw [if_pos e, if_pos (by omega)]
    · rw [if_neg e, if_neg (by omega)]
  · obtain ⟨i, rfl⟩ : ∃ i, k = n + i := ⟨k - n, by omega⟩
    rw [h1 i j]
    unfold lgI
    by_cases e : i = 0 ∧ j = 1
    · rw [if_pos e, if_pos (by omega)]
    · rw [if_neg e, if_neg (by omega)]
theorem lgI_z {n k j : Nat} (h8 : 8 ≤ n) (h : n ≤ k) : lgI n k j = 0 := by unfold lgI; rw [if_neg (by omega)]
set_option maxRecDepth 100000 in
theorem ci_log {d : Nat} {M : AM} {L : AL} (hz : zAll M L) : CW E1_init (d + 2) 67 [.ref 0] [.inl (1, dfl 1)] M L (fun r S' M' L' => r = none ∧ S' = imgS 0 ∧ ((∀ k j, M' k j = lgI 68 k j) ∧ ∀ k j, L' k j = 0)) := by
  obtain ⟨z1, z2⟩ := hz
  refine cw_eqv (Q' := fun r S' M' L' => r = none ∧ eqS S' (imgS 0) ∧ ((∀ k j, M' k j = lgI 68 k j) ∧ ∀ k j, L' k j = 0)) ?_ (fun r S' M' L' h => ⟨imgS 0, h.2.1, h.1, rfl, h.2.2⟩)
  refine cw_ent ok1_init noStop 400 ?_
  refine ⟨⟨fun j => z1 1 j, fun j => z2 1 j⟩, ?_⟩
  refine cw_shift rfl (ci_mom ⟨fun k j => z1 _ j, fun k j => z2 _ j⟩) (momS_sh _) (by decide) (fun A0 B0 h1 h2 => ?_)
  have a0 : ∀ k j, um (um A0 0 1 0) 0 2 0 k j = lgI 8 k j := fun k j => by
    rw [um_app, um_app]
    by_cases e0 : k = 0
    · subst e0
      have e : A0 0 j = 0 := by rw [(h2 0 (by decide)).1]; exact z1 0 j
      rw [e]
      unfold lgI
      (repeat' split) <;> first | rfl | (exfalso; omega)
    · obtain ⟨i, rfl⟩ : ∃ i, k = 1 + i := ⟨k - 1, by omega⟩
      rw [if_neg (by omega), if_neg (by omega)]
      have : A0 (1 + i) j = if i = 0 ∧ j = 1 then -9 else 0 := h1.1 i j
      rw [this]
      unfold lgI
      by_cases e : i = 0 ∧ j = 1
      · rw [if_pos e, if_pos (by omega)]
      · rw [if_neg e, if_neg (by omega)]
  have b0 : ∀ k j, B0 k j = 0 := fun k j => by
    by_cases e0 : k = 0
    · subst e0; rw [(h2 0 (by decide)).2]; exact z2 0 j
    · obtain ⟨i, rfl⟩ : ∃ i, k = 1 + i := ⟨k - 1, by omega⟩
      exact h1.2 i j
  refine ⟨⟨fun j => (a0 8 j).trans (lgI_z (by decide) (Nat.le_refl _)), fun j => b0 8 j⟩, ?_⟩
  refine cw_shift rfl (ci_mom ⟨fun k j => (a0 (8 + k) j).trans (lgI_z (by decide) (by omega)), fun k j => b0 (8 + k) j⟩) (momS_sh _) (by decide) (fun A1 B1 h1 h2 => ?_)
  have a1 : ∀ k j, A1 k j = lgI 14 k j := lgI_next (n := 8) (by decide) (by decide) a0 h1.1 (fun k hk => (h2 k hk).1)
  have b1 : ∀ k j, B1 k j = 0 := fun k j => by
    by_cases e0 : k < 8
    · rw [(h2 k e0).2]; exact b0 k j
    · obtain ⟨q, rfl⟩ : ∃ q, k = 8 + q := ⟨k - 8, by omega⟩
      exact h1.2 q j
  refine ⟨_, rfl, ?_⟩
  refine inBI (n := 10) 0 rfl (by decide) ?_
  refine ⟨⟨fun j => (a1 14 j).trans (lgI_z (by decide) (Nat.le_refl _)), fun j => b1 14 j⟩, ?_⟩
  refine cw_shift rfl (ci_mom ⟨fun k j => (a1 (14 + k) j).trans (lgI_z (by decide) (by omega)), fun k j => b1 (14 + k) j⟩) (momS_sh _) (by decide) (fun A2 B2 h1 h2 => ?_)
  have a2 : ∀ k j, A2 k j = lgI 20 k j := lgI_next (n := 14) (by decide) (by decide) a1 h1.1 (fun k hk => (h2 k hk).1)
  have b2 : ∀ k j, B2 k j = 0 := fun k j => by
    by_cases e0 : k < 14
    · rw [(h2 k e0).2]; exact b1 k j
    · obtain ⟨q, rfl⟩ : ∃ q, k = 14 + q := ⟨k - 14, by omega⟩
      exact h1.2 q j
  refine ⟨_, rfl, ?_⟩
  refine inBI (n := 10) 1 rfl (by decide) ?_
  refine ⟨⟨fun j => (a2 20 j).trans (lgI_z (by decide) (Nat.le_refl _)), fun j => b2 20 j⟩, ?_⟩
  refine cw_shift rfl (ci_mom ⟨fun k j => (a2 (20 + k) j).trans (lgI_z (by decide) (by omega)), fun k j => b2 (20 + k) j⟩) (momS_sh _) (by decide) (fun A3 B3 h1 h2 => ?_)
  have a3 : ∀ k j, A3 k j = lgI 26 k j := lgI_next (n := 20) (by decide) (by decide) a2 h1.1 (fun k hk => (h2 k hk).1)
  have b3 : ∀ k j, B3 k j = 0 := fun k j => by
    by_cases e0 : k < 20
    · rw [(h2 k e0).2]; exact b2 k j
    · obtain ⟨q, rfl⟩ : ∃ q, k = 20 + q := ⟨k - 20, by omega⟩
      exact h1.2 q j
  refine ⟨_, rfl, ?_⟩
  refine inBI (n := 10) 2 rfl (by decide) ?_
  refine ⟨⟨fun j => (a3 26 j).trans (lgI_z (by decide) (Nat.le_refl _)), fun j => b3 26 j⟩, ?_⟩
  refine cw_shift rfl (ci_mom ⟨fun k j => (a3 (26 + k) j).trans (lgI_z (by decide) (by omega)), fun k j => b3 (26 + k) j⟩) (momS_sh _) (by decide) (fun A4 B4 h1 h2 => ?_)
  have a4 : ∀ k j, A4 k j = lgI 32 k j := lgI_next (n := 26) (by decide) (by decide) a3 h1.1 (fun k hk => (h2 k hk).1)
  have b4 : ∀ k j, B4 k j = 0 := fun k j => by
    by_cases e0 : k < 26
    · rw [(h2 k e0).2]; exact b3 k j
    · obtain ⟨q, rfl⟩ : ∃ q, k = 26 + q := ⟨k - 26, by omega⟩
      exact h1.2 q j
  refine ⟨_, rfl, ?_⟩
  refine inBI (n := 10) 3 rfl (by decide) ?_
  refine ⟨⟨fun j => (a4 32 j).trans (lgI_z (by decide) (Nat.le_refl _)), fun j => b4 32 j⟩, ?_⟩
  refine cw_shift rfl (ci_mom ⟨fun k j => (a4 (32 + k) j).trans (lgI_z (by decide) (by omega)), fun k j => b4 (32 + k) j⟩) (momS_sh _) (by decide) (fun A5 B5 h1 h2 => ?_)
  have a5 : ∀ k j, A5 k j = lgI 38 k j := lgI_next (n := 32) (by decide) (by decide) a4 h1.1 (fun k hk => (h2 k hk).1)
  have b5 : ∀ k j, B5 k j = 0 := fun k j => by
    by_cases e0 : k < 32
    · rw [(h2 k e0).2]; exact b4 k j
    · obtain ⟨q, rfl⟩ : ∃ q, k = 32 + q := ⟨k - 32, by omega⟩
      exact h1.2 q j
  refine ⟨_, rfl, ?_⟩
  refine inBI (n := 10) 4 rfl (by decide) ?_
  refine ⟨⟨fun j => (a5 38 j).trans (lgI_z (by decide) (Nat.le_refl _)), fun j => b5 38 j⟩, ?_⟩
  refine cw_shift rfl (ci_mom ⟨fun k j => (a5 (38 + k) j).trans (lgI_z (by decide) (by omega)), fun k j => b5 (38 + k) j⟩) (momS_sh _) (by decide) (fun A6 B6 h1 h2 => ?_)
  have a6 : ∀ k j, A6 k j = lgI 44 k j := lgI_next (n := 38) (by decide) (by decide) a5 h1.1 (fun k hk => (h2 k hk).1)
  have b6 : ∀ k j, B6 k j = 0 := fun k j => by
    by_cases e0 : k < 38
    · rw [(h2 k e0).2]; exact b5 k j
    · obtain ⟨q, rfl⟩ : ∃ q, k = 38 + q := ⟨k - 38, by omega⟩
      exact h1.2 q j
  refine ⟨_, rfl, ?_⟩
  refine inBI (n := 10) 5 rfl (by decide) ?_
  refine ⟨⟨fun j => (a6 44 j).trans (lgI_z (by decide) (Nat.le_refl _)), fun j => b6 44 j⟩, ?_⟩
  refine cw_shift rfl (ci_mom ⟨fun k j => (a6 (44 + k) j).trans (lgI_z (by decide) (by omega)), fun k j => b6 (44 + k) j⟩) (momS_sh _) (by decide) (fun A7 B7 h1 h2 => ?_)
  have a7 : ∀ k j, A7 k j = lgI 50 k j := lgI_next (n := 44) (by decide) (by decide) a6 h1.1 (fun k hk => (h2 k hk).1)
  have b7 : ∀ k j, B7 k j = 0 := fun k j => by
    by_cases e0 : k < 44
    · rw [(h2 k e0).2]; exact b6 k j
    · obtain ⟨q, rfl⟩ : ∃ q, k = 44 + q := ⟨k - 44, by omega⟩
      exact h1.2 q j
  refine ⟨_, rfl, ?_⟩
  refine inBI (n := 10) 6 rfl (by decide) ?_
  refine ⟨⟨fun j => (a7 50 j).trans (lgI_z (by decide) (Nat.le_refl _)), fun j => b7 50 j⟩, ?_⟩
  refine cw_shift rfl (ci_mom ⟨fun k j => (a7 (50 + k) j).trans (lgI_z (by decide) (by omega)), fun k j => b7 (50 + k) j⟩) (momS_sh _) (by decide) (fun A8 B8 h1 h2 => ?_)
  have a8 : ∀ k j, A8 k j = lgI 56 k j := lgI_next (n := 50) (by decide) (by decide) a7 h1.1 (fun k hk => (h2 k hk).1)
  have b8 : ∀ k j, B8 k j = 0 := fun k j => by
    by_cases e0 : k < 50
    · rw [(h2 k e0).2]; exact b7 k j
    · obtain ⟨q, rfl⟩ : ∃ q, k = 50 + q := ⟨k - 50, by omega⟩
      exact h1.2 q j
  refine ⟨_, rfl, ?_⟩
  refine inBI (n := 10) 7 rfl (by decide) ?_
  refine ⟨⟨fun j => (a8 56 j).trans (lgI_z (by decide) (Nat.le_refl _)), fun j => b8 56 j⟩, ?_⟩
  refine cw_shift rfl (ci_mom ⟨fun k j => (a8 (56 + k) j).trans (lgI_z (by decide) (by omega)), fun k j => b8 (56 + k) j⟩) (momS_sh _) (by decide) (fun A9 B9 h1 h2 => ?_)
  have a9 : ∀ k j, A9 k j = lgI 62 k j := lgI_next (n := 56) (by decide) (by decide) a8 h1.1 (fun k hk => (h2 k hk).1)
  have b9 : ∀ k j, B9 k j = 0 := fun k j => by
    by_cases e0 : k < 56
    · rw [(h2 k e0).2]; exact b8 k j
    · obtain ⟨q, rfl⟩ : ∃ q, k = 56 + q := ⟨k - 56, by omega⟩
      exact h1.2 q j
  refine ⟨_, rfl, ?_⟩
  refine inBI (n := 10) 8 rfl (by decide) ?_
  refine ⟨⟨fun j => (a9 62 j).trans (lgI_z (by decide) (Nat.le_refl _)), fun j => b9 62 j⟩, ?_⟩
  refine cw_shift rfl (ci_mom ⟨fun k j => (a9 (62 + k) j).trans (lgI_z (by decide) (by omega)), fun k j => b9 (62 + k) j⟩) (momS_sh _) (by decide) (fun A10 B10 h1 h2 => ?_)
  have a10 : ∀ k j, A10 k j = lgI 68 k j := lgI_next (n := 62) (by decide) (by decide) a9 h1.1 (fun k hk => (h2 k hk).1)
  have b10 : ∀ k j, B10 k j = 0 := fun k j => by
    by_cases e0 : k < 62
    · rw [(h2 k e0).2]; exact b9 k j
    · obtain ⟨q, rfl⟩ : ∃ q, k = 62 + q := ⟨k - 62, by omega⟩
      exact h1.2 q j
  refine ⟨_, rfl, ?_⟩
  refine inBI (n := 10) 9 rfl (by decide) ?_
  refine ⟨rfl, ?_, a10, b10⟩
  refine eqS_mid (A := .inl (1, [.ref 1, .int 0, .int 0, .ref 7]) :: momS 1) (B := pastS 8) (a := .inr (.object RX2, 10, (va_up (va_up (va_up (va_up (va_up (va_up (va_up (va_up (va_up (va_up (fun _ => none) 0 (some 8)) 1 (some 14)) 2 (some 20)) 3 (some 26)) 4 (some 32)) 5 (some 38)) 6 (some 44)) 7 (some 50)) 8 (some 56)) 9 (some 62)))) (b := .inr (.object RX2, 10, fun i => some (0 + 8 + 6 * i))) (eqC_arr ?_)
  have key : ∀ j, j < 10 → (va_up (va_up (va_up (va_up (va_up (va_up (va_up (va_up (va_up (va_up (fun _ => none) 0 (some 8)) 1 (some 14)) 2 (some 20)) 3 (some 26)) 4 (some 32)) 5 (some 38)) 6 (some 44)) 7 (some 50)) 8 (some 56)) 9 (some 62)) j = some (0 + 8 + 6 * j) := by decide
  exact key
