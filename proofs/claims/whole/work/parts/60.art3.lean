/-! ===== articles: the model's step, wants, number ===== -/
/-- a method whose loop begins with its body -/
theorem cw_aw {E : ME} (hE : okE E) {d mc : Nat} {Q : QT} {as : List Value} {S : AS} {M : AM} {L : AL} (hb : (Nat.ble as.length (mL E) && as.all cat1) = true) (h : AW E d mc S.length Q 0 (as.map some ++ List.replicate (mL E - as.length) none) [] S M L 0) : CW E d mc as S M L Q := by
  simp only [Bool.and_eq_true, Nat.ble_eq, List.all_eq_true] at hb
  obtain ⟨hal, hac⟩ := hb
  obtain ⟨t1, t2, t3, t4, t5, t6, t7, t8⟩ := tbE_spec hE.1
  refine ⟨hE.1, fun l dC dI cA ρ sz => Met.ofW (cc := mB E) (maxL := mL E) (ret := mR E) t3 rfl ?_⟩
  intro p e s m args below meth c s₁ B hml hv
  obtain ⟨rfl, hsz, hK, hP, hD0, hgr⟩ := hv
  subst hsz
  have hown : s.vm.findClass (ownN (mO E)) = some m.cls := by rw [← t1]; exact findClass_of_methodNamed B.named
  have hcat : ∀ v ∈ as.map (mp ρ), v.category = 1 := fun v hv => by
    obtain ⟨w, hw, rfl⟩ := List.mem_map.mp hv
    exact cat1_mp (hac w hw)
  have hlen : (lg_sl (as.map (mp ρ))).length = as.length := by rw [lgs_cat1 _ hcat, List.length_map]
  have hl := lv_entry (as.map (mp ρ)) (n := mL E) (by rw [hlen]; exact hal)
  rw [lg_entry_eq]
  refine h p l e s m _ below meth c dC dI cA ρ ⟨B.exec, B.bytes, B.returns, hml, hown, B.notSynchronized, (name_of_methodNamed B.named B.method).1, hK, hgr⟩ _ s.heap [] ⟨⟨hl.1, hl.2.1, by simp; omega, fun i v hi => ?_⟩, hP, ⟨hD0.1, fun k q hk => Or.inl ⟨k, by rw [← wo_len cA ρ S M L]; exact (List.getElem?_eq_some_iff.mp hk).1, ?_⟩⟩, va_S.rf, Nat.le_refl _, by omega, Nat.zero_le _⟩
  · by_cases hi2 : i < as.length
    · rw [List.getElem?_append_left (by simpa using hi2), List.getElem?_map] at hi
      cases ha : as[i]? with
      | none => rw [ha] at hi; cases hi
      | some w =>
        rw [ha] at hi
        cases hi
        refine ⟨hac _ (List.mem_of_getElem? ha), hl.2.2 (i, mp ρ v) ?_⟩
        have := lva_cat1 (as.map (mp ρ)) 0 i (mp ρ v) hcat (by rw [List.getElem?_map, ha]; rfl)
        rwa [Nat.zero_add] at this
    · rw [List.getElem?_append_right (by simpa using hi2)] at hi
      have := List.eq_of_mem_replicate (List.mem_of_getElem? hi)
      cases this
  · simp only [wo, List.getElem?_mapIdx] at hk
    cases hs : S[k]? with
    | none => rw [hs] at hk; cases hk
    | some sh => rw [hs] at hk; cases hk; rfl
def MTk (b : Nat → Nat) (t p : Nat) (M M' : AM) : Prop := F4 M M' ∧ M' 0 15 = nI (tE b t p) ∧ M' 0 16 = nI (tS b t p) ∧ M' 0 17 = nI (mso (tK b t p)) ∧ (tK b t p = 1 → M' 0 18 = nI (tV b t p))
section MST
variable {b : Nat → Nat} {t : Nat} {L : AL}
theorem num_kind {p : Nat} (w : tS b t p < t) (hd : isDg (b (tS b t p)) = true) : (tE b t p = rnE isDg b t (tS b t p)) ∧ ((99 < vlN b (tS b t p) (tE b t p - tS b t p) ∨ (b (tS b t p) = 48 ∧ 1 < tE b t p - tS b t p)) → tK b t p = 3) ∧ (¬ (99 < vlN b (tS b t p) (tE b t p - tS b t p) ∨ (b (tS b t p) = 48 ∧ 1 < tE b t p - tS b t p)) → tK b t p = 1 ∧ tV b t p = vlN b (tS b t p) (tE b t p - tS b t p)) := by
  have hd' := of_decide_eq_true hd
  have hl : ¬ isLt (b (tS b t p)) = true := fun y => by have := of_decide_eq_true y; omega
  have eE : tE b t p = rnE isDg b t (tS b t p) := by unfold tE; rw [if_pos w, if_neg hl, if_pos hd]
  have gt := tE_gt w
  have sp := (rn_spec (C := isDg) (b := b) (t := t) _ (tS b t p) rfl).2.2.1
  rw [← eE] at sp
  have dg : ∀ j, j < tE b t p - tS b t p → 48 ≤ b (tS b t p + j) ∧ b (tS b t p + j) ≤ 57 := fun j hj => of_decide_eq_true (sp (tS b t p + j) (by omega) (by omega)).2
  have eK : tK b t p = if tE b t p - tS b t p = 1 ∨ (tE b t p - tS b t p = 2 ∧ b (tS b t p) ≠ 48) then 1 else 3 := by
    unfold tK; rw [if_pos w, if_neg hl, if_pos hd]
  refine ⟨eE, fun h => ?_, fun h => ?_⟩
  · rw [eK, if_neg]
    intro y
    rcases y with y | ⟨y, y2⟩
    · rw [y] at h dg
      have := dg 0 (by omega)
      rcases h with h | h
      · simp [vlN] at h; omega
      · omega
    · rw [y] at h dg
      have d0 := dg 0 (by omega)
      have d1 := dg 1 (by omega)
      rcases h with h | h
      · have e1 : vlN b (tS b t p) 1 = b (tS b t p) - 48 := by simp [vlN]
        rw [vlN, e1, if_neg (by omega)] at h
        omega
      · omega
  · have e1 : vlN b (tS b t p) 1 = b (tS b t p) - 48 := by simp [vlN]
    have e2 : vlN b (tS b t p) 2 = 10 * (b (tS b t p) - 48) + (b (tS b t p + 1) - 48) := by
      rw [vlN, e1, if_neg (by omega)]
    have L2 : tE b t p - tS b t p = 1 ∨ (tE b t p - tS b t p = 2 ∧ b (tS b t p) ≠ 48) := by
      refine Classical.byContradiction fun y => h ?_
      by_cases z : b (tS b t p) = 48
      · exact Or.inr ⟨z, by omega⟩
      · have L3 : 3 ≤ tE b t p - tS b t p := by omega
        have d1 := dg 1 (by omega)
        have d2 := dg 2 (by omega)
        have e3 : 99 < vlN b (tS b t p) 3 := by
          rw [vlN, e2]
          by_cases x : 99 < 10 * (b (tS b t p) - 48) + (b (tS b t p + 1) - 48)
          · rw [if_pos x]; exact x
          · rw [if_neg x]; omega
        have := vlN_big e3 (tE b t p - tS b t p - 3)
        rw [show 3 + (tE b t p - tS b t p - 3) = tE b t p - tS b t p by omega] at this
        exact Or.inl this
    refine ⟨by rw [eK, if_pos L2], ?_⟩
    unfold tV
    rcases L2 with y | ⟨y, -⟩
    · rw [if_pos y, y, e1]
    · rw [if_neg (by omega), y, e2]
theorem cm_step2 {d p n0 s : Nat} {M M2 : AM} {Q : QT} (hx : TXm b t M) (pt : p ≤ t) (hs : tS b t p = s) (f2 : F4 M M2) (g15 : M2 0 15 = nI s) (g16 : M2 0 16 = nI s) (g18 : M2 0 18 = 0) (hq : ∀ M', MTk b t p M M' → Q none Sm M' L) : AW E8_step (d + 2) 0 n0 Q 35 [some (.ref 0), none] [] Sm M2 L 0 := by
  have hb : ∀ j, j < t → b j < 256 := fun j hj => (hx.2.2 j hj).1
  have t150 := hx.1
  have sl := tS_le (b := b) pt
  rw [hs] at sl
  refine aw_run ok8_step (fun q => at2 63 126 q) 60 ?_
  refine cm_here (hx.f4 f2) g15 sl ?_
  by_cases w : s < t
  · have bw := hb s w
    have eh : hrI b t s = nI (b s) := if_pos w
    refine ifT (c := 0 ≤ hrI b t s) (by rw [eh]; exact nI_pos' (by omega)) ?_
    refine cm_in ?_
    have cL := hr_in hb s (lo := 97) (hi := 122) (by decide) (by decide)
    have cD := hr_in hb s (lo := 48) (hi := 57) (by decide) (by decide)
    have gt : s < tE b t p := by have := tE_gt (b := b) (t := t) (p := p) (by rw [hs]; exact w); rw [hs] at this; exact this
    have le := tE_le (b := b) pt
    by_cases z : isLt (b s) = true
    · have z' := of_decide_eq_true z
      refine ifF (c := fIn (hrI b t s) 97 122 = 0) (cL.mpr ⟨w, z'⟩) ?_
      have eE : tE b t p = rnE isLt b t s := by unfold tE; rw [hs, if_pos w, if_pos z]
      refine cm_stepL hx (t - s) s M2 rfl sl f2 g15 ?_
      intro M3 h3 a15 a16
      rw [← eE] at a15
      rw [g16] at a16
      have eK : tK b t p = if tE b t p - s = 1 then b s else 3 := by unfold tK; rw [hs, if_pos w, if_pos z]
      refine aw_run ok8_step noStop 40 ?_
      have e1 : M3 0 15 - M3 0 16 = nI (tE b t p - s) := by rw [a15, a16, pk_sub (by omega)]
      have fin : ∀ v : Int32, v = nI (mso (tK b t p)) → (tK b t p ≠ 1) → Q none Sm (um M3 0 17 v) L := fun v hv hk => hq _ ⟨h3.um (Or.inr (Or.inr (Or.inl rfl))), by rw [um_oth _ _ _ (by decide)]; exact a15, by rw [um_oth _ _ _ (by decide), hs]; exact a16, by rw [um_same]; exact hv, fun y => absurd y hk⟩
      by_cases y : tE b t p - s = 1
      · rw [if_pos y] at eK
        refine ifT (c := M3 0 15 - M3 0 16 = 1) (by rw [e1, y]; rfl) ?_
        refine fin _ ?_ (by rw [eK]; omega)
        rw [eh, eK]
        unfold mso
        rw [if_neg (by omega), if_neg (by omega)]
      · rw [if_neg y] at eK
        refine ifF (c := M3 0 15 - M3 0 16 = 1) (by rw [e1]; exact fun x => y ((nI_eq (b := 1) (by omega) (by decide)).mp x)) ?_
        exact fin _ (by rw [eK]; rfl) (by rw [eK]; decide)
    · refine ifT (c := fIn (hrI b t s) 97 122 = 0) (Classical.byContradiction fun y => z (decide_eq_true (cL.mp y).2)) ?_
      refine cm_in ?_
      by_cases y : isDg (b s) = true
      · have y' := of_decide_eq_true y
        refine ifF (c := fIn (hrI b t s) 48 57 = 0) (cD.mpr ⟨w, y'⟩) ?_
        obtain ⟨eE, k1, k2⟩ := num_kind (b := b) (t := t) (p := p) (by rw [hs]; exact w) (by rw [hs]; exact y)
        rw [hs] at eE k1 k2
        refine cm_stepD (s := s) hx (t - s) s M2 rfl (Nat.le_refl _) sl f2 g15 (by rw [g18, Nat.sub_self]; rfl) (by rw [Nat.sub_self]; show 0 ≤ 1300; omega) ?_
        rw [← eE]
        intro M3 h3 a15 a16 a18 vb
        rw [g16] at a16
        have e1 : M3 0 15 - M3 0 16 = nI (tE b t p - s) := by rw [a15, a16, pk_sub (by omega)]
        have fin : ∀ v : Int32, v = nI (mso (tK b t p)) → (tK b t p = 1 → tV b t p = vlN b s (tE b t p - s)) → Q none Sm (um M3 0 17 v) L := fun v hv hk => hq _ ⟨h3.um (Or.inr (Or.inr (Or.inl rfl))), by rw [um_oth _ _ _ (by decide)]; exact a15, by rw [um_oth _ _ _ (by decide), hs]; exact a16, by rw [um_same]; exact hv, fun y => by rw [um_oth _ _ _ (by decide), hk y]; exact a18⟩
        have c48 : hrI b t s = 48 ↔ b s = 48 := by rw [eh]; exact nI_eq (b := 48) (by omega) (by decide)
        refine aw_run ok8_step noStop 40 ?_
        by_cases x : 99 < vlN b s (tE b t p - s)
        · have kk := k1 (Or.inl x)
          refine ifT (c := 99 < M3 0 18) (by rw [a18]; exact nI_lt (a := 99) x (by omega)) ?_
          exact fin _ (by rw [kk]; rfl) (fun e => absurd (kk.symm.trans e) (by decide))
        · refine ifF (c := 99 < M3 0 18) (by rw [a18]; exact nI_nlt (a := 99) (by omega) (by decide)) ?_
          by_cases u : b s = 48
          · refine ifT (c := hrI b t s = 48) (c48.mpr u) ?_
            by_cases v : tE b t p - s ≤ 1
            · obtain ⟨k3, k4⟩ := k2 (fun q => q.elim x (fun q => by omega))
              refine ifT (c := M3 0 15 - M3 0 16 ≤ 1) (by rw [e1]; exact nI_le (b := 1) v (by decide)) ?_
              exact fin _ (by rw [k3]; rfl) (fun _ => k4)
            · have kk := k1 (Or.inr ⟨u, by omega⟩)
              refine ifF (c := M3 0 15 - M3 0 16 ≤ 1) (by rw [e1]; exact nI_ge (a := 1) (by omega) (by omega)) ?_
              exact fin _ (by rw [kk]; rfl) (fun e => absurd (kk.symm.trans e) (by decide))
          · obtain ⟨k3, k4⟩ := k2 (fun q => q.elim x (fun q => u q.1))
            refine ifF (c := hrI b t s = 48) (fun e => u (c48.mp e)) ?_
            exact fin _ (by rw [k3]; rfl) (fun _ => k4)
      · refine ifT (c := fIn (hrI b t s) 48 57 = 0) (Classical.byContradiction fun x => y (decide_eq_true (cD.mp x).2)) ?_
        have eE : tE b t p = s + 1 := by unfold tE; rw [hs, if_pos w, if_neg z, if_neg y]
        have eK : tK b t p = if b s = 59 then 2 else 3 := by unfold tK; rw [hs, if_pos w, if_neg z, if_neg y]
        have c59 : hrI b t s = 59 ↔ b s = 59 := by rw [eh]; exact nI_eq (b := 59) (by omega) (by decide)
        have fin : ∀ v : Int32, v = nI (mso (tK b t p)) → (tK b t p ≠ 1) → Q none Sm (um (um M2 0 15 (M2 0 15 + 1)) 0 17 v) L := fun v hv hk => hq _ ⟨(f2.um (Or.inl rfl)).um (Or.inr (Or.inr (Or.inl rfl))), by rw [um_oth _ _ _ (by decide), um_same, g15, eE, nI_succ], by rw [um_oth _ _ _ (by decide), um_oth _ _ _ (by decide), hs]; exact g16, by rw [um_same]; exact hv, fun y => absurd y hk⟩
        by_cases u : b s = 59
        · rw [if_pos u] at eK
          refine ifT (c := hrI b t s = 59) (c59.mpr u) ?_
          exact fin _ (by rw [eK]; rfl) (by rw [eK]; decide)
        · rw [if_neg u] at eK
          refine ifF (c := hrI b t s = 59) (fun e => u (c59.mp e)) ?_
          exact fin _ (by rw [eK]; rfl) (by rw [eK]; decide)
  · have eh : hrI b t s = -1 := if_neg w
    refine ifF (c := 0 ≤ hrI b t s) (by rw [eh]; decide) ?_
    have eK : tK b t p = 0 := by unfold tK; rw [hs, if_neg w]
    have eE : tE b t p = s := by unfold tE; rw [hs, if_neg w]
    exact hq _ ⟨f2.um (Or.inr (Or.inr (Or.inl rfl))), by rw [um_oth _ _ _ (by decide), eE]; exact g15, by rw [um_oth _ _ _ (by decide), hs]; exact g16, by rw [um_same, eK]; rfl, fun y => absurd (eK.symm.trans y) (by decide)⟩
theorem cm_step {d p : Nat} {M : AM} {Q : QT} (hx : TXm b t M) (hp : M 0 15 = nI p) (pt : p ≤ t) (hq : ∀ M', MTk b t p M M' → Q none Sm M' L) : CW E8_step (d + 2) 0 [.ref 0] Sm M L Q := by
  refine cw_aw ok8_step rfl ?_
  refine cm_stepS (v1 := none) hx (t - p) p M rfl pt (F4.refl M) hp ?_
  intro M1 q hM1 h15 eq
  have eq : q = tS b t p := eq
  refine aw_run ok8_step (at1 35) 60 ?_
  refine cm_step2 hx pt eq.symm ((hM1.um (Or.inr (Or.inl rfl))).um (Or.inr (Or.inr (Or.inr rfl)))) ?_ ?_ ?_ hq
  · rw [um_oth _ _ _ (by decide), um_oth _ _ _ (by decide)]; exact h15
  · rw [um_oth _ _ _ (by decide), um_same]; exact h15
  · rw [um_same]
end MST
