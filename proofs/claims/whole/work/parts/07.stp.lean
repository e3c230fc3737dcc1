theorem narrow_rt {ty : FieldType} {b : Nat} (h : isRT ty = true) : narrow ty (.ref b) = .ref b := by
  cases ty <;> first | rfl | cases h
theorem narrow_rn {ty : FieldType} (h : isRT ty = true) : narrow ty .null = .null := by
  cases ty <;> first | rfl | cases h
theorem fits_rt {ty : FieldType} {b : Nat} (h : isRT ty = true) : fits ty (.ref b) = true := by
  cases ty <;> first | rfl | cases h
theorem fits_rn {ty : FieldType} (h : isRT ty = true) : fits ty .null = true := by
  cases ty <;> first | rfl | cases h
theorem aast_rl {s : State} {dC : Nat → ClassId} {dI : Nat → Nat → Nat} {cA : FieldType → ClassId} {ρ : Nat → Nat} {E : ME} {mc n0 : Nat} {ls : Array Slot} {H H1 : Heap} {locs : List Loc} {lv : LV} {S : AS} {M : AM} {L : AL} {u a n i k b : Nat} {g : Nat → Option Nat} (hR : Rl E mc n0 s dC dI cA ρ ls H locs lv S M L u) (hSa : S[a]? = some (.inr (.object RX2, n, g)))
    (e1 : H1[ρ a]? = some ((arrV (cA (.object RX2)) n (fun j => va_rf ((g j).map ρ))).setSlot i (.ref (ρ b)))) (z : H1.size = H.size) (oq : ∀ q : Nat, q ≠ ρ a → H1[q]? = H[q]?) : Rl E mc n0 s dC dI cA ρ ls H1 (locs ++ [⟨ρ a, k⟩]) lv (S.set a (.inr (.object RX2, n, va_up g i (some b)))) M L u := by
  obtain ⟨hl, hP, hD, hS0, h1, h2, hu⟩ := hR
  have hla : a < S.length := (List.getElem?_eq_some_iff.mp hSa).1
  have hat : (wo cA ρ S M L)[a]? = some (ρ a, cv cA ρ M L a (.inr (.object RX2, n, g))) := wo_at hSa
  have hel : va_at (dC, dI) vwCl (ρ a, cv cA ρ M L a (.inr (.object RX2, n, va_up g i (some b)))) H1 := by
    show H1[ρ a]? = some (vp_cell _ _)
    rw [e1, vp_cell_q, arrV_store]
    congr 2
    funext q
    by_cases hq : q = i
    · subst hq
      simp [updV, va_up, va_rf]
    · simp [updV, va_up, hq]
  have hP1 := hP.set hD hat hel oq
  have hD1 := hD.set (e := cv cA ρ M L a (.inr (.object RX2, n, va_up g i (some b)))) hat
  rw [wo_upd (S' := S.set a (.inr (.object RX2, n, va_up g i (some b)))) hSa (List.getElem?_set_self hla) (fun k hk => ⟨List.getElem?_set_ne (Ne.symm hk), rfl, rfl⟩)] at hP1 hD1
  exact ⟨hl, hP1, hD1, hS0.put z oq (hD.2 a _ hat), by simpa using h1, by rw [z]; simpa using h2, hu⟩
set_option maxHeartbeats 4000000 in
set_option maxRecDepth 100000 in
/-- one instruction of the machine -/
theorem stp_sd {E : ME} (hE : okE E) {d mc n0 : Nat} {Q : QT} {k : KT} (hk : ∀ pc lv st S M L u, k pc lv st S M L u → AW E d mc n0 Q pc lv st S M L u) {pc : Nat} {lv : LV} {st : List Value} {S : AS} {M : AM} {L : AL} {u : Nat} (h : stp E d mc k Q pc lv st S M L u) : AW E d mc n0 Q pc lv st S M L u := by
  intro p l e s m args below meth c dC dI cA ρ hC ls H locs hR
  have go : ∀ {pc lv st S M L u}, k pc lv st S M L u → ∀ {ls H locs}, Rl E mc n0 s dC dI cA ρ ls H locs lv S M L u → W p l e (Rm d mc) s m args below meth c H locs u (1200 * u) (MQ below (CQ dC dI cA ρ s.heap.size n0 Q) args s mc (1200 * mc) (AA n0 ρ s.heap.size)) (F0 m pc ls (st.map (mp ρ))) := fun {pc lv st S M L u} h {ls H locs} hR => hk pc lv st S M L u h p l e s m args below meth c dC dI cA ρ hC ls H locs hR
  obtain ⟨hx, hb, hr, hml, hown, hlk, hnm, hK, hgr⟩ := id hC
  have hts := hK.wd args
  unfold stp at h
  cases hI : mI E pc with
  | none => rw [hI] at h; exact h.elim
  | some q =>
  obtain ⟨i, nx, tg, cz⟩ := q
  rw [hI] at h
  obtain ⟨hdec, hlen, hsw, hcv⟩ := hE.2 pc i nx tg cz hI
  cases i
  case iconst v =>
    have hnx := hlen.resolve_left (fun h => by cases h)
    subst hnx
    have hd := hd_of hdec rfl
    exact lv_iconst hx hb hd (of_decide_eq_true hcv) (go h hR)
  case bipush v =>
    have hnx := hlen.resolve_left (fun h => by cases h)
    subst hnx
    have hd := hd_of hdec rfl
    exact lv_bipush hx hb hd (of_decide_eq_true hcv) (go h hR)
  case sipush v =>
    have hnx := hlen.resolve_left (fun h => by cases h)
    subst hnx
    have hd := hd_of hdec rfl
    exact lv_sipush hx hb hd (of_decide_eq_true hcv) (go h hR)
  case lconst v =>
    have hnx := hlen.resolve_left (fun h => by cases h)
    subst hnx
    have hd := hd_of hdec rfl
    exact lv_lconst hx hb hd rfl (go h hR)
  case ldc x =>
    have hnx := hlen.resolve_left (fun h => by cases h)
    subst hnx
    have hd := hd_of hdec rfl
    dsimp only at h
    cases hc : cres (mO E) x with
    | none => rw [hc] at h; exact h.elim
    | some v =>
      rw [hc] at h
      exact lv_ldc hx hb hown (hts _ (cres_spec hc)) hd (go h hR)
  case ldc_w x =>
    have hnx := hlen.resolve_left (fun h => by cases h)
    subst hnx
    have hd := hd_of hdec rfl
    dsimp only at h
    cases hc : cres (mO E) x with
    | none => rw [hc] at h; exact h.elim
    | some v =>
      rw [hc] at h
      exact lv_ldcw hx hb hown (hts _ (cres_spec hc)) hd (go h hR)
  case ldc2_w x =>
    have hnx := hlen.resolve_left (fun h => by cases h)
    subst hnx
    have hd := hd_of hdec rfl
    dsimp only at h
    cases hc : lres (mO E) x with
    | none => rw [hc] at h; exact h.elim
    | some v =>
      rw [hc] at h
      exact lv_ldc2 hx hb hown (hts _ (lres_spec hc)) hd (go h hR)
  case aconst_null =>
    have hnx := hlen.resolve_left (fun h => by cases h)
    subst hnx
    have hd := hd_of hdec rfl
    exact lv_null hx hb hd (go h hR)
  case iload x =>
    have hnx := hlen.resolve_left (fun h => by cases h)
    subst hnx
    have hd := hd_of hdec rfl
    obtain ⟨v, hv, w9⟩ := ldv_inv h; clear h; have h := w9; clear w9
    cases v <;> first | exact False.elim h | skip
    exact lv_iload hx hb hd (hR.1.2.2.2 _ _ hv).2 (go h hR)
  case iload_n x =>
    have hnx := hlen.resolve_left (fun h => by cases h)
    subst hnx
    have hd := hd_of hdec rfl
    obtain ⟨v, hv, w9⟩ := ldv_inv h; clear h; have h := w9; clear w9
    cases v <;> first | exact False.elim h | skip
    exact lv_iload_n hx hb hd rfl (hR.1.2.2.2 _ _ hv).2 (go h hR)
  case aload_n x =>
    have hnx := hlen.resolve_left (fun h => by cases h)
    subst hnx
    have hd := hd_of hdec rfl
    obtain ⟨v, hv, w9⟩ := ldv_inv h; clear h; have h := w9; clear w9
    cases v <;> first | exact False.elim h | skip
    · exact lv_aload_nN hx hb hd rfl (hR.1.2.2.2 _ _ hv).2 (go h hR)
    · exact lv_aload_n hx hb hd rfl (hR.1.2.2.2 _ _ hv).2 (go h hR)
  case istore x =>
    have hnx := hlen.resolve_left (fun h => by cases h)
    subst hnx
    have hd := hd_of hdec rfl
    obtain ⟨v, r, hst, w9⟩ := pI_inv h; clear h; subst hst; have h := w9; clear w9
    obtain ⟨hi, w9⟩ := bifF h; clear h; have h := w9; clear w9
    rw [Nat.blt_eq] at hi
    exact lv_istore hx hb hd hR.1.has (by rw [← hR.1.2.2.1]; exact hi) rfl (fun ls' h' => go h (hR.lv (hR.1.st (v := .int v) hi rfl h')))
  case istore_n x =>
    have hnx := hlen.resolve_left (fun h => by cases h)
    subst hnx
    have hd := hd_of hdec rfl
    obtain ⟨v, r, hst, w9⟩ := pI_inv h; clear h; subst hst; have h := w9; clear w9
    obtain ⟨hi, w9⟩ := bifF h; clear h; have h := w9; clear w9
    rw [Nat.blt_eq] at hi
    exact lv_istore_n hx hb hd rfl hR.1.has (by rw [← hR.1.2.2.1]; exact hi) rfl (fun ls' h' => go h (hR.lv (hR.1.st (v := .int v) hi rfl h')))
  case astore_n x =>
    have hnx := hlen.resolve_left (fun h => by cases h)
    subst hnx
    have hd := hd_of hdec rfl
    obtain ⟨v, r, hst, w9⟩ := pV_inv h; clear h; subst hst; have h := w9; clear w9
    obtain ⟨hi, w9⟩ := bifF h; clear h; have h := w9; clear w9
    rw [Nat.blt_eq] at hi
    cases v <;> first | exact False.elim h | skip
    · exact lv_astore_nN hx hb hd rfl hR.1.has (by rw [← hR.1.2.2.1]; exact hi) rfl (fun ls' h' => go h (hR.lv (hR.1.st (v := .null) hi rfl h')))
    · rename_i y; exact lv_astore_n hx hb hd rfl hR.1.has (by rw [← hR.1.2.2.1]; exact hi) rfl (fun ls' h' => go h (hR.lv (hR.1.st (v := .ref y) hi rfl h')))
  case iinc x n =>
    have hnx := hlen.resolve_left (fun h => by cases h)
    subst hnx
    have hd := hd_of hdec rfl
    obtain ⟨v, hv, w9⟩ := ldv_inv h; clear h; have h := w9; clear w9
    cases v <;> first | exact False.elim h | skip
    next y =>
      have hi : x < lv.length := (List.getElem?_eq_some_iff.mp hv).1
      have hm : ((x, Value.int y) : Nat × Value) ∈ lvp ρ lv := List.mem_filterMap.mpr ⟨x, List.mem_range.mpr hi, by rw [hv]; rfl⟩
      obtain ⟨kk, hkk⟩ := List.getElem?_of_mem hm
      exact lv_iinc (v := y + cz) hx hb hd hR.1.has hkk (by rw [of_decide_eq_true hcv]) (by rw [← hR.1.2.2.1]; exact hi) rfl (fun ls' h' => go h (hR.lv (hR.1.st (v := .int (y + cz)) hi rfl h')))
  case iadd =>
    have hnx := hlen.resolve_left (fun h => by cases h)
    subst hnx
    have hd := hd_of hdec rfl
    obtain ⟨y, x, r, hst, w9⟩ := pII_inv h; clear h; subst hst; have h := w9; clear w9
    exact lv_iadd hx hb hd (go h hR)
  case isub =>
    have hnx := hlen.resolve_left (fun h => by cases h)
    subst hnx
    have hd := hd_of hdec rfl
    obtain ⟨y, x, r, hst, w9⟩ := pII_inv h; clear h; subst hst; have h := w9; clear w9
    exact lv_isub hx hb hd (go h hR)
  case imul =>
    have hnx := hlen.resolve_left (fun h => by cases h)
    subst hnx
    have hd := hd_of hdec rfl
    obtain ⟨y, x, r, hst, w9⟩ := pII_inv h; clear h; subst hst; have h := w9; clear w9
    exact lv_imul hx hb hd (go h hR)
  case iand =>
    have hnx := hlen.resolve_left (fun h => by cases h)
    subst hnx
    have hd := hd_of hdec rfl
    obtain ⟨y, x, r, hst, w9⟩ := pII_inv h; clear h; subst hst; have h := w9; clear w9
    exact lv_iand hx hb hd (go h hR)
  case ior =>
    have hnx := hlen.resolve_left (fun h => by cases h)
    subst hnx
    have hd := hd_of hdec rfl
    obtain ⟨y, x, r, hst, w9⟩ := pII_inv h; clear h; subst hst; have h := w9; clear w9
    exact lv_ior hx hb hd (go h hR)
  case ixor =>
    have hnx := hlen.resolve_left (fun h => by cases h)
    subst hnx
    have hd := hd_of hdec rfl
    obtain ⟨y, x, r, hst, w9⟩ := pII_inv h; clear h; subst hst; have h := w9; clear w9
    exact lv_ixor hx hb hd (go h hR)
  case ishl =>
    have hnx := hlen.resolve_left (fun h => by cases h)
    subst hnx
    have hd := hd_of hdec rfl
    obtain ⟨y, x, r, hst, w9⟩ := pII_inv h; clear h; subst hst; have h := w9; clear w9
    exact lv_ishl hx hb hd (go h hR)
  case ishr =>
    have hnx := hlen.resolve_left (fun h => by cases h)
    subst hnx
    have hd := hd_of hdec rfl
    obtain ⟨y, x, r, hst, w9⟩ := pII_inv h; clear h; subst hst; have h := w9; clear w9
    exact lv_ishr hx hb hd (go h hR)
  case iushr =>
    have hnx := hlen.resolve_left (fun h => by cases h)
    subst hnx
    have hd := hd_of hdec rfl
    obtain ⟨y, x, r, hst, w9⟩ := pII_inv h; clear h; subst hst; have h := w9; clear w9
    exact lv_iushr hx hb hd rfl (go h hR)
  case idiv =>
    have hnx := hlen.resolve_left (fun h => by cases h)
    subst hnx
    have hd := hd_of hdec rfl
    obtain ⟨y, x, r, hst, w9⟩ := pII_inv h; clear h; subst hst; have h := w9; clear w9
    obtain ⟨hn, w9⟩ := ite_F h; clear h; have h := w9; clear w9
    exact lv_idiv hx hb hd hn (go h hR)
  case irem =>
    have hnx := hlen.resolve_left (fun h => by cases h)
    subst hnx
    have hd := hd_of hdec rfl
    obtain ⟨y, x, r, hst, w9⟩ := pII_inv h; clear h; subst hst; have h := w9; clear w9
    obtain ⟨hn, w9⟩ := ite_F h; clear h; have h := w9; clear w9
    refine lv_irem hx hb hd hn ?_
    rw [irem_eq_mod]
    exact go h hR
  case ineg =>
    have hnx := hlen.resolve_left (fun h => by cases h)
    subst hnx
    have hd := hd_of hdec rfl
    obtain ⟨x, r, hst, w9⟩ := pI_inv h; clear h; subst hst; have h := w9; clear w9
    exact lv_ineg hx hb hd (go h hR)
  case i2b =>
    have hnx := hlen.resolve_left (fun h => by cases h)
    subst hnx
    have hd := hd_of hdec rfl
    obtain ⟨x, r, hst, w9⟩ := pI_inv h; clear h; subst hst; have h := w9; clear w9
    exact lv_i2b hx hb hd rfl (go h hR)
  case ladd =>
    have hnx := hlen.resolve_left (fun h => by cases h)
    subst hnx
    have hd := hd_of hdec rfl
    obtain ⟨y, x, r, hst, w9⟩ := pJJ_inv h; clear h; subst hst; have h := w9; clear w9
    exact lv_ladd hx hb hd (go h hR)
  case dup =>
    have hnx := hlen.resolve_left (fun h => by cases h)
    subst hnx
    have hd := hd_of hdec rfl
    obtain ⟨v, r, hst, w9⟩ := pV_inv h; clear h; subst hst; have h := w9; clear w9
    obtain ⟨hv, w9⟩ := bifF h; clear h; have h := w9; clear w9
    exact lv_dup hx hb hd (cat1_mp hv) (go h hR)
  case dup2 =>
    have hnx := hlen.resolve_left (fun h => by cases h)
    subst hnx
    have hd := hd_of hdec rfl
    obtain ⟨v, w, r, hst, w9⟩ := pVV_inv h; clear h; subst hst; have h := w9; clear w9
    obtain ⟨hv, w9⟩ := bifF h; clear h; have h := w9; clear w9
    simp only [Bool.and_eq_true] at hv
    exact lv_dup2_11 hx hb hd (cat1_mp hv.1) (cat1_mp hv.2) (go h hR)
  case pop =>
    have hnx := hlen.resolve_left (fun h => by cases h)
    subst hnx
    have hd := hd_of hdec rfl
    obtain ⟨v, r, hst, w9⟩ := pV_inv h; clear h; subst hst; have h := w9; clear w9
    obtain ⟨hv, w9⟩ := bifF h; clear h; have h := w9; clear w9
    exact lv_pop hx hb hd (cat1_mp hv) (go h hR)
  case getfield x =>
    have hnx := hlen.resolve_left (fun h => by cases h)
    subst hnx
    have hd := hd_of hdec rfl
    obtain ⟨a, r, hst, w9⟩ := pR_inv h; clear h; subst hst; have h := w9; clear w9
    obtain ⟨ci, fs, hSa, w9⟩ := objAt_inv h; clear h; have h := w9; clear w9
    cases hf : fres (mO E) x with
    | none => rw [hf] at h; exact h.elim
    | some q =>
      rw [hf] at h
      obtain ⟨hc, w9⟩ := bifF h; clear h; have h := w9; clear w9
      have hc : q.1 = ci := Nat.eq_of_beq_eq_true hc
      obtain ⟨v, hv, w9⟩ := fat_inv h; clear h; have h := w9; clear w9
      obtain ⟨w, hr1, hr2, hr3, hr4⟩ := fres_spec hf
      rw [hc] at hr1
      obtain ⟨k1, k2, k3⟩ := cl_spec ci w hr1
      have hat : (wo cA ρ S M L)[a]? = some (ρ a, .inr (ci, fs.mapIdx (fk ρ M L a))) := wo_at hSa
      refine va_get (v := mp ρ (fkA M L a q.2 v)) hx hb hts k1 hown hK.1 hR.2.1 a hat hr1 q.2 hr2 (hts _ hr4) (fun _ h9 => by rw [hr3] at h9; exact h9) (by rw [List.getElem?_mapIdx, hv]; rfl) hd ?_
      exact go h hR
  case putfield x =>
    have hnx := hlen.resolve_left (fun h => by cases h)
    subst hnx
    have hd := hd_of hdec rfl
    obtain ⟨v, a, r, hst, w9⟩ := pVR_inv h; clear h; subst hst; have h := w9; clear w9
    obtain ⟨ci, fs, hSa, w9⟩ := objAt_inv h; clear h; have h := w9; clear w9
    cases hf : fres (mO E) x with
    | none => rw [hf] at h; exact h.elim
    | some q =>
      rw [hf] at h
      obtain ⟨hc, w9⟩ := bifF h; clear h; have h := w9; clear w9
      obtain ⟨q1, j⟩ := q
      have hc : q1 = ci := Nat.eq_of_beq_eq_true hc
      subst hc
      unfold putW at h
      obtain ⟨hfin, w9⟩ := bifF h; clear h; have h := w9; clear w9
      obtain ⟨old, hold, w9⟩ := fat_inv h; clear h; have h := w9; clear w9
      have hj : j < fs.length := (List.getElem?_eq_some_iff.mp hold).1
      have hself : ∀ w, fs[j]? = some w → fs.set j w = fs := fun w hw => by
        apply List.ext_getElem?
        intro j'
        by_cases hjj : j' = j
        · subst hjj; rw [List.getElem?_set_self hj, hw]
        · rw [List.getElem?_set_ne (Ne.symm hjj)]
      have hla : a < S.length := (List.getElem?_eq_some_iff.mp hSa).1
      obtain ⟨w, hr1, hr2, hr3, hr4⟩ := fres_spec hf
      cases old <;> cases v <;> first | exact False.elim h | skip
      case int.int z x =>
        have key : narrow (tyF q1 j) (.int x) = .int x → fits (tyF q1 j) (.int x) = true → k (pc + 3) lv r S (um M a j x) L u → W p l e (Rm d mc) s m args below meth c H locs u (1200 * u) (MQ below (CQ dC dI cA ρ s.heap.size n0 Q) args s mc (1200 * mc) (AA n0 ρ s.heap.size)) (F0 m pc ls ((Value.int x :: .ref a :: r).map (mp ρ))) := fun g1 g2 h => put_sd (v := .int x) (S' := S) (M' := um M a j x) (L' := L) (fs' := fs) hC hR hd hf hSa hj hfin g1 g2 hSa (by
          rw [mapIdx_set_at (M' := um M a j x) (L' := L) (w := .int z) (by simp [fk, fkA, mp, um_at]) (fun j' hne v => fk_um_ne hne v) hj, hself _ hold]) (fun k hk => ⟨rfl, um_ne M j x hk, rfl⟩) rfl (fun H1 locs1 hR1 => go h hR1)
        dsimp only at h
        cases hty : tyF q1 j <;> rw [hty] at h <;> first | exact False.elim h | skip
        · exact key (by rw [hty]; rfl) (by rw [hty]; rfl) h
        · obtain ⟨hx01, w9⟩ := ite_T h; clear h; have h := w9; clear w9
          refine key ?_ ?_ h
          · rw [hty]; rcases hx01 with rfl | rfl <;> rfl
          · rw [hty]; rcases hx01 with rfl | rfl <;> rfl
      case long.long z x =>
        dsimp only at h
        cases hty : tyF q1 j <;> rw [hty] at h <;> first | exact False.elim h | skip
        exact put_sd (v := .long x) (S' := S) (M' := M) (L' := ul L a j x) (fs' := fs) hC hR hd hf hSa hj hfin (by rw [hty]; rfl) (by rw [hty]; rfl) hSa (by
          rw [mapIdx_set_at (M' := M) (L' := ul L a j x) (w := .long z) (by simp [fk, fkA, mp, ul_at]) (fun j' hne v => fk_ul_ne hne v) hj, hself _ hold]) (fun k hk => ⟨rfl, rfl, ul_ne L j x hk⟩) rfl (fun H1 locs1 hR1 => go h hR1)
      case null.ref b =>
        obtain ⟨hrt, w9⟩ := bifF h; clear h; have h := w9; clear w9
        exact put_sd (v := .ref b) (S' := S.set a (.inl (q1, fs.set j (.ref b)))) (M' := M) (L' := L) (fs' := fs.set j (.ref b)) hC hR hd hf hSa hj hfin (narrow_rt hrt) (fits_rt hrt) (List.getElem?_set_self hla) (mapIdx_set_at rfl (fun _ _ _ => rfl) hj) (fun k hk => ⟨List.getElem?_set_ne (Ne.symm hk), rfl, rfl⟩) (by simp) (fun H1 locs1 hR1 => go h hR1)
      case ref.ref z b =>
        obtain ⟨hrt, w9⟩ := bifF h; clear h; have h := w9; clear w9
        exact put_sd (v := .ref b) (S' := S.set a (.inl (q1, fs.set j (.ref b)))) (M' := M) (L' := L) (fs' := fs.set j (.ref b)) hC hR hd hf hSa hj hfin (narrow_rt hrt) (fits_rt hrt) (List.getElem?_set_self hla) (mapIdx_set_at rfl (fun _ _ _ => rfl) hj) (fun k hk => ⟨List.getElem?_set_ne (Ne.symm hk), rfl, rfl⟩) (by simp) (fun H1 locs1 hR1 => go h hR1)
      case null.null =>
        obtain ⟨hrt, w9⟩ := bifF h; clear h; have h := w9; clear w9
        exact put_sd (v := .null) (S' := S.set a (.inl (q1, fs.set j .null))) (M' := M) (L' := L) (fs' := fs.set j .null) hC hR hd hf hSa hj hfin (narrow_rn hrt) (fits_rn hrt) (List.getElem?_set_self hla) (mapIdx_set_at rfl (fun _ _ _ => rfl) hj) (fun k hk => ⟨List.getElem?_set_ne (Ne.symm hk), rfl, rfl⟩) (by simp) (fun H1 locs1 hR1 => go h hR1)
      case ref.null z =>
        obtain ⟨hrt, w9⟩ := bifF h; clear h; have h := w9; clear w9
        exact put_sd (v := .null) (S' := S.set a (.inl (q1, fs.set j .null))) (M' := M) (L' := L) (fs' := fs.set j .null) hC hR hd hf hSa hj hfin (narrow_rn hrt) (fits_rn hrt) (List.getElem?_set_self hla) (mapIdx_set_at rfl (fun _ _ _ => rfl) hj) (fun k hk => ⟨List.getElem?_set_ne (Ne.symm hk), rfl, rfl⟩) (by simp) (fun H1 locs1 hR1 => go h hR1)
  case iaload =>
    have hnx := hlen.resolve_left (fun h => by cases h)
    subst hnx
    have hd := hd_of hdec rfl
    obtain ⟨i, a, r, hst, w9⟩ := pIR_inv h; clear h; subst hst; have h := w9; clear w9
    obtain ⟨ty, n, g, hSa, w9⟩ := arrAt_inv h; clear h; have h := w9; clear w9
    cases ty <;> first | exact False.elim h | skip
    obtain ⟨hin, w9⟩ := inB_inv h; clear h; have h := w9; clear w9
    exact va_iald hx hb hK.1 hR.2.1 a 0 (wo_at hSa) rfl hin hd (go h hR)
  case baload =>
    have hnx := hlen.resolve_left (fun h => by cases h)
    subst hnx
    have hd := hd_of hdec rfl
    obtain ⟨i, a, r, hst, w9⟩ := pIR_inv h; clear h; subst hst; have h := w9; clear w9
    obtain ⟨ty, n, g, hSa, w9⟩ := arrAt_inv h; clear h; have h := w9; clear w9
    cases ty <;> first | exact False.elim h | skip
    · obtain ⟨hin, w9⟩ := inB_inv h; clear h; have h := w9; clear w9
      exact va_bald hx hb hK.1 hR.2.1 a 1 (wo_at hSa) rfl hin hd (go h hR)
    · obtain ⟨hin, w9⟩ := inB_inv h; clear h; have h := w9; clear w9
      exact va_zald hx hb hK.1 hR.2.1 a 2 (wo_at hSa) rfl hin hd (go h hR)
  case aaload =>
    have hnx := hlen.resolve_left (fun h => by cases h)
    subst hnx
    have hd := hd_of hdec rfl
    obtain ⟨i, a, r, hst, w9⟩ := pIR_inv h; clear h; subst hst; have h := w9; clear w9
    obtain ⟨ty, n, g, hSa, w9⟩ := arrAt_inv h; clear h; have h := w9; clear w9
    cases ty <;> first | exact False.elim h | skip
    next C =>
      obtain ⟨hC2, w9⟩ := bifF h; clear h; have h := w9; clear w9
      have hC2 : C = RX2 := of_decide_eq_true hC2
      subst hC2
      obtain ⟨hin, w9⟩ := inB_inv h; clear h; have h := w9; clear w9
      refine va_aldq hx hb hK.1 hR.2.1 a 3 (wo_at hSa) rfl hin hd ?_
      have e1 : va_rf ((g i.toNatClampNeg).map ρ) = mp ρ (va_rf (g i.toNatClampNeg)) := by
        cases g i.toNatClampNeg <;> rfl
      rw [e1]
      exact go h hR
  case iastore =>
    have hnx := hlen.resolve_left (fun h => by cases h)
    subst hnx
    have hd := hd_of hdec rfl
    obtain ⟨x, i, a, r, hst, w9⟩ := pIIR_inv h; clear h; subst hst; have h := w9; clear w9
    obtain ⟨ty, n, g, hSa, w9⟩ := arrAt_inv h; clear h; have h := w9; clear w9
    cases ty <;> first | exact False.elim h | skip
    obtain ⟨hin, w9⟩ := inB_inv h; clear h; have h := w9; clear w9
    exact W.iast hx hb (arr_at hR hSa (Or.inl rfl)) ((arr_ty hK (Or.inl rfl)).1 n (fun j => .int (M a j))) (fun q => by cases q) (by show ¬ (i < 0 ∨ (arrV _ _ _).slots.size ≤ _); rw [arrV_size]; exact hin) rfl rfl hd fun H1 e z oq => go h (ast_rl hR hSa (Or.inl rfl) e z oq)
  case bastore =>
    have hnx := hlen.resolve_left (fun h => by cases h)
    subst hnx
    have hd := hd_of hdec rfl
    obtain ⟨x, i, a, r, hst, w9⟩ := pIIR_inv h; clear h; subst hst; have h := w9; clear w9
    obtain ⟨ty, n, g, hSa, w9⟩ := arrAt_inv h; clear h; have h := w9; clear w9
    cases ty <;> first | exact False.elim h | skip
    · obtain ⟨hin, w9⟩ := inB_inv h; clear h; have h := w9; clear w9
      exact W.bast hx hb (arr_at hR hSa (Or.inr (Or.inl rfl))) ((arr_ty hK (Or.inr (Or.inl rfl))).1 n (fun j => .int (M a j))) (fun q => by cases q) (by show ¬ (i < 0 ∨ (arrV _ _ _).slots.size ≤ _); rw [arrV_size]; exact hin) rfl rfl hd fun H1 e z oq => go h (ast_rl hR hSa (Or.inr (Or.inl rfl)) e z oq)
    · obtain ⟨hin, w9⟩ := inB_inv h; clear h; have h := w9; clear w9
      exact W.zast hx hb (arr_at hR hSa (Or.inr (Or.inr rfl))) ((arr_ty hK (Or.inr (Or.inr rfl))).1 n (fun j => .int (M a j))) (fun q => by cases q) (by show ¬ (i < 0 ∨ (arrV _ _ _).slots.size ≤ _); rw [arrV_size]; exact hin) rfl rfl hd fun H1 e z oq => go h (ast_rl hR hSa (Or.inr (Or.inr rfl)) e z oq)
  case aastore =>
    have hnx := hlen.resolve_left (fun h => by cases h)
    subst hnx
    have hd := hd_of hdec rfl
    obtain ⟨b, i, a, r, hst, w9⟩ := pRIR_inv h; clear h; subst hst; have h := w9; clear w9
    obtain ⟨ty, n, g, hSa, w9⟩ := arrAt_inv h; clear h; have h := w9; clear w9
    cases ty <;> first | exact False.elim h | skip
    next C =>
      obtain ⟨hC2, w9⟩ := bifF h; clear h; have h := w9; clear w9
      have hC2 : C = RX2 := of_decide_eq_true hC2
      subst hC2
      obtain ⟨fs, hSb, w9⟩ := h; have h := w9; clear w9
      obtain ⟨hin, w9⟩ := inB_inv h; clear h; have h := w9; clear w9
      have hlt : i.toNatClampNeg < n := Nat.not_le.mp fun q => hin (Or.inr q)
      have h0 : ¬ i < 0 := fun q => hin (Or.inl q)
      obtain ⟨r', hr', cellV, g1, g2, g3, -⟩ := hR.2.1 b _ (wo_at hSb)
      have hcls := (hK.1.1 2 _ rfl).2
      obtain ⟨kA, comp, k1, k2, k3, -⟩ := (arr_ty_q hK).2
      have hcomp : comp = dC 2 := Option.some.inj (k3.symm.trans hcls.1)
      subst hcomp
      obtain ⟨kC, hkC, -⟩ := hcls.2
      have hA : H[ρ a]? = some (arrV (cA (.object RX2)) n (fun j => va_rf ((g j).map ρ))) := hR.2.1 a _ (wo_at hSa)
      exact W.aast hx hb hA (fun q h => by cases h) (fun h => by cases h) k1 k2 rfl hkC ⟨h0, by show _ < (arrV _ _ _).slots.size; rw [arrV_size]; exact hlt⟩ g1 (fun q h => by rw [g3] at h; cases h) (by rw [g2]; exact hkC) (by rw [g2]; exact va_assign hcls) rfl rfl hd fun H1 e z oq => go h (aast_rl hR hSa e z oq)
  case goto off =>
    have hnx := hlen.resolve_left (fun h => by cases h)
    subst hnx
    have hd := hd_of hdec rfl
    exact lv_goto hx hb hd (of_decide_eq_true hsw) (go h hR)
  case ifCond cc off =>
    have hnx := hlen.resolve_left (fun h => by cases h)
    subst hnx
    have hd := hd_of hdec rfl
    obtain ⟨x, r, hst, w9⟩ := pI_inv h; clear h; subst hst; have h := w9; clear w9
    have ht := of_decide_eq_true hsw
    cases cc <;> dsimp only at h
    case eq => exact lv_if_eq hx hb hd ht (fun hc => go (by rw [if_pos hc] at h; exact h) hR) (fun hc => go (by rw [if_neg hc] at h; exact h) hR)
    case ne => exact lv_if_ne hx hb hd ht (fun hc => go (by rw [if_neg hc] at h; exact h) hR) (fun hc => go (by rw [if_pos hc] at h; exact h) hR)
    case lt => exact lv_if_lt hx hb hd ht (fun hc => go (by rw [if_pos hc] at h; exact h) hR) (fun hc => go (by rw [if_neg hc] at h; exact h) hR)
    case ge => exact lv_if_ge hx hb hd ht (fun hc => go (by rw [if_pos hc] at h; exact h) hR) (fun hc => go (by rw [if_neg hc] at h; exact h) hR)
    case gt => exact lv_if_gt hx hb hd ht (fun hc => go (by rw [if_pos hc] at h; exact h) hR) (fun hc => go (by rw [if_neg hc] at h; exact h) hR)
    case le => exact lv_if_le hx hb hd ht (fun hc => go (by rw [if_pos hc] at h; exact h) hR) (fun hc => go (by rw [if_neg hc] at h; exact h) hR)
  case if_icmp cc off =>
    have hnx := hlen.resolve_left (fun h => by cases h)
    subst hnx
    have hd := hd_of hdec rfl
    obtain ⟨y, x, r, hst, w9⟩ := pII_inv h; clear h; subst hst; have h := w9; clear w9
    have ht := of_decide_eq_true hsw
    cases cc <;> dsimp only at h
    case eq => exact lv_icmp_eq hx hb hd ht (fun hc => go (by rw [if_pos hc] at h; exact h) hR) (fun hc => go (by rw [if_neg hc] at h; exact h) hR)
    case ne => exact lv_icmp_ne hx hb hd ht (fun hc => go (by rw [if_neg hc] at h; exact h) hR) (fun hc => go (by rw [if_pos hc] at h; exact h) hR)
    case lt => exact lv_icmp_lt hx hb hd ht (fun hc => go (by rw [if_pos hc] at h; exact h) hR) (fun hc => go (by rw [if_neg hc] at h; exact h) hR)
    case ge => exact lv_icmp_ge hx hb hd ht (fun hc => go (by rw [if_pos hc] at h; exact h) hR) (fun hc => go (by rw [if_neg hc] at h; exact h) hR)
    case gt => exact lv_icmp_gt hx hb hd ht (fun hc => go (by rw [if_pos hc] at h; exact h) hR) (fun hc => go (by rw [if_neg hc] at h; exact h) hR)
    case le => exact lv_icmp_le hx hb hd ht (fun hc => go (by rw [if_pos hc] at h; exact h) hR) (fun hc => go (by rw [if_neg hc] at h; exact h) hR)
  case ifnull off =>
    have hnx := hlen.resolve_left (fun h => by cases h)
    subst hnx
    have hd := hd_of hdec rfl
    obtain ⟨v, r, hst, w9⟩ := pV_inv h; clear h; subst hst; have h := w9; clear w9
    cases v <;> first | exact False.elim h | skip
    · exact lv_ifnullN hx hb hd (of_decide_eq_true hsw) (go h hR)
    · exact lv_ifnull hx hb hd (go h hR)
  case ifnonnull off =>
    have hnx := hlen.resolve_left (fun h => by cases h)
    subst hnx
    have hd := hd_of hdec rfl
    obtain ⟨v, r, hst, w9⟩ := pV_inv h; clear h; subst hst; have h := w9; clear w9
    cases v <;> first | exact False.elim h | skip
    · exact lv_ifnonnullN hx hb hd (go h hR)
    · exact lv_ifnonnull hx hb hd (of_decide_eq_true hsw) (go h hR)
  case tableswitch dflt lo hi offs =>
    obtain ⟨x, r, hst, w9⟩ := pI_inv h; clear h; subst hst; have h := w9; clear w9
    simp only [sw_ok, Bool.and_eq_true, decide_eq_true_eq] at hsw
    obtain ⟨⟨s1, s2⟩, s3⟩ := hsw
    rcases swl_in _ h with ⟨j, q, hj, hq, hf⟩ | ⟨hne, hf⟩
    · have h1 := congrArg (fun l => l[j]?) s2
      simp only [List.getElem?_map, hj, Option.map_some] at h1
      have hjl : j < offs.size := by
        rcases Nat.lt_or_ge j offs.size with g | g
        · exact g
        · rw [List.getElem?_eq_none (by simpa using g)] at h1; cases h1
      rw [List.getElem?_range hjl, Option.map_some] at h1
      have h2 := Option.some.inj h1
      rw [Prod.mk.injEq] at h2
      obtain ⟨e1, e2⟩ := h2
      have e3 : offs[j]? = some (offs[j]) := Array.getElem?_eq_getElem hjl
      rw [e3] at e2
      refine lv_tableIn hx hb hdec (off := (q.2 : Int) - (pc : Int)) (tgt := q.2) ?_ ?_ ?_ (by omega) (go hf hR)
      · rw [hq, e1]; omega
      · rw [hq, e1]; omega
      · rw [hq, e1, show (lo + (j : Int) - lo).toNat = j by omega, e3, e2]; rfl
    · refine lv_tableOut hx hb hdec ?_ s1 (go hf hR)
      rcases Int.lt_or_le x.toInt lo with g | g
      · exact Or.inl g
      · rcases Int.lt_or_le hi x.toInt with g2 | g2
        · exact Or.inr g2
        · exfalso
          have hjl : (x.toInt - lo).toNat < offs.size := by omega
          have h1 := congrArg (fun l => l[(x.toInt - lo).toNat]?) s2
          simp only [List.getElem?_map] at h1
          rw [List.getElem?_range hjl, Option.map_some] at h1
          cases hs : (mW E pc)[(x.toInt - lo).toNat]? with
          | none => rw [hs] at h1; cases h1
          | some q =>
            rw [hs, Option.map_some] at h1
            have h2 := Option.some.inj h1
            rw [Prod.mk.injEq] at h2
            exact hne q (List.mem_of_getElem? hs) (Int32.toInt_inj.mp (by rw [h2.1]; omega))
  case lookupswitch dflt ps =>
    obtain ⟨x, r, hst, w9⟩ := pI_inv h; clear h; subst hst; have h := w9; clear w9
    simp only [sw_ok, Bool.and_eq_true, decide_eq_true_eq] at hsw
    obtain ⟨⟨s1, s2⟩, s3⟩ := hsw
    obtain ⟨t, off, h1, h2, h3⟩ := swl_lookup s1 _ _ s2 h
    exact lv_lookup hx hb hdec s3 h1 h2 (go h3 hR)
  case new x =>
    have hnx := hlen.resolve_left (fun h => by cases h)
    subst hnx
    have hd := hd_of hdec rfl
    dsimp only at h
    cases hc : nres (mO E) x with
    | none => rw [hc] at h; exact h.elim
    | some ci =>
      rw [hc] at h
      obtain ⟨hz, w9⟩ := h; have h := w9; clear w9
      obtain ⟨hu, w9⟩ := bifF h; clear h; have h := w9; clear w9
      rw [Nat.blt_eq] at hu
      obtain ⟨w, hr1, c1, c2, c3⟩ := nres_spec hc
      obtain ⟨k1, k2, k3⟩ := cl_spec ci w hr1
      obtain ⟨n1, n2, n3⟩ := cl_dv ci w hr1
      have hKn := hK.1.1 ci _ hr1
      refine W.newcK hx hb hown (hts _ c1) (hts _ c2) (hts _ c3) rfl hd (by show u + 1 ≤ mc; omega) (by show 1200 * u + w.2.2 ≤ 1200 * mc; omega) hKn.2.1 rfl fun H1 kC hkC e1 z1 o1 => ?_
      obtain ⟨hR1, hρ⟩ := new_rl (sh := .inl (ci, dfl ci)) hC hR hu z1 o1 ⟨_, hr1, (u_born (tyF ci) hts k1 hKn hkC e1 k2).to (fun j hj => by
        rw [dv_ok (ρ := ρ) (j := j) hz (n3 j hj)]
        simp [vp_V, dfl, n1, List.getElem?_mapIdx, hj])⟩
      refine W.widen (k := u + 1) (n := 1200 * (u + 1)) (Nat.le_refl _) (by omega) ?_
      rw [← hρ]
      exact go h hR1
  case newarray t =>
    have hnx := hlen.resolve_left (fun h => by cases h)
    subst hnx
    have hd := hd_of hdec rfl
    obtain ⟨n, r, hst, w9⟩ := pI_inv h; clear h; subst hst; have h := w9; clear w9
    obtain ⟨hn, w9⟩ := ite_F h; clear h; have h := w9; clear w9
    have key : ∀ (ty : FieldType) (sh : Sh), newarray.typeOf t = ty → (ty = .int ∨ ty = .byte ∨ ty = .boolean) → sh = .inr (ty, n.toNatClampNeg, fun _ => none) → Cond.arrayClass ty ∈ wt → defaultValue ty = .int 0 → (zr M L S.length ∧ (bif Nat.blt u mc then k (pc + 2) lv (.ref S.length :: r) (S ++ [sh]) M L (u + 1) else False)) → W p l e (Rm d mc) s m args below meth c H locs u (1200 * u) (MQ below (CQ dC dI cA ρ s.heap.size n0 Q) args s mc (1200 * mc) (AA n0 ρ s.heap.size)) (F0 m pc ls ((Value.int n :: r).map (mp ρ))) := by
      intro ty sh hty h3 hsh hin hdf h
      subst hty
      subst hsh
      obtain ⟨hz, w9⟩ := h; have h := w9; clear w9
      obtain ⟨hu, w9⟩ := bifF h; clear h; have h := w9; clear w9
      rw [Nat.blt_eq] at hu
      have hcb : componentBytes (newarray.typeOf t) ≤ 8 := by cases t <;> decide
      have hnb : n.toNatClampNeg ≤ 1200 := by
        rcases Nat.lt_or_ge 1200 n.toNatClampNeg with g | g
        · exact absurd (Or.inr g) hn
        · exact g
      refine va_newaK hx hb (hts _ hin) rfl hd rfl (fun q => hn (Or.inl q)) rfl (Nat.le_trans (Nat.mul_le_mul hnb hcb) (by decide)) (by show u + 1 ≤ mc; omega) (by show 1200 * u + n.toNatClampNeg ≤ 1200 * mc; omega) rfl fun H1 cA' e1 z1 o1 hAr hNm => ?_
      have hcA : cA' = cA (newarray.typeOf t) := by
        have := (arr_ty hK h3).2
        rcases h3 with g | g | g <;> rw [g] at this hNm ⊢ <;> exact Option.some.inj (hNm.symm.trans this)
      subst hcA
      have hcv : cv cA ρ M L S.length (.inr (newarray.typeOf t, n.toNatClampNeg, fun _ => none)) = .inl (cA (newarray.typeOf t), n.toNatClampNeg, .inl (M S.length)) := by
        rcases h3 with g | g | g <;> rw [g] <;> rfl
      obtain ⟨hR1, hρ⟩ := new_rl (sh := .inr (newarray.typeOf t, n.toNatClampNeg, fun _ => none)) hC hR hu z1 o1 (by
        rw [hcv]
        show H1[H.size]? = some (vp_cell _ _)
        rw [vp_cell_i, e1, hdf]
        congr 2
        funext j
        rw [hz.1 j])
      refine W.widen (k := u + 1) (n := 1200 * (u + 1)) (Nat.le_refl _) (by omega) ?_
      rw [← hρ]
      exact go h hR1
    cases t <;> dsimp only at h <;> first | exact False.elim h | skip
    · exact key .boolean _ rfl (Or.inr (Or.inr rfl)) rfl arr_in.2.2.1 rfl h
    · exact key .byte _ rfl (Or.inr (Or.inl rfl)) rfl arr_in.2.1 rfl h
    · exact key .int _ rfl (Or.inl rfl) rfl arr_in.1 rfl h
  case anewarray x =>
    have hnx := hlen.resolve_left (fun h => by cases h)
    subst hnx
    have hd := hd_of hdec rfl
    obtain ⟨n, r, hst, w9⟩ := pI_inv h; clear h; subst hst; have h := w9; clear w9
    obtain ⟨hn, w9⟩ := ite_F h; clear h; have h := w9; clear w9
    split at h
    next hc =>
      obtain ⟨hu, w9⟩ := bifF h; clear h; have h := w9; clear w9
      rw [Nat.blt_eq] at hu
      obtain ⟨w, hr1, c1, c2, c3⟩ := nres_spec hc
      cases hr1
      have hnb : n.toNatClampNeg ≤ 1200 := by
        rcases Nat.lt_or_ge 1200 n.toNatClampNeg with g | g
        · exact absurd (Or.inr g) hn
        · exact g
      refine W.anew hx hb hown (hts _ c1) (va_AO.use (hK.2 _ arr_in.2.2.2)) rfl hd rfl (fun q => hn (Or.inl q)) (by omega) (by show u + 1 ≤ mc; omega) (by show 1200 * u + n.toNatClampNeg ≤ 1200 * mc; omega) fun cA' kA comp f1 f2 f3 f4 => ?_
      generalize hH1 : H.push ({ cls := cA', slots := Array.replicate n.toNatClampNeg .null, vm := .none } : Cell) = H1
      have z1 : H1.size = H.size + 1 := by rw [← hH1, Array.size_push]
      have e1 : H1[H.size]? = some (arrV cA' n.toNatClampNeg (fun _ => .null)) := by rw [← hH1, Array.getElem?_push_size, ← arrV_new]
      have o1 : ∀ q : Nat, q < H.size → H1[q]? = H[q]? := fun q hq => by rw [← hH1, Array.getElem?_push, if_neg (Nat.ne_of_lt hq)]
      have hcA : cA' = cA (.object RX2) := by
        obtain ⟨-, -, -, -, -, g⟩ := (arr_ty_q hK).2
        exact Option.some.inj (f1.symm.trans g)
      subst hcA
      obtain ⟨hR1, hρ⟩ := new_rl (sh := .inr (.object RX2, n.toNatClampNeg, fun _ => none)) hC hR hu z1 o1 (by
        show H1[H.size]? = some (vp_cell _ _)
        rw [vp_cell_q]
        exact e1)
      refine W.widen (k := u + 1) (n := 1200 * (u + 1)) (Nat.le_refl _) (by omega) ?_
      have hg := go h hR1
      rw [List.map_cons, show mp ρ (.ref S.length) = .ref H.size by rw [← hρ]; rfl] at hg
      exact hg
    next => exact h.elim
  case invokestatic x =>
    have hnx := hlen.resolve_left (fun h => by cases h)
    subst hnx
    have hd := hd_of hdec rfl
    dsimp only at h
    have hl1 : ∀ r : List Value, (Nat.blt 0 d && Nat.ble r.length 4) = true → 1 ≤ (Rm d mc).frames ∧ ((r.map (mp ρ)).map fun v => v.category).sum + 13 ≤ (Rm d mc).locals := by
      intro r hb
      simp only [Bool.and_eq_true, Nat.blt_eq, Nat.ble_eq] at hb
      have := map_mp_cat (ρ := ρ) r hb.2
      exact ⟨hb.1, by show _ + 13 ≤ 64 * d; omega⟩
    have hmls : c.maxLocals = ls.size := by rw [hml, hR.1.1]
    have hcs : u ≤ (Rm d mc).cells ∧ 1200 * u ≤ (Rm d mc).slots := ⟨hR.2.2.2.2.2.2, by show 1200 * u ≤ 1200 * mc; have := hR.2.2.2.2.2.2; omega⟩
    split at h
    next hq =>
      have hw := xres_ok hq
      unfold tb_x at hw
      rw [hq] at hw
      have hw := wt_of (of_decide_eq_true hw) rfl
      obtain ⟨y, x, r, hst, w9⟩ := pII_inv h; clear h; subst hst; have h := w9; clear w9
      obtain ⟨hb2, w9⟩ := bifF h; clear h; have h := w9; clear w9
      obtain ⟨g1, g2⟩ := hl1 r hb2
      exact va_mmax hx hb hmls hown (hts _ hw) (hts _ max_in.1) (hts _ math_in) (hts _ max_in.2) g1 g2 hcs.1 hcs.2 hd (go h hR)
    next hq =>
      have hw := xres_ok hq
      unfold tb_x at hw
      rw [hq] at hw
      have hw := wt_of (of_decide_eq_true hw) rfl
      obtain ⟨y, x, r, hst, w9⟩ := pII_inv h; clear h; subst hst; have h := w9; clear w9
      obtain ⟨hb2, w9⟩ := bifF h; clear h; have h := w9; clear w9
      obtain ⟨g1, g2⟩ := hl1 r hb2
      exact va_mmin hx hb hmls hown (hts _ hw) (hts _ min_in.1) (hts _ math_in) (hts _ min_in.2) g1 g2 hcs.1 hcs.2 hd (go h hR)
    next qq hn0 hn1 hq =>
      have hw := xres_ok hq
      unfold tb_x at hw
      rw [hq] at hw
      split at hw
      next hz => cases hz
      next hz => cases hz; exact absurd rfl hn0
      next hz => cases hz; exact absurd rfl hn1
      next hz =>
        have hw := wt_of (of_decide_eq_true hw) rfl
        obtain ⟨x, r, hst, w9⟩ := pI_inv h; clear h; subst hst; have h := w9; clear w9
        obtain ⟨hb2, w9⟩ := bifF h; clear h; have h := w9; clear w9
        obtain ⟨g1, g2⟩ := hl1 r hb2
        exact va_mabs hx hb hmls hown (hts _ hw) (hts _ abs_in.1) (hts _ math_in) (hts _ abs_in.2) g1 g2 hcs.1 hcs.2 hd (go h hR)
    next =>
      cases hm : mres (mO E) x with
      | none => rw [hm] at h; exact h.elim
      | some q =>
        rw [hm] at h
        obtain ⟨E', nest, mc'⟩ := q
        obtain ⟨hs, w9⟩ := bifF h; clear h; have h := w9; clear w9
        exact call_static hk hC hR hd hm hs h
  case invokevirtual x =>
    have hnx := hlen.resolve_left (fun h => by cases h)
    subst hnx
    have hd := hd_of hdec rfl
    dsimp only at h
    cases hm : mres (mO E) x with
    | none => rw [hm] at h; exact h.elim
    | some q =>
      rw [hm] at h
      obtain ⟨E', nest, mc'⟩ := q
      obtain ⟨hs, w9⟩ := bifF h; clear h; have h := w9; clear w9
      simp only [Bool.and_eq_true, Bool.not_eq_true', decide_eq_true_eq] at hs
      exact call_inst hk hC hR (Or.inl ⟨hd, hs.2⟩) hm hs.1 h
  case invokespecial x =>
    have hnx := hlen.resolve_left (fun h => by cases h)
    subst hnx
    have hd := hd_of hdec rfl
    dsimp only at h
    cases ho : ores (mO E) x with
    | true =>
      rw [ho] at h
      obtain ⟨a, r, hst, w9⟩ := pR_inv h; clear h; subst hst; have h := w9; clear w9
      obtain ⟨hb2, w9⟩ := bifF h; clear h; have h := w9; clear w9
      simp only [Bool.and_eq_true, Nat.blt_eq, Nat.ble_eq] at hb2
      have := map_mp_cat (ρ := ρ) r hb2.2
      refine W.objInit hx hb hown (hts _ (ores_spec ho)) (hts _ objI_in) (hts _ objC_in) rfl (by rw [hml]; exact hR.1.1) rfl hd hb2.1 (by show 2 * 0 + _ + 12 ≤ 64 * d; omega) ?_
      exact go h hR
    | false =>
      rw [ho] at h
      cases hm : mres (mO E) x with
      | none => rw [hm] at h; exact h.elim
      | some q =>
        rw [hm] at h
        obtain ⟨E', nest, mc'⟩ := q
        obtain ⟨hs, w9⟩ := bifF h; clear h; have h := w9; clear w9
        simp only [Bool.and_eq_true, Bool.not_eq_true', decide_eq_true_eq, Option.isNone_iff_eq_none] at hs
        exact call_inst hk hC hR (Or.inr ⟨hd, hs.1.2, hs.2⟩) hm hs.1.1 h
  case ireturn =>
    have hnx := hlen.resolve_left (fun h => by cases h)
    subst hnx
    have hd := hd_of hdec rfl
    dsimp only at h
    split at h
    next v =>
      have hum := hR.2.2.2.2.2.2
      obtain ⟨hl, hP, hD, hS, g1, g2, -⟩ := hR
      refine W.widen (k := mc) (n := 1200 * mc) hum (by omega) ?_
      split at h
      next hrt => exact W.iret hx hb (hr.trans hrt) (fun t ht hW => ret_q (r := some (.int v)) h hP hD hS g1 g2 t ht) hS.2.2 hd
      next hrt =>
        obtain ⟨hv, w9⟩ := ite_T h; clear h; have h := w9; clear w9
        exact W.zret hx hb (hr.trans hrt) (by rcases hv with rfl | rfl <;> rfl) (fun t ht hW => ret_q (r := some (.int v)) h hP hD hS g1 g2 t ht) hS.2.2 hd
      next => exact h.elim
    next => exact h.elim
  case lreturn =>
    have hnx := hlen.resolve_left (fun h => by cases h)
    subst hnx
    have hd := hd_of hdec rfl
    dsimp only at h
    split at h
    next v =>
      have hum := hR.2.2.2.2.2.2
      obtain ⟨hl, hP, hD, hS, g1, g2, -⟩ := hR
      refine W.widen (k := mc) (n := 1200 * mc) hum (by omega) ?_
      split at h
      next hrt => exact W.lret hx hb (hr.trans hrt) (fun t ht hW => ret_q (r := some (.long v)) h hP hD hS g1 g2 t ht) hS.2.2 hd
      next => exact h.elim
    next => exact h.elim
  case areturn =>
    have hnx := hlen.resolve_left (fun h => by cases h)
    subst hnx
    have hd := hd_of hdec rfl
    dsimp only at h
    split at h
    next v =>
      have hum := hR.2.2.2.2.2.2
      obtain ⟨hl, hP, hD, hS, g1, g2, -⟩ := hR
      refine W.widen (k := mc) (n := 1200 * mc) hum (by omega) ?_
      split at h
      next C a hrt => exact W.aret hx hb (hr.trans hrt) (Or.inl ⟨_, rfl⟩) (Or.inr ⟨_, rfl⟩) (fun t ht hW => ret_q (r := some (.ref a)) h hP hD hS g1 g2 t ht) hS.2.2 hd
      next C hrt => exact W.aret hx hb (hr.trans hrt) (Or.inl ⟨_, rfl⟩) (Or.inl rfl) (fun t ht hW => ret_q (r := some .null) h hP hD hS g1 g2 t ht) hS.2.2 hd
      next => exact h.elim
    next => exact h.elim
  case return_ =>
    have hnx := hlen.resolve_left (fun h => by cases h)
    subst hnx
    have hd := hd_of hdec rfl
    dsimp only at h
    split at h
    next =>
      have hum := hR.2.2.2.2.2.2
      obtain ⟨hl, hP, hD, hS, g1, g2, -⟩ := hR
      refine W.widen (k := mc) (n := 1200 * mc) hum (by omega) ?_
      split at h
      next hrt => exact W.vret hx hb (hr.trans hrt) (fun t ht hW => ret_q (r := none) h hP hD hS g1 g2 t ht) hS.2.2 hd
      next => exact h.elim
    next => exact h.elim
  all_goals exact False.elim h
