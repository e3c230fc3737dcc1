/-! ===== the law: its loop ===== -/
theorem LRel.next {c : Nat} {S : AS} {M : AM} {L : AL} (h : LRel c S M L) : LRel (c + 1) S M L := by
  obtain ⟨π, rot, h1, h2, h3, h4, h5, h6, h7, h8⟩ := h
  exact ⟨π, rot, h1, h2, h3, h4, h5, h6, h7, h8.next⟩
section LO
variable {p : Program} {l : Launch} {e : Env} {s : State} {m : MethodId} {below : List Frame} {meth : Method} {c : Code} {dC : Nat → ClassId} {dI : Nat → Nat → Nat} {cA : FieldType → ClassId}
theorem law_fin {b : Nat} {H : Heap} {locs : List Loc} {ls : Array Slot} {cells slots : Nat} (hx : p.tables.exec = Jvm.exec) (hb : c.code = code) (hr : meth.sig.returnType = ret) (hlocks : meth.locks = false) (hS : va_S (AL0 s) s.heap H locs) (hc : cells ≤ 600000 ∧ slots ≤ 7302250) : W p l e room_1 s m #[Value.ref b] below meth c H locs cells slots (lw_Z below #[Value.ref b] s) (F0 m 865 ls []) := by
  refine lv_iconst hx hb (dl_end.at 2 rfl) (show Int32.ofInt 1 = 1 by decide) ?_
  refine va_forget (fun q hq => AL0_iff.mp (hS.2.2 q hq)) ?_
  refine W.widen hc.1 hc.2 ?_
  exact lw_ret hx hb hr hlocks (dl_end.at 3 rfl)
set_option maxHeartbeats 4000000 in
theorem law_loop {b L cells slots : Nat} {xs : Nat → Int32} (hx : p.tables.exec = Jvm.exec) (hb : c.code = code) (hr : meth.sig.returnType = ret) (hml : c.maxLocals = 4) (hown : s.vm.findClass R_law = some m.cls) (hlocks : meth.locks = false) (hK : Kn dC dI cA s) (hX : va_X b L xs s s.heap) (hbl : b < s.heap.size) (hL : L ≤ 256) (hc : cells ≤ 600000 ∧ slots ≤ 7302250) : ∀ k i, i + k = 65 → ∀ (S : AS) (M : AM) (LL : AL) (H : Heap) (locs : List Loc) (ls : Array Slot), lv_has ls 4 [(3, .int (nI (4 * i))), (2, .ref (rhoL s.heap.size 235)), (1, .ref (rhoL s.heap.size 0)), (0, .ref b)] → LRel i S M LL → LH s dC dI cA S M LL H locs → W p l e room_1 s m #[Value.ref b] below meth c H locs cells slots (lw_Z below #[Value.ref b] s) (F0 m 18 ls []) := by
  intro k
  induction k with
  | zero => ?_
  | succ k ih => ?_
  all_goals
    intro i hik S M LL H locs ls hl hR hH
    have nb : ¬ AL0 s b := fun h => by have := AL0_iff.mp h; omega
    have cmp : nI L - 4 < nI (4 * i) ↔ L < 4 * i + 4 := by
      have t1 : (nI L - 4).toInt = (L : Int) - 4 := pk_sub_toInt (b := 4) (by omega) (by decide)
      rw [Int32.lt_iff_toInt_lt, t1, nI_toInt (by omega)]
      omega
    refine lv_iload_n hx hb (dl_head.at 10 rfl) rfl (lv_at hl 0 rfl) ?_
    refine lv_aload_n hx hb (dl_head.at 11 rfl) rfl (lv_at hl 3 rfl) ?_
    refine va_slen hx hb hX hbl nb hH.2.2.1 (dl_head.at 12 rfl) ?_
    refine lv_iconst hx hb (dl_head.at 13 rfl) (show Int32.ofInt 4 = 4 by decide) ?_
    refine lv_isub hx hb (dl_head.at 14 rfl) ?_
    refine lv_icmp_gt hx hb (dl_head.at 15 rfl) (tgt := 865) (by decide) (fun _ => law_fin hx hb hr hlocks hH.2.2.1 hc) (fun hle => ?_)
    have hi4 : 4 * i + 4 ≤ L := Nat.not_lt.mp fun y => hle (cmp.mpr y)
  · omega
  · have hn : i < 100000 := by omega
    have back : ∀ S' M' L' H1 locs1, LRel (i + 1) S' M' L' → LH s dC dI cA S' M' L' H1 locs1 → W p l e room_1 s m #[Value.ref b] below meth c H1 locs1 cells slots (lw_Z below #[Value.ref b] s) (F0 m 859 ls []) := by
      intro S' M' L' H1 locs1 hR' hH'
      refine lv_iinc (k := 0) (v := nI (4 * (i + 1))) hx hb (dl_end.at 0 rfl) hl rfl (by rw [show (Int32.ofInt 4) = nI 4 by decide, nI_add, Nat.mul_succ]) (by decide) rfl (fun ls' hl' => ?_)
      refine lv_goto hx hb (dl_end.at 1 rfl) (tgt := 18) (by decide) ?_
      exact ih (i + 1) (by omega) S' M' L' H1 locs1 ls' hl' hR' hH'
    refine lv_aload_n hx hb (dl_head.at 16 rfl) rfl (lv_at hl 3 rfl) ?_
    refine lv_iload_n hx hb (dl_head.at 17 rfl) rfl (lv_at hl 0 rfl) ?_
    refine va_sld hx hb hX hbl nb hH.2.2.1 (nI_in (show 4 * i < L by omega) (by omega)) (dl_head.at 18 rfl) ?_
    refine lv_bipush hx hb (dl_head.at 19 rfl) (show (Int8.ofInt 31).toInt32 = 31 by decide) ?_
    refine lv_iand hx hb (dl_head.at 20 rfl) ?_
    rw [nI_clamp (by omega)]
    obtain ⟨j, hj, ej⟩ := pk_andE (xs (4 * i)) (m := 31) 5 (by decide)
    rw [ej]
    match j, hj with
    | 0, _ =>
      refine lv_tableIn hx hb (dl_head.at 21 rfl) (by decide) (by decide) (off := 136) rfl (tgt := 168) (by decide) ?_
      exact law_t1 (Ex := E7_type) (Em := E8_type) hx hb hml hown hK hX hbl hL hc hl hi4 hR hH dl_0 (by decide) rfl rfl ⟨rfl, by decide, rfl, rfl⟩ ⟨rfl, by decide, rfl, rfl⟩ (fun rot Mm Lm Mx Lx hR => (st_type hR _).toP.toB) back
    | 1, _ =>
      refine lv_tableIn hx hb (dl_head.at 21 rfl) (by decide) (by decide) (off := 159) rfl (tgt := 191) (by decide) ?_
      exact law_t0 (Ex := E7_clear) (Em := E8_clear) hx hb hml hown hK hX hbl hL hc hl hi4 hR hH dl_1 (by decide) rfl rfl ⟨rfl, by decide, rfl, rfl⟩ ⟨rfl, by decide, rfl, rfl⟩ (fun rot Mm Lm Mx Lx hR => (st_clear hR).toP.toB) back
    | 2, _ =>
      refine lv_tableIn hx hb (dl_head.at 21 rfl) (by decide) (by decide) (off := 172) rfl (tgt := 204) (by decide) ?_
      exact law_t0 (Ex := E7_articles) (Em := E8_articles) hx hb hml hown hK hX hbl hL hc hl hi4 hR hH dl_2 (by decide) rfl rfl ⟨rfl, by decide, rfl, rfl⟩ ⟨rfl, by decide, rfl, rfl⟩ (fun rot Mm Lm Mx Lx hR => st_articles hR) back
    | 3, _ =>
      refine lv_tableIn hx hb (dl_head.at 21 rfl) (by decide) (by decide) (off := 185) rfl (tgt := 217) (by decide) ?_
      exact law_t2 (Ex := E7_hand) (Em := E8_hand) hx hb hml hown hK hX hbl hL hc hl hi4 hR hH dl_3 (by decide) rfl rfl ⟨rfl, by decide, rfl, rfl⟩ ⟨rfl, by decide, rfl, rfl⟩ (fun rot Mm Lm Mx Lx hR => (st_hand hR _ _).toP.toB) back
    | 4, _ =>
      refine lv_tableIn hx hb (dl_head.at 21 rfl) (by decide) (by decide) (off := 218) rfl (tgt := 250) (by decide) ?_
      exact law_t2 (Ex := E7_ship) (Em := E8_ship) hx hb hml hown hK hX hbl hL hc hl hi4 hR hH dl_4 (by decide) rfl rfl ⟨rfl, by decide, rfl, rfl⟩ ⟨rfl, by decide, rfl, rfl⟩ (fun rot Mm Lm Mx Lx hR => (st_ship hR _ _).toP.toB) back
    | 5, _ =>
      refine lv_tableIn hx hb (dl_head.at 21 rfl) (by decide) (by decide) (off := 251) rfl (tgt := 283) (by decide) ?_
      exact law_t1 (Ex := E7_piece) (Em := E8_piece) hx hb hml hown hK hX hbl hL hc hl hi4 hR hH dl_5 (by decide) rfl rfl ⟨rfl, by decide, rfl, rfl⟩ ⟨rfl, by decide, rfl, rfl⟩ (fun rot Mm Lm Mx Lx hR => (st_piece hR _).toP.toB) back
    | 6, _ =>
      refine lv_tableIn hx hb (dl_head.at 21 rfl) (by decide) (by decide) (off := 274) rfl (tgt := 306) (by decide) ?_
      exact law_t1 (Ex := E7_chases) (Em := E8_chases) hx hb hml hown hK hX hbl hL hc hl hi4 hR hH dl_6 (by decide) rfl rfl ⟨rfl, by decide, rfl, rfl⟩ ⟨rfl, by decide, rfl, rfl⟩ (fun rot Mm Lm Mx Lx hR => (st_chases hR _).toP.toB) back
    | 7, _ =>
      refine lv_tableIn hx hb (dl_head.at 21 rfl) (by decide) (by decide) (off := 297) rfl (tgt := 329) (by decide) ?_
      exact law_t0 (Ex := E7_shares) (Em := E8_shares) hx hb hml hown hK hX hbl hL hc hl hi4 hR hH dl_7 (by decide) rfl rfl ⟨rfl, by decide, rfl, rfl⟩ ⟨rfl, by decide, rfl, rfl⟩ (fun rot Mm Lm Mx Lx hR => (st_shares hn hR).toP.toB) back
    | 8, _ =>
      refine lv_tableIn hx hb (dl_head.at 21 rfl) (by decide) (by decide) (off := 310) rfl (tgt := 342) (by decide) ?_
      exact law_t1 (Ex := E7_votes) (Em := E8_votes) hx hb hml hown hK hX hbl hL hc hl hi4 hR hH dl_8 (by decide) rfl rfl ⟨rfl, by decide, rfl, rfl⟩ ⟨rfl, by decide, rfl, rfl⟩ (fun rot Mm Lm Mx Lx hR => (st_votes hR _).toP.toB) back
    | 9, _ =>
      refine lv_tableIn hx hb (dl_head.at 21 rfl) (by decide) (by decide) (off := 333) rfl (tgt := 365) (by decide) ?_
      exact law_t1 (Ex := E7_maroons) (Em := E8_maroons) hx hb hml hown hK hX hbl hL hc hl hi4 hR hH dl_9 (by decide) rfl rfl ⟨rfl, by decide, rfl, rfl⟩ ⟨rfl, by decide, rfl, rfl⟩ (fun rot Mm Lm Mx Lx hR => (st_maroons hR _).toP.toB) back
    | 10, _ =>
      refine lv_tableIn hx hb (dl_head.at 21 rfl) (by decide) (by decide) (off := 356) rfl (tgt := 388) (by decide) ?_
      exact law_t2 (Ex := E7_hides) (Em := E8_hides) hx hb hml hown hK hX hbl hL hc hl hi4 hR hH dl_10 (by decide) rfl rfl ⟨rfl, by decide, rfl, rfl⟩ ⟨rfl, by decide, rfl, rfl⟩ (fun rot Mm Lm Mx Lx hR => (st_hides hn hR _ _).toP.toB) back
    | 11, _ =>
      refine lv_tableIn hx hb (dl_head.at 21 rfl) (by decide) (by decide) (off := 389) rfl (tgt := 421) (by decide) ?_
      exact law_t1 (Ex := E7_finds) (Em := E8_finds) hx hb hml hown hK hX hbl hL hc hl hi4 hR hH dl_11 (by decide) rfl rfl ⟨rfl, by decide, rfl, rfl⟩ ⟨rfl, by decide, rfl, rfl⟩ (fun rot Mm Lm Mx Lx hR => (st_finds hn hR _).toP.toB) back
    | 12, _ =>
      refine lv_tableIn hx hb (dl_head.at 21 rfl) (by decide) (by decide) (off := 412) rfl (tgt := 444) (by decide) ?_
      exact law_t0 (Ex := E7_undo) (Em := E8_undo) hx hb hml hown hK hX hbl hL hc hl hi4 hR hH dl_12 (by decide) rfl rfl ⟨rfl, by decide, rfl, rfl⟩ ⟨rfl, by decide, rfl, rfl⟩ (fun rot Mm Lm Mx Lx hR => (st_undo hR).toP.toB) back
    | 13, _ =>
      refine lv_tableIn hx hb (dl_head.at 21 rfl) (by decide) (by decide) (off := 425) rfl (tgt := 457) (by decide) ?_
      exact law_t1 (Ex := E7_now) (Em := E8_now) hx hb hml hown hK hX hbl hL hc hl hi4 hR hH dl_13 (by decide) rfl rfl ⟨rfl, by decide, rfl, rfl⟩ ⟨rfl, by decide, rfl, rfl⟩ (fun rot Mm Lm Mx Lx hR => (st_now hR _).toP.toB) back
    | 14, _ =>
      refine lv_tableIn hx hb (dl_head.at 21 rfl) (by decide) (by decide) (off := 448) rfl (tgt := 480) (by decide) ?_
      exact law_t1 (Ex := E7_due) (Em := E8_due) hx hb hml hown hK hX hbl hL hc hl hi4 hR hH dl_14 (by decide) rfl rfl ⟨rfl, by decide, rfl, rfl⟩ ⟨rfl, by decide, rfl, rfl⟩ (fun rot Mm Lm Mx Lx hR => (st_due hn hR _).toB) back
    | 15, _ =>
      refine lv_tableIn hx hb (dl_head.at 21 rfl) (by decide) (by decide) (off := 471) rfl (tgt := 503) (by decide) ?_
      exact law_t1 (Ex := E7_holds) (Em := E8_holds) hx hb hml hown hK hX hbl hL hc hl hi4 hR hH dl_15 (by decide) rfl rfl ⟨rfl, by decide, rfl, rfl⟩ ⟨rfl, by decide, rfl, rfl⟩ (fun rot Mm Lm Mx Lx hR => (st_holds hn hR _).toB) back
    | 16, _ =>
      refine lv_tableIn hx hb (dl_head.at 21 rfl) (by decide) (by decide) (off := 494) rfl (tgt := 526) (by decide) ?_
      exact law_t1 (Ex := E7_deal) (Em := E8_deal) hx hb hml hown hK hX hbl hL hc hl hi4 hR hH dl_16 (by decide) rfl rfl ⟨rfl, by decide, rfl, rfl⟩ ⟨rfl, by decide, rfl, rfl⟩ (fun rot Mm Lm Mx Lx hR => (st_deal hR _).toB) back
    | 17, _ =>
      refine lv_tableIn hx hb (dl_head.at 21 rfl) (by decide) (by decide) (off := 517) rfl (tgt := 549) (by decide) ?_
      exact law_t1 (Ex := E7_raid) (Em := E8_raid) hx hb hml hown hK hX hbl hL hc hl hi4 hR hH dl_17 (by decide) rfl rfl ⟨rfl, by decide, rfl, rfl⟩ ⟨rfl, by decide, rfl, rfl⟩ (fun rot Mm Lm Mx Lx hR => (st_raid hn hR _).toB) back
    | 18, _ =>
      refine lv_tableIn hx hb (dl_head.at 21 rfl) (by decide) (by decide) (off := 540) rfl (tgt := 572) (by decide) ?_
      exact law_t3 (Ex := E7_odds) (Em := E8_odds) hx hb hml hown hK hX hbl hL hc hl hi4 hR hH dl_18 (by decide) rfl rfl ⟨rfl, by decide, rfl, rfl⟩ ⟨rfl, by decide, rfl, rfl⟩ (fun rot Mm Lm Mx Lx hR => (st_odds hn hR _ _ _).toP.toB) back
    | 19, _ =>
      refine lv_tableIn hx hb (dl_head.at 21 rfl) (by decide) (by decide) (off := 583) rfl (tgt := 615) (by decide) ?_
      exact law_t1 (Ex := E7_won) (Em := E8_won) hx hb hml hown hK hX hbl hL hc hl hi4 hR hH dl_19 (by decide) rfl rfl ⟨rfl, by decide, rfl, rfl⟩ ⟨rfl, by decide, rfl, rfl⟩ (fun rot Mm Lm Mx Lx hR => (st_won hR _).toP.toB) back
    | 20, _ =>
      refine lv_tableIn hx hb (dl_head.at 21 rfl) (by decide) (by decide) (off := 606) rfl (tgt := 638) (by decide) ?_
      exact law_t1 (Ex := E7_split) (Em := E8_split) hx hb hml hown hK hX hbl hL hc hl hi4 hR hH dl_20 (by decide) rfl rfl ⟨rfl, by decide, rfl, rfl⟩ ⟨rfl, by decide, rfl, rfl⟩ (fun rot Mm Lm Mx Lx hR => (st_splitC hR _).toP.toB) back
    | 21, _ =>
      refine lv_tableIn hx hb (dl_head.at 21 rfl) (by decide) (by decide) (off := 629) rfl (tgt := 661) (by decide) ?_
      exact law_t1 (Ex := E7_band) (Em := E8_band) hx hb hml hown hK hX hbl hL hc hl hi4 hR hH dl_21 (by decide) rfl rfl ⟨rfl, by decide, rfl, rfl⟩ ⟨rfl, by decide, rfl, rfl⟩ (fun rot Mm Lm Mx Lx hR => (st_band hR _).toP.toB) back
    | 22, _ =>
      refine lv_tableIn hx hb (dl_head.at 21 rfl) (by decide) (by decide) (off := 652) rfl (tgt := 684) (by decide) ?_
      exact law_t2 (Ex := E7_saw) (Em := E8_saw) hx hb hml hown hK hX hbl hL hc hl hi4 hR hH dl_22 (by decide) rfl rfl ⟨rfl, by decide, rfl, rfl⟩ ⟨rfl, by decide, rfl, rfl⟩ (fun rot Mm Lm Mx Lx hR => (st_saw hR _ _).toP.toB) back
    | 23, _ =>
      refine lv_tableIn hx hb (dl_head.at 21 rfl) (by decide) (by decide) (off := 685) rfl (tgt := 717) (by decide) ?_
      exact law_t0 (Ex := E7_forget) (Em := E8_forget) hx hb hml hown hK hX hbl hL hc hl hi4 hR hH dl_23 (by decide) rfl rfl ⟨rfl, by decide, rfl, rfl⟩ ⟨rfl, by decide, rfl, rfl⟩ (fun rot Mm Lm Mx Lx hR => (st_forget hR).toP.toB) back
    | 24, _ =>
      refine lv_tableIn hx hb (dl_head.at 21 rfl) (by decide) (by decide) (off := 698) rfl (tgt := 730) (by decide) ?_
      exact law_t0 (Ex := E7_keen) (Em := E8_keen) hx hb hml hown hK hX hbl hL hc hl hi4 hR hH dl_24 (by decide) rfl rfl ⟨rfl, by decide, rfl, rfl⟩ ⟨rfl, by decide, rfl, rfl⟩ (fun rot Mm Lm Mx Lx hR => (st_keen hR).toP.toB) back
    | 25, _ =>
      refine lv_tableIn hx hb (dl_head.at 21 rfl) (by decide) (by decide) (off := 711) rfl (tgt := 743) (by decide) ?_
      exact law_t2 (Ex := E7_mark) (Em := E8_mark) hx hb hml hown hK hX hbl hL hc hl hi4 hR hH dl_25 (by decide) rfl rfl ⟨rfl, by decide, rfl, rfl⟩ ⟨rfl, by decide, rfl, rfl⟩ (fun rot Mm Lm Mx Lx hR => (st_mark hR _ _).toP.toB) back
    | 26, _ =>
      refine lv_tableIn hx hb (dl_head.at 21 rfl) (by decide) (by decide) (off := 744) rfl (tgt := 776) (by decide) ?_
      exact law_t1 (Ex := E7_keep) (Em := E8_keep) hx hb hml hown hK hX hbl hL hc hl hi4 hR hH dl_26 (by decide) rfl rfl ⟨rfl, by decide, rfl, rfl⟩ ⟨rfl, by decide, rfl, rfl⟩ (fun rot Mm Lm Mx Lx hR => (st_keep hR _).toP.toB) back
    | 27, _ =>
      refine lv_tableIn hx hb (dl_head.at 21 rfl) (by decide) (by decide) (off := 767) rfl (tgt := 799) (by decide) ?_
      exact law_t1 (Ex := E7_back) (Em := E8_back) hx hb hml hown hK hX hbl hL hc hl hi4 hR hH dl_27 (by decide) rfl rfl ⟨rfl, by decide, rfl, rfl⟩ ⟨rfl, by decide, rfl, rfl⟩ (fun rot Mm Lm Mx Lx hR => (st_back hR _).toP.toB) back
    | 28, _ =>
      refine lv_tableIn hx hb (dl_head.at 21 rfl) (by decide) (by decide) (off := 790) rfl (tgt := 822) (by decide) ?_
      exact law_t1 (Ex := E7_count) (Em := E8_count) hx hb hml hown hK hX hbl hL hc hl hi4 hR hH dl_28 (by decide) rfl rfl ⟨rfl, by decide, rfl, rfl⟩ ⟨rfl, by decide, rfl, rfl⟩ (fun rot Mm Lm Mx Lx hR => (st_count hR _).toP.toB) back
    | 29, _ =>
      refine lv_tableIn hx hb (dl_head.at 21 rfl) (by decide) (by decide) (off := 813) rfl (tgt := 845) (by decide) ?_
      exact law_tL (Ex := E7_trace) (Em := E8_trace) hx hb hml hown hK hX hbl hL hc hl hi4 hR hH dl_29 (by decide) rfl rfl ⟨rfl, by decide, rfl, rfl⟩ ⟨rfl, by decide, rfl, rfl⟩ (fun rot Mm Lm Mx Lx hR => (st_trace hR).toG) back
    | 30, _ =>
      refine lv_tableOut hx hb (dl_head.at 21 rfl) (by decide) (tgt := 859) (by decide) ?_
      exact back S M LL H locs (LRel.next hR) hH
    | 31, _ =>
      refine lv_tableOut hx hb (dl_head.at 21 rfl) (by decide) (tgt := 859) (by decide) ?_
      exact back S M LL H locs (LRel.next hR) hH
    | j + 32, hj => exact absurd hj (by omega)
end LO
