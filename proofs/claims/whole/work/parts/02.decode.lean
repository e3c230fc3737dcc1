/-- what a row of a method's table must be -/
def sw_ok (pc : Nat) (i : Instr) (tgt : Nat) (sw : List (Int32 × Nat)) : Bool := match i with
  | .goto off => decide ((pc : Int) + off = (tgt : Int))
  | .ifCond _ off => decide ((pc : Int) + off = (tgt : Int))
  | .if_icmp _ off => decide ((pc : Int) + off = (tgt : Int))
  | .ifnull off => decide ((pc : Int) + off = (tgt : Int))
  | .ifnonnull off => decide ((pc : Int) + off = (tgt : Int))
  | .tableswitch dflt lo hi offs => decide ((pc : Int) + dflt = (tgt : Int)) && decide (sw.map (fun (q : Int32 × Nat) => ((q.1.toInt, (q.2 : Int) - (pc : Int)) : Int × Int)) = (List.range offs.size).map (fun (j : Nat) => ((lo + (j : Int), (offs[j]?).getD 0) : Int × Int))) && decide (hi = lo + (offs.size : Int) - 1)
  | .lookupswitch dflt ps => decide ((pc : Int) + dflt = (tgt : Int)) && decide (sw.map (fun q => (q.1.toInt, (q.2 : Int) - (pc : Int))) = ps.toList) && (ps.toList.zip (ps.toList.drop 1)).all (fun (a, next) => a.1 < next.1)
  | _ => true
/-- an instruction's length, 0 for switches -/
def ilen (i : Instr) : Nat := match i with
  | .bipush _ | .iload _ | .istore _ | .ldc _ | .newarray _ | .aload _ | .astore _ => 2
  | .anewarray _ | .getfield _ | .goto _ | .ifCond _ _ | .if_icmp _ _ | .ifnonnull _ | .ifnull _ | .iinc _ _ | .invokevirtual _ | .invokespecial _ | .invokestatic _ | .ldc2_w _ | .ldc_w _ | .new _ | .putfield _ | .sipush _ => 3
  | .tableswitch _ _ _ _ | .lookupswitch _ _ => 0
  | _ => 1
def cv_ok (i : Instr) (cz : Int32) : Bool := match i with
  | .iconst v => decide (Int32.ofInt v = cz)
  | .bipush v => decide ((Int8.ofInt v).toInt32 = cz)
  | .sipush v => decide ((Int16.ofInt v).toInt32 = cz)
  | .iinc _ v => decide (Int32.ofInt v = cz)
  | _ => true
def ck_row (E : ME) (pc : Nat) : Bool := match mI E pc with
  | none => true
  | some (i, nx, tg, cz) => decide (decode (mB E) pc = .ok (i, nx - pc)) && (Nat.beq (ilen i) 0 || Nat.beq (pc + ilen i) nx) && sw_ok pc i tg (mW E pc) && cv_ok i cz
def ck_all (E : ME) (n : Nat) : Bool := (List.range n).all (ck_row E)
/-- a method's table is its code's -/
def okE (E : ME) : Prop := tb_E E = true ∧ ∀ pc i nx tg cz, mI E pc = some (i, nx, tg, cz) → decode (mB E) pc = .ok (i, nx - pc) ∧ (ilen i = 0 ∨ pc + ilen i = nx) ∧ sw_ok pc i tg (mW E pc) = true ∧ cv_ok i cz = true
theorem okE_of {E : ME} {n : Nat} (h0 : tb_E E = true) (h : ck_all E n = true) (hn : ∀ pc, n ≤ pc → mI E pc = none) : okE E := by
  refine ⟨h0, fun pc i nx tg cz hi => ?_⟩
  rcases Nat.lt_or_ge pc n with hl | hl
  · have := List.all_eq_true.mp h pc (List.mem_range.mpr hl)
    unfold ck_row at this
    rw [hi] at this
    simp only [Bool.and_eq_true, Bool.or_eq_true, decide_eq_true_eq, Nat.beq_eq] at this
    exact ⟨this.1.1.1, this.1.1.2, this.1.2, this.2⟩
  · rw [hn pc hl] at hi; cases hi
theorem bif_none {α : Type} {pc n : Nat} {x : Option α} (h : n ≤ pc) : (bif Nat.blt pc n then x else none) = none := by
  have : Nat.blt pc n = false := by
    cases hb : Nat.blt pc n with
    | false => rfl
    | true => rw [Nat.blt_eq] at hb; omega
  rw [this]; rfl
theorem ok0_give : okE E0_give := sorry
theorem ok0_init : okE E0_init := sorry
theorem ok0_reckon : okE E0_reckon := sorry
theorem ok0_weigh : okE E0_weigh := sorry
theorem ok1_become : okE E1_become := sorry
theorem ok1_begin : okE E1_begin := sorry
theorem ok1_dropOldest : okE E1_dropOldest := sorry
theorem ok1_init : okE E1_init := sorry
theorem ok1_remember : okE E1_remember := sorry
theorem ok1_stepBack : okE E1_stepBack := sorry
theorem ok2_begin : okE E2_begin := sorry
theorem ok2_copy : okE E2_copy := sorry
theorem ok2_hasAboard : okE E2_hasAboard := sorry
theorem ok2_init : okE E2_init := sorry
theorem ok3_chaseNext : okE E3_chaseNext := sorry
theorem ok3_init : okE E3_init := sorry
theorem ok3_reckon : okE E3_reckon := sorry
theorem ok3_weigh : okE E3_weigh := sorry
theorem ok4_append : okE E4_append := sorry
theorem ok4_init : okE E4_init := sorry
theorem ok4_nextToken : okE E4_nextToken := sorry
theorem ok4_readHand : okE E4_readHand := sorry
theorem ok4_readInto : okE E4_readInto := sorry
theorem ok4_readItem : okE E4_readItem := sorry
theorem ok4_readLiking : okE E4_readLiking := sorry
theorem ok4_readNumber : okE E4_readNumber := sorry
theorem ok4_readPiece : okE E4_readPiece := sorry
theorem ok4_readShip : okE E4_readShip := sorry
theorem ok4_readStop : okE E4_readStop := sorry
theorem ok4_readWound : okE E4_readWound := sorry
theorem ok4_sortAt : okE E4_sortAt := sorry
theorem ok4_weighNumber : okE E4_weighNumber := sorry
theorem ok5_init : okE E5_init := sorry
theorem ok5_payWounds : okE E5_payWounds := sorry
theorem ok5_reckon : okE E5_reckon := sorry
theorem ok6_init : okE E6_init := sorry
theorem ok6_wipe : okE E6_wipe := sorry
theorem ok7_allParts : okE E7_allParts := sorry
theorem ok7_allStay : okE E7_allStay := sorry
theorem ok7_articles : okE E7_articles := sorry
theorem ok7_asBoy : okE E7_asBoy := sorry
theorem ok7_asCarpenter : okE E7_asCarpenter := sorry
theorem ok7_asCook : okE E7_asCook := sorry
theorem ok7_asHand : okE E7_asHand := sorry
theorem ok7_asMusician : okE E7_asMusician := sorry
theorem ok7_asSick : okE E7_asSick := sorry
theorem ok7_back : okE E7_back := sorry
theorem ok7_band : okE E7_band := sorry
theorem ok7_chases : okE E7_chases := sorry
theorem ok7_clear : okE E7_clear := sorry
theorem ok7_commonDivisor : okE E7_commonDivisor := sorry
theorem ok7_count : okE E7_count := sorry
theorem ok7_deal : okE E7_deal := sorry
theorem ok7_due : okE E7_due := sorry
theorem ok7_finds : okE E7_finds := sorry
theorem ok7_forceOf : okE E7_forceOf := sorry
theorem ok7_forget : okE E7_forget := sorry
theorem ok7_givePistol : okE E7_givePistol := sorry
theorem ok7_hand : okE E7_hand := sorry
theorem ok7_hides : okE E7_hides := sorry
theorem ok7_holds : okE E7_holds := sorry
theorem ok7_imageOf : okE E7_imageOf := sorry
theorem ok7_init : okE E7_init := sorry
theorem ok7_isHand : okE E7_isHand := sorry
theorem ok7_isIn : okE E7_isIn := sorry
theorem ok7_isPiece : okE E7_isPiece := sorry
theorem ok7_isShip : okE E7_isShip := sorry
theorem ok7_keen : okE E7_keen := sorry
theorem ok7_keep : okE E7_keep := sorry
theorem ok7_lacking : okE E7_lacking := sorry
theorem ok7_likersOf : okE E7_likersOf := sorry
theorem ok7_lowestOf : okE E7_lowestOf := sorry
theorem ok7_mark : okE E7_mark := sorry
theorem ok7_maroons : okE E7_maroons := sorry
theorem ok7_now : okE E7_now := sorry
theorem ok7_odds : okE E7_odds := sorry
theorem ok7_partOf : okE E7_partOf := sorry
theorem ok7_piece : okE E7_piece := sorry
theorem ok7_power : okE E7_power := sorry
theorem ok7_raid : okE E7_raid := sorry
theorem ok7_rivals : okE E7_rivals := sorry
theorem ok7_saw : okE E7_saw := sorry
theorem ok7_shares : okE E7_shares := sorry
theorem ok7_ship : okE E7_ship := sorry
theorem ok7_split : okE E7_split := sorry
theorem ok7_strengthOf : okE E7_strengthOf := sorry
theorem ok7_trace : okE E7_trace := sorry
theorem ok7_type : okE E7_type := sorry
theorem ok7_undo : okE E7_undo := sorry
theorem ok7_votes : okE E7_votes := sorry
theorem ok7_weakestOf : okE E7_weakestOf := sorry
theorem ok7_won : okE E7_won := sorry
theorem ok7_woundWeakest : okE E7_woundWeakest := sorry
theorem ok8_articles : okE E8_articles := sorry
theorem ok8_back : okE E8_back := sorry
theorem ok8_band : okE E8_band := sorry
theorem ok8_chase : okE E8_chase := sorry
theorem ok8_chases : okE E8_chases := sorry
theorem ok8_clear : okE E8_clear := sorry
theorem ok8_count : okE E8_count := sorry
theorem ok8_deal : okE E8_deal := sorry
theorem ok8_due : okE E8_due := sorry
theorem ok8_dueOf : okE E8_dueOf := sorry
theorem ok8_farBy : okE E8_farBy := sorry
theorem ok8_fightOf : okE E8_fightOf := sorry
theorem ok8_finds : okE E8_finds := sorry
theorem ok8_firstOf : okE E8_firstOf := sorry
theorem ok8_force : okE E8_force := sorry
theorem ok8_forget : okE E8_forget := sorry
theorem ok8_hand : okE E8_hand := sorry
theorem ok8_here : okE E8_here := sorry
theorem ok8_hides : okE E8_hides := sorry
theorem ok8_holds : okE E8_holds := sorry
theorem ok8_in : okE E8_in := sorry
theorem ok8_init : okE E8_init := sorry
theorem ok8_isAboard : okE E8_isAboard := sorry
theorem ok8_isHand : okE E8_isHand := sorry
theorem ok8_isShip : okE E8_isShip := sorry
theorem ok8_isSplit : okE E8_isSplit := sorry
theorem ok8_isVoted : okE E8_isVoted := sorry
theorem ok8_keen : okE E8_keen := sorry
theorem ok8_keep : okE E8_keep := sorry
theorem ok8_know : okE E8_know := sorry
theorem ok8_manyOf : okE E8_manyOf := sorry
theorem ok8_mark : okE E8_mark := sorry
theorem ok8_maroons : okE E8_maroons := sorry
theorem ok8_mayBe : okE E8_mayBe := sorry
theorem ok8_nextRow : okE E8_nextRow := sorry
theorem ok8_now : okE E8_now := sorry
theorem ok8_number : okE E8_number := sorry
theorem ok8_odds : okE E8_odds := sorry
theorem ok8_part : okE E8_part := sorry
theorem ok8_parts : okE E8_parts := sorry
theorem ok8_piece : okE E8_piece := sorry
theorem ok8_plain : okE E8_plain := sorry
theorem ok8_raid : okE E8_raid := sorry
theorem ok8_readRow : okE E8_readRow := sorry
theorem ok8_rivals : okE E8_rivals := sorry
theorem ok8_saw : okE E8_saw := sorry
theorem ok8_shareAll : okE E8_shareAll := sorry
theorem ok8_shares : okE E8_shares := sorry
theorem ok8_ship : okE E8_ship := sorry
theorem ok8_split : okE E8_split := sorry
theorem ok8_step : okE E8_step := sorry
theorem ok8_take : okE E8_take := sorry
theorem ok8_takeDraft : okE E8_takeDraft := sorry
theorem ok8_trace : okE E8_trace := sorry
theorem ok8_type : okE E8_type := sorry
theorem ok8_undo : okE E8_undo := sorry
theorem ok8_voices : okE E8_voices := sorry
theorem ok8_votes : okE E8_votes := sorry
theorem ok8_wants : okE E8_wants := sorry
theorem ok8_won : okE E8_won := sorry
theorem ok10_bitCount : okE E10_bitCount := sorry
