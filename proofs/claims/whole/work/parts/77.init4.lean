/-! ===== the model's constructor ===== -/
def PMm (M' : AM) (L' : AL) : Prop := (∃ M1, TDm D0 M1 M') ∧ M' 0 2 = 0 ∧ L' 0 0 = 0
set_option maxRecDepth 100000 in
theorem ci_mod2 {d n0 : Nat} {Q : QT} {M : AM} {L : AL} (hz : zAll M L) (hq : ∀ M', PMm M' L → Q none Sm M' L) : AW E8_init (d + 1) 20 n0 Q 159 [some (.ref 0)] [] Sm M L 20 := by
  obtain ⟨z1, z2⟩ := hz
  refine aw_run ok8_init noStop 20 ?_
  refine cm_plain (fun M1 h1 h2 h3 => ?_)
  refine cm_takeDraft DV0 h3 (fun M2 hT => ?_)
  refine hq M2 ⟨⟨M1, hT⟩, ?_, z2 0 0⟩
  obtain ⟨-, -, -, -, -, -, -, -, -, -, zo, -⟩ := hT
  rw [zo 2 (by decide), h2 2 (by decide)]
  exact z1 0 2
set_option maxRecDepth 100000 in
theorem ci_mod {d : Nat} {M : AM} {L : AL} (hz : zAll M L) : CW E8_init (d + 1) 20 [.ref 0] [.inl (8, dfl 8)] M L (fun r S' M' L' => r = none ∧ S' = Sm ∧ PMm M' L') := by
  obtain ⟨z1, z2⟩ := id hz
  refine cw_ent ok8_init (at1 159) 200 ?_
  refine ⟨⟨fun j => z1 1 j, fun j => z2 1 j⟩, ?_⟩
  refine ⟨⟨fun j => z1 2 j, fun j => z2 2 j⟩, ?_⟩
  refine ⟨⟨fun j => z1 3 j, fun j => z2 3 j⟩, ?_⟩
  refine ⟨⟨fun j => z1 4 j, fun j => z2 4 j⟩, ?_⟩
  refine ⟨⟨fun j => z1 5 j, fun j => z2 5 j⟩, ?_⟩
  refine ⟨⟨fun j => z1 6 j, fun j => z2 6 j⟩, ?_⟩
  refine ⟨⟨fun j => z1 7 j, fun j => z2 7 j⟩, ?_⟩
  refine ⟨⟨fun j => z1 8 j, fun j => z2 8 j⟩, ?_⟩
  refine ⟨⟨fun j => z1 9 j, fun j => z2 9 j⟩, ?_⟩
  refine ⟨⟨fun j => z1 10 j, fun j => z2 10 j⟩, ?_⟩
  refine ⟨⟨fun j => z1 11 j, fun j => z2 11 j⟩, ?_⟩
  refine ⟨⟨fun j => z1 12 j, fun j => z2 12 j⟩, ?_⟩
  refine ⟨⟨fun j => z1 13 j, fun j => z2 13 j⟩, ?_⟩
  refine ⟨⟨fun j => z1 14 j, fun j => z2 14 j⟩, ?_⟩
  refine ⟨⟨fun j => z1 15 j, fun j => z2 15 j⟩, ?_⟩
  refine ⟨⟨fun j => z1 16 j, fun j => z2 16 j⟩, ?_⟩
  refine ⟨⟨fun j => z1 17 j, fun j => z2 17 j⟩, ?_⟩
  refine ⟨⟨fun j => z1 18 j, fun j => z2 18 j⟩, ?_⟩
  refine ⟨⟨fun j => z1 19 j, fun j => z2 19 j⟩, ?_⟩
  refine ⟨⟨fun j => z1 20 j, fun j => z2 20 j⟩, ?_⟩
  exact ci_mod2 (Q := fun r S' M' L' => r = none ∧ S' = Sm ∧ PMm M' L') hz (fun M' h => ⟨rfl, rfl, h⟩)
