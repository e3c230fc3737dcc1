/-! ===== the constructors ===== -/
def zAll (M : AM) (L : AL) : Prop := (∀ k j, M k j = 0) ∧ ∀ k j, L k j = 0
/-- a constructor, told in a world of its own, elsewhere -/
theorem cw_shift {E : ME} {d mc : Nat} {c0 : Sh} {P X Y : AS} {M : AM} {L : AL} {PM : AM → AL → Prop} {Q : QT} (hc : shm (fun i => P.length + i) c0 = c0) (h : CW E d mc [.ref 0] [c0] (fun k => M (P.length + k)) (fun k => L (P.length + k)) (fun r S' M' L' => r = none ∧ S' = X ∧ PM M' L')) (hX : X.map (shm (fun i => P.length + i)) = Y) (hX1 : 1 ≤ X.length)
    (hq : ∀ Mf Lf, PM (fun k => Mf (P.length + k)) (fun k => Lf (P.length + k)) → (∀ k, k < P.length → Mf k = M k ∧ Lf k = L k) → Q none (P ++ Y) Mf Lf) : CW E d mc [.ref P.length] (P ++ [c0]) M L Q := by
  have := cw_frame (E := E) (d := d) (mc := mc) (as := [.ref 0]) (Sc := [c0]) (S := P ++ [c0]) (M := M) (L := L) (Q := Q) (fun i => P.length + i) (fun i j e => by omega) (fun j => by rw [List.length_append]; show P.length + (1 + j) = P.length + 1 + j; omega) (fun i sh hs => ?_) h ?_
  · exact this
  · have hi : i = 0 := by
      have := (List.getElem?_eq_some_iff.mp hs).1
      have l1 : [c0].length = 1 := rfl
      omega
    subst hi
    have e1 : sh = c0 := (Option.some.inj hs).symm
    subst e1
    refine ⟨sh, ?_, by rw [hc]; exact eqC.refl sh⟩
    show (P ++ [sh])[P.length + 0]? = some sh
    rw [Nat.add_zero, List.getElem?_append_right (Nat.le_refl _), Nat.sub_self]
    rfl
  · rintro r S' M' L' Sf Mf Lf ⟨rfl, rfl, g⟩ h1 h2 h3 h4 h5 h6
    have l1 : [c0].length = 1 := rfl
    have eS : Sf = P ++ Y := by
      rw [← hX]
      apply List.ext_getElem?
      intro k
      by_cases hk : k < P.length
      · rw [List.getElem?_append_left hk, h4 k (by rw [List.length_append]; omega) (fun i => by omega), List.getElem?_append_left hk]
      · rw [List.getElem?_append_right (by omega), List.getElem?_map]
        obtain ⟨i, rfl⟩ : ∃ i, k = P.length + i := ⟨k - P.length, by omega⟩
        rw [Nat.add_sub_cancel_left]
        cases hs : S'[i]? with
        | some sh => exact h3 i sh hs
        | none =>
          have : S'.length ≤ i := List.getElem?_eq_none_iff.mp hs
          exact List.getElem?_eq_none (by rw [List.length_append] at h2; omega)
    rw [eS]
    refine hq Mf Lf ?_ (fun k hk => h6 k (fun i => by omega))
    rw [show (fun k => Mf (P.length + k)) = M' from funext fun k => (h5 k).1, show (fun k => Lf (P.length + k)) = L' from funext fun k => (h5 k).2]
    exact g
section IN
variable {d : Nat} {M : AM} {L : AL}
theorem ci_mom (hz : zAll M L) : CW E2_init (d + 1) 5 [.ref 0] [.inl (2, dfl 2)] M L (fun r S' M' L' => r = none ∧ S' = momS 0 ∧ ((∀ k j, M' k j = if k = 0 ∧ j = 1 then -9 else 0) ∧ ∀ k j, L' k j = 0)) := by
  obtain ⟨z1, z2⟩ := hz
  refine cw_ent ok2_init noStop 90 ?_
  refine ⟨⟨fun j => z1 1 j, fun j => z2 1 j⟩, ?_⟩
  refine ⟨⟨fun j => z1 2 j, fun j => z2 2 j⟩, ?_⟩
  refine ⟨⟨fun j => z1 3 j, fun j => z2 3 j⟩, ?_⟩
  refine ⟨⟨fun j => z1 4 j, fun j => z2 4 j⟩, ?_⟩
  refine ⟨⟨fun j => z1 5 j, fun j => z2 5 j⟩, ?_⟩
  refine ⟨rfl, rfl, fun k j => ?_, z2⟩
  rw [um_app, um_app, um_app, um_app, um_app, z1]
  (repeat' split) <;> first | rfl | (exfalso; omega)
def shaS (l : Nat) : AS := [.inl (5, [.ref (l + 1), .ref (l + 2), .int 0, .int 0]), .inr (.int, 6, fun _ => none), .inr (.int, 6, fun _ => none)]
def dealS (l : Nat) : AS := [.inl (0, [.ref (l + 1), .int 0, .ref (l + 2), .ref (l + 3), .int 0]), .inr (.int, 5, fun _ => none), .inr (.int, 5, fun _ => none), .inr (.int, 6, fun _ => none)]
def raidS (l : Nat) : AS := [.inl (3, [.ref (l + 1), .int 0, .int 0, .ref (l + 2), .int 0, .int 0]), .inr (.int, 5, fun _ => none), .inr (.int, 5, fun _ => none)]
def readS (l : Nat) : AS := [.inl (4, [.ref (l + 1), .int 0, .int 0, .int 0, .int 0, .int 0, .int 0]), .inr (.int, 150, fun _ => none)]
def toldS (l : Nat) : AS := [.inl (6, [.int 0, .int 0, .int 0, .int 0, .int 0, .ref (l + 1), .ref (l + 2), .ref (l + 3), .ref (l + 4), .ref (l + 5), .ref (l + 6), .ref (l + 7)]), .inr (.int, 6, fun _ => none), .inr (.int, 6, fun _ => none), .inr (.int, 6, fun _ => none), .inr (.int, 6, fun _ => none), .inr (.int, 5, fun _ => none), .inr (.int, 5, fun _ => none), .inr (.int, 5, fun _ => none)]
theorem ci_sha (hz : zAll M L) : CW E5_init (d + 1) 2 [.ref 0] [.inl (5, dfl 5)] M L (fun r S' M' L' => r = none ∧ S' = shaS 0 ∧ ((∀ k j, M' k j = 0) ∧ ∀ k j, L' k j = 0)) := by
  obtain ⟨z1, z2⟩ := hz
  refine cw_ent ok5_init noStop 90 ?_
  refine ⟨⟨fun j => z1 1 j, fun j => z2 1 j⟩, ?_⟩
  refine ⟨⟨fun j => z1 2 j, fun j => z2 2 j⟩, ?_⟩
  refine ⟨rfl, rfl, fun k j => ?_, z2⟩
  rw [um_app, um_app, z1]
  (repeat' split) <;> first | rfl | (exfalso; omega)
theorem ci_deal (hz : zAll M L) : CW E0_init (d + 1) 3 [.ref 0] [.inl (0, dfl 0)] M L (fun r S' M' L' => r = none ∧ S' = dealS 0 ∧ ((∀ k j, M' k j = 0) ∧ ∀ k j, L' k j = 0)) := by
  obtain ⟨z1, z2⟩ := hz
  refine cw_ent ok0_init noStop 90 ?_
  refine ⟨⟨fun j => z1 1 j, fun j => z2 1 j⟩, ?_⟩
  refine ⟨⟨fun j => z1 2 j, fun j => z2 2 j⟩, ?_⟩
  refine ⟨⟨fun j => z1 3 j, fun j => z2 3 j⟩, ?_⟩
  refine ⟨rfl, rfl, fun k j => ?_, z2⟩
  rw [um_app, um_app, z1]
  (repeat' split) <;> first | rfl | (exfalso; omega)
theorem ci_raid (hz : zAll M L) : CW E3_init (d + 1) 2 [.ref 0] [.inl (3, dfl 3)] M L (fun r S' M' L' => r = none ∧ S' = raidS 0 ∧ ((∀ k j, M' k j = 0) ∧ ∀ k j, L' k j = 0)) := by
  obtain ⟨z1, z2⟩ := hz
  refine cw_ent ok3_init noStop 90 ?_
  refine ⟨⟨fun j => z1 1 j, fun j => z2 1 j⟩, ?_⟩
  refine ⟨⟨fun j => z1 2 j, fun j => z2 2 j⟩, ?_⟩
  refine ⟨rfl, rfl, fun k j => ?_, z2⟩
  rw [um_app, um_app, um_app, um_app, z1]
  (repeat' split) <;> first | rfl | (exfalso; omega)
theorem ci_read (hz : zAll M L) : CW E4_init (d + 1) 1 [.ref 0] [.inl (4, dfl 4)] M L (fun r S' M' L' => r = none ∧ S' = readS 0 ∧ ((∀ k j, M' k j = 0) ∧ ∀ k j, L' k j = 0)) := by
  obtain ⟨z1, z2⟩ := hz
  refine cw_ent ok4_init noStop 90 ?_
  refine ⟨⟨fun j => z1 1 j, fun j => z2 1 j⟩, ?_⟩
  refine ⟨rfl, rfl, fun k j => ?_, z2⟩
  rw [um_app, um_app, um_app, um_app, um_app, um_app, z1]
  (repeat' split) <;> first | rfl | (exfalso; omega)
theorem ci_told (hz : zAll M L) : CW E6_init (d + 1) 7 [.ref 0] [.inl (6, dfl 6)] M L (fun r S' M' L' => r = none ∧ S' = toldS 0 ∧ ((∀ k j, M' k j = if k = 0 ∧ j = 3 then 10 else 0) ∧ ∀ k j, L' k j = 0)) := by
  obtain ⟨z1, z2⟩ := hz
  refine cw_ent ok6_init noStop 90 ?_
  refine ⟨⟨fun j => z1 1 j, fun j => z2 1 j⟩, ?_⟩
  refine ⟨⟨fun j => z1 2 j, fun j => z2 2 j⟩, ?_⟩
  refine ⟨⟨fun j => z1 3 j, fun j => z2 3 j⟩, ?_⟩
  refine ⟨⟨fun j => z1 4 j, fun j => z2 4 j⟩, ?_⟩
  refine ⟨⟨fun j => z1 5 j, fun j => z2 5 j⟩, ?_⟩
  refine ⟨⟨fun j => z1 6 j, fun j => z2 6 j⟩, ?_⟩
  refine ⟨⟨fun j => z1 7 j, fun j => z2 7 j⟩, ?_⟩
  refine ⟨rfl, rfl, fun k j => ?_, z2⟩
  rw [um_app, um_app, um_app, um_app, um_app, z1]
  (repeat' split) <;> first | rfl | (exfalso; omega)
end IN
theorem momS_sh (k : Nat) : (momS 0).map (shm (fun i => k + i)) = momS k := rfl
theorem shaS_sh (k : Nat) : (shaS 0).map (shm (fun i => k + i)) = shaS k := rfl
theorem dealS_sh (k : Nat) : (dealS 0).map (shm (fun i => k + i)) = dealS k := rfl
theorem raidS_sh (k : Nat) : (raidS 0).map (shm (fun i => k + i)) = raidS k := rfl
theorem readS_sh (k : Nat) : (readS 0).map (shm (fun i => k + i)) = readS k := rfl
theorem toldS_sh (k : Nat) : (toldS 0).map (shm (fun i => k + i)) = toldS k := rfl
