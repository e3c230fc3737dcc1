/-! ===== deal: the search, as numbers ===== -/
def ad (x y : Nat) : Nat := (x - y) + (y - x)
theorem ad_pos {x y : Nat} (hx : x < 2 ^ 30) (hy : y < 2 ^ 30) (h : 0 ≤ nI x - nI y) : nI x - nI y = nI (ad x y) := by
  rw [Int32.le_iff_toInt_le, pk_sub_toInt hx hy] at h
  have h0 : (0 : Int32).toInt = 0 := by decide
  have : y ≤ x := by omega
  rw [pk_sub this, ad, show y - x = 0 by omega]
  rfl
theorem ad_neg {x y : Nat} (hx : x < 2 ^ 30) (hy : y < 2 ^ 30) (h : ¬ 0 ≤ nI x - nI y) : - (nI x - nI y) = nI (ad x y) := by
  rw [Int32.le_iff_toInt_le, pk_sub_toInt hx hy] at h
  have h0 : (0 : Int32).toInt = 0 := by decide
  have : x ≤ y := by omega
  rw [Int32.neg_sub, pk_sub this, ad, show x - y = 0 by omega, Nat.zero_add]
def dsN (P al : Nat) (pa g : Nat → Nat) : Nat → Nat
  | 0 => 0
  | i + 1 => max (dsN P al pa g i) (ad (g i * P) (pa i * al))
def gvN (wo : Nat → Nat) : Nat → Nat → Nat → Nat
  | 0, _, _ => 0
  | m + 1, cd, h => gvN wo m (cd / 6) h + (if h = cd % 6 then wo m else 0)
def okN (ab : Nat → Bool) : Nat → Nat → Bool
  | 0, _ => true
  | m + 1, cd => okN ab m (cd / 6) && ab (cd % 6)
def dgN : Nat → Nat → Nat → Nat
  | 0, _, _ => 0
  | m + 1, cd, p => if p = m then cd % 6 else dgN m (cd / 6) p
def upS (D : Nat → Nat) (i : Nat) (s : Nat × Nat) : Nat × Nat := if D i < s.1 then (D i, i) else s
def fld (F : Nat → Nat × Nat → Nat × Nat) : Nat → Nat → Nat × Nat → Nat × Nat
  | _, 0, s => s
  | lo, c + 1, s => fld F (lo + 1) c (F lo s)
def scn (ab : Nat → Bool) (D : Nat → Nat) : Nat → Nat → Nat × Nat → Nat × Nat
  | 0, cd, s => upS D cd s
  | k + 1, cd, s => fld (fun h s => if ab h then scn ab D k (6 * cd + h) s else s) 0 6 s
def linF (ab : Nat → Bool) (D : Nat → Nat) (np i : Nat) (s : Nat × Nat) : Nat × Nat := if okN ab np i then upS D i s else s
theorem fld_add (F : Nat → Nat × Nat → Nat × Nat) : ∀ a lo b s, fld F lo (a + b) s = fld F (lo + a) b (fld F lo a s)
  | 0, lo, b, s => by rw [Nat.zero_add]; rfl
  | a + 1, lo, b, s => by
    rw [show a + 1 + b = (a + b) + 1 by omega, fld, fld_add F a, fld, show lo + 1 + a = lo + (a + 1) by omega]
theorem fld_ext {F G : Nat → Nat × Nat → Nat × Nat} : ∀ c lo s, (∀ h, lo ≤ h → h < lo + c → ∀ s, F h s = G h s) → fld F lo c s = fld G lo c s
  | 0, _, _, _ => rfl
  | c + 1, lo, s, h => by
    rw [fld, fld, h lo (Nat.le_refl _) (by omega) s]
    exact fld_ext c (lo + 1) _ (fun j h1 h2 => h j (by omega) (by omega))
theorem fld_id {F : Nat → Nat × Nat → Nat × Nat} : ∀ c lo s, (∀ h, F h s = s) → fld F lo c s = s
  | 0, _, _, _ => rfl
  | c + 1, lo, s, h => by rw [fld, h lo]; exact fld_id c (lo + 1) s h
theorem okN_snoc (ab : Nat → Bool) {m cd h : Nat} (hh : h < 6) : okN ab (m + 1) (6 * cd + h) = (okN ab m cd && ab h) := by
  rw [okN, show (6 * cd + h) / 6 = cd by omega, show (6 * cd + h) % 6 = h by omega]
theorem gvN_snoc (wo : Nat → Nat) {m cd h : Nat} (hh : h < 6) (j : Nat) : gvN wo (m + 1) (6 * cd + h) j = gvN wo m cd j + (if j = h then wo m else 0) := by
  rw [gvN, show (6 * cd + h) / 6 = cd by omega, show (6 * cd + h) % 6 = h by omega]
theorem dgN_snoc {m cd h p : Nat} (hh : h < 6) : dgN (m + 1) (6 * cd + h) p = if p = m then h else dgN m cd p := by
  rw [dgN, show (6 * cd + h) / 6 = cd by omega, show (6 * cd + h) % 6 = h by omega]
theorem lin_scn (ab : Nat → Bool) (D : Nat → Nat) (np : Nat) : ∀ k m cd s, m + k = np → fld (linF ab D np) (cd * 6 ^ k) (6 ^ k) s = if okN ab m cd then scn ab D k cd s else s
  | 0, m, cd, s, e => by
    cases e
    rw [Nat.pow_zero, Nat.mul_one]; rfl
  | k + 1, m, cd, s, e => by
    have key : ∀ c lo s, fld (linF ab D np) ((6 * cd + lo) * 6 ^ k) (c * 6 ^ k) s = fld (fun h s => if okN ab (m + 1) (6 * cd + h) then scn ab D k (6 * cd + h) s else s) lo c s := by
      intro c
      induction c with
      | zero => intro lo s; rw [Nat.zero_mul]; rfl
      | succ c ih =>
        intro lo s
        rw [show (c + 1) * 6 ^ k = 6 ^ k + c * 6 ^ k by rw [Nat.succ_mul, Nat.add_comm], fld_add, lin_scn ab D np k (m + 1) (6 * cd + lo) s (by omega), fld, ← ih]
        rw [show (6 * cd + lo) * 6 ^ k + 6 ^ k = (6 * cd + (lo + 1)) * 6 ^ k by rw [← Nat.succ_mul]; rfl]
    have e1 : cd * 6 ^ (k + 1) = (6 * cd + 0) * 6 ^ k := by rw [Nat.pow_succ, Nat.add_zero, Nat.mul_comm (6 ^ k), ← Nat.mul_assoc, Nat.mul_comm cd]
    have e2 : 6 ^ (k + 1) = 6 * 6 ^ k := by rw [Nat.pow_succ, Nat.mul_comm]
    rw [e1, e2, key 6 0 s]
    by_cases z : okN ab m cd = true
    · rw [if_pos z]
      refine fld_ext 6 0 s (fun h _ h6 s => ?_)
      rw [okN_snoc ab (by omega), z, Bool.true_and]
    · rw [if_neg z]
      have z : okN ab m cd = false := by cases hz : okN ab m cd <;> simp_all
      rw [fld_ext (G := fun _ s => s) 6 0 s (fun h _ h6 s => by rw [okN_snoc ab (by omega), z, Bool.false_and]; rfl)]
      exact fld_id 6 0 s (fun _ => rfl)
theorem dsN_ge {P al : Nat} {pa g : Nat → Nat} {h : Nat} : ∀ n, h < n → ad (g h * P) (pa h * al) ≤ dsN P al pa g n
  | 0, hh => absurd hh (by omega)
  | n + 1, hh => by
    rw [dsN]
    by_cases e : h = n
    · rw [e]; exact Nat.le_max_right _ _
    · exact Nat.le_trans (dsN_ge n (by omega)) (Nat.le_max_left _ _)
theorem dsN_le {P al B : Nat} {pa g : Nat → Nat} : ∀ n, (∀ h, h < n → g h * P ≤ B ∧ pa h * al ≤ B) → dsN P al pa g n ≤ B
  | 0, _ => Nat.zero_le _
  | n + 1, hb => by
    rw [dsN]
    have h1 := dsN_le n (fun h hh => hb h (by omega))
    have h2 := hb n (by omega)
    refine Nat.max_le.mpr ⟨h1, ?_⟩
    unfold ad; omega
theorem gvN_le {wo : Nat → Nat} {B : Nat} (hw : ∀ p, wo p ≤ B) : ∀ m cd h, gvN wo m cd h ≤ m * B
  | 0, _, _ => Nat.zero_le _
  | m + 1, cd, h => by
    rw [gvN, Nat.succ_mul]
    have h1 := gvN_le hw m (cd / 6) h
    have h2 := hw m
    by_cases e : h = cd % 6
    · rw [if_pos e]; omega
    · rw [if_neg e]; omega
theorem gvN_zero {wo : Nat → Nat} {ab : Nat → Bool} {h : Nat} (hh : ab h = false) : ∀ m cd, okN ab m cd = true → gvN wo m cd h = 0
  | 0, _, _ => rfl
  | m + 1, cd, e => by
    rw [okN, Bool.and_eq_true] at e
    rw [gvN, gvN_zero hh m _ e.1, if_neg (fun y => by rw [y] at hh; rw [e.2] at hh; cases hh)]
section DL
variable {ab : Nat → Bool} {wo pa : Nat → Nat} {P al np : Nat}
/-- the distance of a whole code -/
def dD (wo pa : Nat → Nat) (P al np : Nat) (i : Nat) : Nat := dsN P al pa (gvN wo np i) 6
/-- a hand that is too far above already: nothing better lies below -/
theorem scn_stay {h : Nat} (h6 : h < 6) : ∀ k m cd s, m + k = np → s.1 + pa h * al ≤ gvN wo m cd h * P → scn ab (dD wo pa P al np) k cd s = s
  | 0, m, cd, s, e, hs => by
    cases e
    rw [scn, upS, if_neg]
    have := dsN_ge (P := P) (al := al) (pa := pa) (g := gvN wo (m + 0) cd) 6 h6
    unfold ad at this
    unfold dD
    rw [Nat.add_zero] at *
    omega
  | k + 1, m, cd, s, e, hs => by
    rw [scn, fld_ext (G := fun h s' => if h < 6 then (if ab h then scn ab (dD wo pa P al np) k (6 * cd + h) s' else s') else s') 6 0 s (fun h _ h6 s => by rw [if_pos (show h < 6 by omega)])]
    refine fld_id 6 0 s (fun j => ?_)
    by_cases j6 : j < 6
    · rw [if_pos j6]
      by_cases z : ab j = true
      · rw [if_pos z]
        refine scn_stay h6 k (m + 1) (6 * cd + j) s (by omega) ?_
        rw [gvN_snoc wo j6, Nat.add_mul]
        omega
      · rw [if_neg z]
    · rw [if_neg j6]
theorem upS_le (D : Nat → Nat) (i : Nat) (s : Nat × Nat) : (upS D i s).1 ≤ s.1 := by
  unfold upS
  by_cases z : D i < s.1
  · rw [if_pos z]; exact Nat.le_of_lt z
  · rw [if_neg z]; exact Nat.le_refl _
theorem fld_le {F : Nat → Nat × Nat → Nat × Nat} (hF : ∀ h s, (F h s).1 ≤ s.1) : ∀ c lo s, (fld F lo c s).1 ≤ s.1
  | 0, _, _ => Nat.le_refl _
  | c + 1, lo, s => Nat.le_trans (fld_le hF c _ _) (hF lo s)
theorem scn_le (D : Nat → Nat) : ∀ k cd s, (scn ab D k cd s).1 ≤ s.1
  | 0, cd, s => upS_le D cd s
  | k + 1, cd, s => by
    rw [scn]
    refine fld_le ?_ 6 0 s
    intro h s
    by_cases z : ab h = true
    · rw [if_pos z]; exact scn_le D k _ _
    · rw [if_neg z]; exact Nat.le_refl _
theorem fld_hit {F : Nat → Nat × Nat → Nat × Nat} {B h0 : Nat} (hF : ∀ h s, (F h s).1 ≤ s.1) (hB : ∀ s, (F h0 s).1 ≤ B) : ∀ c lo s, lo ≤ h0 → h0 < lo + c → (fld F lo c s).1 ≤ B
  | 0, lo, s, h1, h2 => absurd h2 (by omega)
  | c + 1, lo, s, h1, h2 => by
    rw [fld]
    by_cases e : lo = h0
    · rw [e]; exact Nat.le_trans (fld_le hF c _ _) (hB s)
    · exact fld_hit hF hB c (lo + 1) _ (by omega) (by omega)
theorem scn_hit {D : Nat → Nat} {B h0 : Nat} (h6 : h0 < 6) (hab : ab h0 = true) (hD : ∀ i, D i ≤ B) : ∀ k cd s, (scn ab D k cd s).1 ≤ B
  | 0, cd, s => by
    rw [scn, upS]
    have := hD cd
    by_cases z : D cd < s.1
    · rw [if_pos z]; exact this
    · rw [if_neg z]; omega
  | k + 1, cd, s => by
    rw [scn]
    refine fld_hit (h0 := h0) ?_ ?_ 6 0 s (by omega) (by omega)
    · intro h s
      by_cases z : ab h = true
      · rw [if_pos z]; exact scn_le D k _ _
      · rw [if_neg z]; exact Nat.le_refl _
    · intro s
      rw [if_pos hab]
      exact scn_hit h6 hab hD k _ _
end DL
def alN (wo : Nat → Nat) : Nat → Nat
  | 0 => 0
  | i + 1 => alN wo i + wo i
