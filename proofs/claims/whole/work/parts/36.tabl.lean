theorem na_sur (g : Nat → Int32) : ∃ l, g = na l := ⟨fun q => (g q).toBitVec.toNat, funext fun q => by
  apply Int32.toBitVec_inj.mp
  show _ = (Int32.ofNat _).toBitVec
  rw [Int32.toBitVec_ofNat', BitVec.ofNat_toNat, BitVec.setWidth_eq]⟩
def tbH (h : mH) (g m rr : Nat → Int32) : mH := hu (hu (hu h 83 (ia 3 g)) 80 (ia 560 m)) 81 (ia 480 rr)
theorem tb_tb (h : mH) (g m rr : Nat → Int32) (a b c : mC) : hu (hu (hu (tbH h g m rr) 83 a) 80 b) 81 c = hu (hu (hu h 83 a) 80 b) 81 c := by
  funext q
  by_cases e1 : q = 81 <;> by_cases e0 : q = 80 <;> by_cases e3 : q = 83 <;> simp [hu, tbH, e1, e0, e3]
theorem tb_83 (h : mH) (g m rr : Nat → Int32) (g' : Nat → Int32) : hu (tbH h g m rr) 83 (ia 3 g') = tbH h g' m rr := by
  funext q
  by_cases e1 : q = 81 <;> by_cases e0 : q = 80 <;> by_cases e3 : q = 83 <;> simp [hu, tbH, e1, e0, e3]
theorem tb_fr (h : mH) (g m rr : Nat → Int32) {q : Nat} (h1 : q ≠ 80) (h2 : q ≠ 81) (h3 : q ≠ 83) : tbH h g m rr q = h q := by simp [hu, tbH, h1, h2, h3]
theorem tb_80 (h : mH) (g m rr : Nat → Int32) : tbH h g m rr 80 = ia 560 m := by simp [hu, tbH]
theorem tb_81 (h : mH) (g m rr : Nat → Int32) : tbH h g m rr 81 = ia 480 rr := by simp [hu, tbH]
theorem tb_83' (h : mH) (g m rr : Nat → Int32) : tbH h g m rr 83 = ia 3 g := by simp [hu, tbH]
/-- stocks that agree on the three shapes -/
def sE (a b : Nat → Nat) : Prop := ∀ i, i < 3 → a i = b i
theorem sE_dc {a b : Nat → Nat} {x f : Nat} (e : sE a b) : ∀ t, sE (dcS a x f t) (dcS b x f t)
  | 0 => e
  | t + 1 => fun i hi => by
    unfold dcS
    by_cases z : i = shp x (f + t)
    · subst z; rw [nu_s, nu_s, sE_dc e t _ hi]
    · rw [nu_n _ _ z, nu_n _ _ z, sE_dc e t i hi]
theorem sE_bs {M : (Nat → Nat) → Nat} (hM : ∀ a b, sE a b → M a = M b) {a b : Nat → Nat} {x f : Nat} (e : sE a b) : ∀ t, bsS M a x f t = bsS M b x f t
  | 0 => by unfold bsS; rw [hM a b e]
  | t + 1 => by unfold bsS; rw [hM _ _ (sE_dc e (t + 1)), sE_bs hM e t]
theorem sE_st {a b : Nat → Nat} {x f R : Nat} (e : sE a b) : stS a x f R = stS b x f R := by
  unfold stS
  congr 1
  funext t
  rw [sE_dc e t _ (shp_lt _ _)]
theorem sE_rs {M : (Nat → Nat) → Nat} (hM : ∀ a b, sE a b → M a = M b) {a b : Nat → Nat} {x f R : Nat} (e : sE a b) : rsS M a x f R = rsS M b x f R := by
  unfold rsS; rw [sE_st e, sE_bs hM e]
/-- the strides of a stock -/
def sdS (k : Nat → Nat) : Nat → Nat := fun i => if i = 0 then (k 1 + 1) * (k 2 + 1) else if i = 1 then k 2 + 1 else 1
theorem plc_sd (st k : Nat → Nat) : plc st (sdS k) = (st 0 * (k 1 + 1) + st 1) * (k 2 + 1) + st 2 := by
  simp [plc, sdS, Nat.add_mul, Nat.mul_assoc]
theorem mx_inj {n u v u' v' : Nat} (hv : v < n) (hv' : v' < n) (e : u * n + v = u' * n + v') : u = u' ∧ v = v' := by
  have h1 : (u * n + v) / n = u := by rw [Nat.mul_comm, Nat.mul_add_div (by omega), Nat.div_eq_of_lt hv]; omega
  have h2 : (u' * n + v') / n = u' := by rw [Nat.mul_comm, Nat.mul_add_div (by omega), Nat.div_eq_of_lt hv']; omega
  have h3 : u = u' := by rw [← h1, ← h2, e]
  subst h3
  exact ⟨rfl, by omega⟩
theorem plc_inj {a b k : Nat → Nat} (ha : ∀ i, i < 3 → a i ≤ k i) (hb : ∀ i, i < 3 → b i ≤ k i) (e : plc a (sdS k) = plc b (sdS k)) : sE a b := by
  rw [plc_sd, plc_sd] at e
  obtain ⟨e1, e2⟩ := mx_inj (by have := ha 2 (by omega); omega) (by have := hb 2 (by omega); omega) e
  obtain ⟨e3, e4⟩ := mx_inj (by have := ha 1 (by omega); omega) (by have := hb 1 (by omega); omega) e1
  intro i hi
  rcases (show i = 0 ∨ i = 1 ∨ i = 2 by omega) with rfl | rfl | rfl
  · exact e3
  · exact e4
  · exact e2
theorem plc_mono {a k : Nat → Nat} (ha : ∀ i, i < 3 → a i ≤ k i) : plc a (sdS k) ≤ plc k (sdS k) := by
  rw [plc_sd, plc_sd]
  have h0 := ha 0 (by omega)
  have h1 := ha 1 (by omega)
  have h2 := ha 2 (by omega)
  have := Nat.mul_le_mul_right (k 1 + 1) h0
  have := Nat.mul_le_mul_right (k 2 + 1) (show a 0 * (k 1 + 1) + a 1 ≤ k 0 * (k 1 + 1) + k 1 by omega)
  omega
theorem k80 : ∀ a, a < 11 → ∀ b, b < 11 → ∀ c, c < 11 → a + b + c ≤ 10 → (a * (b + 1) + b) * (c + 1) + c < 80 := by decide
theorem plc_80 {k : Nat → Nat} (h : k 0 + k 1 + k 2 ≤ 10) : plc k (sdS k) < 80 := by
  rw [plc_sd]; exact k80 _ (by omega) _ (by omega) _ (by omega) h
/-- the table: columns left, column, stock -/
def pTb (hts : Nat → Nat) (R : Nat) : Nat → Nat → (Nat → Nat) → Nat × Nat
  | 0, _, _ => (0, 0)
  | k + 1, x, st => rsS (fun s => (pTb hts R k (x + 1) s).1) st x (hts x) R
theorem pTb_E {hts : Nat → Nat} {R : Nat} : ∀ k x a b, sE a b → pTb hts R k x a = pTb hts R k x b
  | 0, _, _, _, _ => rfl
  | k + 1, x, a, b, e => sE_rs (fun a b e => by rw [pTb_E k (x + 1) a b e]) e
theorem pTb_le {hts : Nat → Nat} {R : Nat} (hR : R ≤ 4) : ∀ k x a, (pTb hts R k x a).1 ≤ 4 * k
  | 0, _, _ => Nat.le_refl _
  | k + 1, x, a => by
    have h1 := (bsS_le (M := fun s => (pTb hts R k (x + 1) s).1) (st := a) (x := x) (f := hts x) (B := 4 * k) (stS a x (hts x) R) (fun u _ => pTb_le hR k (x + 1) _)).1
    have h2 : stS a x (hts x) R ≤ R - hts x := lst_le _ _
    show (rsS _ a x (hts x) R).1 ≤ _
    unfold rsS; omega
