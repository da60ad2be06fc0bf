/-! small numbers -/
theorem nI_eq0 {a : Nat} (h : a < 2 ^ 31) : nI a = 0 ↔ a = 0 := by rw [← nI_0]; exact nI_eq h (by decide)
theorem nI_lt0 {a : Nat} (h : a < 2 ^ 31) : (nI a < 0) = False := eq_false (nI_pos h)
theorem nI_0le {a : Nat} (h : a < 2 ^ 31) : (0 ≤ nI a) = True := eq_true (nI_pos' h)
theorem nI_le0 {a : Nat} (h : a < 2 ^ 31) : nI a ≤ 0 ↔ a = 0 := by rw [← nI_0, nI_leI h (by decide)]; omega
theorem nI_0lt {a : Nat} (h : a < 2 ^ 31) : 0 < nI a ↔ 0 < a := by rw [← nI_0, nI_ltI (by decide) h]
theorem zr1 : (nI 1 = 0 ∨ nI 1 = 1) = True := eq_true (Or.inr rfl)
theorem zr0 : (nI 0 = 0 ∨ nI 0 = 1) = True := eq_true (Or.inl rfl)
theorem nI_neg {a : Nat} (h : 0 < a) (h2 : a < 2 ^ 30) : (-nI a).toInt = -(a : Int) := sb_negT (by omega)
theorem neg_lt0 {a : Nat} (h : 0 < a) (h2 : a < 2 ^ 30) : (-nI a < 0) = True := eq_true (by rw [Int32.lt_iff_toInt_lt, nI_neg h h2]; simp; omega)
theorem neg_ne {a b : Nat} (h : 0 < a) (h2 : a < 2 ^ 30) (hb : b < 2 ^ 31) : (-nI a = nI b) = False := eq_false (fun e => by
  have := congrArg Int32.toInt e
  rw [nI_neg h h2, nI_toInt hb] at this
  omega)
theorem neg_ne' {a b : Nat} (h : 0 < a) (h2 : a < 2 ^ 30) (hb : b < 2 ^ 31) : (nI b = -nI a) = False := eq_false (fun e => by
  have := congrArg Int32.toInt e
  rw [nI_neg h h2, nI_toInt hb] at this
  omega)
theorem na_fl (f : Nat → Nat) (v n : Nat) : fl (na f) (nI v) n = na (fl f v n) := by
  funext j
  by_cases h : j < n <;> simp [fl, na, h]
theorem na_upd (f : Nat → Nat) (k v : Nat) : upd (na f) k (nI v) = na (fun j => if j = k then v else f j) := by
  funext j
  by_cases h : j = k <;> simp [upd, na, h]
def nu (f : Nat → Nat) (k v : Nat) : Nat → Nat := fun j => if j = k then v else f j
theorem na_nu (f : Nat → Nat) (k v : Nat) : upd (na f) k (nI v) = na (nu f k v) := na_upd f k v
theorem nu_s (f : Nat → Nat) (k v : Nat) : nu f k v k = v := by simp [nu]
theorem nu_n (f : Nat → Nat) {k j : Nat} (v : Nat) (h : j ≠ k) : nu f k v j = f j := by simp [nu, h]
def mk4 (a b c d : Nat → Nat) : Nat → Nat → Nat := fun i => match i with
  | 0 => a
  | 1 => b
  | 2 => c
  | _ => d
def cp (n : Nat) (f g : Nat → Nat) : Nat → Nat := fun j => if j < n then f j else g j
theorem na_cp (f g : Nat → Nat) (n : Nat) : va_cpy (na f) (na g) 0 0 n = na (cp n f g) := na_cpy f g n
theorem cp_lt {n : Nat} (f g : Nat → Nat) {j : Nat} (h : j < n) : cp n f g j = f j := by simp [cp, h]
theorem fl_lt {α : Type} {n : Nat} (f : Nat → α) (v : α) {j : Nat} (h : j < n) : fl f v n j = v := by simp [fl, h]
/-! Told: columns, courses, bricks, judges, sorts; kin, shape, holder, worth, ear, sorts' worths as told -/
abbrev tS : Type := (Nat → Nat) × (Nat → Nat → Nat)
def tdAt (h : mH) (a : Nat) (T : tS) : Prop := h a = .inr (5, [.int (nI (T.1 0)), .int (nI (T.1 1)), .int (nI (T.1 2)), .int (nI (T.1 3)), .int (nI (T.1 4)), .ref (a + 1), .ref (a + 2), .ref (a + 3), .ref (a + 4), .ref (a + 5), .ref (a + 6)]) ∧ h (a + 1) = ia 6 (na (T.2 0)) ∧ h (a + 2) = ia 10 (na (T.2 1)) ∧ h (a + 3) = ia 10 (na (T.2 2)) ∧ h (a + 4) = ia 10 (na (T.2 3)) ∧ h (a + 5) = ia 3 (na (T.2 4)) ∧ h (a + 6) = ia 5 (fun j => nI (T.2 5 j) - nI 9)
def tOK (T : tS) : Prop := (1 ≤ T.1 0 ∧ T.1 0 ≤ 6) ∧ (1 ≤ T.1 1 ∧ T.1 1 ≤ 4) ∧ T.1 2 ≤ 10 ∧ T.1 3 ≤ 3 ∧ T.1 4 ≤ 5 ∧ ∀ j, T.2 0 j < 64 ∧ T.2 1 j < 3 ∧ T.2 2 j < 6 ∧ T.2 3 j ≤ 30 ∧ T.2 4 j ≤ 30 ∧ T.2 5 j ≤ 18
theorem tdAt.fr {h h' : mH} {a lo hi : Nat} {T : tS} (k : tdAt h a T) (f : fr lo hi h h') (ha : a + 7 ≤ lo ∨ hi ≤ a) : tdAt h' a T := by
  obtain ⟨k0, k1, k2, k3, k4, k5, k6⟩ := k
  exact ⟨by rw [f.at (by omega)]; exact k0, by rw [f.at (by omega)]; exact k1, by rw [f.at (by omega)]; exact k2, by rw [f.at (by omega)]; exact k3, by rw [f.at (by omega)]; exact k4, by rw [f.at (by omega)]; exact k5, by rw [f.at (by omega)]; exact k6⟩
