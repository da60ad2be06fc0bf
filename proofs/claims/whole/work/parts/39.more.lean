def hdp (s : scS) : Nat → Bool := fun b => decide (s.2 0 b = 2)
theorem shc_sum {T : tS} {p : Nat → Bool} : ∀ j, shc T p j 0 + shc T p j 1 + shc T p j 2 ≤ j
  | 0 => Nat.le_refl _
  | j + 1 => by
    have h := shc_sum (T := T) (p := p) j
    by_cases q : p j = true
    · rw [← shc_t q]
      by_cases e0 : T.2 1 j = 0
      · simp only [nu, e0]; simp; omega
      · by_cases e1 : T.2 1 j = 1
        · simp only [nu, e1]; simp; omega
        · by_cases e2 : T.2 1 j = 2
          · simp only [nu, e2]; simp; omega
          · rw [nu_n _ _ (by omega), nu_n _ _ (by omega), nu_n _ _ (by omega)]; omega
    · rw [shc_f q]; omega
