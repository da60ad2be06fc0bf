/-! bits -/
theorem s_l : ∀ n, n < 32 → ((nI n &&& 31).toBitVec.smod 32).toNat = n := by decide
theorem nI_or (a b : Nat) : nI a ||| nI b = nI (a ||| b) := by
  apply Int32.toBitVec_inj.mp
  simp only [nI, Int32.toBitVec_or]
  apply BitVec.eq_of_toNat_eq
  simp [BitVec.toNat_or, Nat.or_mod_two_pow]
theorem nI_shl1 {k : Nat} (h : k < 31) : nI 1 <<< (nI k &&& 31) = nI (2 ^ k) := by
  have := pk_shlN (n := 1) (nI k &&& 31) k (s_l k (by omega)) (by rw [Nat.one_mul]; exact Nat.pow_lt_pow_right (by omega) (by omega))
  rw [Nat.one_mul] at this
  exact this
theorem nI_shl {a k : Nat} (h : k < 31) (ha : a * 2 ^ k < 2 ^ 32) : nI a <<< (nI k &&& 31) = nI (a * 2 ^ k) := pk_shlN (n := a) (nI k &&& 31) k (s_l k (by omega)) ha
theorem nI_shr {m k : Nat} (hm : m < 2 ^ 31) (h : k < 31) : nI m >>> (nI k &&& 31) = nI (m / 2 ^ k) := pk_shrN hm (nI k &&& 31) k (s_l k (by omega))
theorem nI_and1 {m : Nat} (hm : m < 2 ^ 31) : nI m &&& nI 1 = nI (m % 2) := by
  have := pk_andN (n := m) (by omega) (m := nI 1) 1 (by decide)
  simpa using this
theorem nI_bit {m k : Nat} (hm : m < 2 ^ 31) (h : k < 31) : (nI m >>> (nI k &&& 31)) &&& nI 1 = nI (m / 2 ^ k % 2) := by
  rw [nI_shr hm h, nI_and1 (Nat.lt_of_le_of_lt (Nat.div_le_self _ _) hm)]
theorem bit_iff (m k : Nat) : m / 2 ^ k % 2 = 1 ↔ m.testBit k = true := by rw [Nat.testBit_eq_decide_div_mod_eq]; simp
theorem nI_irem {a d : Nat} (ha : a < 2 ^ 31) (h0 : 0 < d) (hd : d < 2 ^ 31) : nI a - nI a / nI d * nI d = nI (a % d) := pk_rem ha h0 hd
theorem nI_idiv {a d : Nat} (ha : a < 2 ^ 31) (h0 : 0 < d) (hd : d < 2 ^ 31) : nI a / nI d = nI (a / d) := pk_div ha h0 hd
theorem or_lt {a b k : Nat} (ha : a < 2 ^ k) (hb : b < 2 ^ k) : a ||| b < 2 ^ k := Nat.or_lt_two_pow ha hb
