/-! what the reference's takes say, and that the class's table has their greatest sums -/
def pc (x f t i : Nat) : Nat := cnt (fun u => decide (shp x (f + u) = i)) t
theorem pc_s (x f t i : Nat) : pc x f (t + 1) i = pc x f t i + (if shp x (f + t) = i then 1 else 0) := by
  unfold pc
  by_cases e : shp x (f + t) = i
  · rw [cnt_t (by simp [e]), if_pos e]
  · rw [cnt_f (by simp [e]), if_neg e]; rfl
theorem pc_mono {x f i : Nat} {a : Nat} : ∀ b, a ≤ b → pc x f a i ≤ pc x f b i
  | 0, h => by rw [show a = 0 by omega]; exact Nat.le_refl _
  | b + 1, h => by
    by_cases e : a = b + 1
    · rw [e]; exact Nat.le_refl _
    · have := pc_mono (x := x) (f := f) (i := i) b (show a ≤ b by omega)
      rw [pc_s]; omega
theorem pc_sum (x f : Nat) : ∀ t, pc x f t 0 + pc x f t 1 + pc x f t 2 = t
  | 0 => rfl
  | t + 1 => by
    have ih := pc_sum x f t
    have h3 := shp_lt x (f + t)
    rw [pc_s, pc_s, pc_s]
    rcases (show shp x (f + t) = 0 ∨ shp x (f + t) = 1 ∨ shp x (f + t) = 2 by omega) with e | e | e <;> rw [e] <;> simp <;> omega
theorem dcS_pc (st : Nat → Nat) (x f : Nat) : ∀ t i, dcS st x f t i = st i - pc x f t i
  | 0, i => rfl
  | t + 1, i => by
    rw [dcS, pc_s]
    by_cases e : i = shp x (f + t)
    · rw [← e, nu_s, dcS_pc st x f t i, if_pos rfl]; omega
    · rw [nu_n _ _ e, dcS_pc st x f t i, if_neg (fun z => e z.symm)]; rfl
theorem fea {st : Nat → Nat} {x f R t : Nat} : t ≤ stS st x f R ↔ (t ≤ R - f ∧ ∀ i, i < 3 → pc x f t i ≤ st i) := by
  have hl := stS_le st x f R
  constructor
  · intro h
    refine ⟨by omega, ?_⟩
    intro i hi
    induction t with
    | zero => exact Nat.zero_le _
    | succ t ih =>
      have ih := ih (by omega)
      have hp := stS_pos (st := st) (x := x) (f := f) (R := R) (u := t) (by omega)
      rw [dcS_pc] at hp
      rw [pc_s]
      by_cases e : shp x (f + t) = i
      · rw [e] at hp; rw [if_pos e]; omega
      · rw [if_neg e]; exact ih
  · rintro ⟨h1, h2⟩
    apply Nat.le_of_not_lt
    intro h
    have hz := of_decide_eq_true ((lst_spec (fun t => decide (dcS st x f t (shp x (f + t)) = 0)) (R - f)).2 (show stS st x f R < R - f by omega))
    have hz : dcS st x f (stS st x f R) (shp x (f + stS st x f R)) = 0 := hz
    rw [dcS_pc] at hz
    have h3 := shp_lt x (f + stS st x f R)
    have h4 := h2 _ h3
    have h5 := pc_mono (x := x) (f := f) (i := shp x (f + stS st x f R)) t (show stS st x f R + 1 ≤ t by omega)
    rw [pc_s, if_pos rfl] at h5
    omega
theorem bsS_max {M : (Nat → Nat) → Nat} {st : Nat → Nat} {x f : Nat} : ∀ t, (∀ u, u ≤ t → u + M (dcS st x f u) ≤ (bsS M st x f t).1) ∧ ∃ u, u ≤ t ∧ (bsS M st x f t).1 = u + M (dcS st x f u) ∧ (bsS M st x f t).2 = f + u ∧ ∀ u', u < u' → u' ≤ t → u' + M (dcS st x f u') < (bsS M st x f t).1
  | 0 => ⟨fun u hu => by rw [show u = 0 by omega]; simp [bsS, dcS], 0, Nat.le_refl _, by simp [bsS, dcS], by simp [bsS], fun u' h1 h2 => by omega⟩
  | t + 1 => by
    obtain ⟨i1, u, i2, i3, i4, i5⟩ := bsS_max (M := M) (st := st) (x := x) (f := f) t
    rw [bsS]
    by_cases q : (bsS M st x f t).1 ≤ t + 1 + M (dcS st x f (t + 1))
    · rw [if_pos q]
      refine ⟨fun v hv => ?_, t + 1, Nat.le_refl _, rfl, rfl, fun u' h1 h2 => by omega⟩
      by_cases e : v = t + 1
      · rw [e]; exact Nat.le_refl _
      · exact Nat.le_trans (i1 v (by omega)) q
    · rw [if_neg q]
      refine ⟨fun v hv => ?_, u, by omega, i3, i4, fun u' h1 h2 => ?_⟩
      · by_cases e : v = t + 1
        · rw [e]; omega
        · exact i1 v (by omega)
      · by_cases e : u' = t + 1
        · rw [e]; omega
        · exact i5 u' h1 (by omega)
/-- columns from x on (k of them) can take just these -/
def rc (f : Nat → Nat) (R : Nat) : Nat → Nat → Nat → Nat → Nat → Prop
  | 0, _, z, o, t => z = 0 ∧ o = 0 ∧ t = 0
  | k + 1, x, z, o, t => ∃ u, u ≤ R - f x ∧ pc x (f x) u 0 ≤ z ∧ pc x (f x) u 1 ≤ o ∧ pc x (f x) u 2 ≤ t ∧ rc f R k (x + 1) (z - pc x (f x) u 0) (o - pc x (f x) u 1) (t - pc x (f x) u 2)
theorem rc_up {f : Nat → Nat} {R : Nat} : ∀ k x (st : Nat → Nat) z o t, rc f R k x z o t → z ≤ st 0 → o ≤ st 1 → t ≤ st 2 → z + o + t ≤ (pTb f R k x st).1
  | 0, x, st, z, o, t, h, _, _, _ => by
    obtain ⟨h1, h2, h3⟩ := h
    omega
  | k + 1, x, st, z, o, t, h, h0, h1, h2 => by
    obtain ⟨u, a1, a2, a3, a4, a5⟩ := h
    have hf : u ≤ stS st x (f x) R := fea.mpr ⟨a1, fun i hi => by
      rcases (show i = 0 ∨ i = 1 ∨ i = 2 by omega) with rfl | rfl | rfl <;> omega⟩
    have hb := (bsS_max (M := fun s => (pTb f R k (x + 1) s).1) (st := st) (x := x) (f := f x) (stS st x (f x) R)).1 u hf
    have ih := rc_up k (x + 1) (dcS st x (f x) u) _ _ _ a5 (by rw [dcS_pc]; omega) (by rw [dcS_pc]; omega) (by rw [dcS_pc]; omega)
    have hs := pc_sum x (f x) u
    show _ ≤ (rsS _ st x (f x) R).1
    unfold rsS
    have hb' : u + (pTb f R k (x + 1) (dcS st x (f x) u)).1 ≤ _ := hb
    omega
theorem rc_at {f : Nat → Nat} {R : Nat} : ∀ k x (st : Nat → Nat), ∃ z o t, rc f R k x z o t ∧ z ≤ st 0 ∧ o ≤ st 1 ∧ t ≤ st 2 ∧ z + o + t = (pTb f R k x st).1
  | 0, x, st => ⟨0, 0, 0, ⟨rfl, rfl, rfl⟩, Nat.zero_le _, Nat.zero_le _, Nat.zero_le _, rfl⟩
  | k + 1, x, st => by
    obtain ⟨-, u, b1, b2, -, -⟩ := bsS_max (M := fun s => (pTb f R k (x + 1) s).1) (st := st) (x := x) (f := f x) (stS st x (f x) R)
    obtain ⟨c1, c2⟩ := fea.mp b1
    obtain ⟨z, o, t, i1, i2, i3, i4, i5⟩ := rc_at (f := f) (R := R) k (x + 1) (dcS st x (f x) u)
    rw [dcS_pc] at i2 i3 i4
    have p0 := c2 0 (by omega)
    have p1 := c2 1 (by omega)
    have p2 := c2 2 (by omega)
    have hs := pc_sum x (f x) u
    refine ⟨z + pc x (f x) u 0, o + pc x (f x) u 1, t + pc x (f x) u 2, ⟨u, c1, by omega, by omega, by omega, ?_⟩, by omega, by omega, by omega, ?_⟩
    · rw [Nat.add_sub_cancel, Nat.add_sub_cancel, Nat.add_sub_cancel]; exact i1
    · show _ = (rsS _ st x (f x) R).1
      unfold rsS
      have b2' : (bsS (fun s => (pTb f R k (x + 1) s).1) st x (f x) (stS st x (f x) R)).1 = u + (pTb f R k (x + 1) (dcS st x (f x) u)).1 := b2
      rw [b2']
      omega
/-- the takes as numbers: V those of the columns behind -/
def tvA (V : Nat → Nat → Nat) (x f z o : Nat) : Nat → Nat
  | 0 => 0
  | t + 1 => tvA V x f z o t ||| (if pc x f t 0 ≤ z ∧ pc x f t 1 ≤ o then V (z - pc x f t 0) (o - pc x f t 1) * 2 ^ (pc x f t 2) else 0)
def tv (f : Nat → Nat) (R : Nat) : Nat → Nat → Nat → Nat → Nat
  | 0, _, z, o => if z = 0 ∧ o = 0 then 1 else 0
  | k + 1, x, z, o => tvA (tv f R k (x + 1)) x (f x) z o (R + 1 - f x)
theorem tvA_bit {V : Nat → Nat → Nat} {x f z o b : Nat} : ∀ n, (tvA V x f z o n).testBit b = true ↔ ∃ t, t < n ∧ pc x f t 0 ≤ z ∧ pc x f t 1 ≤ o ∧ pc x f t 2 ≤ b ∧ (V (z - pc x f t 0) (o - pc x f t 1)).testBit (b - pc x f t 2) = true
  | 0 => by simp [tvA]
  | n + 1 => by
    rw [tvA, Nat.testBit_or, Bool.or_eq_true, tvA_bit n]
    have hn : (if pc x f n 0 ≤ z ∧ pc x f n 1 ≤ o then V (z - pc x f n 0) (o - pc x f n 1) * 2 ^ (pc x f n 2) else 0).testBit b = true ↔ (pc x f n 0 ≤ z ∧ pc x f n 1 ≤ o ∧ pc x f n 2 ≤ b ∧ (V (z - pc x f n 0) (o - pc x f n 1)).testBit (b - pc x f n 2) = true) := by
      by_cases q : pc x f n 0 ≤ z ∧ pc x f n 1 ≤ o
      · rw [if_pos q, ← Nat.shiftLeft_eq, Nat.testBit_shiftLeft, Bool.and_eq_true, decide_eq_true_eq]
        exact ⟨fun h => ⟨q.1, q.2, h.1, h.2⟩, fun h => ⟨h.2.2.1, h.2.2.2⟩⟩
      · rw [if_neg q, Nat.zero_testBit]
        exact ⟨fun h => (by cases h), fun h => absurd ⟨h.1, h.2.1⟩ q⟩
    rw [hn]
    constructor
    · rintro (⟨t, h1, h2⟩ | h)
      · exact ⟨t, by omega, h2⟩
      · exact ⟨n, by omega, h⟩
    · rintro ⟨t, h1, h2⟩
      by_cases e : t = n
      · subst e; exact Or.inr h2
      · exact Or.inl ⟨t, by omega, h2⟩
theorem tv_bit {f : Nat → Nat} {R : Nat} : ∀ k x z o b, (∀ x', x ≤ x' → x' < x + k → f x' ≤ R) → ((tv f R k x z o).testBit b = true ↔ rc f R k x z o b)
  | 0, x, z, o, b, _ => by
    unfold tv rc
    by_cases q : z = 0 ∧ o = 0
    · rw [if_pos q]
      obtain ⟨rfl, rfl⟩ := q
      cases b with
      | zero => simp
      | succ b =>
        rw [Nat.testBit_succ]
        simp
    · rw [if_neg q, Nat.zero_testBit]
      exact ⟨fun h => (by cases h), fun h => absurd ⟨h.1, h.2.1⟩ q⟩
  | k + 1, x, z, o, b, hf => by
    rw [tv, tvA_bit]
    unfold rc
    have h0 := hf x (Nat.le_refl _) (by omega)
    constructor
    · rintro ⟨t, h1, h2, h3, h4, h5⟩
      exact ⟨t, by omega, h2, h3, h4, (tv_bit k (x + 1) _ _ _ (fun x' a b => hf x' (by omega) (by omega))).mp h5⟩
    · rintro ⟨t, h1, h2, h3, h4, h5⟩
      exact ⟨t, by omega, h2, h3, h4, (tv_bit k (x + 1) _ _ _ (fun x' a b => hf x' (by omega) (by omega))).mpr h5⟩
theorem pc2 : ∀ x, x < 6 → ∀ f, f < 5 → ∀ t, t < 5 → ∀ i, i < 3 → pc x f t i ≤ 2 := by decide
theorem tvA_lt {V : Nat → Nat → Nat} {x f z o e : Nat} (hx : x < 6) (hf : f < 5) (hV : ∀ z o, V z o < 2 ^ e) : ∀ n, n ≤ 5 → tvA V x f z o n < 2 ^ (e + 2)
  | 0, _ => Nat.pow_pos (by omega)
  | n + 1, hn => by
    rw [tvA]
    refine or_lt (tvA_lt hx hf hV n (by omega)) ?_
    split
    · have h1 := hV (z - pc x f n 0) (o - pc x f n 1)
      have h2 := pc2 x hx f hf n (by omega) 2 (by omega)
      have h3 : 2 ^ (pc x f n 2) ≤ 2 ^ 2 := Nat.pow_le_pow_right (by omega) h2
      rw [Nat.pow_add]
      exact Nat.lt_of_lt_of_le (Nat.mul_lt_mul_of_lt_of_le h1 (Nat.le_refl _) (Nat.pow_pos (by omega))) (Nat.mul_le_mul_left _ h3)
    · exact Nat.pow_pos (by omega)
theorem tv_lt {f : Nat → Nat} {R : Nat} (hR : R ≤ 4) : ∀ k x z o, x + k ≤ 6 → (∀ x', x ≤ x' → x' < x + k → f x' ≤ R) → tv f R k x z o < 2 ^ (2 * k + 1)
  | 0, x, z, o, _, _ => by unfold tv; split <;> decide
  | k + 1, x, z, o, hx, hf => by
    rw [tv]
    have h0 := hf x (Nat.le_refl _) (by omega)
    have := tvA_lt (V := tv f R k (x + 1)) (x := x) (f := f x) (z := z) (o := o) (e := 2 * k + 1) (by omega) (by omega) (fun z o => tv_lt hR k (x + 1) z o (by omega) (fun x' a b => hf x' (by omega) (by omega))) (R + 1 - f x) (by omega)
    rw [show 2 * (k + 1) + 1 = 2 * k + 1 + 2 by omega]
    exact this
