/-! words for the state: counts, frames, scenes -/
def cnt (p : Nat → Bool) : Nat → Nat
  | 0 => 0
  | n + 1 => cnt p n + (if p n = true then 1 else 0)
theorem cnt_le (p : Nat → Bool) : ∀ n, cnt p n ≤ n
  | 0 => Nat.le_refl 0
  | n + 1 => by have := cnt_le p n; unfold cnt; split <;> omega
theorem cnt_congr {p q : Nat → Bool} : ∀ {n : Nat}, (∀ i, i < n → p i = q i) → cnt p n = cnt q n
  | 0, _ => rfl
  | n + 1, h => by unfold cnt; rw [cnt_congr (fun i hi => h i (by omega)), h n (by omega)]
theorem cnt_t {p : Nat → Bool} {n : Nat} (h : p n = true) : cnt p (n + 1) = cnt p n + 1 := by rw [cnt, if_pos h]
theorem cnt_f {p : Nat → Bool} {n : Nat} (h : ¬ p n = true) : cnt p (n + 1) = cnt p n := by rw [cnt, if_neg h]; rfl
/-- nothing changed but in [lo, hi) -/
def fr (lo hi : Nat) (h h' : mH) : Prop := ∀ a, ¬ (lo ≤ a ∧ a < hi) → h' a = h a
theorem fr.rf {lo hi : Nat} {h : mH} : fr lo hi h h := fun _ _ => rfl
theorem fr.tr {lo hi : Nat} {h h1 h2 : mH} (a : fr lo hi h h1) (b : fr lo hi h1 h2) : fr lo hi h h2 := fun q hq => (b q hq).trans (a q hq)
theorem fr.wd {lo hi lo' hi' : Nat} {h g : mH} (a : fr lo hi h g) (h1 : lo' ≤ lo) (h2 : hi ≤ hi') : fr lo' hi' h g := fun q hq => a q (fun z => hq ⟨by omega, by omega⟩)
theorem fr.hu {lo hi a : Nat} {h g : mH} {c : mC} (k : fr lo hi h g) (h1 : lo ≤ a) (h2 : a < hi) : fr lo hi h (hu g a c) := fun q hq => by
  rw [hu_n _ _ (fun e => hq (by rw [e]; exact ⟨h1, h2⟩))]; exact k q hq
theorem fr.at {lo hi : Nat} {h h1 : mH} (k : fr lo hi h h1) {a : Nat} (ha : a < lo ∨ hi ≤ a) : h1 a = h a := k a (by omega)
/-- a scene at a: bricks; what, worth, column, course -/
abbrev scS : Type := Nat × (Nat → Nat → Nat)
def na (f : Nat → Nat) : Nat → Int32 := fun j => nI (f j)
theorem na_at (f : Nat → Nat) (j : Nat) : na f j = nI (f j) := rfl
def scAt (h : mH) (a : Nat) (s : scS) : Prop := h a = .inr (3, [.int (nI s.1), .ref (a + 1), .ref (a + 2), .ref (a + 3), .ref (a + 4)]) ∧ h (a + 1) = ia 10 (na (s.2 0)) ∧ h (a + 2) = ia 10 (na (s.2 1)) ∧ h (a + 3) = ia 10 (na (s.2 2)) ∧ h (a + 4) = ia 10 (na (s.2 3))
theorem scAt.fr {h h' : mH} {a lo hi : Nat} {s : scS} (k : scAt h a s) (f : fr lo hi h h') (ha : a + 5 ≤ lo ∨ hi ≤ a) : scAt h' a s := by
  obtain ⟨k0, k1, k2, k3, k4⟩ := k
  exact ⟨by rw [f.at (by omega)]; exact k0, by rw [f.at (by omega)]; exact k1, by rw [f.at (by omega)]; exact k2, by rw [f.at (by omega)]; exact k3, by rw [f.at (by omega)]; exact k4⟩
theorem b31 {n : Nat} (h : n < 100000) : n < 2 ^ 31 := Nat.lt_of_lt_of_le h (by decide)
theorem cc_in {d : Nat} {M : mM} {args : List Value} {n : Nat} {h : mH} {Φ : Option Value → mH → Prop} {L : mL} (hM : okM M) (ha : (args.map fun v => v.category).sum ≤ M.2.2.1) (hL : en M.2.2.1 args = L) (k : MW d M n Φ 0 L [] n 0 h) : CC d M args n h Φ := cc_of_mw hM ha (by rw [hL]; exact k)
theorem loopUp (P : Nat → Prop) (N : Nat) (he : P N) (hs : ∀ j, j < N → P (j + 1) → P j) : ∀ j, j ≤ N → P j := by
  have key : ∀ k j, j + k = N → P j := by
    intro k
    induction k with
    | zero => intro j hj; rw [show j = N by omega]; exact he
    | succ k ih => intro j hj; exact hs j (by omega) (ih (j + 1) (by omega))
  intro j hj
  exact key (N - j) j (by omega)
theorem hu_hu (h : mH) (a : Nat) (c c' : mC) : hu (hu h a c) a c' = hu h a c' := by funext q; by_cases e : q = a <;> simp [hu, e]
theorem hu_id {h : mH} {a : Nat} {c : mC} (e : h a = c) : hu h a c = h := by funext q; by_cases z : q = a <;> simp [hu, z, ← e]
/-- the least b < n with p b, or n -/
def lst (p : Nat → Bool) : Nat → Nat
  | 0 => 0
  | n + 1 => if lst p n < n then lst p n else if p n = true then n else n + 1
theorem lst_le (p : Nat → Bool) : ∀ n, lst p n ≤ n
  | 0 => Nat.le_refl 0
  | n + 1 => by have := lst_le p n; unfold lst; split <;> (try split) <;> omega
theorem lst_f {p : Nat → Bool} {j : Nat} (h : lst p j = j) (hp : ¬ p j = true) : lst p (j + 1) = j + 1 := by unfold lst; rw [if_neg (by omega), if_neg hp]
theorem lst_up {p : Nat → Bool} {j : Nat} (hj : lst p j < j) : ∀ k, lst p (j + k) = lst p j
  | 0 => rfl
  | k + 1 => by
    have ih := lst_up hj k
    show lst p (j + k + 1) = _
    rw [lst, if_pos (by omega)]
    exact ih
theorem lst_t {p : Nat → Bool} {j N : Nat} (h : lst p j = j) (hp : p j = true) (hj : j < N) : lst p N = j := by
  have e : lst p (j + 1) = j := by unfold lst; rw [if_neg (by omega), if_pos hp]
  have := lst_up (p := p) (j := j + 1) (by omega) (N - (j + 1))
  rw [show j + 1 + (N - (j + 1)) = N by omega] at this
  omega
theorem lst_spec (p : Nat → Bool) : ∀ n, (∀ b, b < lst p n → p b = false) ∧ (lst p n < n → p (lst p n) = true)
  | 0 => ⟨fun b h => by simp [lst] at h, fun h => by simp [lst] at h⟩
  | n + 1 => by
    obtain ⟨h1, h2⟩ := lst_spec p n
    unfold lst
    split
    · rename_i hlt; exact ⟨h1, fun _ => h2 hlt⟩
    · rename_i hge
      have e : lst p n = n := by have := lst_le p n; omega
      split
      · rename_i hp; exact ⟨fun b hb => h1 b (by omega), fun _ => hp⟩
      · rename_i hp
        refine ⟨fun b hb => ?_, fun q => by omega⟩
        by_cases hbn : b = n
        · subst hbn; simpa using hp
        · exact h1 b (by omega)
def fl {α : Type} (f : Nat → α) (v : α) (n : Nat) : Nat → α := fun j => if j < n then v else f j
theorem fl_0 {α : Type} (f : Nat → α) (v : α) : fl f v 0 = f := by funext j; simp [fl]
theorem fl_s (f : Nat → Int32) (v : Int32) (n : Nat) : upd (fl f v n) n v = fl f v (n + 1) := by
  funext j
  by_cases h : j = n
  · subst h; simp [upd, fl]
  · by_cases h2 : j < n
    · simp [upd, fl, h, h2, show j < n + 1 by omega]
    · simp [upd, fl, h, h2, show ¬ j < n + 1 by omega]
theorem fl_sL (f : Nat → Int64) (v : Int64) (n : Nat) : vp_updL (fl f v n) n v = fl f v (n + 1) := by
  funext j
  by_cases h : j = n
  · subst h; simp [vp_updL, fl]
  · by_cases h2 : j < n
    · simp [vp_updL, fl, h, h2, show j < n + 1 by omega]
    · simp [vp_updL, fl, h, h2, show ¬ j < n + 1 by omega]
def sOK (s : scS) : Prop := s.1 ≤ 10 ∧ ∀ i j, i < 4 → j < 10 → s.2 i j < 100
def sEq (s t : scS) : Prop := s.1 = t.1 ∧ ∀ i j, i < 4 → j < 10 → s.2 i j = t.2 i j
theorem sEq.ok {s t : scS} (e : sEq s t) (k : sOK s) : sOK t := ⟨by rw [← e.1]; exact k.1, fun i j hi hj => by rw [← e.2 i j hi hj]; exact k.2 i j hi hj⟩
theorem na_cpy (f g : Nat → Nat) (n : Nat) : va_cpy (na f) (na g) 0 0 n = na (fun j => if j < n then f j else g j) := by
  funext j
  by_cases h : j < n <;> simp [va_cpy, na, h]
