theorem cnt_flip {p q : Nat → Bool} {b : Nat} : ∀ n, b < n → (∀ i, i ≠ b → q i = p i) → p b = false → q b = true → cnt q n = cnt p n + 1
  | n + 1, hb, he, h0, h1 => by
    by_cases e : b = n
    · subst e
      rw [cnt_t h1, cnt_f (by rw [h0]; decide), cnt_congr (fun i hi => he i (by omega))]
    · have ih := cnt_flip n (by omega) he h0 h1
      unfold cnt
      rw [ih, he n (by omega)]
      omega
theorem hg_ly {s : scS} {b a : Nat} (hb : b < s.1) (h0 : s.2 0 b ≠ 4) (x : Nat) : hg (lyS s b a) x = if x = a then hg s a + 1 else hg s x := by
  have e : ∀ i, i ≠ b → hgp (lyS s b a) x i = hgp s x i := fun i hi => by
    show decide (nu (s.2 0) b 4 i = 4 ∧ nu (s.2 2) b a i = x) = _
    rw [nu_n _ _ hi, nu_n _ _ hi]; rfl
  have f : hgp s x b = false := by simp [hgp, h0]
  have t : hgp (lyS s b a) x b = decide (a = x) := by
    show decide (nu (s.2 0) b 4 b = 4 ∧ nu (s.2 2) b a b = x) = _
    rw [nu_s, nu_s]; simp
  by_cases q : x = a
  · subst q
    rw [if_pos rfl]
    exact cnt_flip s.1 hb e f (by rw [t]; simp)
  · rw [if_neg q]
    refine cnt_congr (fun i _ => ?_)
    by_cases z : i = b
    · subst z; rw [t, f]; simp; omega
    · exact e i z
theorem g_lay {T : tS} {s : scS} {g : Nat → Int32} {G : Nat → Nat → Nat} {b a : Nat} (hs : gRel T s g G) (hb : b < s.1) (h2 : s.2 0 b = 2) (ha : a < T.1 0) (hT : tOK T) (hf : hg s a < T.1 1) : gRel T (lyS s b a) (upd (upd g (20 + 4 * a + hg s a) (nI (b + 1))) b (nI 4)) (fun x y => if x = a ∧ y = hg s a then b + 1 else G x y) := by
  obtain ⟨a1, a2, a3, a4, a5, a6⟩ := hs
  have h10 := a2.1
  have hc6 := hT.1.2
  have hr4 := hT.2.1.2
  have L0 : ∀ i, (lyS s b a).2 0 i = nu (s.2 0) b 4 i := fun i => rfl
  have L1 : ∀ i, (lyS s b a).2 1 i = s.2 1 i := fun i => rfl
  have L2 : ∀ i, (lyS s b a).2 2 i = nu (s.2 2) b a i := fun i => rfl
  have L3 : ∀ i, (lyS s b a).2 3 i = nu (s.2 3) b (hg s a) i := fun i => rfl
  have ok : sOK (lyS s b a) := sOK_set (sOK_set (sOK_set a2 (nu_lt (fun j hj => a2.2 0 j (by omega) hj) (by omega))) (nu_lt (fun j hj => a2.2 2 j (by omega) hj) (by omega))) (nu_lt (fun j hj => a2.2 3 j (by omega) hj) (by omega))
  have hgE := hg_ly (s := s) (b := b) (a := a) hb (by omega)
  have nG : ∀ x y, x < 6 → y < 4 → 0 < G x y → G x y - 1 ≠ b := fun x y hx hy q e => by
    have := ((a4 x y hx hy).2.2.2 q).1
    rw [e] at this
    omega
  refine ⟨a1, ok, fun i hi => ?_, fun x y hx hy => ?_, fun i hi h4 => ?_, fun x hx => ?_⟩
  · have hi : i < s.1 := hi
    obtain ⟨c1, c2, c3, c4⟩ := a3 i hi
    rw [L0, L1, pk_un (show 10 + i ≠ b by omega), pk_un (show 10 + i ≠ 20 + 4 * a + hg s a by omega)]
    by_cases e : i = b
    · subst e; rw [nu_s, pk_us]; exact ⟨by omega, c2, rfl, c4⟩
    · rw [nu_n _ _ e, pk_un e, pk_un (by omega)]; exact ⟨c1, c2, c3, c4⟩
  · obtain ⟨b1, b2, b3, b4⟩ := a4 x y hx hy
    rw [hgE]
    show upd (upd g (20 + 4 * a + hg s a) (nI (b + 1))) b (nI 4) (20 + 4 * x + y) = nI (if x = a ∧ y = hg s a then b + 1 else G x y) ∧ (if x = a ∧ y = hg s a then b + 1 else G x y) ≤ s.1 ∧ _
    rw [pk_un (show 20 + 4 * x + y ≠ b by omega)]
    by_cases q : x = a ∧ y = hg s a
    · obtain ⟨rfl, rfl⟩ := q
      simp only [and_self, if_true]
      rw [pk_us]
      refine ⟨rfl, by omega, by omega, fun _ => ?_⟩
      rw [show b + 1 - 1 = b by omega, L0, L2, L3, nu_s, nu_s, nu_s]
      exact ⟨rfl, rfl, rfl⟩
    · simp only [q, if_false]
      rw [pk_un (by omega)]
      refine ⟨b1, b2, ?_, fun z => ?_⟩
      · rw [b3]
        by_cases e : x = a
        · subst e; rw [if_pos rfl]; omega
        · rw [if_neg e]
      · have hn := nG x y hx hy z
        rw [L0, L2, L3, nu_n _ _ hn, nu_n _ _ hn, nu_n _ _ hn]
        exact b4 z
  · have hi : i < s.1 := hi
    rw [L0] at h4
    rw [L2, L3]
    show _ ∧ _ ∧ (if nu (s.2 2) b a i = a ∧ nu (s.2 3) b (hg s a) i = hg s a then b + 1 else G (nu (s.2 2) b a i) (nu (s.2 3) b (hg s a) i)) = i + 1
    by_cases e : i = b
    · subst e
      rw [nu_s, nu_s]
      simp only [and_self, if_true]
      exact ⟨ha, by omega, trivial⟩
    · rw [nu_n _ _ e, nu_n _ _ e]
      rw [nu_n _ _ e] at h4
      obtain ⟨c1, c2, c3⟩ := a5 i hi h4
      refine ⟨c1, c2, ?_⟩
      rw [if_neg (fun z => ?_)]
      · exact c3
      · rw [z.1, z.2] at c3
        have := (a4 a (hg s a) (by omega) (by omega)).2.2.1.mp (by omega)
        omega
  · rw [hgE]
    by_cases e : x = a
    · rw [if_pos e]; have := a6 a (by omega); exact ⟨by omega, by omega⟩
    · rw [if_neg e]; exact a6 x hx
theorem hg_fa {s : scS} {b a : Nat} (hb : b < s.1) (h0 : s.2 0 b = 4) (hc : s.2 2 b = a) (x : Nat) : hg (sSet s 0 (nu (s.2 0) b 2)) x = if x = a then hg s a - 1 else hg s x := by
  have e : ∀ i, i ≠ b → hgp s x i = hgp (sSet s 0 (nu (s.2 0) b 2)) x i := fun i hi => by
    show _ = decide (nu (s.2 0) b 2 i = 4 ∧ s.2 2 i = x)
    rw [nu_n _ _ hi]; rfl
  have f : hgp (sSet s 0 (nu (s.2 0) b 2)) x b = false := by
    show decide (nu (s.2 0) b 2 b = 4 ∧ s.2 2 b = x) = _
    rw [nu_s]; simp
  have t : hgp s x b = decide (a = x) := by simp [hgp, h0, hc]
  by_cases q : x = a
  · subst q
    rw [if_pos rfl]
    have := cnt_flip s.1 hb e f (by rw [t]; simp)
    show cnt _ s.1 = cnt _ s.1 - 1
    omega
  · rw [if_neg q]
    refine cnt_congr (fun i _ => ?_)
    by_cases z : i = b
    · subst z; rw [t, f]; simp; omega
    · exact (e i z).symm
theorem g_fall {T : tS} {s : scS} {g : Nat → Int32} {G : Nat → Nat → Nat} {b a m : Nat} (hs : gRel T s g G) (ha : a < 6) (hm : hg s a = m + 1) (hb : G a m = b + 1) : gRel T (sSet s 0 (nu (s.2 0) b 2)) (upd (upd g (20 + 4 * a + m) (nI 0)) b (nI 2)) (fun x y => if x = a ∧ y = m then 0 else G x y) := by
  obtain ⟨a1, a2, a3, a4, a5, a6⟩ := hs
  have h10 := a2.1
  have m4 := (a6 a ha).1
  obtain ⟨p1, p2, p3, p4⟩ := a4 a m ha (by omega)
  have hbs : b < s.1 := by omega
  obtain ⟨w1, w2, w3⟩ := p4 (by omega)
  rw [show G a m - 1 = b by omega] at w1 w2 w3
  have L0 : ∀ i, (sSet s 0 (nu (s.2 0) b 2)).2 0 i = nu (s.2 0) b 2 i := fun i => rfl
  have L1 : ∀ i, (sSet s 0 (nu (s.2 0) b 2)).2 1 i = s.2 1 i := fun i => rfl
  have L2 : ∀ i, (sSet s 0 (nu (s.2 0) b 2)).2 2 i = s.2 2 i := fun i => rfl
  have L3 : ∀ i, (sSet s 0 (nu (s.2 0) b 2)).2 3 i = s.2 3 i := fun i => rfl
  have ok : sOK (sSet s 0 (nu (s.2 0) b 2)) := sOK_set a2 (nu_lt (fun j hj => a2.2 0 j (by omega) hj) (by omega))
  have hgE := hg_fa (s := s) (b := b) (a := a) hbs w1 w2
  refine ⟨a1, ok, fun i hi => ?_, fun x y hx hy => ?_, fun i hi h4 => ?_, fun x hx => ?_⟩
  · have hi : i < s.1 := hi
    obtain ⟨c1, c2, c3, c4⟩ := a3 i hi
    rw [L0, L1, pk_un (show 10 + i ≠ b by omega), pk_un (show 10 + i ≠ 20 + 4 * a + m by omega)]
    by_cases e : i = b
    · subst e; rw [nu_s, pk_us]; exact ⟨by omega, c2, rfl, c4⟩
    · rw [nu_n _ _ e, pk_un e, pk_un (by omega)]; exact ⟨c1, c2, c3, c4⟩
  · obtain ⟨b1, b2, b3, b4⟩ := a4 x y hx hy
    rw [hgE]
    show upd (upd g (20 + 4 * a + m) (nI 0)) b (nI 2) (20 + 4 * x + y) = nI (if x = a ∧ y = m then 0 else G x y) ∧ (if x = a ∧ y = m then 0 else G x y) ≤ s.1 ∧ _
    rw [pk_un (show 20 + 4 * x + y ≠ b by omega)]
    by_cases q : x = a ∧ y = m
    · obtain ⟨rfl, rfl⟩ := q
      simp only [and_self, if_true]
      rw [pk_us]
      exact ⟨rfl, by omega, by omega, fun z => by omega⟩
    · simp only [q, if_false]
      rw [pk_un (by omega)]
      refine ⟨b1, b2, ?_, fun z => ?_⟩
      · rw [b3]
        by_cases e : x = a
        · subst e; rw [if_pos rfl]; omega
        · rw [if_neg e]
      · obtain ⟨z1, z2, z3⟩ := b4 z
        have hn : G x y - 1 ≠ b := fun e => by
          rw [e] at z2 z3
          exact q ⟨by omega, by omega⟩
        rw [L0, L2, L3, nu_n _ _ hn]
        exact ⟨z1, z2, z3⟩
  · have hi : i < s.1 := hi
    rw [L0] at h4
    rw [L2, L3]
    show _ ∧ _ ∧ (if s.2 2 i = a ∧ s.2 3 i = m then 0 else G (s.2 2 i) (s.2 3 i)) = i + 1
    by_cases e : i = b
    · subst e
      rw [nu_s] at h4
      omega
    · rw [nu_n _ _ e] at h4
      obtain ⟨c1, c2, c3⟩ := a5 i hi h4
      refine ⟨c1, c2, ?_⟩
      rw [if_neg (fun z => ?_)]
      · exact c3
      · rw [z.1, z.2] at c3
        omega
  · rw [hgE]
    by_cases e : x = a
    · rw [if_pos e]; have := a6 a (by omega); exact ⟨by omega, by omega⟩
    · rw [if_neg e]; exact a6 x hx
