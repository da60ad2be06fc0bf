/-! wp is enough -/
theorem gl_el : ∀ {L : mL} {i : Nat} {G : Value → Prop}, gl L i G → ∃ v, L[i]? = some (some v) ∧ G v
  | some v :: _, 0, G, h => ⟨v, rfl, h⟩
  | x :: t, i + 1, G, h => by
    have h' : gl t i G := by cases x <;> exact h
    obtain ⟨v, h1, h2⟩ := gl_el h'
    exact ⟨v, by simpa using h1, h2⟩
  | none :: t, 0, G, h => h.elim
  | [], 0, G, h => h.elim
  | [], _ + 1, G, h => h.elim
theorem vI_el {v : Value} {G : Int32 → Prop} (h : vI v G) : ∃ x, v = .int x ∧ G x := by cases v <;> first | exact ⟨_, rfl, h⟩ | exact h.elim
theorem vJ_el {v : Value} {G : Int64 → Prop} (h : vJ v G) : ∃ x, v = .long x ∧ G x := by cases v <;> first | exact ⟨_, rfl, h⟩ | exact h.elim
theorem vA_el {v : Value} {G : Value → Prop} (h : vA v G) : (∃ x, v = .ref x ∧ G (.ref x)) ∨ (∃ x, v = .retAddr x ∧ G (.retAddr x)) := by cases v <;> first | exact Or.inl ⟨_, rfl, h⟩ | exact Or.inr ⟨_, rfl, h⟩ | exact h.elim
theorem sI_el {st : List Value} {G : Int32 → List Value → Prop} (h : sI st G) : ∃ x t, st = .int x :: t ∧ G x t := by
  match st, h with
  | .int x :: t, h => exact ⟨x, t, rfl, h⟩
theorem sII_el {st : List Value} {G : Int32 → Int32 → List Value → Prop} (h : sII st G) : ∃ y x t, st = .int y :: .int x :: t ∧ G y x t := by
  match st, h with
  | .int y :: .int x :: t, h => exact ⟨y, x, t, rfl, h⟩
theorem sJ_el {st : List Value} {G : Int64 → List Value → Prop} (h : sJ st G) : ∃ x t, st = .long x :: t ∧ G x t := by
  match st, h with
  | .long x :: t, h => exact ⟨x, t, rfl, h⟩
theorem sJJ_el {st : List Value} {G : Int64 → Int64 → List Value → Prop} (h : sJJ st G) : ∃ y x t, st = .long y :: .long x :: t ∧ G y x t := by
  match st, h with
  | .long y :: .long x :: t, h => exact ⟨y, x, t, rfl, h⟩
theorem sA_el {st : List Value} {G : Nat → List Value → Prop} (h : sA st G) : ∃ x t, st = .ref x :: t ∧ G x t := by
  match st, h with
  | .ref x :: t, h => exact ⟨x, t, rfl, h⟩
theorem sS_el {st : List Value} {G : List Value → Prop} (h : sS st G) : ∃ x t, st = .retAddr x :: t ∧ G t := by
  match st, h with
  | .retAddr x :: t, h => exact ⟨x, t, rfl, h⟩
theorem sV_el {st : List Value} {G : Value → List Value → Prop} (h : sV st G) : ∃ v t, st = v :: t ∧ G v t := by
  match st, h with
  | v :: t, h => exact ⟨v, t, rfl, h⟩
theorem c1_el {v : Value} (h : c1 v) : v.category = 1 := by cases v <;> first | rfl | exact h.elim
theorem gv_el : ∀ {fs : List Value} {k : Nat} {G : Value → Prop}, gv fs k G → ∃ v, fs[k]? = some v ∧ G v
  | v :: _, 0, G, h => ⟨v, rfl, h⟩
  | _ :: t, k + 1, G, h => by
    obtain ⟨v, h1, h2⟩ := gv_el (fs := t) (k := k) h
    exact ⟨v, by simpa using h1, h2⟩
  | [], 0, G, h => h.elim
  | [], _ + 1, G, h => h.elim
theorem gf_el {c : mC} {ci k : Nat} {G : Value → Prop} (h : gf c ci k G) : ∃ fs v, c = .inr (ci, fs) ∧ fs[k]? = some v ∧ G v := by
  match c, h with
  | .inr (cj, fs), ⟨h1, h2⟩ =>
    subst h1
    obtain ⟨v, h3, h4⟩ := gv_el h2
    exact ⟨fs, v, rfl, h3, h4⟩
theorem pf_el {c : mC} {ci k : Nat} {v : Value} {G : mC → Prop} (h : pf c ci k v G) : ∃ fs, c = .inr (ci, fs) ∧ k < fs.length ∧ G (.inr (ci, fs.set k v)) := by
  match c, h with
  | .inr (cj, fs), ⟨h1, h2, h3⟩ => subst h1; exact ⟨fs, rfl, h2, h3⟩
theorem gar_el {c : mC} {t : Nat} {j : Int32} {G : Value → Prop} (h : gar c t j G) : ∃ N f, c = .inl (t, N, f) ∧ vp_in j N ∧ G (f j.toNatClampNeg) := by
  match c, h with
  | .inl (t', N, f), ⟨h1, h2, h3⟩ => subst h1; exact ⟨N, f, rfl, h2, h3⟩
theorem sar_el {c : mC} {t : Nat} {j : Int32} {v : Value} {G : mC → Prop} (h : sar c t j v G) : ∃ N f, c = .inl (t, N, f) ∧ vp_in j N ∧ G (.inl (t, N, updV f j.toNatClampNeg v)) := by
  match c, h with
  | .inl (t', N, f), ⟨h1, h2, h3⟩ => subst h1; exact ⟨N, f, rfl, h2, h3⟩
theorem oc_el {c : mC} {ci : Nat} (h : oc c ci) : ∃ fs, c = .inr (ci, fs) := by
  match c, h with
  | .inr (cj, fs), h => cases h; exact ⟨fs, rfl⟩
theorem aln_el {c : mC} {G : Nat → Prop} (h : aln c G) : ∃ t N f, c = .inl (t, N, f) ∧ t < 6 ∧ G N := by
  match c, h with
  | .inl (t, N, f), ⟨h1, h2⟩ => exact ⟨t, N, f, rfl, h1, h2⟩
theorem scr_el {M : mM} {G : Nat → (Nat → Int32) → Prop} (h : scr M G) : ∃ N xs, M.2.2.2.2.2.2.2 = some (N, xs) ∧ G N xs := by
  unfold scr at h
  split at h
  · rename_i N xs e; exact ⟨N, xs, e, h⟩
  · exact h.elim
theorem popN_el : ∀ {k : Nat} {acc st : List Value} {G : List Value → List Value → Prop}, popN k acc st G → ∃ As t, acc.reverse ++ As.drop acc.length = acc.reverse ++ As.drop acc.length ∧ As.length = k + acc.length ∧ acc.reverse.reverse ++ [] = acc ∧ st = (As.take k).reverse ++ t ∧ As.drop k = acc ∧ G As t
  | 0, acc, st, G, h => ⟨acc, st, rfl, by simp, by simp, by simp, by simp, h⟩
  | k + 1, acc, v :: st, G, h => by
    obtain ⟨As, t, -, h2, -, h4, h5, h6⟩ := popN_el (k := k) (acc := v :: acc) (st := st) h
    refine ⟨As, t, rfl, by simp at h2; omega, by simp, ?_, ?_, h6⟩
    · have hk : k < As.length := by simp at h2; omega
      have e : As[k] = v := by
        have := congrArg (fun l => l[0]?) h5
        simp at this
        have h7 := List.getElem?_eq_getElem hk
        rw [h7] at this
        exact Option.some.inj this
      rw [h4, List.take_succ_eq_append_getElem hk, e]
      simp
    · rw [← List.drop_drop, h5]; rfl
  | _ + 1, _, [], _, h => h.elim
theorem pop_el {k : Nat} {st : List Value} {G : List Value → List Value → Prop} (h : popN k [] st G) : ∃ As t, As.length = k ∧ st = As.reverse ++ t ∧ G As t := by
  obtain ⟨As, t, -, h2, -, h4, h5, h6⟩ := popN_el h
  refine ⟨As, t, by simpa using h2, ?_, h6⟩
  rw [h4, List.take_of_length_le (by simp at h2; omega)]
theorem bud_el {M : mM} {n0 n sl c e : Nat} (h : bud M n0 n sl c e) (hn : n0 ≤ n ∧ n - n0 ≤ M.2.2.2.2.1 ∧ sl ≤ M.2.2.2.2.2.1) : n - n0 + c ≤ M.2.2.2.2.1 ∧ sl + e ≤ M.2.2.2.2.2.1 := by
  rcases h with ⟨rfl, rfl⟩ | h
  · exact ⟨hn.2.1, hn.2.2⟩
  · exact h
/-- the bounds that MW carries may be used -/
theorem mw_bd {d : Nat} {M : mM} {n0 : Nat} {Φ : Option Value → mH → Prop} {pc : Nat} {L : mL} {st : List Value} {n sl : Nat} {h : mH} (k : (n0 ≤ n ∧ n - n0 ≤ M.2.2.2.2.1 ∧ sl ≤ M.2.2.2.2.2.1) → MW d M n0 Φ pc L st n sl h) : MW d M n0 Φ pc L st n sl h := fun g R p l e s m args below meth c Q X hr H locs ls hH hS hL hn => k hn g R p l e s m args below meth c Q X hr H locs ls hH hS hL hn
theorem i32_of {x : Int32} {k : Int} (h : x.toInt = k) : x = Int32.ofInt k := by rw [← h, Int32.ofInt_toInt]
theorem i32_to {k : Int} (h1 : -2147483648 ≤ k) (h2 : k < 2147483648) : (Int32.ofInt k).toInt = k := Int32.toInt_ofInt_of_le (by simpa using h1) (by simpa using h2)
theorem swL_el {d : Nat} {M : mM} {n0 : Nat} {Φ : Option Value → mH → Prop} {pc len : Nat} {L : mL} {st : List Value} {n sl : Nat} {h : mH} {x : Int32} {df : Int} {ps : Array (Int × Int)} (hd : decode M.2.1 pc = .ok (.lookupswitch df ps, len)) (hp : (ps.toList.zip (ps.toList.drop 1)).all (fun (a, next) => a.1 < next.1) = true) (h0 : 0 ≤ (pc : Int) + df) (hps : ∀ o ∈ ps.toList, 0 ≤ (pc : Int) + o.2 ∧ -2147483648 ≤ o.1 ∧ o.1 < 2147483648)
    (hw : swL pc x df ps.toList fun t => MW d M n0 Φ t L st n sl h) : MW d M n0 Φ pc L (.int x :: st) n sl h := by
  have key : ∀ l : List (Int × Int), (∀ o ∈ l, 0 ≤ (pc : Int) + o.2 ∧ -2147483648 ≤ o.1 ∧ o.1 < 2147483648) → swL pc x df l (fun t => MW d M n0 Φ t L st n sl h) → ∃ off tgt, Op.lookupswitch.offset l df x.toInt = off ∧ (pc : Int) + off = (tgt : Nat) ∧ MW d M n0 Φ tgt L st n sl h := by
    intro l
    induction l with
    | nil => intro _ hw; exact ⟨df, _, rfl, (Int.toNat_of_nonneg h0).symm, hw⟩
    | cons o l ih =>
      intro hl hw
      obtain ⟨k, o2⟩ := o
      obtain ⟨b1, b2, b3⟩ := hl _ List.mem_cons_self
      by_cases hx : x.toInt = k
      · exact ⟨o2, _, by simp [Op.lookupswitch.offset, hx], (Int.toNat_of_nonneg b1).symm, hw.1 (i32_of hx)⟩
      · obtain ⟨off, tgt, e1, e2, e3⟩ := ih (fun o ho => hl o (List.mem_cons_of_mem _ ho)) (hw.2 (fun q => hx (by rw [q, i32_to b2 b3])))
        exact ⟨off, tgt, by rw [← e1]; simp [Op.lookupswitch.offset, Ne.symm hx, hx], e2, e3⟩
  obtain ⟨off, tgt, e1, e2, e3⟩ := key _ hps hw
  exact st_lookup hd hp e1 e2 e3
theorem swT_el {d : Nat} {M : mM} {n0 : Nat} {Φ : Option Value → mH → Prop} {pc len : Nat} {L : mL} {st : List Value} {n sl : Nat} {h : mH} {x : Int32} {df lo hi : Int} {offs : Array Int} (hd : decode M.2.1 pc = .ok (.tableswitch df lo hi offs, len)) (hlh : lo + offs.toList.length = hi + 1) (hlo : -2147483648 ≤ lo) (hhi : hi < 2147483648) (h0 : 0 ≤ (pc : Int) + df) (hps : ∀ o ∈ offs.toList, 0 ≤ (pc : Int) + o)
    (hw : swT pc x df lo offs.toList fun t => MW d M n0 Φ t L st n sl h) : MW d M n0 Φ pc L (.int x :: st) n sl h := by
  have key : ∀ (l : List Int) (b : Int), -2147483648 ≤ b → b + l.length ≤ 2147483648 → (∀ o ∈ l, 0 ≤ (pc : Int) + o) → swT pc x df b l (fun t => MW d M n0 Φ t L st n sl h) → ((x.toInt < b ∨ b + l.length ≤ x.toInt) ∧ MW d M n0 Φ ((pc : Int) + df).toNat L st n sl h) ∨ ∃ (k : Nat) (off : Int), x.toInt = b + k ∧ l[k]? = some off ∧ 0 ≤ (pc : Int) + off ∧ MW d M n0 Φ ((pc : Int) + off).toNat L st n sl h := by
    intro l
    induction l with
    | nil => intro b _ _ _ hw; left; exact ⟨by simp; omega, hw⟩
    | cons o l ih =>
      intro b hb hb2 hl hw
      simp only [List.length_cons] at hb2 ⊢
      by_cases hx : x.toInt = b
      · right; exact ⟨0, o, by omega, rfl, hl o List.mem_cons_self, hw.1 (i32_of hx)⟩
      · rcases ih (b + 1) (by omega) (by omega) (fun o ho => hl o (List.mem_cons_of_mem _ ho)) (hw.2 (fun q => hx (by rw [q, i32_to hb (by omega)]))) with ⟨e1, e2⟩ | ⟨k, off, e1, e2, e3, e4⟩
        · left; exact ⟨by omega, e2⟩
        · right; exact ⟨k + 1, off, by omega, by simpa using e2, e3, e4⟩
  rcases key _ lo hlo (by omega) hps hw with ⟨e1, e2⟩ | ⟨k, off, e1, e2, e3, e4⟩
  · exact st_tableOut hd (by omega) (Int.toNat_of_nonneg h0).symm e2
  · have hk : k < offs.toList.length := (List.getElem?_eq_some_iff.mp e2).1
    refine st_tableIn hd (by omega) (by omega) (off := off) ?_ (Int.toNat_of_nonneg e3).symm e4
    rw [show (x.toInt - lo).toNat = k by omega, ← Array.getElem?_toList]
    exact e2

theorem so_iconst {d : Nat} {M : mM} {n0 : Nat} {Φ : Option Value → mH → Prop} {pc len a b c e q : Nat} {y : mM} {L : mL} {st : List Value} {n sl : Nat} {h : mH} {F : mL → List Value → Nat → Nat → mH → Prop} {z : Int} (hd : decode M.2.1 pc = .ok (.iconst z, len)) (hl : il (.iconst z) = 0 ∨ il (.iconst z) = len) (ho : okI M (pc, .iconst z, a, b, c, e, q, y) = true) (hw : wpI d M n0 Φ (MW (d + 1) M n0 Φ) (pc, .iconst z, a, b, c, e, q, y) L st n sl h F) (hF : ∀ L st n sl h, F L st n sl h → MW (d + 1) M n0 Φ (pc + len) L st n sl h) : MW (d + 1) M n0 Φ pc L st n sl h := by
  have hl : (1 : Nat) = 0 ∨ 1 = len := hl
  obtain rfl : len = 1 := by omega
  exact st_iconst hd (of_decide_eq_true ho) (hF _ _ _ _ _ hw)
theorem so_bipush {d : Nat} {M : mM} {n0 : Nat} {Φ : Option Value → mH → Prop} {pc len a b c e q : Nat} {y : mM} {L : mL} {st : List Value} {n sl : Nat} {h : mH} {F : mL → List Value → Nat → Nat → mH → Prop} {z : Int} (hd : decode M.2.1 pc = .ok (.bipush z, len)) (hl : il (.bipush z) = 0 ∨ il (.bipush z) = len) (ho : okI M (pc, .bipush z, a, b, c, e, q, y) = true) (hw : wpI d M n0 Φ (MW (d + 1) M n0 Φ) (pc, .bipush z, a, b, c, e, q, y) L st n sl h F) (hF : ∀ L st n sl h, F L st n sl h → MW (d + 1) M n0 Φ (pc + len) L st n sl h) : MW (d + 1) M n0 Φ pc L st n sl h := by
  have hl : (2 : Nat) = 0 ∨ 2 = len := hl
  obtain rfl : len = 2 := by omega
  exact st_bipush hd (of_decide_eq_true ho) (hF _ _ _ _ _ hw)
theorem so_sipush {d : Nat} {M : mM} {n0 : Nat} {Φ : Option Value → mH → Prop} {pc len a b c e q : Nat} {y : mM} {L : mL} {st : List Value} {n sl : Nat} {h : mH} {F : mL → List Value → Nat → Nat → mH → Prop} {z : Int} (hd : decode M.2.1 pc = .ok (.sipush z, len)) (hl : il (.sipush z) = 0 ∨ il (.sipush z) = len) (ho : okI M (pc, .sipush z, a, b, c, e, q, y) = true) (hw : wpI d M n0 Φ (MW (d + 1) M n0 Φ) (pc, .sipush z, a, b, c, e, q, y) L st n sl h F) (hF : ∀ L st n sl h, F L st n sl h → MW (d + 1) M n0 Φ (pc + len) L st n sl h) : MW (d + 1) M n0 Φ pc L st n sl h := by
  have hl : (3 : Nat) = 0 ∨ 3 = len := hl
  obtain rfl : len = 3 := by omega
  exact st_sipush hd (of_decide_eq_true ho) (hF _ _ _ _ _ hw)
theorem so_lconst {d : Nat} {M : mM} {n0 : Nat} {Φ : Option Value → mH → Prop} {pc len a b c e q : Nat} {y : mM} {L : mL} {st : List Value} {n sl : Nat} {h : mH} {F : mL → List Value → Nat → Nat → mH → Prop} {z : Fin 2} (hd : decode M.2.1 pc = .ok (.lconst z, len)) (hl : il (.lconst z) = 0 ∨ il (.lconst z) = len) (ho : okI M (pc, .lconst z, a, b, c, e, q, y) = true) (hw : wpI d M n0 Φ (MW (d + 1) M n0 Φ) (pc, .lconst z, a, b, c, e, q, y) L st n sl h F) (hF : ∀ L st n sl h, F L st n sl h → MW (d + 1) M n0 Φ (pc + len) L st n sl h) : MW (d + 1) M n0 Φ pc L st n sl h := by
  have hl : (1 : Nat) = 0 ∨ 1 = len := hl
  obtain rfl : len = 1 := by omega
  exact st_lconst hd (of_decide_eq_true ho) (hF _ _ _ _ _ hw)
theorem so_ldc {d : Nat} {M : mM} {n0 : Nat} {Φ : Option Value → mH → Prop} {pc len a b c e q : Nat} {y : mM} {L : mL} {st : List Value} {n sl : Nat} {h : mH} {F : mL → List Value → Nat → Nat → mH → Prop} {k : Nat} (hd : decode M.2.1 pc = .ok (.ldc k, len)) (hl : il (.ldc k) = 0 ∨ il (.ldc k) = len) (ho : okI M (pc, .ldc k, a, b, c, e, q, y) = true) (hw : wpI d M n0 Φ (MW (d + 1) M n0 Φ) (pc, .ldc k, a, b, c, e, q, y) L st n sl h F) (hF : ∀ L st n sl h, F L st n sl h → MW (d + 1) M n0 Φ (pc + len) L st n sl h) : MW (d + 1) M n0 Φ pc L st n sl h := by
  have hl : (2 : Nat) = 0 ∨ 2 = len := hl
  obtain rfl : len = 2 := by omega
  exact st_ldc hd (mTb_at (tq_ok ho) rfl) (hF _ _ _ _ _ hw)
theorem so_ldc_w {d : Nat} {M : mM} {n0 : Nat} {Φ : Option Value → mH → Prop} {pc len a b c e q : Nat} {y : mM} {L : mL} {st : List Value} {n sl : Nat} {h : mH} {F : mL → List Value → Nat → Nat → mH → Prop} {k : Nat} (hd : decode M.2.1 pc = .ok (.ldc_w k, len)) (hl : il (.ldc_w k) = 0 ∨ il (.ldc_w k) = len) (ho : okI M (pc, .ldc_w k, a, b, c, e, q, y) = true) (hw : wpI d M n0 Φ (MW (d + 1) M n0 Φ) (pc, .ldc_w k, a, b, c, e, q, y) L st n sl h F) (hF : ∀ L st n sl h, F L st n sl h → MW (d + 1) M n0 Φ (pc + len) L st n sl h) : MW (d + 1) M n0 Φ pc L st n sl h := by
  have hl : (3 : Nat) = 0 ∨ 3 = len := hl
  obtain rfl : len = 3 := by omega
  exact st_ldc_w hd (mTb_at (tq_ok ho) rfl) (hF _ _ _ _ _ hw)
theorem so_ldc2_w {d : Nat} {M : mM} {n0 : Nat} {Φ : Option Value → mH → Prop} {pc len a b c e q : Nat} {y : mM} {L : mL} {st : List Value} {n sl : Nat} {h : mH} {F : mL → List Value → Nat → Nat → mH → Prop} {k : Nat} (hd : decode M.2.1 pc = .ok (.ldc2_w k, len)) (hl : il (.ldc2_w k) = 0 ∨ il (.ldc2_w k) = len) (ho : okI M (pc, .ldc2_w k, a, b, c, e, q, y) = true) (hw : wpI d M n0 Φ (MW (d + 1) M n0 Φ) (pc, .ldc2_w k, a, b, c, e, q, y) L st n sl h F) (hF : ∀ L st n sl h, F L st n sl h → MW (d + 1) M n0 Φ (pc + len) L st n sl h) : MW (d + 1) M n0 Φ pc L st n sl h := by
  have hl : (3 : Nat) = 0 ∨ 3 = len := hl
  obtain rfl : len = 3 := by omega
  exact st_ldc2_w hd (mTb_at (tq_ok ho) rfl) (hF _ _ _ _ _ hw)
theorem so_iload_n {d : Nat} {M : mM} {n0 : Nat} {Φ : Option Value → mH → Prop} {pc len a b c e q : Nat} {y : mM} {L : mL} {st : List Value} {n sl : Nat} {h : mH} {F : mL → List Value → Nat → Nat → mH → Prop} {k : Fin 4} (hd : decode M.2.1 pc = .ok (.iload_n k, len)) (hl : il (.iload_n k) = 0 ∨ il (.iload_n k) = len) (ho : okI M (pc, .iload_n k, a, b, c, e, q, y) = true) (hw : wpI d M n0 Φ (MW (d + 1) M n0 Φ) (pc, .iload_n k, a, b, c, e, q, y) L st n sl h F) (hF : ∀ L st n sl h, F L st n sl h → MW (d + 1) M n0 Φ (pc + len) L st n sl h) : MW (d + 1) M n0 Φ pc L st n sl h := by
  have hl : (1 : Nat) = 0 ∨ 1 = len := hl
  obtain rfl : len = 1 := by omega
  have hq_ := gl_el hw
  clear hw
  obtain ⟨v, h1, hw⟩ := hq_
  have hq_ := vI_el hw
  clear hw
  obtain ⟨x, rfl, hw⟩ := hq_
  exact st_iload_n hd h1 (hF _ _ _ _ _ hw)
theorem so_iload {d : Nat} {M : mM} {n0 : Nat} {Φ : Option Value → mH → Prop} {pc len a b c e q : Nat} {y : mM} {L : mL} {st : List Value} {n sl : Nat} {h : mH} {F : mL → List Value → Nat → Nat → mH → Prop} {k : Nat} (hd : decode M.2.1 pc = .ok (.iload k, len)) (hl : il (.iload k) = 0 ∨ il (.iload k) = len) (ho : okI M (pc, .iload k, a, b, c, e, q, y) = true) (hw : wpI d M n0 Φ (MW (d + 1) M n0 Φ) (pc, .iload k, a, b, c, e, q, y) L st n sl h F) (hF : ∀ L st n sl h, F L st n sl h → MW (d + 1) M n0 Φ (pc + len) L st n sl h) : MW (d + 1) M n0 Φ pc L st n sl h := by
  have hl : (2 : Nat) = 0 ∨ 2 = len := hl
  obtain rfl : len = 2 := by omega
  have hq_ := gl_el hw
  clear hw
  obtain ⟨v, h1, hw⟩ := hq_
  have hq_ := vI_el hw
  clear hw
  obtain ⟨x, rfl, hw⟩ := hq_
  exact st_iload hd h1 (hF _ _ _ _ _ hw)
theorem so_lload_n {d : Nat} {M : mM} {n0 : Nat} {Φ : Option Value → mH → Prop} {pc len a b c e q : Nat} {y : mM} {L : mL} {st : List Value} {n sl : Nat} {h : mH} {F : mL → List Value → Nat → Nat → mH → Prop} {k : Fin 4} (hd : decode M.2.1 pc = .ok (.lload_n k, len)) (hl : il (.lload_n k) = 0 ∨ il (.lload_n k) = len) (ho : okI M (pc, .lload_n k, a, b, c, e, q, y) = true) (hw : wpI d M n0 Φ (MW (d + 1) M n0 Φ) (pc, .lload_n k, a, b, c, e, q, y) L st n sl h F) (hF : ∀ L st n sl h, F L st n sl h → MW (d + 1) M n0 Φ (pc + len) L st n sl h) : MW (d + 1) M n0 Φ pc L st n sl h := by
  have hl : (1 : Nat) = 0 ∨ 1 = len := hl
  obtain rfl : len = 1 := by omega
  have hq_ := gl_el hw
  clear hw
  obtain ⟨v, h1, hw⟩ := hq_
  have hq_ := vJ_el hw
  clear hw
  obtain ⟨x, rfl, hw⟩ := hq_
  exact st_lload_n hd h1 (hF _ _ _ _ _ hw)
theorem so_lload {d : Nat} {M : mM} {n0 : Nat} {Φ : Option Value → mH → Prop} {pc len a b c e q : Nat} {y : mM} {L : mL} {st : List Value} {n sl : Nat} {h : mH} {F : mL → List Value → Nat → Nat → mH → Prop} {k : Nat} (hd : decode M.2.1 pc = .ok (.lload k, len)) (hl : il (.lload k) = 0 ∨ il (.lload k) = len) (ho : okI M (pc, .lload k, a, b, c, e, q, y) = true) (hw : wpI d M n0 Φ (MW (d + 1) M n0 Φ) (pc, .lload k, a, b, c, e, q, y) L st n sl h F) (hF : ∀ L st n sl h, F L st n sl h → MW (d + 1) M n0 Φ (pc + len) L st n sl h) : MW (d + 1) M n0 Φ pc L st n sl h := by
  have hl : (2 : Nat) = 0 ∨ 2 = len := hl
  obtain rfl : len = 2 := by omega
  have hq_ := gl_el hw
  clear hw
  obtain ⟨v, h1, hw⟩ := hq_
  have hq_ := vJ_el hw
  clear hw
  obtain ⟨x, rfl, hw⟩ := hq_
  exact st_lload hd h1 (hF _ _ _ _ _ hw)
theorem so_aload_n {d : Nat} {M : mM} {n0 : Nat} {Φ : Option Value → mH → Prop} {pc len a b c e q : Nat} {y : mM} {L : mL} {st : List Value} {n sl : Nat} {h : mH} {F : mL → List Value → Nat → Nat → mH → Prop} {k : Fin 4} (hd : decode M.2.1 pc = .ok (.aload_n k, len)) (hl : il (.aload_n k) = 0 ∨ il (.aload_n k) = len) (ho : okI M (pc, .aload_n k, a, b, c, e, q, y) = true) (hw : wpI d M n0 Φ (MW (d + 1) M n0 Φ) (pc, .aload_n k, a, b, c, e, q, y) L st n sl h F) (hF : ∀ L st n sl h, F L st n sl h → MW (d + 1) M n0 Φ (pc + len) L st n sl h) : MW (d + 1) M n0 Φ pc L st n sl h := by
  have hl : (1 : Nat) = 0 ∨ 1 = len := hl
  obtain rfl : len = 1 := by omega
  have hq_ := gl_el hw
  clear hw
  obtain ⟨v, h1, hw⟩ := hq_
  rcases vA_el hw with ⟨x, rfl, hw⟩ | ⟨x, rfl, hw⟩
  · exact st_aload_n hd h1 (hF _ _ _ _ _ hw)
  · exact st_aload_nS hd h1 (hF _ _ _ _ _ hw)
theorem so_istore_n {d : Nat} {M : mM} {n0 : Nat} {Φ : Option Value → mH → Prop} {pc len a b c e q : Nat} {y : mM} {L : mL} {st : List Value} {n sl : Nat} {h : mH} {F : mL → List Value → Nat → Nat → mH → Prop} {k : Fin 4} (hd : decode M.2.1 pc = .ok (.istore_n k, len)) (hl : il (.istore_n k) = 0 ∨ il (.istore_n k) = len) (ho : okI M (pc, .istore_n k, a, b, c, e, q, y) = true) (hw : wpI d M n0 Φ (MW (d + 1) M n0 Φ) (pc, .istore_n k, a, b, c, e, q, y) L st n sl h F) (hF : ∀ L st n sl h, F L st n sl h → MW (d + 1) M n0 Φ (pc + len) L st n sl h) : MW (d + 1) M n0 Φ pc L st n sl h := by
  have hl : (1 : Nat) = 0 ∨ 1 = len := hl
  obtain rfl : len = 1 := by omega
  have hq_ := sI_el hw
  clear hw
  obtain ⟨x, t, rfl, hw⟩ := hq_
  exact st_istore_n hd (of_decide_eq_true ho) (hF _ _ _ _ _ hw)
theorem so_lstore_n {d : Nat} {M : mM} {n0 : Nat} {Φ : Option Value → mH → Prop} {pc len a b c e q : Nat} {y : mM} {L : mL} {st : List Value} {n sl : Nat} {h : mH} {F : mL → List Value → Nat → Nat → mH → Prop} {k : Fin 4} (hd : decode M.2.1 pc = .ok (.lstore_n k, len)) (hl : il (.lstore_n k) = 0 ∨ il (.lstore_n k) = len) (ho : okI M (pc, .lstore_n k, a, b, c, e, q, y) = true) (hw : wpI d M n0 Φ (MW (d + 1) M n0 Φ) (pc, .lstore_n k, a, b, c, e, q, y) L st n sl h F) (hF : ∀ L st n sl h, F L st n sl h → MW (d + 1) M n0 Φ (pc + len) L st n sl h) : MW (d + 1) M n0 Φ pc L st n sl h := by
  have hl : (1 : Nat) = 0 ∨ 1 = len := hl
  obtain rfl : len = 1 := by omega
  have hq_ := sJ_el hw
  clear hw
  obtain ⟨x, t, rfl, hw⟩ := hq_
  exact st_lstore_n hd (of_decide_eq_true ho) (hF _ _ _ _ _ hw)
theorem so_astore_n {d : Nat} {M : mM} {n0 : Nat} {Φ : Option Value → mH → Prop} {pc len a b c e q : Nat} {y : mM} {L : mL} {st : List Value} {n sl : Nat} {h : mH} {F : mL → List Value → Nat → Nat → mH → Prop} {k : Fin 4} (hd : decode M.2.1 pc = .ok (.astore_n k, len)) (hl : il (.astore_n k) = 0 ∨ il (.astore_n k) = len) (ho : okI M (pc, .astore_n k, a, b, c, e, q, y) = true) (hw : wpI d M n0 Φ (MW (d + 1) M n0 Φ) (pc, .astore_n k, a, b, c, e, q, y) L st n sl h F) (hF : ∀ L st n sl h, F L st n sl h → MW (d + 1) M n0 Φ (pc + len) L st n sl h) : MW (d + 1) M n0 Φ pc L st n sl h := by
  have hl : (1 : Nat) = 0 ∨ 1 = len := hl
  obtain rfl : len = 1 := by omega
  have hq_ := sA_el hw
  clear hw
  obtain ⟨x, t, rfl, hw⟩ := hq_
  exact st_astore_n hd (of_decide_eq_true ho) (hF _ _ _ _ _ hw)
theorem so_aload {d : Nat} {M : mM} {n0 : Nat} {Φ : Option Value → mH → Prop} {pc len a b c e q : Nat} {y : mM} {L : mL} {st : List Value} {n sl : Nat} {h : mH} {F : mL → List Value → Nat → Nat → mH → Prop} {k : Nat} (hd : decode M.2.1 pc = .ok (.aload k, len)) (hl : il (.aload k) = 0 ∨ il (.aload k) = len) (ho : okI M (pc, .aload k, a, b, c, e, q, y) = true) (hw : wpI d M n0 Φ (MW (d + 1) M n0 Φ) (pc, .aload k, a, b, c, e, q, y) L st n sl h F) (hF : ∀ L st n sl h, F L st n sl h → MW (d + 1) M n0 Φ (pc + len) L st n sl h) : MW (d + 1) M n0 Φ pc L st n sl h := by
  have hl : (2 : Nat) = 0 ∨ 2 = len := hl
  obtain rfl : len = 2 := by omega
  have hq_ := gl_el hw
  clear hw
  obtain ⟨v, h1, hw⟩ := hq_
  rcases vA_el hw with ⟨x, rfl, hw⟩ | ⟨x, rfl, hw⟩
  · exact st_aload hd h1 (hF _ _ _ _ _ hw)
  · exact st_aloadS hd h1 (hF _ _ _ _ _ hw)
theorem so_istore {d : Nat} {M : mM} {n0 : Nat} {Φ : Option Value → mH → Prop} {pc len a b c e q : Nat} {y : mM} {L : mL} {st : List Value} {n sl : Nat} {h : mH} {F : mL → List Value → Nat → Nat → mH → Prop} {k : Nat} (hd : decode M.2.1 pc = .ok (.istore k, len)) (hl : il (.istore k) = 0 ∨ il (.istore k) = len) (ho : okI M (pc, .istore k, a, b, c, e, q, y) = true) (hw : wpI d M n0 Φ (MW (d + 1) M n0 Φ) (pc, .istore k, a, b, c, e, q, y) L st n sl h F) (hF : ∀ L st n sl h, F L st n sl h → MW (d + 1) M n0 Φ (pc + len) L st n sl h) : MW (d + 1) M n0 Φ pc L st n sl h := by
  have hl : (2 : Nat) = 0 ∨ 2 = len := hl
  obtain rfl : len = 2 := by omega
  have hq_ := sI_el hw
  clear hw
  obtain ⟨x, t, rfl, hw⟩ := hq_
  exact st_istore hd (of_decide_eq_true ho) (hF _ _ _ _ _ hw)
theorem so_lstore {d : Nat} {M : mM} {n0 : Nat} {Φ : Option Value → mH → Prop} {pc len a b c e q : Nat} {y : mM} {L : mL} {st : List Value} {n sl : Nat} {h : mH} {F : mL → List Value → Nat → Nat → mH → Prop} {k : Nat} (hd : decode M.2.1 pc = .ok (.lstore k, len)) (hl : il (.lstore k) = 0 ∨ il (.lstore k) = len) (ho : okI M (pc, .lstore k, a, b, c, e, q, y) = true) (hw : wpI d M n0 Φ (MW (d + 1) M n0 Φ) (pc, .lstore k, a, b, c, e, q, y) L st n sl h F) (hF : ∀ L st n sl h, F L st n sl h → MW (d + 1) M n0 Φ (pc + len) L st n sl h) : MW (d + 1) M n0 Φ pc L st n sl h := by
  have hl : (2 : Nat) = 0 ∨ 2 = len := hl
  obtain rfl : len = 2 := by omega
  have hq_ := sJ_el hw
  clear hw
  obtain ⟨x, t, rfl, hw⟩ := hq_
  exact st_lstore hd (of_decide_eq_true ho) (hF _ _ _ _ _ hw)
theorem so_astore {d : Nat} {M : mM} {n0 : Nat} {Φ : Option Value → mH → Prop} {pc len a b c e q : Nat} {y : mM} {L : mL} {st : List Value} {n sl : Nat} {h : mH} {F : mL → List Value → Nat → Nat → mH → Prop} {k : Nat} (hd : decode M.2.1 pc = .ok (.astore k, len)) (hl : il (.astore k) = 0 ∨ il (.astore k) = len) (ho : okI M (pc, .astore k, a, b, c, e, q, y) = true) (hw : wpI d M n0 Φ (MW (d + 1) M n0 Φ) (pc, .astore k, a, b, c, e, q, y) L st n sl h F) (hF : ∀ L st n sl h, F L st n sl h → MW (d + 1) M n0 Φ (pc + len) L st n sl h) : MW (d + 1) M n0 Φ pc L st n sl h := by
  have hl : (2 : Nat) = 0 ∨ 2 = len := hl
  obtain rfl : len = 2 := by omega
  have hq_ := sA_el hw
  clear hw
  obtain ⟨x, t, rfl, hw⟩ := hq_
  exact st_astore hd (of_decide_eq_true ho) (hF _ _ _ _ _ hw)
theorem so_iinc {d : Nat} {M : mM} {n0 : Nat} {Φ : Option Value → mH → Prop} {pc len a b c e q : Nat} {y : mM} {L : mL} {st : List Value} {n sl : Nat} {h : mH} {F : mL → List Value → Nat → Nat → mH → Prop} {k : Nat} {z : Int} (hd : decode M.2.1 pc = .ok (.iinc k z, len)) (hl : il (.iinc k z) = 0 ∨ il (.iinc k z) = len) (ho : okI M (pc, .iinc k z, a, b, c, e, q, y) = true) (hw : wpI d M n0 Φ (MW (d + 1) M n0 Φ) (pc, .iinc k z, a, b, c, e, q, y) L st n sl h F) (hF : ∀ L st n sl h, F L st n sl h → MW (d + 1) M n0 Φ (pc + len) L st n sl h) : MW (d + 1) M n0 Φ pc L st n sl h := by
  have hl : (3 : Nat) = 0 ∨ 3 = len := hl
  obtain rfl : len = 3 := by omega
  obtain ⟨ho1, ho2⟩ := Bool.and_eq_true_iff.mp ho
  have hq_ := gl_el hw
  clear hw
  obtain ⟨v, h1, hw⟩ := hq_
  have hq_ := vI_el hw
  clear hw
  obtain ⟨x, rfl, hw⟩ := hq_
  exact st_iinc hd (of_decide_eq_true ho1) h1 (by rw [of_decide_eq_true ho2]) (hF _ _ _ _ _ hw)
theorem so_iadd {d : Nat} {M : mM} {n0 : Nat} {Φ : Option Value → mH → Prop} {pc len a b c e q : Nat} {y : mM} {L : mL} {st : List Value} {n sl : Nat} {h : mH} {F : mL → List Value → Nat → Nat → mH → Prop}  (hd : decode M.2.1 pc = .ok (.iadd, len)) (hl : il (.iadd) = 0 ∨ il (.iadd) = len) (ho : okI M (pc, .iadd, a, b, c, e, q, y) = true) (hw : wpI d M n0 Φ (MW (d + 1) M n0 Φ) (pc, .iadd, a, b, c, e, q, y) L st n sl h F) (hF : ∀ L st n sl h, F L st n sl h → MW (d + 1) M n0 Φ (pc + len) L st n sl h) : MW (d + 1) M n0 Φ pc L st n sl h := by
  have hl : (1 : Nat) = 0 ∨ 1 = len := hl
  obtain rfl : len = 1 := by omega
  have hq_ := sII_el hw
  clear hw
  obtain ⟨y, x, t, rfl, hw⟩ := hq_
  exact st_iadd hd (hF _ _ _ _ _ hw)
theorem so_isub {d : Nat} {M : mM} {n0 : Nat} {Φ : Option Value → mH → Prop} {pc len a b c e q : Nat} {y : mM} {L : mL} {st : List Value} {n sl : Nat} {h : mH} {F : mL → List Value → Nat → Nat → mH → Prop}  (hd : decode M.2.1 pc = .ok (.isub, len)) (hl : il (.isub) = 0 ∨ il (.isub) = len) (ho : okI M (pc, .isub, a, b, c, e, q, y) = true) (hw : wpI d M n0 Φ (MW (d + 1) M n0 Φ) (pc, .isub, a, b, c, e, q, y) L st n sl h F) (hF : ∀ L st n sl h, F L st n sl h → MW (d + 1) M n0 Φ (pc + len) L st n sl h) : MW (d + 1) M n0 Φ pc L st n sl h := by
  have hl : (1 : Nat) = 0 ∨ 1 = len := hl
  obtain rfl : len = 1 := by omega
  have hq_ := sII_el hw
  clear hw
  obtain ⟨y, x, t, rfl, hw⟩ := hq_
  exact st_isub hd (hF _ _ _ _ _ hw)
theorem so_imul {d : Nat} {M : mM} {n0 : Nat} {Φ : Option Value → mH → Prop} {pc len a b c e q : Nat} {y : mM} {L : mL} {st : List Value} {n sl : Nat} {h : mH} {F : mL → List Value → Nat → Nat → mH → Prop}  (hd : decode M.2.1 pc = .ok (.imul, len)) (hl : il (.imul) = 0 ∨ il (.imul) = len) (ho : okI M (pc, .imul, a, b, c, e, q, y) = true) (hw : wpI d M n0 Φ (MW (d + 1) M n0 Φ) (pc, .imul, a, b, c, e, q, y) L st n sl h F) (hF : ∀ L st n sl h, F L st n sl h → MW (d + 1) M n0 Φ (pc + len) L st n sl h) : MW (d + 1) M n0 Φ pc L st n sl h := by
  have hl : (1 : Nat) = 0 ∨ 1 = len := hl
  obtain rfl : len = 1 := by omega
  have hq_ := sII_el hw
  clear hw
  obtain ⟨y, x, t, rfl, hw⟩ := hq_
  exact st_imul hd (hF _ _ _ _ _ hw)
theorem so_iand {d : Nat} {M : mM} {n0 : Nat} {Φ : Option Value → mH → Prop} {pc len a b c e q : Nat} {y : mM} {L : mL} {st : List Value} {n sl : Nat} {h : mH} {F : mL → List Value → Nat → Nat → mH → Prop}  (hd : decode M.2.1 pc = .ok (.iand, len)) (hl : il (.iand) = 0 ∨ il (.iand) = len) (ho : okI M (pc, .iand, a, b, c, e, q, y) = true) (hw : wpI d M n0 Φ (MW (d + 1) M n0 Φ) (pc, .iand, a, b, c, e, q, y) L st n sl h F) (hF : ∀ L st n sl h, F L st n sl h → MW (d + 1) M n0 Φ (pc + len) L st n sl h) : MW (d + 1) M n0 Φ pc L st n sl h := by
  have hl : (1 : Nat) = 0 ∨ 1 = len := hl
  obtain rfl : len = 1 := by omega
  have hq_ := sII_el hw
  clear hw
  obtain ⟨y, x, t, rfl, hw⟩ := hq_
  exact st_iand hd (hF _ _ _ _ _ hw)
theorem so_ior {d : Nat} {M : mM} {n0 : Nat} {Φ : Option Value → mH → Prop} {pc len a b c e q : Nat} {y : mM} {L : mL} {st : List Value} {n sl : Nat} {h : mH} {F : mL → List Value → Nat → Nat → mH → Prop}  (hd : decode M.2.1 pc = .ok (.ior, len)) (hl : il (.ior) = 0 ∨ il (.ior) = len) (ho : okI M (pc, .ior, a, b, c, e, q, y) = true) (hw : wpI d M n0 Φ (MW (d + 1) M n0 Φ) (pc, .ior, a, b, c, e, q, y) L st n sl h F) (hF : ∀ L st n sl h, F L st n sl h → MW (d + 1) M n0 Φ (pc + len) L st n sl h) : MW (d + 1) M n0 Φ pc L st n sl h := by
  have hl : (1 : Nat) = 0 ∨ 1 = len := hl
  obtain rfl : len = 1 := by omega
  have hq_ := sII_el hw
  clear hw
  obtain ⟨y, x, t, rfl, hw⟩ := hq_
  exact st_ior hd (hF _ _ _ _ _ hw)
theorem so_ishl {d : Nat} {M : mM} {n0 : Nat} {Φ : Option Value → mH → Prop} {pc len a b c e q : Nat} {y : mM} {L : mL} {st : List Value} {n sl : Nat} {h : mH} {F : mL → List Value → Nat → Nat → mH → Prop}  (hd : decode M.2.1 pc = .ok (.ishl, len)) (hl : il (.ishl) = 0 ∨ il (.ishl) = len) (ho : okI M (pc, .ishl, a, b, c, e, q, y) = true) (hw : wpI d M n0 Φ (MW (d + 1) M n0 Φ) (pc, .ishl, a, b, c, e, q, y) L st n sl h F) (hF : ∀ L st n sl h, F L st n sl h → MW (d + 1) M n0 Φ (pc + len) L st n sl h) : MW (d + 1) M n0 Φ pc L st n sl h := by
  have hl : (1 : Nat) = 0 ∨ 1 = len := hl
  obtain rfl : len = 1 := by omega
  have hq_ := sII_el hw
  clear hw
  obtain ⟨y, x, t, rfl, hw⟩ := hq_
  exact st_ishl hd (hF _ _ _ _ _ hw)
theorem so_ishr {d : Nat} {M : mM} {n0 : Nat} {Φ : Option Value → mH → Prop} {pc len a b c e q : Nat} {y : mM} {L : mL} {st : List Value} {n sl : Nat} {h : mH} {F : mL → List Value → Nat → Nat → mH → Prop}  (hd : decode M.2.1 pc = .ok (.ishr, len)) (hl : il (.ishr) = 0 ∨ il (.ishr) = len) (ho : okI M (pc, .ishr, a, b, c, e, q, y) = true) (hw : wpI d M n0 Φ (MW (d + 1) M n0 Φ) (pc, .ishr, a, b, c, e, q, y) L st n sl h F) (hF : ∀ L st n sl h, F L st n sl h → MW (d + 1) M n0 Φ (pc + len) L st n sl h) : MW (d + 1) M n0 Φ pc L st n sl h := by
  have hl : (1 : Nat) = 0 ∨ 1 = len := hl
  obtain rfl : len = 1 := by omega
  have hq_ := sII_el hw
  clear hw
  obtain ⟨y, x, t, rfl, hw⟩ := hq_
  exact st_ishr hd (hF _ _ _ _ _ hw)
theorem so_iushr {d : Nat} {M : mM} {n0 : Nat} {Φ : Option Value → mH → Prop} {pc len a b c e q : Nat} {y : mM} {L : mL} {st : List Value} {n sl : Nat} {h : mH} {F : mL → List Value → Nat → Nat → mH → Prop}  (hd : decode M.2.1 pc = .ok (.iushr, len)) (hl : il (.iushr) = 0 ∨ il (.iushr) = len) (ho : okI M (pc, .iushr, a, b, c, e, q, y) = true) (hw : wpI d M n0 Φ (MW (d + 1) M n0 Φ) (pc, .iushr, a, b, c, e, q, y) L st n sl h F) (hF : ∀ L st n sl h, F L st n sl h → MW (d + 1) M n0 Φ (pc + len) L st n sl h) : MW (d + 1) M n0 Φ pc L st n sl h := by
  have hl : (1 : Nat) = 0 ∨ 1 = len := hl
  obtain rfl : len = 1 := by omega
  have hq_ := sII_el hw
  clear hw
  obtain ⟨y, x, t, rfl, hw⟩ := hq_
  exact st_iushr hd (hF _ _ _ _ _ hw)
theorem so_idiv {d : Nat} {M : mM} {n0 : Nat} {Φ : Option Value → mH → Prop} {pc len a b c e q : Nat} {y : mM} {L : mL} {st : List Value} {n sl : Nat} {h : mH} {F : mL → List Value → Nat → Nat → mH → Prop}  (hd : decode M.2.1 pc = .ok (.idiv, len)) (hl : il (.idiv) = 0 ∨ il (.idiv) = len) (ho : okI M (pc, .idiv, a, b, c, e, q, y) = true) (hw : wpI d M n0 Φ (MW (d + 1) M n0 Φ) (pc, .idiv, a, b, c, e, q, y) L st n sl h F) (hF : ∀ L st n sl h, F L st n sl h → MW (d + 1) M n0 Φ (pc + len) L st n sl h) : MW (d + 1) M n0 Φ pc L st n sl h := by
  have hl : (1 : Nat) = 0 ∨ 1 = len := hl
  obtain rfl : len = 1 := by omega
  have hq_ := sII_el hw
  clear hw
  obtain ⟨y, x, t, rfl, hne, hw⟩ := hq_
  exact st_idiv hd hne (hF _ _ _ _ _ hw)
theorem so_irem {d : Nat} {M : mM} {n0 : Nat} {Φ : Option Value → mH → Prop} {pc len a b c e q : Nat} {y : mM} {L : mL} {st : List Value} {n sl : Nat} {h : mH} {F : mL → List Value → Nat → Nat → mH → Prop}  (hd : decode M.2.1 pc = .ok (.irem, len)) (hl : il (.irem) = 0 ∨ il (.irem) = len) (ho : okI M (pc, .irem, a, b, c, e, q, y) = true) (hw : wpI d M n0 Φ (MW (d + 1) M n0 Φ) (pc, .irem, a, b, c, e, q, y) L st n sl h F) (hF : ∀ L st n sl h, F L st n sl h → MW (d + 1) M n0 Φ (pc + len) L st n sl h) : MW (d + 1) M n0 Φ pc L st n sl h := by
  have hl : (1 : Nat) = 0 ∨ 1 = len := hl
  obtain rfl : len = 1 := by omega
  have hq_ := sII_el hw
  clear hw
  obtain ⟨y, x, t, rfl, hne, hw⟩ := hq_
  exact st_irem hd hne (hF _ _ _ _ _ hw)
theorem so_ladd {d : Nat} {M : mM} {n0 : Nat} {Φ : Option Value → mH → Prop} {pc len a b c e q : Nat} {y : mM} {L : mL} {st : List Value} {n sl : Nat} {h : mH} {F : mL → List Value → Nat → Nat → mH → Prop}  (hd : decode M.2.1 pc = .ok (.ladd, len)) (hl : il (.ladd) = 0 ∨ il (.ladd) = len) (ho : okI M (pc, .ladd, a, b, c, e, q, y) = true) (hw : wpI d M n0 Φ (MW (d + 1) M n0 Φ) (pc, .ladd, a, b, c, e, q, y) L st n sl h F) (hF : ∀ L st n sl h, F L st n sl h → MW (d + 1) M n0 Φ (pc + len) L st n sl h) : MW (d + 1) M n0 Φ pc L st n sl h := by
  have hl : (1 : Nat) = 0 ∨ 1 = len := hl
  obtain rfl : len = 1 := by omega
  have hq_ := sJJ_el hw
  clear hw
  obtain ⟨y, x, t, rfl, hw⟩ := hq_
  exact st_ladd hd (hF _ _ _ _ _ hw)
theorem so_lmul {d : Nat} {M : mM} {n0 : Nat} {Φ : Option Value → mH → Prop} {pc len a b c e q : Nat} {y : mM} {L : mL} {st : List Value} {n sl : Nat} {h : mH} {F : mL → List Value → Nat → Nat → mH → Prop}  (hd : decode M.2.1 pc = .ok (.lmul, len)) (hl : il (.lmul) = 0 ∨ il (.lmul) = len) (ho : okI M (pc, .lmul, a, b, c, e, q, y) = true) (hw : wpI d M n0 Φ (MW (d + 1) M n0 Φ) (pc, .lmul, a, b, c, e, q, y) L st n sl h F) (hF : ∀ L st n sl h, F L st n sl h → MW (d + 1) M n0 Φ (pc + len) L st n sl h) : MW (d + 1) M n0 Φ pc L st n sl h := by
  have hl : (1 : Nat) = 0 ∨ 1 = len := hl
  obtain rfl : len = 1 := by omega
  have hq_ := sJJ_el hw
  clear hw
  obtain ⟨y, x, t, rfl, hw⟩ := hq_
  exact st_lmul hd (hF _ _ _ _ _ hw)
theorem so_lsub {d : Nat} {M : mM} {n0 : Nat} {Φ : Option Value → mH → Prop} {pc len a b c e q : Nat} {y : mM} {L : mL} {st : List Value} {n sl : Nat} {h : mH} {F : mL → List Value → Nat → Nat → mH → Prop}  (hd : decode M.2.1 pc = .ok (.lsub, len)) (hl : il (.lsub) = 0 ∨ il (.lsub) = len) (ho : okI M (pc, .lsub, a, b, c, e, q, y) = true) (hw : wpI d M n0 Φ (MW (d + 1) M n0 Φ) (pc, .lsub, a, b, c, e, q, y) L st n sl h F) (hF : ∀ L st n sl h, F L st n sl h → MW (d + 1) M n0 Φ (pc + len) L st n sl h) : MW (d + 1) M n0 Φ pc L st n sl h := by
  have hl : (1 : Nat) = 0 ∨ 1 = len := hl
  obtain rfl : len = 1 := by omega
  have hq_ := sJJ_el hw
  clear hw
  obtain ⟨y, x, t, rfl, hw⟩ := hq_
  exact st_lsub hd (hF _ _ _ _ _ hw)
theorem so_lcmp {d : Nat} {M : mM} {n0 : Nat} {Φ : Option Value → mH → Prop} {pc len a b c e q : Nat} {y : mM} {L : mL} {st : List Value} {n sl : Nat} {h : mH} {F : mL → List Value → Nat → Nat → mH → Prop}  (hd : decode M.2.1 pc = .ok (.lcmp, len)) (hl : il (.lcmp) = 0 ∨ il (.lcmp) = len) (ho : okI M (pc, .lcmp, a, b, c, e, q, y) = true) (hw : wpI d M n0 Φ (MW (d + 1) M n0 Φ) (pc, .lcmp, a, b, c, e, q, y) L st n sl h F) (hF : ∀ L st n sl h, F L st n sl h → MW (d + 1) M n0 Φ (pc + len) L st n sl h) : MW (d + 1) M n0 Φ pc L st n sl h := by
  have hl : (1 : Nat) = 0 ∨ 1 = len := hl
  obtain rfl : len = 1 := by omega
  have hq_ := sJJ_el hw
  clear hw
  obtain ⟨y, x, t, rfl, hw⟩ := hq_
  exact st_lcmp hd (hF _ _ _ _ _ hw)
theorem so_ldiv {d : Nat} {M : mM} {n0 : Nat} {Φ : Option Value → mH → Prop} {pc len a b c e q : Nat} {y : mM} {L : mL} {st : List Value} {n sl : Nat} {h : mH} {F : mL → List Value → Nat → Nat → mH → Prop}  (hd : decode M.2.1 pc = .ok (.ldiv, len)) (hl : il (.ldiv) = 0 ∨ il (.ldiv) = len) (ho : okI M (pc, .ldiv, a, b, c, e, q, y) = true) (hw : wpI d M n0 Φ (MW (d + 1) M n0 Φ) (pc, .ldiv, a, b, c, e, q, y) L st n sl h F) (hF : ∀ L st n sl h, F L st n sl h → MW (d + 1) M n0 Φ (pc + len) L st n sl h) : MW (d + 1) M n0 Φ pc L st n sl h := by
  have hl : (1 : Nat) = 0 ∨ 1 = len := hl
  obtain rfl : len = 1 := by omega
  have hq_ := sJJ_el hw
  clear hw
  obtain ⟨y, x, t, rfl, hne, hw⟩ := hq_
  exact st_ldiv hd hne (hF _ _ _ _ _ hw)
theorem so_i2l {d : Nat} {M : mM} {n0 : Nat} {Φ : Option Value → mH → Prop} {pc len a b c e q : Nat} {y : mM} {L : mL} {st : List Value} {n sl : Nat} {h : mH} {F : mL → List Value → Nat → Nat → mH → Prop}  (hd : decode M.2.1 pc = .ok (.i2l, len)) (hl : il (.i2l) = 0 ∨ il (.i2l) = len) (ho : okI M (pc, .i2l, a, b, c, e, q, y) = true) (hw : wpI d M n0 Φ (MW (d + 1) M n0 Φ) (pc, .i2l, a, b, c, e, q, y) L st n sl h F) (hF : ∀ L st n sl h, F L st n sl h → MW (d + 1) M n0 Φ (pc + len) L st n sl h) : MW (d + 1) M n0 Φ pc L st n sl h := by
  have hl : (1 : Nat) = 0 ∨ 1 = len := hl
  obtain rfl : len = 1 := by omega
  have hq_ := sI_el hw
  clear hw
  obtain ⟨x, t, rfl, hw⟩ := hq_
  exact st_i2l hd (hF _ _ _ _ _ hw)
theorem so_l2i {d : Nat} {M : mM} {n0 : Nat} {Φ : Option Value → mH → Prop} {pc len a b c e q : Nat} {y : mM} {L : mL} {st : List Value} {n sl : Nat} {h : mH} {F : mL → List Value → Nat → Nat → mH → Prop}  (hd : decode M.2.1 pc = .ok (.l2i, len)) (hl : il (.l2i) = 0 ∨ il (.l2i) = len) (ho : okI M (pc, .l2i, a, b, c, e, q, y) = true) (hw : wpI d M n0 Φ (MW (d + 1) M n0 Φ) (pc, .l2i, a, b, c, e, q, y) L st n sl h F) (hF : ∀ L st n sl h, F L st n sl h → MW (d + 1) M n0 Φ (pc + len) L st n sl h) : MW (d + 1) M n0 Φ pc L st n sl h := by
  have hl : (1 : Nat) = 0 ∨ 1 = len := hl
  obtain rfl : len = 1 := by omega
  have hq_ := sJ_el hw
  clear hw
  obtain ⟨x, t, rfl, hw⟩ := hq_
  exact st_l2i hd (hF _ _ _ _ _ hw)
theorem so_i2b {d : Nat} {M : mM} {n0 : Nat} {Φ : Option Value → mH → Prop} {pc len a b c e q : Nat} {y : mM} {L : mL} {st : List Value} {n sl : Nat} {h : mH} {F : mL → List Value → Nat → Nat → mH → Prop}  (hd : decode M.2.1 pc = .ok (.i2b, len)) (hl : il (.i2b) = 0 ∨ il (.i2b) = len) (ho : okI M (pc, .i2b, a, b, c, e, q, y) = true) (hw : wpI d M n0 Φ (MW (d + 1) M n0 Φ) (pc, .i2b, a, b, c, e, q, y) L st n sl h F) (hF : ∀ L st n sl h, F L st n sl h → MW (d + 1) M n0 Φ (pc + len) L st n sl h) : MW (d + 1) M n0 Φ pc L st n sl h := by
  have hl : (1 : Nat) = 0 ∨ 1 = len := hl
  obtain rfl : len = 1 := by omega
  have hq_ := sI_el hw
  clear hw
  obtain ⟨x, t, rfl, hw⟩ := hq_
  exact st_i2b hd (hF _ _ _ _ _ hw)
theorem so_dup {d : Nat} {M : mM} {n0 : Nat} {Φ : Option Value → mH → Prop} {pc len a b c e q : Nat} {y : mM} {L : mL} {st : List Value} {n sl : Nat} {h : mH} {F : mL → List Value → Nat → Nat → mH → Prop}  (hd : decode M.2.1 pc = .ok (.dup, len)) (hl : il (.dup) = 0 ∨ il (.dup) = len) (ho : okI M (pc, .dup, a, b, c, e, q, y) = true) (hw : wpI d M n0 Φ (MW (d + 1) M n0 Φ) (pc, .dup, a, b, c, e, q, y) L st n sl h F) (hF : ∀ L st n sl h, F L st n sl h → MW (d + 1) M n0 Φ (pc + len) L st n sl h) : MW (d + 1) M n0 Φ pc L st n sl h := by
  have hl : (1 : Nat) = 0 ∨ 1 = len := hl
  obtain rfl : len = 1 := by omega
  have hq_ := sV_el hw
  clear hw
  obtain ⟨v, t, rfl, hc, hw⟩ := hq_
  exact st_dup hd (c1_el hc) (hF _ _ _ _ _ hw)
theorem so_pop {d : Nat} {M : mM} {n0 : Nat} {Φ : Option Value → mH → Prop} {pc len a b c e q : Nat} {y : mM} {L : mL} {st : List Value} {n sl : Nat} {h : mH} {F : mL → List Value → Nat → Nat → mH → Prop}  (hd : decode M.2.1 pc = .ok (.pop, len)) (hl : il (.pop) = 0 ∨ il (.pop) = len) (ho : okI M (pc, .pop, a, b, c, e, q, y) = true) (hw : wpI d M n0 Φ (MW (d + 1) M n0 Φ) (pc, .pop, a, b, c, e, q, y) L st n sl h F) (hF : ∀ L st n sl h, F L st n sl h → MW (d + 1) M n0 Φ (pc + len) L st n sl h) : MW (d + 1) M n0 Φ pc L st n sl h := by
  have hl : (1 : Nat) = 0 ∨ 1 = len := hl
  obtain rfl : len = 1 := by omega
  have hq_ := sV_el hw
  clear hw
  obtain ⟨v, t, rfl, hc, hw⟩ := hq_
  exact st_pop hd (c1_el hc) (hF _ _ _ _ _ hw)
theorem so_dup2 {d : Nat} {M : mM} {n0 : Nat} {Φ : Option Value → mH → Prop} {pc len a b c e q : Nat} {y : mM} {L : mL} {st : List Value} {n sl : Nat} {h : mH} {F : mL → List Value → Nat → Nat → mH → Prop}  (hd : decode M.2.1 pc = .ok (.dup2, len)) (hl : il (.dup2) = 0 ∨ il (.dup2) = len) (ho : okI M (pc, .dup2, a, b, c, e, q, y) = true) (hw : wpI d M n0 Φ (MW (d + 1) M n0 Φ) (pc, .dup2, a, b, c, e, q, y) L st n sl h F) (hF : ∀ L st n sl h, F L st n sl h → MW (d + 1) M n0 Φ (pc + len) L st n sl h) : MW (d + 1) M n0 Φ pc L st n sl h := by
  have hl : (1 : Nat) = 0 ∨ 1 = len := hl
  obtain rfl : len = 1 := by omega
  have hq_ := sV_el hw
  clear hw
  obtain ⟨v, t, rfl, hw⟩ := hq_
  have hq_ := sV_el hw
  clear hw
  obtain ⟨w, t, rfl, hc, hc2, hw⟩ := hq_
  exact st_dup2 hd (c1_el hc) (c1_el hc2) (hF _ _ _ _ _ hw)
theorem so_if_icmp {d : Nat} {M : mM} {n0 : Nat} {Φ : Option Value → mH → Prop} {pc len a b c e q : Nat} {y : mM} {L : mL} {st : List Value} {n sl : Nat} {h : mH} {F : mL → List Value → Nat → Nat → mH → Prop} {cd : ClassFile.Cond} {off : Int} (hd : decode M.2.1 pc = .ok (.if_icmp cd off, len)) (hl : il (.if_icmp cd off) = 0 ∨ il (.if_icmp cd off) = len) (ho : okI M (pc, .if_icmp cd off, a, b, c, e, q, y) = true) (hw : wpI d M n0 Φ (MW (d + 1) M n0 Φ) (pc, .if_icmp cd off, a, b, c, e, q, y) L st n sl h F) (hF : ∀ L st n sl h, F L st n sl h → MW (d + 1) M n0 Φ (pc + len) L st n sl h) : MW (d + 1) M n0 Φ pc L st n sl h := by
  have hl : (3 : Nat) = 0 ∨ 3 = len := hl
  obtain rfl : len = 3 := by omega
  have hq_ := sII_el hw
  clear hw
  obtain ⟨y, x, t, rfl, hk, hw⟩ := hq_
  cases cd with
  | eq => exact st_icmp_eq hd (of_decide_eq_true ho) hk (fun q => hF _ _ _ _ _ (hw q))
  | ne => exact st_icmp_ne hd (of_decide_eq_true ho) hk (fun q => hF _ _ _ _ _ (hw (fun z => z q)))
  | lt => exact st_icmp_lt hd (of_decide_eq_true ho) hk (fun q => hF _ _ _ _ _ (hw q))
  | ge => exact st_icmp_ge hd (of_decide_eq_true ho) hk (fun q => hF _ _ _ _ _ (hw q))
  | gt => exact st_icmp_gt hd (of_decide_eq_true ho) hk (fun q => hF _ _ _ _ _ (hw q))
  | le => exact st_icmp_le hd (of_decide_eq_true ho) hk (fun q => hF _ _ _ _ _ (hw q))
theorem so_ifCond {d : Nat} {M : mM} {n0 : Nat} {Φ : Option Value → mH → Prop} {pc len a b c e q : Nat} {y : mM} {L : mL} {st : List Value} {n sl : Nat} {h : mH} {F : mL → List Value → Nat → Nat → mH → Prop} {cd : ClassFile.Cond} {off : Int} (hd : decode M.2.1 pc = .ok (.ifCond cd off, len)) (hl : il (.ifCond cd off) = 0 ∨ il (.ifCond cd off) = len) (ho : okI M (pc, .ifCond cd off, a, b, c, e, q, y) = true) (hw : wpI d M n0 Φ (MW (d + 1) M n0 Φ) (pc, .ifCond cd off, a, b, c, e, q, y) L st n sl h F) (hF : ∀ L st n sl h, F L st n sl h → MW (d + 1) M n0 Φ (pc + len) L st n sl h) : MW (d + 1) M n0 Φ pc L st n sl h := by
  have hl : (3 : Nat) = 0 ∨ 3 = len := hl
  obtain rfl : len = 3 := by omega
  have hq_ := sI_el hw
  clear hw
  obtain ⟨x, t, rfl, hk, hw⟩ := hq_
  cases cd with
  | eq => exact st_if_eq hd (of_decide_eq_true ho) hk (fun q => hF _ _ _ _ _ (hw q))
  | ne => exact st_if_ne hd (of_decide_eq_true ho) hk (fun q => hF _ _ _ _ _ (hw (fun z => z q)))
  | lt => exact st_if_lt hd (of_decide_eq_true ho) hk (fun q => hF _ _ _ _ _ (hw q))
  | ge => exact st_if_ge hd (of_decide_eq_true ho) hk (fun q => hF _ _ _ _ _ (hw q))
  | gt => exact st_if_gt hd (of_decide_eq_true ho) hk (fun q => hF _ _ _ _ _ (hw q))
  | le => exact st_if_le hd (of_decide_eq_true ho) hk (fun q => hF _ _ _ _ _ (hw q))
theorem so_goto {d : Nat} {M : mM} {n0 : Nat} {Φ : Option Value → mH → Prop} {pc len a b c e q : Nat} {y : mM} {L : mL} {st : List Value} {n sl : Nat} {h : mH} {F : mL → List Value → Nat → Nat → mH → Prop} {off : Int} (hd : decode M.2.1 pc = .ok (.goto off, len)) (hl : il (.goto off) = 0 ∨ il (.goto off) = len) (ho : okI M (pc, .goto off, a, b, c, e, q, y) = true) (hw : wpI d M n0 Φ (MW (d + 1) M n0 Φ) (pc, .goto off, a, b, c, e, q, y) L st n sl h F) (hF : ∀ L st n sl h, F L st n sl h → MW (d + 1) M n0 Φ (pc + len) L st n sl h) : MW (d + 1) M n0 Φ pc L st n sl h := by
  have hl : (3 : Nat) = 0 ∨ 3 = len := hl
  obtain rfl : len = 3 := by omega
  exact st_goto hd (of_decide_eq_true ho) hw
theorem so_tableswitch {d : Nat} {M : mM} {n0 : Nat} {Φ : Option Value → mH → Prop} {pc len a b c e q : Nat} {y : mM} {L : mL} {st : List Value} {n sl : Nat} {h : mH} {F : mL → List Value → Nat → Nat → mH → Prop} {df lo hi : Int} {offs : Array Int} (hd : decode M.2.1 pc = .ok (.tableswitch df lo hi offs, len)) (hl : il (.tableswitch df lo hi offs) = 0 ∨ il (.tableswitch df lo hi offs) = len) (ho : okI M (pc, .tableswitch df lo hi offs, a, b, c, e, q, y) = true) (hw : wpI d M n0 Φ (MW (d + 1) M n0 Φ) (pc, .tableswitch df lo hi offs, a, b, c, e, q, y) L st n sl h F) (hF : ∀ L st n sl h, F L st n sl h → MW (d + 1) M n0 Φ (pc + len) L st n sl h) : MW (d + 1) M n0 Φ pc L st n sl h := by
  simp only [okI, Bool.and_eq_true, decide_eq_true_eq, List.all_eq_true] at ho
  have hq_ := sI_el hw
  clear hw
  obtain ⟨x, t, rfl, hw⟩ := hq_
  exact swT_el hd ho.1.1.1.1 ho.1.1.1.2 ho.1.1.2 ho.1.2 ho.2 hw
theorem so_lookupswitch {d : Nat} {M : mM} {n0 : Nat} {Φ : Option Value → mH → Prop} {pc len a b c e q : Nat} {y : mM} {L : mL} {st : List Value} {n sl : Nat} {h : mH} {F : mL → List Value → Nat → Nat → mH → Prop} {df : Int} {ps : Array (Int × Int)} (hd : decode M.2.1 pc = .ok (.lookupswitch df ps, len)) (hl : il (.lookupswitch df ps) = 0 ∨ il (.lookupswitch df ps) = len) (ho : okI M (pc, .lookupswitch df ps, a, b, c, e, q, y) = true) (hw : wpI d M n0 Φ (MW (d + 1) M n0 Φ) (pc, .lookupswitch df ps, a, b, c, e, q, y) L st n sl h F) (hF : ∀ L st n sl h, F L st n sl h → MW (d + 1) M n0 Φ (pc + len) L st n sl h) : MW (d + 1) M n0 Φ pc L st n sl h := by
  simp only [okI, Bool.and_eq_true, decide_eq_true_eq] at ho
  have hq_ := sI_el hw
  clear hw
  obtain ⟨x, t, rfl, hw⟩ := hq_
  refine swL_el hd ho.1.1 ho.1.2 (fun o h => ?_) hw
  have := List.all_eq_true.mp ho.2 o h
  simp only [Bool.and_eq_true, decide_eq_true_eq] at this
  exact ⟨this.1.1, this.1.2, this.2⟩
theorem so_ireturn {d : Nat} {M : mM} {n0 : Nat} {Φ : Option Value → mH → Prop} {pc len a b c e q : Nat} {y : mM} {L : mL} {st : List Value} {n sl : Nat} {h : mH} {F : mL → List Value → Nat → Nat → mH → Prop}  (hd : decode M.2.1 pc = .ok (.ireturn, len)) (hl : il (.ireturn) = 0 ∨ il (.ireturn) = len) (ho : okI M (pc, .ireturn, a, b, c, e, q, y) = true) (hw : wpI d M n0 Φ (MW (d + 1) M n0 Φ) (pc, .ireturn, a, b, c, e, q, y) L st n sl h F) (hF : ∀ L st n sl h, F L st n sl h → MW (d + 1) M n0 Φ (pc + len) L st n sl h) : MW (d + 1) M n0 Φ pc L st n sl h := by
  have hl : (1 : Nat) = 0 ∨ 1 = len := hl
  obtain rfl : len = 1 := by omega
  obtain ⟨ho1, ho2⟩ := Bool.and_eq_true_iff.mp ho
  have hc := of_decide_eq_true ho1
  have hq_ := sI_el hw
  clear hw
  obtain ⟨x, t, rfl, rfl, ha, hm, hw⟩ := hq_
  refine st_ret (v := some (.int x)) (Or.inl ⟨x, rfl, hd, ?_⟩) (by rw [← hc]; exact hm) hw
  match a, ha, ho2 with
  | 0, _, ho2 => exact Or.inl (of_decide_eq_true ho2)
  | k + 1, ha, ho2 => exact Or.inr ⟨of_decide_eq_true ho2, ha.resolve_left (by omega)⟩
theorem so_lreturn {d : Nat} {M : mM} {n0 : Nat} {Φ : Option Value → mH → Prop} {pc len a b c e q : Nat} {y : mM} {L : mL} {st : List Value} {n sl : Nat} {h : mH} {F : mL → List Value → Nat → Nat → mH → Prop}  (hd : decode M.2.1 pc = .ok (.lreturn, len)) (hl : il (.lreturn) = 0 ∨ il (.lreturn) = len) (ho : okI M (pc, .lreturn, a, b, c, e, q, y) = true) (hw : wpI d M n0 Φ (MW (d + 1) M n0 Φ) (pc, .lreturn, a, b, c, e, q, y) L st n sl h F) (hF : ∀ L st n sl h, F L st n sl h → MW (d + 1) M n0 Φ (pc + len) L st n sl h) : MW (d + 1) M n0 Φ pc L st n sl h := by
  have hl : (1 : Nat) = 0 ∨ 1 = len := hl
  obtain rfl : len = 1 := by omega
  obtain ⟨ho1, ho2⟩ := Bool.and_eq_true_iff.mp ho
  have hc := of_decide_eq_true ho1
  have hq_ := sJ_el hw
  clear hw
  obtain ⟨x, t, rfl, rfl, hm, hw⟩ := hq_
  exact st_ret (v := some (.long x)) (Or.inr (Or.inl ⟨x, rfl, hd, of_decide_eq_true ho2⟩)) (by rw [← hc]; exact hm) hw
theorem so_return_ {d : Nat} {M : mM} {n0 : Nat} {Φ : Option Value → mH → Prop} {pc len a b c e q : Nat} {y : mM} {L : mL} {st : List Value} {n sl : Nat} {h : mH} {F : mL → List Value → Nat → Nat → mH → Prop}  (hd : decode M.2.1 pc = .ok (.return_, len)) (hl : il (.return_) = 0 ∨ il (.return_) = len) (ho : okI M (pc, .return_, a, b, c, e, q, y) = true) (hw : wpI d M n0 Φ (MW (d + 1) M n0 Φ) (pc, .return_, a, b, c, e, q, y) L st n sl h F) (hF : ∀ L st n sl h, F L st n sl h → MW (d + 1) M n0 Φ (pc + len) L st n sl h) : MW (d + 1) M n0 Φ pc L st n sl h := by
  have hl : (1 : Nat) = 0 ∨ 1 = len := hl
  obtain rfl : len = 1 := by omega
  obtain ⟨ho1, ho2⟩ := Bool.and_eq_true_iff.mp ho
  have hc := of_decide_eq_true ho1
  obtain ⟨rfl, hm, hw⟩ := hw
  exact st_ret (v := none) (Or.inr (Or.inr ⟨rfl, hd, of_decide_eq_true ho2⟩)) (by rw [← hc]; exact hm) hw
theorem so_getfield {d : Nat} {M : mM} {n0 : Nat} {Φ : Option Value → mH → Prop} {pc len a b c e q : Nat} {y : mM} {L : mL} {st : List Value} {n sl : Nat} {h : mH} {F : mL → List Value → Nat → Nat → mH → Prop} {k : Nat} (hd : decode M.2.1 pc = .ok (.getfield k, len)) (hl : il (.getfield k) = 0 ∨ il (.getfield k) = len) (ho : okI M (pc, .getfield k, a, b, c, e, q, y) = true) (hw : wpI d M n0 Φ (MW (d + 1) M n0 Φ) (pc, .getfield k, a, b, c, e, q, y) L st n sl h F) (hF : ∀ L st n sl h, F L st n sl h → MW (d + 1) M n0 Φ (pc + len) L st n sl h) : MW (d + 1) M n0 Φ pc L st n sl h := by
  have hl : (3 : Nat) = 0 ∨ 3 = len := hl
  obtain rfl : len = 3 := by omega
  have hq_ := sA_el hw
  clear hw
  obtain ⟨r, t, rfl, hw⟩ := hq_
  have hq_ := gf_el hw
  clear hw
  obtain ⟨fs, v, h1, h2, hw⟩ := hq_
  simp only [okI, lkF] at ho
  split at ho
  · rename_i C T N hc
    simp only [Bool.and_eq_true, Bool.or_eq_true, decide_eq_true_eq] at ho
    rcases ho.2 with hq | hq
    · exact st_getfield (host := "") hd hc ho.1 (mTb_at (tq_ok hq) rfl) h1 h2 (hF _ _ _ _ _ hw)
    · exact st_getfieldN hd hc ho.1 (mTb_at (tq_ok hq) rfl) h1 h2 (hF _ _ _ _ _ hw)
  · cases ho
theorem so_putfield {d : Nat} {M : mM} {n0 : Nat} {Φ : Option Value → mH → Prop} {pc len a b c e q : Nat} {y : mM} {L : mL} {st : List Value} {n sl : Nat} {h : mH} {F : mL → List Value → Nat → Nat → mH → Prop} {k : Nat} (hd : decode M.2.1 pc = .ok (.putfield k, len)) (hl : il (.putfield k) = 0 ∨ il (.putfield k) = len) (ho : okI M (pc, .putfield k, a, b, c, e, q, y) = true) (hw : wpI d M n0 Φ (MW (d + 1) M n0 Φ) (pc, .putfield k, a, b, c, e, q, y) L st n sl h F) (hF : ∀ L st n sl h, F L st n sl h → MW (d + 1) M n0 Φ (pc + len) L st n sl h) : MW (d + 1) M n0 Φ pc L st n sl h := by
  have hl : (3 : Nat) = 0 ∨ 3 = len := hl
  obtain rfl : len = 3 := by omega
  have hq_ := sV_el hw
  clear hw
  obtain ⟨v, t, rfl, hw⟩ := hq_
  have hq_ := sA_el hw
  clear hw
  obtain ⟨r, t, rfl, hv, hw⟩ := hq_
  have hq_ := pf_el hw
  clear hw
  obtain ⟨fs, h1, h2, hw⟩ := hq_
  simp only [okI, lkP] at ho
  split at ho
  · rename_i C T N hc
    simp only [Bool.and_eq_true, decide_eq_true_eq] at ho
    obtain ⟨⟨hbN, hty⟩, hlk⟩ := ho
    have hk : ∃ ty, parseFieldDescriptor (T b).2.2.1 = some ty ∧ ∀ g : mG, narrow ty (mrl g v) = mrl g v ∧ fits ty (mrl g v) = true := by
      split at hty
      · rename_i e1; refine ⟨_, e1, fun g => ?_⟩; cases v <;> first | exact hv.elim | exact ⟨rfl, rfl⟩
      · rename_i e1; refine ⟨_, e1, fun g => ?_⟩; cases v <;> first | exact hv.elim | (rcases hv with rfl | rfl <;> exact ⟨rfl, rfl⟩)
      · rename_i e1; refine ⟨_, e1, fun g => ?_⟩; cases v <;> first | exact hv.elim | exact ⟨rfl, rfl⟩
      · rename_i e1; refine ⟨_, e1, fun g => ?_⟩; cases v <;> first | exact hv.elim | exact ⟨rfl, rfl⟩
      · rename_i e1; refine ⟨_, e1, fun g => ?_⟩; cases v <;> first | exact hv.elim | exact ⟨rfl, rfl⟩
      · cases hty
    obtain ⟨ty, hty1, hty2⟩ := hk
    match e, hlk with
    | 0, hlk =>
      simp only [Bool.and_eq_true, Bool.or_eq_true, decide_eq_true_eq] at hlk
      rcases hlk.2 with hq | hq
      · exact st_putfield (host := "") hd hc hbN (mTb_at (tq_ok hq) rfl) h1 h2 hlk.1 hty1 hty2 (hF _ _ _ _ _ hw)
      · exact st_putfieldN hd hc hbN (mTb_at (tq_ok hq) rfl) h1 h2 hlk.1 hty1 hty2 (hF _ _ _ _ _ hw)
    | z + 1, hlk =>
      simp only [Bool.and_eq_true, decide_eq_true_eq] at hlk
      exact st_putfieldF (host := "") hd hc hbN (mTb_at (tq_ok hlk.2) rfl) h1 h2 hlk.1.1.1 hlk.1.1.2 hlk.1.2 hty1 hty2 (hF _ _ _ _ _ hw)
  · cases ho
theorem so_new {d : Nat} {M : mM} {n0 : Nat} {Φ : Option Value → mH → Prop} {pc len a b c e q : Nat} {y : mM} {L : mL} {st : List Value} {n sl : Nat} {h : mH} {F : mL → List Value → Nat → Nat → mH → Prop} {k : Nat} (hd : decode M.2.1 pc = .ok (.new k, len)) (hl : il (.new k) = 0 ∨ il (.new k) = len) (ho : okI M (pc, .new k, a, b, c, e, q, y) = true) (hw : wpI d M n0 Φ (MW (d + 1) M n0 Φ) (pc, .new k, a, b, c, e, q, y) L st n sl h F) (hF : ∀ L st n sl h, F L st n sl h → MW (d + 1) M n0 Φ (pc + len) L st n sl h) : MW (d + 1) M n0 Φ pc L st n sl h := by
  have hl : (3 : Nat) = 0 ∨ 3 = len := hl
  obtain rfl : len = 3 := by omega
  obtain ⟨hm, hms, hw⟩ := hw
  simp only [okI, Bool.and_eq_true, decide_eq_true_eq] at ho
  obtain ⟨⟨rfl, rfl⟩, ho⟩ := ho
  split at ho
  · rename_i C T N hc
    simp only [Bool.and_eq_true, decide_eq_true_eq] at ho
    obtain ⟨rfl, hq⟩ := ho
    exact st_new hd hc (mTb_at (tq_ok hq) rfl) hm hms (hF _ _ _ _ _ hw)
  · cases ho
theorem so_newarray {d : Nat} {M : mM} {n0 : Nat} {Φ : Option Value → mH → Prop} {pc len a b c e q : Nat} {y : mM} {L : mL} {st : List Value} {n sl : Nat} {h : mH} {F : mL → List Value → Nat → Nat → mH → Prop} {ar : ArrayType} (hd : decode M.2.1 pc = .ok (.newarray ar, len)) (hl : il (.newarray ar) = 0 ∨ il (.newarray ar) = len) (ho : okI M (pc, .newarray ar, a, b, c, e, q, y) = true) (hw : wpI d M n0 Φ (MW (d + 1) M n0 Φ) (pc, .newarray ar, a, b, c, e, q, y) L st n sl h F) (hF : ∀ L st n sl h, F L st n sl h → MW (d + 1) M n0 Φ (pc + len) L st n sl h) : MW (d + 1) M n0 Φ pc L st n sl h := by
  have hl : (2 : Nat) = 0 ∨ 2 = len := hl
  obtain rfl : len = 2 := by omega
  have hq_ := sI_el hw
  clear hw
  obtain ⟨x, t, rfl, rfl, hm, hms, hw⟩ := hq_
  simp only [okI, Bool.and_eq_true, decide_eq_true_eq] at ho
  obtain ⟨⟨⟨⟨rfl, rfl⟩, h4⟩, hty⟩, hN⟩ := ho
  exact st_newarray hd h4 hty hN hm hms (hF _ _ _ _ _ hw)
theorem so_anewarray {d : Nat} {M : mM} {n0 : Nat} {Φ : Option Value → mH → Prop} {pc len a b c e q : Nat} {y : mM} {L : mL} {st : List Value} {n sl : Nat} {h : mH} {F : mL → List Value → Nat → Nat → mH → Prop} {k : Nat} (hd : decode M.2.1 pc = .ok (.anewarray k, len)) (hl : il (.anewarray k) = 0 ∨ il (.anewarray k) = len) (ho : okI M (pc, .anewarray k, a, b, c, e, q, y) = true) (hw : wpI d M n0 Φ (MW (d + 1) M n0 Φ) (pc, .anewarray k, a, b, c, e, q, y) L st n sl h F) (hF : ∀ L st n sl h, F L st n sl h → MW (d + 1) M n0 Φ (pc + len) L st n sl h) : MW (d + 1) M n0 Φ pc L st n sl h := by
  have hl : (3 : Nat) = 0 ∨ 3 = len := hl
  obtain rfl : len = 3 := by omega
  have hq_ := sI_el hw
  clear hw
  obtain ⟨x, t, rfl, rfl, hm, hms, hw⟩ := hq_
  simp only [okI, Bool.and_eq_true, decide_eq_true_eq] at ho
  obtain ⟨⟨⟨rfl, rfl⟩, hN⟩, ho⟩ := ho
  split at ho
  · exact st_anewarray (C := RX3) hd (Or.inl rfl) rfl (mTb_at (tq_ok ho) rfl) hN hm hms (hF _ _ _ _ _ hw)
  · exact st_anewarray (C := RX4) hd (Or.inr rfl) rfl (mTb_at (tq_ok ho) rfl) hN hm hms (hF _ _ _ _ _ hw)
  · cases ho
theorem so_iaload {d : Nat} {M : mM} {n0 : Nat} {Φ : Option Value → mH → Prop} {pc len a b c e q : Nat} {y : mM} {L : mL} {st : List Value} {n sl : Nat} {h : mH} {F : mL → List Value → Nat → Nat → mH → Prop}  (hd : decode M.2.1 pc = .ok (.iaload, len)) (hl : il (.iaload) = 0 ∨ il (.iaload) = len) (ho : okI M (pc, .iaload, a, b, c, e, q, y) = true) (hw : wpI d M n0 Φ (MW (d + 1) M n0 Φ) (pc, .iaload, a, b, c, e, q, y) L st n sl h F) (hF : ∀ L st n sl h, F L st n sl h → MW (d + 1) M n0 Φ (pc + len) L st n sl h) : MW (d + 1) M n0 Φ pc L st n sl h := by
  have hl : (1 : Nat) = 0 ∨ 1 = len := hl
  obtain rfl : len = 1 := by omega
  have hq_ := sI_el hw
  clear hw
  obtain ⟨j, t, rfl, hw⟩ := hq_
  cases a with
  | zero =>
    have hq_ := sA_el hw
    clear hw
    obtain ⟨r, t, rfl, hw⟩ := hq_
    have hq_ := gar_el hw
    clear hw
    obtain ⟨N, f, h1, h2, hw⟩ := hq_
    exact st_iaload hd h1 h2 (hF _ _ _ _ _ hw)
  | succ z =>
    have hq_ := sS_el hw
    clear hw
    obtain ⟨r, t, rfl, hw⟩ := hq_
    have hq_ := scr_el hw
    clear hw
    obtain ⟨N, xs, h1, h2, hw⟩ := hq_
    exact st_sld hd h1 h2 (hF _ _ _ _ _ hw)
theorem so_baload {d : Nat} {M : mM} {n0 : Nat} {Φ : Option Value → mH → Prop} {pc len a b c e q : Nat} {y : mM} {L : mL} {st : List Value} {n sl : Nat} {h : mH} {F : mL → List Value → Nat → Nat → mH → Prop}  (hd : decode M.2.1 pc = .ok (.baload, len)) (hl : il (.baload) = 0 ∨ il (.baload) = len) (ho : okI M (pc, .baload, a, b, c, e, q, y) = true) (hw : wpI d M n0 Φ (MW (d + 1) M n0 Φ) (pc, .baload, a, b, c, e, q, y) L st n sl h F) (hF : ∀ L st n sl h, F L st n sl h → MW (d + 1) M n0 Φ (pc + len) L st n sl h) : MW (d + 1) M n0 Φ pc L st n sl h := by
  have hl : (1 : Nat) = 0 ∨ 1 = len := hl
  obtain rfl : len = 1 := by omega
  have hq_ := sI_el hw
  clear hw
  obtain ⟨j, t, rfl, hw⟩ := hq_
  have hq_ := sA_el hw
  clear hw
  obtain ⟨r, t, rfl, hw⟩ := hq_
  have hq_ := gar_el hw
  clear hw
  obtain ⟨N, f, h1, h2, hw⟩ := hq_
  simp only [okI, Bool.or_eq_true, decide_eq_true_eq] at ho
  rcases ho with rfl | rfl
  · exact st_zaload hd h1 h2 (hF _ _ _ _ _ hw)
  · exact st_baload hd h1 h2 (hF _ _ _ _ _ hw)
theorem so_aaload {d : Nat} {M : mM} {n0 : Nat} {Φ : Option Value → mH → Prop} {pc len a b c e q : Nat} {y : mM} {L : mL} {st : List Value} {n sl : Nat} {h : mH} {F : mL → List Value → Nat → Nat → mH → Prop}  (hd : decode M.2.1 pc = .ok (.aaload, len)) (hl : il (.aaload) = 0 ∨ il (.aaload) = len) (ho : okI M (pc, .aaload, a, b, c, e, q, y) = true) (hw : wpI d M n0 Φ (MW (d + 1) M n0 Φ) (pc, .aaload, a, b, c, e, q, y) L st n sl h F) (hF : ∀ L st n sl h, F L st n sl h → MW (d + 1) M n0 Φ (pc + len) L st n sl h) : MW (d + 1) M n0 Φ pc L st n sl h := by
  have hl : (1 : Nat) = 0 ∨ 1 = len := hl
  obtain rfl : len = 1 := by omega
  have hq_ := sI_el hw
  clear hw
  obtain ⟨j, t, rfl, hw⟩ := hq_
  have hq_ := sA_el hw
  clear hw
  obtain ⟨r, t, rfl, hw⟩ := hq_
  have hq_ := gar_el hw
  clear hw
  obtain ⟨N, f, h1, h2, hw⟩ := hq_
  simp only [okI, Bool.or_eq_true, decide_eq_true_eq] at ho
  rcases ho with rfl | rfl
  · exact st_aaload4 hd h1 h2 (hF _ _ _ _ _ hw)
  · exact st_aaload5 hd h1 h2 (hF _ _ _ _ _ hw)
theorem so_laload {d : Nat} {M : mM} {n0 : Nat} {Φ : Option Value → mH → Prop} {pc len a b c e q : Nat} {y : mM} {L : mL} {st : List Value} {n sl : Nat} {h : mH} {F : mL → List Value → Nat → Nat → mH → Prop}  (hd : decode M.2.1 pc = .ok (.laload, len)) (hl : il (.laload) = 0 ∨ il (.laload) = len) (ho : okI M (pc, .laload, a, b, c, e, q, y) = true) (hw : wpI d M n0 Φ (MW (d + 1) M n0 Φ) (pc, .laload, a, b, c, e, q, y) L st n sl h F) (hF : ∀ L st n sl h, F L st n sl h → MW (d + 1) M n0 Φ (pc + len) L st n sl h) : MW (d + 1) M n0 Φ pc L st n sl h := by
  have hl : (1 : Nat) = 0 ∨ 1 = len := hl
  obtain rfl : len = 1 := by omega
  have hq_ := sI_el hw
  clear hw
  obtain ⟨j, t, rfl, hw⟩ := hq_
  have hq_ := sA_el hw
  clear hw
  obtain ⟨r, t, rfl, hw⟩ := hq_
  have hq_ := gar_el hw
  clear hw
  obtain ⟨N, f, h1, h2, hw⟩ := hq_
  exact st_laload hd h1 h2 (hF _ _ _ _ _ hw)
theorem so_iastore {d : Nat} {M : mM} {n0 : Nat} {Φ : Option Value → mH → Prop} {pc len a b c e q : Nat} {y : mM} {L : mL} {st : List Value} {n sl : Nat} {h : mH} {F : mL → List Value → Nat → Nat → mH → Prop}  (hd : decode M.2.1 pc = .ok (.iastore, len)) (hl : il (.iastore) = 0 ∨ il (.iastore) = len) (ho : okI M (pc, .iastore, a, b, c, e, q, y) = true) (hw : wpI d M n0 Φ (MW (d + 1) M n0 Φ) (pc, .iastore, a, b, c, e, q, y) L st n sl h F) (hF : ∀ L st n sl h, F L st n sl h → MW (d + 1) M n0 Φ (pc + len) L st n sl h) : MW (d + 1) M n0 Φ pc L st n sl h := by
  have hl : (1 : Nat) = 0 ∨ 1 = len := hl
  obtain rfl : len = 1 := by omega
  have hq_ := sI_el hw
  clear hw
  obtain ⟨x, t, rfl, hw⟩ := hq_
  have hq_ := sI_el hw
  clear hw
  obtain ⟨j, t, rfl, hw⟩ := hq_
  have hq_ := sA_el hw
  clear hw
  obtain ⟨r, t, rfl, hw⟩ := hq_
  have hq_ := sar_el hw
  clear hw
  obtain ⟨N, f, h1, h2, hw⟩ := hq_
  exact st_iastore hd h1 h2 (hF _ _ _ _ _ hw)
theorem so_lastore {d : Nat} {M : mM} {n0 : Nat} {Φ : Option Value → mH → Prop} {pc len a b c e q : Nat} {y : mM} {L : mL} {st : List Value} {n sl : Nat} {h : mH} {F : mL → List Value → Nat → Nat → mH → Prop}  (hd : decode M.2.1 pc = .ok (.lastore, len)) (hl : il (.lastore) = 0 ∨ il (.lastore) = len) (ho : okI M (pc, .lastore, a, b, c, e, q, y) = true) (hw : wpI d M n0 Φ (MW (d + 1) M n0 Φ) (pc, .lastore, a, b, c, e, q, y) L st n sl h F) (hF : ∀ L st n sl h, F L st n sl h → MW (d + 1) M n0 Φ (pc + len) L st n sl h) : MW (d + 1) M n0 Φ pc L st n sl h := by
  have hl : (1 : Nat) = 0 ∨ 1 = len := hl
  obtain rfl : len = 1 := by omega
  have hq_ := sJ_el hw
  clear hw
  obtain ⟨x, t, rfl, hw⟩ := hq_
  have hq_ := sI_el hw
  clear hw
  obtain ⟨j, t, rfl, hw⟩ := hq_
  have hq_ := sA_el hw
  clear hw
  obtain ⟨r, t, rfl, hw⟩ := hq_
  have hq_ := sar_el hw
  clear hw
  obtain ⟨N, f, h1, h2, hw⟩ := hq_
  exact st_lastore hd h1 h2 (hF _ _ _ _ _ hw)
theorem so_bastore {d : Nat} {M : mM} {n0 : Nat} {Φ : Option Value → mH → Prop} {pc len a b c e q : Nat} {y : mM} {L : mL} {st : List Value} {n sl : Nat} {h : mH} {F : mL → List Value → Nat → Nat → mH → Prop}  (hd : decode M.2.1 pc = .ok (.bastore, len)) (hl : il (.bastore) = 0 ∨ il (.bastore) = len) (ho : okI M (pc, .bastore, a, b, c, e, q, y) = true) (hw : wpI d M n0 Φ (MW (d + 1) M n0 Φ) (pc, .bastore, a, b, c, e, q, y) L st n sl h F) (hF : ∀ L st n sl h, F L st n sl h → MW (d + 1) M n0 Φ (pc + len) L st n sl h) : MW (d + 1) M n0 Φ pc L st n sl h := by
  have hl : (1 : Nat) = 0 ∨ 1 = len := hl
  obtain rfl : len = 1 := by omega
  have hq_ := sI_el hw
  clear hw
  obtain ⟨x, t, rfl, hw⟩ := hq_
  have hq_ := sI_el hw
  clear hw
  obtain ⟨j, t, rfl, hw⟩ := hq_
  have hq_ := sA_el hw
  clear hw
  obtain ⟨r, t, rfl, hw⟩ := hq_
  have hq_ := sar_el hw
  clear hw
  obtain ⟨N, f, h1, h2, hw⟩ := hq_
  simp only [okI, Bool.or_eq_true, decide_eq_true_eq] at ho
  rcases ho with rfl | rfl
  · exact st_zastore hd h1 h2 (hF _ _ _ _ _ hw)
  · exact st_bastore hd h1 h2 (hF _ _ _ _ _ hw)
theorem so_aastore {d : Nat} {M : mM} {n0 : Nat} {Φ : Option Value → mH → Prop} {pc len a b c e q : Nat} {y : mM} {L : mL} {st : List Value} {n sl : Nat} {h : mH} {F : mL → List Value → Nat → Nat → mH → Prop}  (hd : decode M.2.1 pc = .ok (.aastore, len)) (hl : il (.aastore) = 0 ∨ il (.aastore) = len) (ho : okI M (pc, .aastore, a, b, c, e, q, y) = true) (hw : wpI d M n0 Φ (MW (d + 1) M n0 Φ) (pc, .aastore, a, b, c, e, q, y) L st n sl h F) (hF : ∀ L st n sl h, F L st n sl h → MW (d + 1) M n0 Φ (pc + len) L st n sl h) : MW (d + 1) M n0 Φ pc L st n sl h := by
  have hl : (1 : Nat) = 0 ∨ 1 = len := hl
  obtain rfl : len = 1 := by omega
  have hq_ := sA_el hw
  clear hw
  obtain ⟨x, t, rfl, hw⟩ := hq_
  have hq_ := sI_el hw
  clear hw
  obtain ⟨j, t, rfl, hw⟩ := hq_
  have hq_ := sA_el hw
  clear hw
  obtain ⟨r, t, rfl, hw⟩ := hq_
  obtain ⟨h0, hw⟩ := hw
  obtain ⟨fs, h0⟩ := oc_el h0
  have hq_ := sar_el hw
  clear hw
  obtain ⟨N, f, h1, h2, hw⟩ := hq_
  simp only [okI, Bool.or_eq_true, Bool.and_eq_true, decide_eq_true_eq] at ho
  rcases ho with ⟨rfl, rfl⟩ | ⟨rfl, rfl⟩
  · exact st_aastore4 hd h1 h0 h2 (hF _ _ _ _ _ hw)
  · exact st_aastore5 hd h1 h0 h2 (hF _ _ _ _ _ hw)
theorem so_arraylength {d : Nat} {M : mM} {n0 : Nat} {Φ : Option Value → mH → Prop} {pc len a b c e q : Nat} {y : mM} {L : mL} {st : List Value} {n sl : Nat} {h : mH} {F : mL → List Value → Nat → Nat → mH → Prop}  (hd : decode M.2.1 pc = .ok (.arraylength, len)) (hl : il (.arraylength) = 0 ∨ il (.arraylength) = len) (ho : okI M (pc, .arraylength, a, b, c, e, q, y) = true) (hw : wpI d M n0 Φ (MW (d + 1) M n0 Φ) (pc, .arraylength, a, b, c, e, q, y) L st n sl h F) (hF : ∀ L st n sl h, F L st n sl h → MW (d + 1) M n0 Φ (pc + len) L st n sl h) : MW (d + 1) M n0 Φ pc L st n sl h := by
  have hl : (1 : Nat) = 0 ∨ 1 = len := hl
  obtain rfl : len = 1 := by omega
  cases a with
  | zero =>
    have hq_ := sA_el hw
    clear hw
    obtain ⟨r, t, rfl, hw⟩ := hq_
    have hq_ := aln_el hw
    clear hw
    obtain ⟨tg, N, f, h1, h2, hw⟩ := hq_
    exact st_alen hd h2 h1 (hF _ _ _ _ _ hw)
  | succ z =>
    have hq_ := sS_el hw
    clear hw
    obtain ⟨r, t, rfl, hw⟩ := hq_
    have hq_ := scr_el hw
    clear hw
    obtain ⟨N, xs, h1, hw⟩ := hq_
    exact st_slen hd h1 (hF _ _ _ _ _ hw)
theorem so_invokevirtual {d : Nat} {M : mM} {n0 : Nat} {Φ : Option Value → mH → Prop} {pc len a b c e q : Nat} {y : mM} {L : mL} {st : List Value} {n sl : Nat} {h : mH} {F : mL → List Value → Nat → Nat → mH → Prop} {k : Nat} (hd : decode M.2.1 pc = .ok (.invokevirtual k, len)) (hl : il (.invokevirtual k) = 0 ∨ il (.invokevirtual k) = len) (ho : okI M (pc, .invokevirtual k, a, b, c, e, q, y) = true) (hw : wpI d M n0 Φ (MW (d + 1) M n0 Φ) (pc, .invokevirtual k, a, b, c, e, q, y) L st n sl h F) (hF : ∀ L st n sl h, F L st n sl h → MW (d + 1) M n0 Φ (pc + len) L st n sl h) : MW (d + 1) M n0 Φ pc L st n sl h := by
  have hl : (3 : Nat) = 0 ∨ 3 = len := hl
  obtain rfl : len = 3 := by omega
  have hq_ := pop_el hw
  clear hw
  obtain ⟨As, t, hAl, rfl, hw⟩ := hq_
  have hq_ := sA_el hw
  clear hw
  obtain ⟨r, t, rfl, h0, h4, hb, hw⟩ := hq_
  obtain ⟨fs, h0⟩ := oc_el h0
  simp only [okI, lkM, Bool.and_eq_true, Bool.or_eq_true, decide_eq_true_eq] at ho
  obtain ⟨⟨⟨⟨⟨hlk, hnp⟩, rfl⟩, rfl⟩, hkd⟩, hcl⟩ := ho
  refine mw_bd fun hn => ?_
  obtain ⟨hm, hms⟩ := bud_el hb hn
  exact st_callV hd hkd (hlk.imp (fun z => mTb_at (tq_ok z) rfl) (fun z => mTb_at (tq_ok z) rfl)) (by rw [hAl]; exact hnp) h0 hcl h4 hm hms hw (fun rv h' hh => hF _ _ _ _ _ hh)
theorem so_invokestatic {d : Nat} {M : mM} {n0 : Nat} {Φ : Option Value → mH → Prop} {pc len a b c e q : Nat} {y : mM} {L : mL} {st : List Value} {n sl : Nat} {h : mH} {F : mL → List Value → Nat → Nat → mH → Prop} {k : Nat} (hd : decode M.2.1 pc = .ok (.invokestatic k, len)) (hl : il (.invokestatic k) = 0 ∨ il (.invokestatic k) = len) (ho : okI M (pc, .invokestatic k, a, b, c, e, q, y) = true) (hw : wpI d M n0 Φ (MW (d + 1) M n0 Φ) (pc, .invokestatic k, a, b, c, e, q, y) L st n sl h F) (hF : ∀ L st n sl h, F L st n sl h → MW (d + 1) M n0 Φ (pc + len) L st n sl h) : MW (d + 1) M n0 Φ pc L st n sl h := by
  have hl : (3 : Nat) = 0 ∨ 3 = len := hl
  obtain rfl : len = 3 := by omega
  cases a with
  | zero =>
    have hq_ := pop_el hw
    clear hw
    obtain ⟨As, t, hAl, rfl, h4, hb, hw⟩ := hq_
    simp only [okI, lkM, Bool.and_eq_true, Bool.or_eq_true, decide_eq_true_eq] at ho
    obtain ⟨⟨⟨⟨hlk, hnp⟩, rfl⟩, rfl⟩, hkd⟩ := ho
    refine mw_bd fun hn => ?_
    obtain ⟨hm, hms⟩ := bud_el hb hn
    exact st_callS hd hkd (hlk.imp (fun z => mTb_at (tq_ok z) rfl) (fun z => mTb_at (tq_ok z) rfl)) (by rw [hAl]; exact hnp) h4 hm hms hw (fun rv h' hh => hF _ _ _ _ _ hh)
  | succ z =>
   rcases (show z = 1 ∨ z ≠ 1 by omega) with rfl | hz1
   · obtain ⟨y, x, t, rfl, h4, hw⟩ := sII_el hw
     exact st_max hd (mTb_at (tq_ok ho) rfl) h4 (hF _ _ _ _ _ hw)
   · have ho : tq q (.methodLink M.1.cls k arraycopyName) = true := by
      match z, hz1, ho with
      | 0, _, ho => exact ho
      | 1, hz1, _ => exact absurd rfl hz1
      | z + 2, _, ho => exact ho
     replace hw : sI st fun kk st => sI st fun dp st => sA st fun rb st => sI st fun sp st => sA st fun ra st => st.length ≤ 4 ∧ ∃ N0 f N1 f2, h ra = ia N0 f ∧ h rb = ia N1 f2 ∧ ¬ sp < 0 ∧ ¬ dp < 0 ∧ ¬ kk < 0 ∧ sp.toNatClampNeg + kk.toNatClampNeg ≤ N0 ∧ dp.toNatClampNeg + kk.toNatClampNeg ≤ N1 ∧ F L st n sl (hu h rb (ia N1 (va_cpy f f2 sp.toNatClampNeg dp.toNatClampNeg kk.toNatClampNeg))) := by
      match z, hz1, hw with
      | 0, _, hw => exact hw
      | 1, hz1, _ => exact absurd rfl hz1
      | z + 2, _, hw => exact hw
     have hq_ := sI_el hw
     clear hw
     obtain ⟨kk, t, rfl, hw⟩ := hq_
     have hq_ := sI_el hw
     clear hw
     obtain ⟨dp, t, rfl, hw⟩ := hq_
     have hq_ := sA_el hw
     clear hw
     obtain ⟨rb, t, rfl, hw⟩ := hq_
     have hq_ := sI_el hw
     clear hw
     obtain ⟨sp, t, rfl, hw⟩ := hq_
     have hq_ := sA_el hw
     clear hw
     obtain ⟨ra, t, rfl, h4, N0, f, N1, f2, e1, e2, e3, e4, e5, e6, e7, hw⟩ := hq_
     exact st_copy hd (mTb_at (tq_ok ho) rfl) e1 e2 e3 e4 e5 e6 e7 h4 (hF _ _ _ _ _ hw)
theorem so_invokespecial {d : Nat} {M : mM} {n0 : Nat} {Φ : Option Value → mH → Prop} {pc len a b c e q : Nat} {y : mM} {L : mL} {st : List Value} {n sl : Nat} {h : mH} {F : mL → List Value → Nat → Nat → mH → Prop} {k : Nat} (hd : decode M.2.1 pc = .ok (.invokespecial k, len)) (hl : il (.invokespecial k) = 0 ∨ il (.invokespecial k) = len) (ho : okI M (pc, .invokespecial k, a, b, c, e, q, y) = true) (hw : wpI d M n0 Φ (MW (d + 1) M n0 Φ) (pc, .invokespecial k, a, b, c, e, q, y) L st n sl h F) (hF : ∀ L st n sl h, F L st n sl h → MW (d + 1) M n0 Φ (pc + len) L st n sl h) : MW (d + 1) M n0 Φ pc L st n sl h := by
  have hl : (3 : Nat) = 0 ∨ 3 = len := hl
  obtain rfl : len = 3 := by omega
  cases a with
  | zero =>
    have hq_ := pop_el hw
    clear hw
    obtain ⟨As, t, hAl, rfl, hw⟩ := hq_
    have hq_ := sA_el hw
    clear hw
    obtain ⟨r, t, rfl, h4, hb, hw⟩ := hq_
    simp only [okI, lkM, Bool.and_eq_true, Bool.or_eq_true, decide_eq_true_eq] at ho
    obtain ⟨⟨⟨⟨hlk, hnp⟩, rfl⟩, rfl⟩, hkd⟩ := ho
    refine mw_bd fun hn => ?_
    obtain ⟨hm, hms⟩ := bud_el hb hn
    exact st_callI hd hkd (hlk.imp (fun z => mTb_at (tq_ok z) rfl) (fun z => mTb_at (tq_ok z) rfl)) (by rw [hAl]; exact hnp) h4 hm hms hw (fun rv h' hh => hF _ _ _ _ _ hh)
  | succ z =>
    have hq_ := sA_el hw
    clear hw
    obtain ⟨r, t, rfl, h4, hw⟩ := hq_
    exact st_objInit hd (mTb_at (tq_ok ho) rfl) h4 (hF _ _ _ _ _ hw)
theorem step_sound {d : Nat} {M : mM} {n0 : Nat} {Φ : Option Value → mH → Prop} {pc len a b c e q : Nat} {y : mM} {L : mL} {st : List Value} {n sl : Nat} {h : mH} {F : mL → List Value → Nat → Nat → mH → Prop} (i : Instr) (hd : decode M.2.1 pc = .ok (i, len)) (hl : il i = 0 ∨ il i = len) (ho : okI M (pc, i, a, b, c, e, q, y) = true) (hw : wpI d M n0 Φ (MW (d + 1) M n0 Φ) (pc, i, a, b, c, e, q, y) L st n sl h F) (hF : ∀ L st n sl h, F L st n sl h → MW (d + 1) M n0 Φ (pc + len) L st n sl h) : MW (d + 1) M n0 Φ pc L st n sl h := by
  cases i
  case iconst a0 => exact so_iconst hd hl ho hw hF
  case bipush a0 => exact so_bipush hd hl ho hw hF
  case sipush a0 => exact so_sipush hd hl ho hw hF
  case lconst a0 => exact so_lconst hd hl ho hw hF
  case ldc a0 => exact so_ldc hd hl ho hw hF
  case ldc_w a0 => exact so_ldc_w hd hl ho hw hF
  case ldc2_w a0 => exact so_ldc2_w hd hl ho hw hF
  case iload_n a0 => exact so_iload_n hd hl ho hw hF
  case iload a0 => exact so_iload hd hl ho hw hF
  case lload_n a0 => exact so_lload_n hd hl ho hw hF
  case lload a0 => exact so_lload hd hl ho hw hF
  case aload_n a0 => exact so_aload_n hd hl ho hw hF
  case istore_n a0 => exact so_istore_n hd hl ho hw hF
  case lstore_n a0 => exact so_lstore_n hd hl ho hw hF
  case astore_n a0 => exact so_astore_n hd hl ho hw hF
  case aload a0 => exact so_aload hd hl ho hw hF
  case istore a0 => exact so_istore hd hl ho hw hF
  case lstore a0 => exact so_lstore hd hl ho hw hF
  case astore a0 => exact so_astore hd hl ho hw hF
  case iinc a0 a1 => exact so_iinc hd hl ho hw hF
  case iadd => exact so_iadd hd hl ho hw hF
  case isub => exact so_isub hd hl ho hw hF
  case imul => exact so_imul hd hl ho hw hF
  case iand => exact so_iand hd hl ho hw hF
  case ior => exact so_ior hd hl ho hw hF
  case ishl => exact so_ishl hd hl ho hw hF
  case ishr => exact so_ishr hd hl ho hw hF
  case iushr => exact so_iushr hd hl ho hw hF
  case idiv => exact so_idiv hd hl ho hw hF
  case irem => exact so_irem hd hl ho hw hF
  case ladd => exact so_ladd hd hl ho hw hF
  case lmul => exact so_lmul hd hl ho hw hF
  case lsub => exact so_lsub hd hl ho hw hF
  case lcmp => exact so_lcmp hd hl ho hw hF
  case ldiv => exact so_ldiv hd hl ho hw hF
  case i2l => exact so_i2l hd hl ho hw hF
  case l2i => exact so_l2i hd hl ho hw hF
  case i2b => exact so_i2b hd hl ho hw hF
  case dup => exact so_dup hd hl ho hw hF
  case pop => exact so_pop hd hl ho hw hF
  case dup2 => exact so_dup2 hd hl ho hw hF
  case if_icmp a0 a1 => exact so_if_icmp hd hl ho hw hF
  case ifCond a0 a1 => exact so_ifCond hd hl ho hw hF
  case goto a0 => exact so_goto hd hl ho hw hF
  case tableswitch a0 a1 a2 a3 => exact so_tableswitch hd hl ho hw hF
  case lookupswitch a0 a1 => exact so_lookupswitch hd hl ho hw hF
  case ireturn => exact so_ireturn hd hl ho hw hF
  case lreturn => exact so_lreturn hd hl ho hw hF
  case return_ => exact so_return_ hd hl ho hw hF
  case getfield a0 => exact so_getfield hd hl ho hw hF
  case putfield a0 => exact so_putfield hd hl ho hw hF
  case new a0 => exact so_new hd hl ho hw hF
  case newarray a0 => exact so_newarray hd hl ho hw hF
  case anewarray a0 => exact so_anewarray hd hl ho hw hF
  case iaload => exact so_iaload hd hl ho hw hF
  case baload => exact so_baload hd hl ho hw hF
  case aaload => exact so_aaload hd hl ho hw hF
  case laload => exact so_laload hd hl ho hw hF
  case iastore => exact so_iastore hd hl ho hw hF
  case lastore => exact so_lastore hd hl ho hw hF
  case bastore => exact so_bastore hd hl ho hw hF
  case aastore => exact so_aastore hd hl ho hw hF
  case arraylength => exact so_arraylength hd hl ho hw hF
  case invokevirtual a0 => exact so_invokevirtual hd hl ho hw hF
  case invokestatic a0 => exact so_invokestatic hd hl ho hw hF
  case invokespecial a0 => exact so_invokespecial hd hl ho hw hF
  all_goals exact hw.elim
theorem wp_sound {d : Nat} {M : mM} {n0 : Nat} {Φ : Option Value → mH → Prop} {nx : Nat} : ∀ (is : List mI) (pc : Nat) (L : mL) (st : List Value) (n sl : Nat) (h : mH), okB M nx is pc = true → wp d M n0 Φ (MW (d + 1) M n0 Φ) nx is L st n sl h → MW (d + 1) M n0 Φ pc L st n sl h
  | [], pc, L, st, n, sl, h, ho, hw => by
    have : pc = nx := by simpa [okB] using ho
    subst this
    exact hw
  | (pc', i, a, b, c, e, q, y) :: is, pc, L, st, n, sl, h, ho, hw => by
    rw [okB, Bool.and_eq_true, Bool.and_eq_true] at ho
    obtain ⟨⟨h1, h2⟩, h3⟩ := ho
    have : pc' = pc := by simpa using h1
    subst this
    split at h3
    · rename_i i' len hd
      simp only [Bool.and_eq_true, decide_eq_true_eq, Bool.or_eq_true, beq_iff_eq] at h3
      obtain ⟨⟨rfl, h4⟩, h5⟩ := h3
      exact step_sound _ hd h4 h2 hw (fun L st n sl h hh => wp_sound is _ L st n sl h h5 hh)
    · cases h3

