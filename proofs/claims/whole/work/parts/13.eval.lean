/-! wp is reckoned: each row is by rfl, or nearly -/
section
variable (F : mL → List Value → Nat → Nat → mH → Prop) (L : mL) (st : List Value) (n sl : Nat) (h : mH)
def k1 (v : Value) : Prop := F L (v :: st) n sl h
def kI (v : Value) : Prop := vI v fun x => F L (.int x :: st) n sl h
def kJ (v : Value) : Prop := vJ v fun x => F L (.long x :: st) n sl h
def kA (v : Value) : Prop := vA v fun w => F L (w :: st) n sl h
def kN (k a b : Nat) (v : Value) : Prop := vI v fun x => F (s1 k (.int (x + kv a b)) L) st n sl h
def kH (r : Nat) (cc : mC) : Prop := F L st n sl (hu h r cc)
def kR (c e : Nat) (rv : Option Value) (h' : mH) : Prop := F L (rv.toList ++ st) (n + c) (sl + e) h'
end
section
variable (d : Nat) (M : mM) (n0 : Nat) (y : mM) (a c e : Nat) (F : mL → List Value → Nat → Nat → mH → Prop) (L : mL) (n sl : Nat) (h : mH)
def kV (As st : List Value) : Prop := sA st fun r st => oc (h r) a ∧ st.length ≤ 4 ∧ bud M n0 n sl c e ∧ CC d y (.ref r :: As) n h (kR F L st n sl c e)
def kS (As st : List Value) : Prop := st.length ≤ 4 ∧ bud M n0 n sl c e ∧ CC d y As n h (kR F L st n sl c e)
def kP (As st : List Value) : Prop := sA st fun r st => st.length ≤ 4 ∧ bud M n0 n sl c e ∧ CC d y (.ref r :: As) n h (kR F L st n sl c e)
end
theorem ia_inj {N N' : Nat} {f f' : Nat → Int32} (h : ia N f = ia N' f') : N = N' ∧ f = f' := by
  simp only [ia, Sum.inl.injEq, Prod.mk.injEq, true_and] at h
  refine ⟨h.1, funext fun j => ?_⟩
  exact Value.int.inj (congrFun h.2 j)
def cpI (c0 c1 : mC) (sp dp kk : Int32) (G : mC → Prop) : Prop := ∃ N0 f N1 f2, c0 = ia N0 f ∧ c1 = ia N1 f2 ∧ ¬ sp < 0 ∧ ¬ dp < 0 ∧ ¬ kk < 0 ∧ sp.toNatClampNeg + kk.toNatClampNeg ≤ N0 ∧ dp.toNatClampNeg + kk.toNatClampNeg ≤ N1 ∧ G (ia N1 (va_cpy f f2 sp.toNatClampNeg dp.toNatClampNeg kk.toNatClampNeg))
def kT (K : Nat → mL → List Value → Nat → Nat → mH → Prop) (L : mL) (st : List Value) (n sl : Nat) (h : mH) (t : Nat) : Prop := K t L st n sl h

theorem e_nil {d : Nat} {M : mM} {n0 : Nat} {Φ : Option Value → mH → Prop} {K : Nat → mL → List Value → Nat → Nat → mH → Prop} {L : mL} {st : List Value} {n : Nat} {sl : Nat} {h : mH} {nx : Nat} : wp d M n0 Φ K nx [] L st n sl h = K nx L st n sl h := propext Iff.rfl
theorem e_cons {d : Nat} {M : mM} {n0 : Nat} {Φ : Option Value → mH → Prop} {K : Nat → mL → List Value → Nat → Nat → mH → Prop} {L : mL} {st : List Value} {n : Nat} {sl : Nat} {h : mH} {nx : Nat} {it : mI} {is : List mI} : wp d M n0 Φ K nx (it :: is) L st n sl h = wpI d M n0 Φ K it L st n sl h (wp d M n0 Φ K nx is) := propext Iff.rfl
theorem e_iconstp {d : Nat} {M : mM} {n0 : Nat} {Φ : Option Value → mH → Prop} {K : Nat → mL → List Value → Nat → Nat → mH → Prop} {L : mL} {st : List Value} {n : Nat} {sl : Nat} {h : mH} {F : mL → List Value → Nat → Nat → mH → Prop} {pc : Nat} {a : Nat} {c : Nat} {e : Nat} {q : Nat} {y : mM} {z : Int} : wpI d M n0 Φ K (pc, .iconst z, a, 0, c, e, q, y) L (st) n sl h F = F L (.int (nI a) :: st) n sl h := propext Iff.rfl
theorem e_iconstm {d : Nat} {M : mM} {n0 : Nat} {Φ : Option Value → mH → Prop} {K : Nat → mL → List Value → Nat → Nat → mH → Prop} {L : mL} {st : List Value} {n : Nat} {sl : Nat} {h : mH} {F : mL → List Value → Nat → Nat → mH → Prop} {pc : Nat} {a : Nat} {c : Nat} {e : Nat} {q : Nat} {y : mM} {z : Int} : wpI d M n0 Φ K (pc, .iconst z, a, 1, c, e, q, y) L (st) n sl h F = F L (.int (-nI a) :: st) n sl h := propext Iff.rfl
theorem e_bipushp {d : Nat} {M : mM} {n0 : Nat} {Φ : Option Value → mH → Prop} {K : Nat → mL → List Value → Nat → Nat → mH → Prop} {L : mL} {st : List Value} {n : Nat} {sl : Nat} {h : mH} {F : mL → List Value → Nat → Nat → mH → Prop} {pc : Nat} {a : Nat} {c : Nat} {e : Nat} {q : Nat} {y : mM} {z : Int} : wpI d M n0 Φ K (pc, .bipush z, a, 0, c, e, q, y) L (st) n sl h F = F L (.int (nI a) :: st) n sl h := propext Iff.rfl
theorem e_bipushm {d : Nat} {M : mM} {n0 : Nat} {Φ : Option Value → mH → Prop} {K : Nat → mL → List Value → Nat → Nat → mH → Prop} {L : mL} {st : List Value} {n : Nat} {sl : Nat} {h : mH} {F : mL → List Value → Nat → Nat → mH → Prop} {pc : Nat} {a : Nat} {c : Nat} {e : Nat} {q : Nat} {y : mM} {z : Int} : wpI d M n0 Φ K (pc, .bipush z, a, 1, c, e, q, y) L (st) n sl h F = F L (.int (-nI a) :: st) n sl h := propext Iff.rfl
theorem e_sipushp {d : Nat} {M : mM} {n0 : Nat} {Φ : Option Value → mH → Prop} {K : Nat → mL → List Value → Nat → Nat → mH → Prop} {L : mL} {st : List Value} {n : Nat} {sl : Nat} {h : mH} {F : mL → List Value → Nat → Nat → mH → Prop} {pc : Nat} {a : Nat} {c : Nat} {e : Nat} {q : Nat} {y : mM} {z : Int} : wpI d M n0 Φ K (pc, .sipush z, a, 0, c, e, q, y) L (st) n sl h F = F L (.int (nI a) :: st) n sl h := propext Iff.rfl
theorem e_sipushm {d : Nat} {M : mM} {n0 : Nat} {Φ : Option Value → mH → Prop} {K : Nat → mL → List Value → Nat → Nat → mH → Prop} {L : mL} {st : List Value} {n : Nat} {sl : Nat} {h : mH} {F : mL → List Value → Nat → Nat → mH → Prop} {pc : Nat} {a : Nat} {c : Nat} {e : Nat} {q : Nat} {y : mM} {z : Int} : wpI d M n0 Φ K (pc, .sipush z, a, 1, c, e, q, y) L (st) n sl h F = F L (.int (-nI a) :: st) n sl h := propext Iff.rfl
theorem e_ldcp {d : Nat} {M : mM} {n0 : Nat} {Φ : Option Value → mH → Prop} {K : Nat → mL → List Value → Nat → Nat → mH → Prop} {L : mL} {st : List Value} {n : Nat} {sl : Nat} {h : mH} {F : mL → List Value → Nat → Nat → mH → Prop} {pc : Nat} {a : Nat} {c : Nat} {e : Nat} {q : Nat} {y : mM} {z : Nat} : wpI d M n0 Φ K (pc, .ldc z, a, 0, c, e, q, y) L (st) n sl h F = F L (.int (nI a) :: st) n sl h := propext Iff.rfl
theorem e_ldcm {d : Nat} {M : mM} {n0 : Nat} {Φ : Option Value → mH → Prop} {K : Nat → mL → List Value → Nat → Nat → mH → Prop} {L : mL} {st : List Value} {n : Nat} {sl : Nat} {h : mH} {F : mL → List Value → Nat → Nat → mH → Prop} {pc : Nat} {a : Nat} {c : Nat} {e : Nat} {q : Nat} {y : mM} {z : Nat} : wpI d M n0 Φ K (pc, .ldc z, a, 1, c, e, q, y) L (st) n sl h F = F L (.int (-nI a) :: st) n sl h := propext Iff.rfl
theorem e_ldc_wp {d : Nat} {M : mM} {n0 : Nat} {Φ : Option Value → mH → Prop} {K : Nat → mL → List Value → Nat → Nat → mH → Prop} {L : mL} {st : List Value} {n : Nat} {sl : Nat} {h : mH} {F : mL → List Value → Nat → Nat → mH → Prop} {pc : Nat} {a : Nat} {c : Nat} {e : Nat} {q : Nat} {y : mM} {z : Nat} : wpI d M n0 Φ K (pc, .ldc_w z, a, 0, c, e, q, y) L (st) n sl h F = F L (.int (nI a) :: st) n sl h := propext Iff.rfl
theorem e_ldc_wm {d : Nat} {M : mM} {n0 : Nat} {Φ : Option Value → mH → Prop} {K : Nat → mL → List Value → Nat → Nat → mH → Prop} {L : mL} {st : List Value} {n : Nat} {sl : Nat} {h : mH} {F : mL → List Value → Nat → Nat → mH → Prop} {pc : Nat} {a : Nat} {c : Nat} {e : Nat} {q : Nat} {y : mM} {z : Nat} : wpI d M n0 Φ K (pc, .ldc_w z, a, 1, c, e, q, y) L (st) n sl h F = F L (.int (-nI a) :: st) n sl h := propext Iff.rfl
theorem e_lconst {d : Nat} {M : mM} {n0 : Nat} {Φ : Option Value → mH → Prop} {K : Nat → mL → List Value → Nat → Nat → mH → Prop} {L : mL} {st : List Value} {n : Nat} {sl : Nat} {h : mH} {F : mL → List Value → Nat → Nat → mH → Prop} {pc : Nat} {a : Nat} {b : Nat} {c : Nat} {e : Nat} {q : Nat} {y : mM} {z : Fin 2} : wpI d M n0 Φ K (pc, .lconst z, a, b, c, e, q, y) L (st) n sl h F = F L (.long (lN a) :: st) n sl h := propext Iff.rfl
theorem e_ldc2_w {d : Nat} {M : mM} {n0 : Nat} {Φ : Option Value → mH → Prop} {K : Nat → mL → List Value → Nat → Nat → mH → Prop} {L : mL} {st : List Value} {n : Nat} {sl : Nat} {h : mH} {F : mL → List Value → Nat → Nat → mH → Prop} {pc : Nat} {a : Nat} {b : Nat} {c : Nat} {e : Nat} {q : Nat} {y : mM} {z : Nat} : wpI d M n0 Φ K (pc, .ldc2_w z, a, b, c, e, q, y) L (st) n sl h F = F L (.long (lN a) :: st) n sl h := propext Iff.rfl
theorem e_iload_n0 {d : Nat} {M : mM} {n0 : Nat} {Φ : Option Value → mH → Prop} {K : Nat → mL → List Value → Nat → Nat → mH → Prop} {L : mL} {st : List Value} {n : Nat} {sl : Nat} {h : mH} {F : mL → List Value → Nat → Nat → mH → Prop} {pc : Nat} {a : Nat} {b : Nat} {c : Nat} {e : Nat} {q : Nat} {y : mM}  : wpI d M n0 Φ K (pc, .iload_n 0, a, b, c, e, q, y) L (st) n sl h F = gl L 0 (kI F L st n sl h) := propext Iff.rfl
theorem e_iload_n1 {d : Nat} {M : mM} {n0 : Nat} {Φ : Option Value → mH → Prop} {K : Nat → mL → List Value → Nat → Nat → mH → Prop} {L : mL} {st : List Value} {n : Nat} {sl : Nat} {h : mH} {F : mL → List Value → Nat → Nat → mH → Prop} {pc : Nat} {a : Nat} {b : Nat} {c : Nat} {e : Nat} {q : Nat} {y : mM}  : wpI d M n0 Φ K (pc, .iload_n 1, a, b, c, e, q, y) L (st) n sl h F = gl L 1 (kI F L st n sl h) := propext Iff.rfl
theorem e_iload_n2 {d : Nat} {M : mM} {n0 : Nat} {Φ : Option Value → mH → Prop} {K : Nat → mL → List Value → Nat → Nat → mH → Prop} {L : mL} {st : List Value} {n : Nat} {sl : Nat} {h : mH} {F : mL → List Value → Nat → Nat → mH → Prop} {pc : Nat} {a : Nat} {b : Nat} {c : Nat} {e : Nat} {q : Nat} {y : mM}  : wpI d M n0 Φ K (pc, .iload_n 2, a, b, c, e, q, y) L (st) n sl h F = gl L 2 (kI F L st n sl h) := propext Iff.rfl
theorem e_iload_n3 {d : Nat} {M : mM} {n0 : Nat} {Φ : Option Value → mH → Prop} {K : Nat → mL → List Value → Nat → Nat → mH → Prop} {L : mL} {st : List Value} {n : Nat} {sl : Nat} {h : mH} {F : mL → List Value → Nat → Nat → mH → Prop} {pc : Nat} {a : Nat} {b : Nat} {c : Nat} {e : Nat} {q : Nat} {y : mM}  : wpI d M n0 Φ K (pc, .iload_n 3, a, b, c, e, q, y) L (st) n sl h F = gl L 3 (kI F L st n sl h) := propext Iff.rfl
theorem e_iload {d : Nat} {M : mM} {n0 : Nat} {Φ : Option Value → mH → Prop} {K : Nat → mL → List Value → Nat → Nat → mH → Prop} {L : mL} {st : List Value} {n : Nat} {sl : Nat} {h : mH} {F : mL → List Value → Nat → Nat → mH → Prop} {pc : Nat} {a : Nat} {b : Nat} {c : Nat} {e : Nat} {q : Nat} {y : mM} {k : Nat} : wpI d M n0 Φ K (pc, .iload k, a, b, c, e, q, y) L (st) n sl h F = gl L k (kI F L st n sl h) := propext Iff.rfl
theorem e_lload_n0 {d : Nat} {M : mM} {n0 : Nat} {Φ : Option Value → mH → Prop} {K : Nat → mL → List Value → Nat → Nat → mH → Prop} {L : mL} {st : List Value} {n : Nat} {sl : Nat} {h : mH} {F : mL → List Value → Nat → Nat → mH → Prop} {pc : Nat} {a : Nat} {b : Nat} {c : Nat} {e : Nat} {q : Nat} {y : mM}  : wpI d M n0 Φ K (pc, .lload_n 0, a, b, c, e, q, y) L (st) n sl h F = gl L 0 (kJ F L st n sl h) := propext Iff.rfl
theorem e_lload_n1 {d : Nat} {M : mM} {n0 : Nat} {Φ : Option Value → mH → Prop} {K : Nat → mL → List Value → Nat → Nat → mH → Prop} {L : mL} {st : List Value} {n : Nat} {sl : Nat} {h : mH} {F : mL → List Value → Nat → Nat → mH → Prop} {pc : Nat} {a : Nat} {b : Nat} {c : Nat} {e : Nat} {q : Nat} {y : mM}  : wpI d M n0 Φ K (pc, .lload_n 1, a, b, c, e, q, y) L (st) n sl h F = gl L 1 (kJ F L st n sl h) := propext Iff.rfl
theorem e_lload_n2 {d : Nat} {M : mM} {n0 : Nat} {Φ : Option Value → mH → Prop} {K : Nat → mL → List Value → Nat → Nat → mH → Prop} {L : mL} {st : List Value} {n : Nat} {sl : Nat} {h : mH} {F : mL → List Value → Nat → Nat → mH → Prop} {pc : Nat} {a : Nat} {b : Nat} {c : Nat} {e : Nat} {q : Nat} {y : mM}  : wpI d M n0 Φ K (pc, .lload_n 2, a, b, c, e, q, y) L (st) n sl h F = gl L 2 (kJ F L st n sl h) := propext Iff.rfl
theorem e_lload_n3 {d : Nat} {M : mM} {n0 : Nat} {Φ : Option Value → mH → Prop} {K : Nat → mL → List Value → Nat → Nat → mH → Prop} {L : mL} {st : List Value} {n : Nat} {sl : Nat} {h : mH} {F : mL → List Value → Nat → Nat → mH → Prop} {pc : Nat} {a : Nat} {b : Nat} {c : Nat} {e : Nat} {q : Nat} {y : mM}  : wpI d M n0 Φ K (pc, .lload_n 3, a, b, c, e, q, y) L (st) n sl h F = gl L 3 (kJ F L st n sl h) := propext Iff.rfl
theorem e_lload {d : Nat} {M : mM} {n0 : Nat} {Φ : Option Value → mH → Prop} {K : Nat → mL → List Value → Nat → Nat → mH → Prop} {L : mL} {st : List Value} {n : Nat} {sl : Nat} {h : mH} {F : mL → List Value → Nat → Nat → mH → Prop} {pc : Nat} {a : Nat} {b : Nat} {c : Nat} {e : Nat} {q : Nat} {y : mM} {k : Nat} : wpI d M n0 Φ K (pc, .lload k, a, b, c, e, q, y) L (st) n sl h F = gl L k (kJ F L st n sl h) := propext Iff.rfl
theorem e_aload_n0 {d : Nat} {M : mM} {n0 : Nat} {Φ : Option Value → mH → Prop} {K : Nat → mL → List Value → Nat → Nat → mH → Prop} {L : mL} {st : List Value} {n : Nat} {sl : Nat} {h : mH} {F : mL → List Value → Nat → Nat → mH → Prop} {pc : Nat} {a : Nat} {b : Nat} {c : Nat} {e : Nat} {q : Nat} {y : mM}  : wpI d M n0 Φ K (pc, .aload_n 0, a, b, c, e, q, y) L (st) n sl h F = gl L 0 (kA F L st n sl h) := propext Iff.rfl
theorem e_aload_n1 {d : Nat} {M : mM} {n0 : Nat} {Φ : Option Value → mH → Prop} {K : Nat → mL → List Value → Nat → Nat → mH → Prop} {L : mL} {st : List Value} {n : Nat} {sl : Nat} {h : mH} {F : mL → List Value → Nat → Nat → mH → Prop} {pc : Nat} {a : Nat} {b : Nat} {c : Nat} {e : Nat} {q : Nat} {y : mM}  : wpI d M n0 Φ K (pc, .aload_n 1, a, b, c, e, q, y) L (st) n sl h F = gl L 1 (kA F L st n sl h) := propext Iff.rfl
theorem e_aload_n2 {d : Nat} {M : mM} {n0 : Nat} {Φ : Option Value → mH → Prop} {K : Nat → mL → List Value → Nat → Nat → mH → Prop} {L : mL} {st : List Value} {n : Nat} {sl : Nat} {h : mH} {F : mL → List Value → Nat → Nat → mH → Prop} {pc : Nat} {a : Nat} {b : Nat} {c : Nat} {e : Nat} {q : Nat} {y : mM}  : wpI d M n0 Φ K (pc, .aload_n 2, a, b, c, e, q, y) L (st) n sl h F = gl L 2 (kA F L st n sl h) := propext Iff.rfl
theorem e_aload_n3 {d : Nat} {M : mM} {n0 : Nat} {Φ : Option Value → mH → Prop} {K : Nat → mL → List Value → Nat → Nat → mH → Prop} {L : mL} {st : List Value} {n : Nat} {sl : Nat} {h : mH} {F : mL → List Value → Nat → Nat → mH → Prop} {pc : Nat} {a : Nat} {b : Nat} {c : Nat} {e : Nat} {q : Nat} {y : mM}  : wpI d M n0 Φ K (pc, .aload_n 3, a, b, c, e, q, y) L (st) n sl h F = gl L 3 (kA F L st n sl h) := propext Iff.rfl
theorem e_aload {d : Nat} {M : mM} {n0 : Nat} {Φ : Option Value → mH → Prop} {K : Nat → mL → List Value → Nat → Nat → mH → Prop} {L : mL} {st : List Value} {n : Nat} {sl : Nat} {h : mH} {F : mL → List Value → Nat → Nat → mH → Prop} {pc : Nat} {a : Nat} {b : Nat} {c : Nat} {e : Nat} {q : Nat} {y : mM} {k : Nat} : wpI d M n0 Φ K (pc, .aload k, a, b, c, e, q, y) L (st) n sl h F = gl L k (kA F L st n sl h) := propext Iff.rfl
theorem e_istore_n0 {d : Nat} {M : mM} {n0 : Nat} {Φ : Option Value → mH → Prop} {K : Nat → mL → List Value → Nat → Nat → mH → Prop} {L : mL} {st : List Value} {n : Nat} {sl : Nat} {h : mH} {F : mL → List Value → Nat → Nat → mH → Prop} {pc : Nat} {a : Nat} {b : Nat} {c : Nat} {e : Nat} {q : Nat} {y : mM} {x : Int32} : wpI d M n0 Φ K (pc, .istore_n 0, a, b, c, e, q, y) L (.int x :: st) n sl h F = F (s1 0 (.int x) L) st n sl h := propext Iff.rfl
theorem e_istore_n1 {d : Nat} {M : mM} {n0 : Nat} {Φ : Option Value → mH → Prop} {K : Nat → mL → List Value → Nat → Nat → mH → Prop} {L : mL} {st : List Value} {n : Nat} {sl : Nat} {h : mH} {F : mL → List Value → Nat → Nat → mH → Prop} {pc : Nat} {a : Nat} {b : Nat} {c : Nat} {e : Nat} {q : Nat} {y : mM} {x : Int32} : wpI d M n0 Φ K (pc, .istore_n 1, a, b, c, e, q, y) L (.int x :: st) n sl h F = F (s1 1 (.int x) L) st n sl h := propext Iff.rfl
theorem e_istore_n2 {d : Nat} {M : mM} {n0 : Nat} {Φ : Option Value → mH → Prop} {K : Nat → mL → List Value → Nat → Nat → mH → Prop} {L : mL} {st : List Value} {n : Nat} {sl : Nat} {h : mH} {F : mL → List Value → Nat → Nat → mH → Prop} {pc : Nat} {a : Nat} {b : Nat} {c : Nat} {e : Nat} {q : Nat} {y : mM} {x : Int32} : wpI d M n0 Φ K (pc, .istore_n 2, a, b, c, e, q, y) L (.int x :: st) n sl h F = F (s1 2 (.int x) L) st n sl h := propext Iff.rfl
theorem e_istore_n3 {d : Nat} {M : mM} {n0 : Nat} {Φ : Option Value → mH → Prop} {K : Nat → mL → List Value → Nat → Nat → mH → Prop} {L : mL} {st : List Value} {n : Nat} {sl : Nat} {h : mH} {F : mL → List Value → Nat → Nat → mH → Prop} {pc : Nat} {a : Nat} {b : Nat} {c : Nat} {e : Nat} {q : Nat} {y : mM} {x : Int32} : wpI d M n0 Φ K (pc, .istore_n 3, a, b, c, e, q, y) L (.int x :: st) n sl h F = F (s1 3 (.int x) L) st n sl h := propext Iff.rfl
theorem e_istore {d : Nat} {M : mM} {n0 : Nat} {Φ : Option Value → mH → Prop} {K : Nat → mL → List Value → Nat → Nat → mH → Prop} {L : mL} {st : List Value} {n : Nat} {sl : Nat} {h : mH} {F : mL → List Value → Nat → Nat → mH → Prop} {pc : Nat} {a : Nat} {b : Nat} {c : Nat} {e : Nat} {q : Nat} {y : mM} {k : Nat} {x : Int32} : wpI d M n0 Φ K (pc, .istore k, a, b, c, e, q, y) L (.int x :: st) n sl h F = F (s1 k (.int x) L) st n sl h := propext Iff.rfl
theorem e_lstore_n0 {d : Nat} {M : mM} {n0 : Nat} {Φ : Option Value → mH → Prop} {K : Nat → mL → List Value → Nat → Nat → mH → Prop} {L : mL} {st : List Value} {n : Nat} {sl : Nat} {h : mH} {F : mL → List Value → Nat → Nat → mH → Prop} {pc : Nat} {a : Nat} {b : Nat} {c : Nat} {e : Nat} {q : Nat} {y : mM} {x : Int64} : wpI d M n0 Φ K (pc, .lstore_n 0, a, b, c, e, q, y) L (.long x :: st) n sl h F = F (s2 0 (.long x) L) st n sl h := propext Iff.rfl
theorem e_lstore_n1 {d : Nat} {M : mM} {n0 : Nat} {Φ : Option Value → mH → Prop} {K : Nat → mL → List Value → Nat → Nat → mH → Prop} {L : mL} {st : List Value} {n : Nat} {sl : Nat} {h : mH} {F : mL → List Value → Nat → Nat → mH → Prop} {pc : Nat} {a : Nat} {b : Nat} {c : Nat} {e : Nat} {q : Nat} {y : mM} {x : Int64} : wpI d M n0 Φ K (pc, .lstore_n 1, a, b, c, e, q, y) L (.long x :: st) n sl h F = F (s2 1 (.long x) L) st n sl h := propext Iff.rfl
theorem e_lstore_n2 {d : Nat} {M : mM} {n0 : Nat} {Φ : Option Value → mH → Prop} {K : Nat → mL → List Value → Nat → Nat → mH → Prop} {L : mL} {st : List Value} {n : Nat} {sl : Nat} {h : mH} {F : mL → List Value → Nat → Nat → mH → Prop} {pc : Nat} {a : Nat} {b : Nat} {c : Nat} {e : Nat} {q : Nat} {y : mM} {x : Int64} : wpI d M n0 Φ K (pc, .lstore_n 2, a, b, c, e, q, y) L (.long x :: st) n sl h F = F (s2 2 (.long x) L) st n sl h := propext Iff.rfl
theorem e_lstore_n3 {d : Nat} {M : mM} {n0 : Nat} {Φ : Option Value → mH → Prop} {K : Nat → mL → List Value → Nat → Nat → mH → Prop} {L : mL} {st : List Value} {n : Nat} {sl : Nat} {h : mH} {F : mL → List Value → Nat → Nat → mH → Prop} {pc : Nat} {a : Nat} {b : Nat} {c : Nat} {e : Nat} {q : Nat} {y : mM} {x : Int64} : wpI d M n0 Φ K (pc, .lstore_n 3, a, b, c, e, q, y) L (.long x :: st) n sl h F = F (s2 3 (.long x) L) st n sl h := propext Iff.rfl
theorem e_lstore {d : Nat} {M : mM} {n0 : Nat} {Φ : Option Value → mH → Prop} {K : Nat → mL → List Value → Nat → Nat → mH → Prop} {L : mL} {st : List Value} {n : Nat} {sl : Nat} {h : mH} {F : mL → List Value → Nat → Nat → mH → Prop} {pc : Nat} {a : Nat} {b : Nat} {c : Nat} {e : Nat} {q : Nat} {y : mM} {k : Nat} {x : Int64} : wpI d M n0 Φ K (pc, .lstore k, a, b, c, e, q, y) L (.long x :: st) n sl h F = F (s2 k (.long x) L) st n sl h := propext Iff.rfl
theorem e_astore_n0 {d : Nat} {M : mM} {n0 : Nat} {Φ : Option Value → mH → Prop} {K : Nat → mL → List Value → Nat → Nat → mH → Prop} {L : mL} {st : List Value} {n : Nat} {sl : Nat} {h : mH} {F : mL → List Value → Nat → Nat → mH → Prop} {pc : Nat} {a : Nat} {b : Nat} {c : Nat} {e : Nat} {q : Nat} {y : mM} {x : Nat} : wpI d M n0 Φ K (pc, .astore_n 0, a, b, c, e, q, y) L (.ref x :: st) n sl h F = F (s1 0 (.ref x) L) st n sl h := propext Iff.rfl
theorem e_astore_n1 {d : Nat} {M : mM} {n0 : Nat} {Φ : Option Value → mH → Prop} {K : Nat → mL → List Value → Nat → Nat → mH → Prop} {L : mL} {st : List Value} {n : Nat} {sl : Nat} {h : mH} {F : mL → List Value → Nat → Nat → mH → Prop} {pc : Nat} {a : Nat} {b : Nat} {c : Nat} {e : Nat} {q : Nat} {y : mM} {x : Nat} : wpI d M n0 Φ K (pc, .astore_n 1, a, b, c, e, q, y) L (.ref x :: st) n sl h F = F (s1 1 (.ref x) L) st n sl h := propext Iff.rfl
theorem e_astore_n2 {d : Nat} {M : mM} {n0 : Nat} {Φ : Option Value → mH → Prop} {K : Nat → mL → List Value → Nat → Nat → mH → Prop} {L : mL} {st : List Value} {n : Nat} {sl : Nat} {h : mH} {F : mL → List Value → Nat → Nat → mH → Prop} {pc : Nat} {a : Nat} {b : Nat} {c : Nat} {e : Nat} {q : Nat} {y : mM} {x : Nat} : wpI d M n0 Φ K (pc, .astore_n 2, a, b, c, e, q, y) L (.ref x :: st) n sl h F = F (s1 2 (.ref x) L) st n sl h := propext Iff.rfl
theorem e_astore_n3 {d : Nat} {M : mM} {n0 : Nat} {Φ : Option Value → mH → Prop} {K : Nat → mL → List Value → Nat → Nat → mH → Prop} {L : mL} {st : List Value} {n : Nat} {sl : Nat} {h : mH} {F : mL → List Value → Nat → Nat → mH → Prop} {pc : Nat} {a : Nat} {b : Nat} {c : Nat} {e : Nat} {q : Nat} {y : mM} {x : Nat} : wpI d M n0 Φ K (pc, .astore_n 3, a, b, c, e, q, y) L (.ref x :: st) n sl h F = F (s1 3 (.ref x) L) st n sl h := propext Iff.rfl
theorem e_astore {d : Nat} {M : mM} {n0 : Nat} {Φ : Option Value → mH → Prop} {K : Nat → mL → List Value → Nat → Nat → mH → Prop} {L : mL} {st : List Value} {n : Nat} {sl : Nat} {h : mH} {F : mL → List Value → Nat → Nat → mH → Prop} {pc : Nat} {a : Nat} {b : Nat} {c : Nat} {e : Nat} {q : Nat} {y : mM} {k : Nat} {x : Nat} : wpI d M n0 Φ K (pc, .astore k, a, b, c, e, q, y) L (.ref x :: st) n sl h F = F (s1 k (.ref x) L) st n sl h := propext Iff.rfl
theorem e_iinc {d : Nat} {M : mM} {n0 : Nat} {Φ : Option Value → mH → Prop} {K : Nat → mL → List Value → Nat → Nat → mH → Prop} {L : mL} {st : List Value} {n : Nat} {sl : Nat} {h : mH} {F : mL → List Value → Nat → Nat → mH → Prop} {pc : Nat} {a : Nat} {b : Nat} {c : Nat} {e : Nat} {q : Nat} {y : mM} {k : Nat} {z : Int} : wpI d M n0 Φ K (pc, .iinc k z, a, b, c, e, q, y) L (st) n sl h F = gl L k (kN F L st n sl h k a b) := propext Iff.rfl
theorem e_iadd {d : Nat} {M : mM} {n0 : Nat} {Φ : Option Value → mH → Prop} {K : Nat → mL → List Value → Nat → Nat → mH → Prop} {L : mL} {st : List Value} {n : Nat} {sl : Nat} {h : mH} {F : mL → List Value → Nat → Nat → mH → Prop} {pc : Nat} {a : Nat} {b : Nat} {c : Nat} {e : Nat} {q : Nat} {y : mM} {x z : Int32} : wpI d M n0 Φ K (pc, .iadd, a, b, c, e, q, y) L (.int z :: .int x :: st) n sl h F = F L (.int (x + z) :: st) n sl h := propext Iff.rfl
theorem e_isub {d : Nat} {M : mM} {n0 : Nat} {Φ : Option Value → mH → Prop} {K : Nat → mL → List Value → Nat → Nat → mH → Prop} {L : mL} {st : List Value} {n : Nat} {sl : Nat} {h : mH} {F : mL → List Value → Nat → Nat → mH → Prop} {pc : Nat} {a : Nat} {b : Nat} {c : Nat} {e : Nat} {q : Nat} {y : mM} {x z : Int32} : wpI d M n0 Φ K (pc, .isub, a, b, c, e, q, y) L (.int z :: .int x :: st) n sl h F = F L (.int (x - z) :: st) n sl h := propext Iff.rfl
theorem e_imul {d : Nat} {M : mM} {n0 : Nat} {Φ : Option Value → mH → Prop} {K : Nat → mL → List Value → Nat → Nat → mH → Prop} {L : mL} {st : List Value} {n : Nat} {sl : Nat} {h : mH} {F : mL → List Value → Nat → Nat → mH → Prop} {pc : Nat} {a : Nat} {b : Nat} {c : Nat} {e : Nat} {q : Nat} {y : mM} {x z : Int32} : wpI d M n0 Φ K (pc, .imul, a, b, c, e, q, y) L (.int z :: .int x :: st) n sl h F = F L (.int (x * z) :: st) n sl h := propext Iff.rfl
theorem e_iand {d : Nat} {M : mM} {n0 : Nat} {Φ : Option Value → mH → Prop} {K : Nat → mL → List Value → Nat → Nat → mH → Prop} {L : mL} {st : List Value} {n : Nat} {sl : Nat} {h : mH} {F : mL → List Value → Nat → Nat → mH → Prop} {pc : Nat} {a : Nat} {b : Nat} {c : Nat} {e : Nat} {q : Nat} {y : mM} {x z : Int32} : wpI d M n0 Φ K (pc, .iand, a, b, c, e, q, y) L (.int z :: .int x :: st) n sl h F = F L (.int (x &&& z) :: st) n sl h := propext Iff.rfl
theorem e_ior {d : Nat} {M : mM} {n0 : Nat} {Φ : Option Value → mH → Prop} {K : Nat → mL → List Value → Nat → Nat → mH → Prop} {L : mL} {st : List Value} {n : Nat} {sl : Nat} {h : mH} {F : mL → List Value → Nat → Nat → mH → Prop} {pc : Nat} {a : Nat} {b : Nat} {c : Nat} {e : Nat} {q : Nat} {y : mM} {x z : Int32} : wpI d M n0 Φ K (pc, .ior, a, b, c, e, q, y) L (.int z :: .int x :: st) n sl h F = F L (.int (x ||| z) :: st) n sl h := propext Iff.rfl
theorem e_ishl {d : Nat} {M : mM} {n0 : Nat} {Φ : Option Value → mH → Prop} {K : Nat → mL → List Value → Nat → Nat → mH → Prop} {L : mL} {st : List Value} {n : Nat} {sl : Nat} {h : mH} {F : mL → List Value → Nat → Nat → mH → Prop} {pc : Nat} {a : Nat} {b : Nat} {c : Nat} {e : Nat} {q : Nat} {y : mM} {x z : Int32} : wpI d M n0 Φ K (pc, .ishl, a, b, c, e, q, y) L (.int z :: .int x :: st) n sl h F = F L (.int (x <<< (z &&& 31)) :: st) n sl h := propext Iff.rfl
theorem e_ishr {d : Nat} {M : mM} {n0 : Nat} {Φ : Option Value → mH → Prop} {K : Nat → mL → List Value → Nat → Nat → mH → Prop} {L : mL} {st : List Value} {n : Nat} {sl : Nat} {h : mH} {F : mL → List Value → Nat → Nat → mH → Prop} {pc : Nat} {a : Nat} {b : Nat} {c : Nat} {e : Nat} {q : Nat} {y : mM} {x z : Int32} : wpI d M n0 Φ K (pc, .ishr, a, b, c, e, q, y) L (.int z :: .int x :: st) n sl h F = F L (.int (x >>> (z &&& 31)) :: st) n sl h := propext Iff.rfl
theorem e_iushr {d : Nat} {M : mM} {n0 : Nat} {Φ : Option Value → mH → Prop} {K : Nat → mL → List Value → Nat → Nat → mH → Prop} {L : mL} {st : List Value} {n : Nat} {sl : Nat} {h : mH} {F : mL → List Value → Nat → Nat → mH → Prop} {pc : Nat} {a : Nat} {b : Nat} {c : Nat} {e : Nat} {q : Nat} {y : mM} {x z : Int32} : wpI d M n0 Φ K (pc, .iushr, a, b, c, e, q, y) L (.int z :: .int x :: st) n sl h F = F L (.int ((x.toUInt32 >>> (z.toUInt32 &&& Int32.toUInt32 31)).toInt32) :: st) n sl h := propext Iff.rfl
theorem e_idiv {d : Nat} {M : mM} {n0 : Nat} {Φ : Option Value → mH → Prop} {K : Nat → mL → List Value → Nat → Nat → mH → Prop} {L : mL} {st : List Value} {n : Nat} {sl : Nat} {h : mH} {F : mL → List Value → Nat → Nat → mH → Prop} {pc : Nat} {a : Nat} {b : Nat} {c : Nat} {e : Nat} {q : Nat} {y : mM} {x z : Int32} : wpI d M n0 Φ K (pc, .idiv, a, b, c, e, q, y) L (.int z :: .int x :: st) n sl h F = (¬ z = 0 ∧ F L (.int (x / z) :: st) n sl h) := propext Iff.rfl
theorem e_irem {d : Nat} {M : mM} {n0 : Nat} {Φ : Option Value → mH → Prop} {K : Nat → mL → List Value → Nat → Nat → mH → Prop} {L : mL} {st : List Value} {n : Nat} {sl : Nat} {h : mH} {F : mL → List Value → Nat → Nat → mH → Prop} {pc : Nat} {a : Nat} {b : Nat} {c : Nat} {e : Nat} {q : Nat} {y : mM} {x z : Int32} : wpI d M n0 Φ K (pc, .irem, a, b, c, e, q, y) L (.int z :: .int x :: st) n sl h F = (¬ z = 0 ∧ F L (.int (x - x / z * z) :: st) n sl h) := propext Iff.rfl
theorem e_ladd {d : Nat} {M : mM} {n0 : Nat} {Φ : Option Value → mH → Prop} {K : Nat → mL → List Value → Nat → Nat → mH → Prop} {L : mL} {st : List Value} {n : Nat} {sl : Nat} {h : mH} {F : mL → List Value → Nat → Nat → mH → Prop} {pc : Nat} {a : Nat} {b : Nat} {c : Nat} {e : Nat} {q : Nat} {y : mM} {x z : Int64} : wpI d M n0 Φ K (pc, .ladd, a, b, c, e, q, y) L (.long z :: .long x :: st) n sl h F = F L (.long (x + z) :: st) n sl h := propext Iff.rfl
theorem e_lmul {d : Nat} {M : mM} {n0 : Nat} {Φ : Option Value → mH → Prop} {K : Nat → mL → List Value → Nat → Nat → mH → Prop} {L : mL} {st : List Value} {n : Nat} {sl : Nat} {h : mH} {F : mL → List Value → Nat → Nat → mH → Prop} {pc : Nat} {a : Nat} {b : Nat} {c : Nat} {e : Nat} {q : Nat} {y : mM} {x z : Int64} : wpI d M n0 Φ K (pc, .lmul, a, b, c, e, q, y) L (.long z :: .long x :: st) n sl h F = F L (.long (x * z) :: st) n sl h := propext Iff.rfl
theorem e_lsub {d : Nat} {M : mM} {n0 : Nat} {Φ : Option Value → mH → Prop} {K : Nat → mL → List Value → Nat → Nat → mH → Prop} {L : mL} {st : List Value} {n : Nat} {sl : Nat} {h : mH} {F : mL → List Value → Nat → Nat → mH → Prop} {pc : Nat} {a : Nat} {b : Nat} {c : Nat} {e : Nat} {q : Nat} {y : mM} {x z : Int64} : wpI d M n0 Φ K (pc, .lsub, a, b, c, e, q, y) L (.long z :: .long x :: st) n sl h F = F L (.long (x - z) :: st) n sl h := propext Iff.rfl
theorem e_ldiv {d : Nat} {M : mM} {n0 : Nat} {Φ : Option Value → mH → Prop} {K : Nat → mL → List Value → Nat → Nat → mH → Prop} {L : mL} {st : List Value} {n : Nat} {sl : Nat} {h : mH} {F : mL → List Value → Nat → Nat → mH → Prop} {pc : Nat} {a : Nat} {b : Nat} {c : Nat} {e : Nat} {q : Nat} {y : mM} {x z : Int64} : wpI d M n0 Φ K (pc, .ldiv, a, b, c, e, q, y) L (.long z :: .long x :: st) n sl h F = (¬ z = 0 ∧ F L (.long (x / z) :: st) n sl h) := propext Iff.rfl
theorem e_lcmp {d : Nat} {M : mM} {n0 : Nat} {Φ : Option Value → mH → Prop} {K : Nat → mL → List Value → Nat → Nat → mH → Prop} {L : mL} {st : List Value} {n : Nat} {sl : Nat} {h : mH} {F : mL → List Value → Nat → Nat → mH → Prop} {pc : Nat} {a : Nat} {b : Nat} {c : Nat} {e : Nat} {q : Nat} {y : mM} {x z : Int64} : wpI d M n0 Φ K (pc, .lcmp, a, b, c, e, q, y) L (.long z :: .long x :: st) n sl h F = F L (.int (lg_cmp x z) :: st) n sl h := propext Iff.rfl
theorem e_i2l {d : Nat} {M : mM} {n0 : Nat} {Φ : Option Value → mH → Prop} {K : Nat → mL → List Value → Nat → Nat → mH → Prop} {L : mL} {st : List Value} {n : Nat} {sl : Nat} {h : mH} {F : mL → List Value → Nat → Nat → mH → Prop} {pc : Nat} {a : Nat} {b : Nat} {c : Nat} {e : Nat} {q : Nat} {y : mM} {x : Int32} : wpI d M n0 Φ K (pc, .i2l, a, b, c, e, q, y) L (.int x :: st) n sl h F = F L (.long x.toInt64 :: st) n sl h := propext Iff.rfl
theorem e_l2i {d : Nat} {M : mM} {n0 : Nat} {Φ : Option Value → mH → Prop} {K : Nat → mL → List Value → Nat → Nat → mH → Prop} {L : mL} {st : List Value} {n : Nat} {sl : Nat} {h : mH} {F : mL → List Value → Nat → Nat → mH → Prop} {pc : Nat} {a : Nat} {b : Nat} {c : Nat} {e : Nat} {q : Nat} {y : mM} {x : Int64} : wpI d M n0 Φ K (pc, .l2i, a, b, c, e, q, y) L (.long x :: st) n sl h F = F L (.int x.toInt32 :: st) n sl h := propext Iff.rfl
theorem e_i2b {d : Nat} {M : mM} {n0 : Nat} {Φ : Option Value → mH → Prop} {K : Nat → mL → List Value → Nat → Nat → mH → Prop} {L : mL} {st : List Value} {n : Nat} {sl : Nat} {h : mH} {F : mL → List Value → Nat → Nat → mH → Prop} {pc : Nat} {a : Nat} {b : Nat} {c : Nat} {e : Nat} {q : Nat} {y : mM} {x : Int32} : wpI d M n0 Φ K (pc, .i2b, a, b, c, e, q, y) L (.int x :: st) n sl h F = F L (.int x.toInt8.toInt32 :: st) n sl h := propext Iff.rfl
theorem e_dup_i {d : Nat} {M : mM} {n0 : Nat} {Φ : Option Value → mH → Prop} {K : Nat → mL → List Value → Nat → Nat → mH → Prop} {L : mL} {st : List Value} {n : Nat} {sl : Nat} {h : mH} {F : mL → List Value → Nat → Nat → mH → Prop} {pc : Nat} {a : Nat} {b : Nat} {c : Nat} {e : Nat} {q : Nat} {y : mM} {x : Int32} : wpI d M n0 Φ K (pc, .dup, a, b, c, e, q, y) L (.int x :: st) n sl h F = F L (.int x :: .int x :: st) n sl h := by simp [wpI, sV, c1]
theorem e_pop_i {d : Nat} {M : mM} {n0 : Nat} {Φ : Option Value → mH → Prop} {K : Nat → mL → List Value → Nat → Nat → mH → Prop} {L : mL} {st : List Value} {n : Nat} {sl : Nat} {h : mH} {F : mL → List Value → Nat → Nat → mH → Prop} {pc : Nat} {a : Nat} {b : Nat} {c : Nat} {e : Nat} {q : Nat} {y : mM} {x : Int32} : wpI d M n0 Φ K (pc, .pop, a, b, c, e, q, y) L (.int x :: st) n sl h F = F L st n sl h := by simp [wpI, sV, c1]
theorem e_dup_a {d : Nat} {M : mM} {n0 : Nat} {Φ : Option Value → mH → Prop} {K : Nat → mL → List Value → Nat → Nat → mH → Prop} {L : mL} {st : List Value} {n : Nat} {sl : Nat} {h : mH} {F : mL → List Value → Nat → Nat → mH → Prop} {pc : Nat} {a : Nat} {b : Nat} {c : Nat} {e : Nat} {q : Nat} {y : mM} {x : Nat} : wpI d M n0 Φ K (pc, .dup, a, b, c, e, q, y) L (.ref x :: st) n sl h F = F L (.ref x :: .ref x :: st) n sl h := by simp [wpI, sV, c1]
theorem e_pop_a {d : Nat} {M : mM} {n0 : Nat} {Φ : Option Value → mH → Prop} {K : Nat → mL → List Value → Nat → Nat → mH → Prop} {L : mL} {st : List Value} {n : Nat} {sl : Nat} {h : mH} {F : mL → List Value → Nat → Nat → mH → Prop} {pc : Nat} {a : Nat} {b : Nat} {c : Nat} {e : Nat} {q : Nat} {y : mM} {x : Nat} : wpI d M n0 Φ K (pc, .pop, a, b, c, e, q, y) L (.ref x :: st) n sl h F = F L st n sl h := by simp [wpI, sV, c1]
theorem e_dup2_ia {d : Nat} {M : mM} {n0 : Nat} {Φ : Option Value → mH → Prop} {K : Nat → mL → List Value → Nat → Nat → mH → Prop} {L : mL} {st : List Value} {n : Nat} {sl : Nat} {h : mH} {F : mL → List Value → Nat → Nat → mH → Prop} {pc : Nat} {a : Nat} {b : Nat} {c : Nat} {e : Nat} {q : Nat} {y : mM} {x : Int32} {z : Nat} : wpI d M n0 Φ K (pc, .dup2, a, b, c, e, q, y) L (.int x :: .ref z :: st) n sl h F = F L (.int x :: .ref z :: .int x :: .ref z :: st) n sl h := by simp [wpI, sV, c1]
theorem e_icmp_eq {d : Nat} {M : mM} {n0 : Nat} {Φ : Option Value → mH → Prop} {K : Nat → mL → List Value → Nat → Nat → mH → Prop} {L : mL} {st : List Value} {n : Nat} {sl : Nat} {h : mH} {F : mL → List Value → Nat → Nat → mH → Prop} {pc : Nat} {a : Nat} {b : Nat} {c : Nat} {e : Nat} {q : Nat} {y : mM} {x z : Int32} {o : Int} : wpI d M n0 Φ K (pc, .if_icmp .eq o, a, b, c, e, q, y) L (.int z :: .int x :: st) n sl h F = ((x = z → K a L st n sl h) ∧ (¬ (x = z) → F L st n sl h)) := propext Iff.rfl
theorem e_if_eq {d : Nat} {M : mM} {n0 : Nat} {Φ : Option Value → mH → Prop} {K : Nat → mL → List Value → Nat → Nat → mH → Prop} {L : mL} {st : List Value} {n : Nat} {sl : Nat} {h : mH} {F : mL → List Value → Nat → Nat → mH → Prop} {pc : Nat} {a : Nat} {b : Nat} {c : Nat} {e : Nat} {q : Nat} {y : mM} {x : Int32} {o : Int} : wpI d M n0 Φ K (pc, .ifCond .eq o, a, b, c, e, q, y) L (.int x :: st) n sl h F = ((x = 0 → K a L st n sl h) ∧ (¬ (x = 0) → F L st n sl h)) := propext Iff.rfl
theorem e_icmp_ne {d : Nat} {M : mM} {n0 : Nat} {Φ : Option Value → mH → Prop} {K : Nat → mL → List Value → Nat → Nat → mH → Prop} {L : mL} {st : List Value} {n : Nat} {sl : Nat} {h : mH} {F : mL → List Value → Nat → Nat → mH → Prop} {pc : Nat} {a : Nat} {b : Nat} {c : Nat} {e : Nat} {q : Nat} {y : mM} {x z : Int32} {o : Int} : wpI d M n0 Φ K (pc, .if_icmp .ne o, a, b, c, e, q, y) L (.int z :: .int x :: st) n sl h F = ((¬ x = z → K a L st n sl h) ∧ (¬ ¬ x = z → F L st n sl h)) := propext Iff.rfl
theorem e_if_ne {d : Nat} {M : mM} {n0 : Nat} {Φ : Option Value → mH → Prop} {K : Nat → mL → List Value → Nat → Nat → mH → Prop} {L : mL} {st : List Value} {n : Nat} {sl : Nat} {h : mH} {F : mL → List Value → Nat → Nat → mH → Prop} {pc : Nat} {a : Nat} {b : Nat} {c : Nat} {e : Nat} {q : Nat} {y : mM} {x : Int32} {o : Int} : wpI d M n0 Φ K (pc, .ifCond .ne o, a, b, c, e, q, y) L (.int x :: st) n sl h F = ((¬ x = 0 → K a L st n sl h) ∧ (¬ ¬ x = 0 → F L st n sl h)) := propext Iff.rfl
theorem e_icmp_lt {d : Nat} {M : mM} {n0 : Nat} {Φ : Option Value → mH → Prop} {K : Nat → mL → List Value → Nat → Nat → mH → Prop} {L : mL} {st : List Value} {n : Nat} {sl : Nat} {h : mH} {F : mL → List Value → Nat → Nat → mH → Prop} {pc : Nat} {a : Nat} {b : Nat} {c : Nat} {e : Nat} {q : Nat} {y : mM} {x z : Int32} {o : Int} : wpI d M n0 Φ K (pc, .if_icmp .lt o, a, b, c, e, q, y) L (.int z :: .int x :: st) n sl h F = ((x < z → K a L st n sl h) ∧ (¬ (x < z) → F L st n sl h)) := propext Iff.rfl
theorem e_if_lt {d : Nat} {M : mM} {n0 : Nat} {Φ : Option Value → mH → Prop} {K : Nat → mL → List Value → Nat → Nat → mH → Prop} {L : mL} {st : List Value} {n : Nat} {sl : Nat} {h : mH} {F : mL → List Value → Nat → Nat → mH → Prop} {pc : Nat} {a : Nat} {b : Nat} {c : Nat} {e : Nat} {q : Nat} {y : mM} {x : Int32} {o : Int} : wpI d M n0 Φ K (pc, .ifCond .lt o, a, b, c, e, q, y) L (.int x :: st) n sl h F = ((x < 0 → K a L st n sl h) ∧ (¬ (x < 0) → F L st n sl h)) := propext Iff.rfl
theorem e_icmp_ge {d : Nat} {M : mM} {n0 : Nat} {Φ : Option Value → mH → Prop} {K : Nat → mL → List Value → Nat → Nat → mH → Prop} {L : mL} {st : List Value} {n : Nat} {sl : Nat} {h : mH} {F : mL → List Value → Nat → Nat → mH → Prop} {pc : Nat} {a : Nat} {b : Nat} {c : Nat} {e : Nat} {q : Nat} {y : mM} {x z : Int32} {o : Int} : wpI d M n0 Φ K (pc, .if_icmp .ge o, a, b, c, e, q, y) L (.int z :: .int x :: st) n sl h F = ((z ≤ x → K a L st n sl h) ∧ (¬ (z ≤ x) → F L st n sl h)) := propext Iff.rfl
theorem e_if_ge {d : Nat} {M : mM} {n0 : Nat} {Φ : Option Value → mH → Prop} {K : Nat → mL → List Value → Nat → Nat → mH → Prop} {L : mL} {st : List Value} {n : Nat} {sl : Nat} {h : mH} {F : mL → List Value → Nat → Nat → mH → Prop} {pc : Nat} {a : Nat} {b : Nat} {c : Nat} {e : Nat} {q : Nat} {y : mM} {x : Int32} {o : Int} : wpI d M n0 Φ K (pc, .ifCond .ge o, a, b, c, e, q, y) L (.int x :: st) n sl h F = ((0 ≤ x → K a L st n sl h) ∧ (¬ (0 ≤ x) → F L st n sl h)) := propext Iff.rfl
theorem e_icmp_gt {d : Nat} {M : mM} {n0 : Nat} {Φ : Option Value → mH → Prop} {K : Nat → mL → List Value → Nat → Nat → mH → Prop} {L : mL} {st : List Value} {n : Nat} {sl : Nat} {h : mH} {F : mL → List Value → Nat → Nat → mH → Prop} {pc : Nat} {a : Nat} {b : Nat} {c : Nat} {e : Nat} {q : Nat} {y : mM} {x z : Int32} {o : Int} : wpI d M n0 Φ K (pc, .if_icmp .gt o, a, b, c, e, q, y) L (.int z :: .int x :: st) n sl h F = ((z < x → K a L st n sl h) ∧ (¬ (z < x) → F L st n sl h)) := propext Iff.rfl
theorem e_if_gt {d : Nat} {M : mM} {n0 : Nat} {Φ : Option Value → mH → Prop} {K : Nat → mL → List Value → Nat → Nat → mH → Prop} {L : mL} {st : List Value} {n : Nat} {sl : Nat} {h : mH} {F : mL → List Value → Nat → Nat → mH → Prop} {pc : Nat} {a : Nat} {b : Nat} {c : Nat} {e : Nat} {q : Nat} {y : mM} {x : Int32} {o : Int} : wpI d M n0 Φ K (pc, .ifCond .gt o, a, b, c, e, q, y) L (.int x :: st) n sl h F = ((0 < x → K a L st n sl h) ∧ (¬ (0 < x) → F L st n sl h)) := propext Iff.rfl
theorem e_icmp_le {d : Nat} {M : mM} {n0 : Nat} {Φ : Option Value → mH → Prop} {K : Nat → mL → List Value → Nat → Nat → mH → Prop} {L : mL} {st : List Value} {n : Nat} {sl : Nat} {h : mH} {F : mL → List Value → Nat → Nat → mH → Prop} {pc : Nat} {a : Nat} {b : Nat} {c : Nat} {e : Nat} {q : Nat} {y : mM} {x z : Int32} {o : Int} : wpI d M n0 Φ K (pc, .if_icmp .le o, a, b, c, e, q, y) L (.int z :: .int x :: st) n sl h F = ((x ≤ z → K a L st n sl h) ∧ (¬ (x ≤ z) → F L st n sl h)) := propext Iff.rfl
theorem e_if_le {d : Nat} {M : mM} {n0 : Nat} {Φ : Option Value → mH → Prop} {K : Nat → mL → List Value → Nat → Nat → mH → Prop} {L : mL} {st : List Value} {n : Nat} {sl : Nat} {h : mH} {F : mL → List Value → Nat → Nat → mH → Prop} {pc : Nat} {a : Nat} {b : Nat} {c : Nat} {e : Nat} {q : Nat} {y : mM} {x : Int32} {o : Int} : wpI d M n0 Φ K (pc, .ifCond .le o, a, b, c, e, q, y) L (.int x :: st) n sl h F = ((x ≤ 0 → K a L st n sl h) ∧ (¬ (x ≤ 0) → F L st n sl h)) := propext Iff.rfl
theorem e_goto {d : Nat} {M : mM} {n0 : Nat} {Φ : Option Value → mH → Prop} {K : Nat → mL → List Value → Nat → Nat → mH → Prop} {L : mL} {st : List Value} {n : Nat} {sl : Nat} {h : mH} {F : mL → List Value → Nat → Nat → mH → Prop} {pc : Nat} {a : Nat} {b : Nat} {c : Nat} {e : Nat} {q : Nat} {y : mM} {o : Int} : wpI d M n0 Φ K (pc, .goto o, a, b, c, e, q, y) L (st) n sl h F = K a L st n sl h := propext Iff.rfl
theorem e_tsw {d : Nat} {M : mM} {n0 : Nat} {Φ : Option Value → mH → Prop} {K : Nat → mL → List Value → Nat → Nat → mH → Prop} {L : mL} {st : List Value} {n : Nat} {sl : Nat} {h : mH} {F : mL → List Value → Nat → Nat → mH → Prop} {pc : Nat} {a : Nat} {b : Nat} {c : Nat} {e : Nat} {q : Nat} {y : mM} {x : Int32} {df lo hi : Int} {offs : Array Int} : wpI d M n0 Φ K (pc, .tableswitch df lo hi offs, a, b, c, e, q, y) L (.int x :: st) n sl h F = swT pc x df lo offs.toList (kT K L st n sl h) := propext Iff.rfl
theorem e_lsw {d : Nat} {M : mM} {n0 : Nat} {Φ : Option Value → mH → Prop} {K : Nat → mL → List Value → Nat → Nat → mH → Prop} {L : mL} {st : List Value} {n : Nat} {sl : Nat} {h : mH} {F : mL → List Value → Nat → Nat → mH → Prop} {pc : Nat} {a : Nat} {b : Nat} {c : Nat} {e : Nat} {q : Nat} {y : mM} {x : Int32} {df : Int} {ps : Array (Int × Int)} : wpI d M n0 Φ K (pc, .lookupswitch df ps, a, b, c, e, q, y) L (.int x :: st) n sl h F = swL pc x df ps.toList (kT K L st n sl h) := propext Iff.rfl
theorem e_ireturn {d : Nat} {M : mM} {n0 : Nat} {Φ : Option Value → mH → Prop} {K : Nat → mL → List Value → Nat → Nat → mH → Prop} {L : mL} {n : Nat} {sl : Nat} {h : mH} {F : mL → List Value → Nat → Nat → mH → Prop} {pc : Nat} {b : Nat} {e : Nat} {q : Nat} {y : mM} {x : Int32} : wpI d M n0 Φ K (pc, .ireturn, 0, b, 0, e, q, y) L ([.int x]) n sl h F = Φ (some (.int x)) h := by simp [wpI, sI]
theorem e_zreturn {d : Nat} {M : mM} {n0 : Nat} {Φ : Option Value → mH → Prop} {K : Nat → mL → List Value → Nat → Nat → mH → Prop} {L : mL} {n : Nat} {sl : Nat} {h : mH} {F : mL → List Value → Nat → Nat → mH → Prop} {pc : Nat} {b : Nat} {e : Nat} {q : Nat} {y : mM} {x : Int32} : wpI d M n0 Φ K (pc, .ireturn, 1, b, 0, e, q, y) L ([.int x]) n sl h F = ((x = 0 ∨ x = 1) ∧ Φ (some (.int x)) h) := by simp [wpI, sI]
theorem e_zret0 {d : Nat} {M : mM} {n0 : Nat} {Φ : Option Value → mH → Prop} {K : Nat → mL → List Value → Nat → Nat → mH → Prop} {L : mL} {n : Nat} {sl : Nat} {h : mH} {F : mL → List Value → Nat → Nat → mH → Prop} {pc : Nat} {b : Nat} {e : Nat} {q : Nat} {y : mM}  : wpI d M n0 Φ K (pc, .ireturn, 1, b, 0, e, q, y) L ([.int (nI 0)]) n sl h F = Φ (some (.int (nI 0))) h := by simp [wpI, sI, show nI 0 = 0 from rfl]
theorem e_zret1 {d : Nat} {M : mM} {n0 : Nat} {Φ : Option Value → mH → Prop} {K : Nat → mL → List Value → Nat → Nat → mH → Prop} {L : mL} {n : Nat} {sl : Nat} {h : mH} {F : mL → List Value → Nat → Nat → mH → Prop} {pc : Nat} {b : Nat} {e : Nat} {q : Nat} {y : mM}  : wpI d M n0 Φ K (pc, .ireturn, 1, b, 0, e, q, y) L ([.int (nI 1)]) n sl h F = Φ (some (.int (nI 1))) h := by simp [wpI, sI, show nI 1 = 1 from rfl]
theorem e_lreturn {d : Nat} {M : mM} {n0 : Nat} {Φ : Option Value → mH → Prop} {K : Nat → mL → List Value → Nat → Nat → mH → Prop} {L : mL} {n : Nat} {sl : Nat} {h : mH} {F : mL → List Value → Nat → Nat → mH → Prop} {pc : Nat} {a : Nat} {b : Nat} {e : Nat} {q : Nat} {y : mM} {x : Int64} : wpI d M n0 Φ K (pc, .lreturn, a, b, 0, e, q, y) L ([.long x]) n sl h F = Φ (some (.long x)) h := by simp [wpI, sJ]
theorem e_return {d : Nat} {M : mM} {n0 : Nat} {Φ : Option Value → mH → Prop} {K : Nat → mL → List Value → Nat → Nat → mH → Prop} {L : mL} {n : Nat} {sl : Nat} {h : mH} {F : mL → List Value → Nat → Nat → mH → Prop} {pc : Nat} {a : Nat} {b : Nat} {e : Nat} {q : Nat} {y : mM}  : wpI d M n0 Φ K (pc, .return_, a, b, 0, e, q, y) L ([]) n sl h F = Φ none h := by simp [wpI]
theorem e_returnN {d : Nat} {M : mM} {n0 : Nat} {Φ : Option Value → mH → Prop} {K : Nat → mL → List Value → Nat → Nat → mH → Prop} {L : mL} {n : Nat} {sl : Nat} {h : mH} {F : mL → List Value → Nat → Nat → mH → Prop} {pc : Nat} {a : Nat} {b : Nat} {c : Nat} {e : Nat} {q : Nat} {y : mM}  : wpI d M n0 Φ K (pc, .return_, a, b, (c + 1), e, q, y) L ([]) n sl h F = (n = n0 + (c + 1) ∧ Φ none h) := by simp [wpI]
theorem e_getfield {d : Nat} {M : mM} {n0 : Nat} {Φ : Option Value → mH → Prop} {K : Nat → mL → List Value → Nat → Nat → mH → Prop} {L : mL} {st : List Value} {n : Nat} {sl : Nat} {h : mH} {F : mL → List Value → Nat → Nat → mH → Prop} {pc : Nat} {a : Nat} {b : Nat} {c : Nat} {e : Nat} {q : Nat} {y : mM} {i r : Nat} : wpI d M n0 Φ K (pc, .getfield i, a, b, c, e, q, y) L (.ref r :: st) n sl h F = gf (h r) a b (k1 F L st n sl h) := propext Iff.rfl
theorem e_putfield0 {d : Nat} {M : mM} {n0 : Nat} {Φ : Option Value → mH → Prop} {K : Nat → mL → List Value → Nat → Nat → mH → Prop} {L : mL} {st : List Value} {n : Nat} {sl : Nat} {h : mH} {F : mL → List Value → Nat → Nat → mH → Prop} {pc : Nat} {a : Nat} {b : Nat} {e : Nat} {q : Nat} {y : mM} {i r : Nat} {x : Int32} : wpI d M n0 Φ K (pc, .putfield i, a, b, 0, e, q, y) L (.int x :: .ref r :: st) n sl h F = pf (h r) a b (.int x) (kH F L st n sl h r) := by show (True ∧ _) = _; rw [true_and]; rfl
theorem e_putfield2 {d : Nat} {M : mM} {n0 : Nat} {Φ : Option Value → mH → Prop} {K : Nat → mL → List Value → Nat → Nat → mH → Prop} {L : mL} {st : List Value} {n : Nat} {sl : Nat} {h : mH} {F : mL → List Value → Nat → Nat → mH → Prop} {pc : Nat} {a : Nat} {b : Nat} {e : Nat} {q : Nat} {y : mM} {i r : Nat} {x : Int64} : wpI d M n0 Φ K (pc, .putfield i, a, b, 2, e, q, y) L (.long x :: .ref r :: st) n sl h F = pf (h r) a b (.long x) (kH F L st n sl h r) := by show (True ∧ _) = _; rw [true_and]; rfl
theorem e_putfield3 {d : Nat} {M : mM} {n0 : Nat} {Φ : Option Value → mH → Prop} {K : Nat → mL → List Value → Nat → Nat → mH → Prop} {L : mL} {st : List Value} {n : Nat} {sl : Nat} {h : mH} {F : mL → List Value → Nat → Nat → mH → Prop} {pc : Nat} {a : Nat} {b : Nat} {e : Nat} {q : Nat} {y : mM} {i r : Nat} {x : Nat} : wpI d M n0 Φ K (pc, .putfield i, a, b, 3, e, q, y) L (.ref x :: .ref r :: st) n sl h F = pf (h r) a b (.ref x) (kH F L st n sl h r) := by show (True ∧ _) = _; rw [true_and]; rfl
theorem e_putfield1 {d : Nat} {M : mM} {n0 : Nat} {Φ : Option Value → mH → Prop} {K : Nat → mL → List Value → Nat → Nat → mH → Prop} {L : mL} {st : List Value} {n : Nat} {sl : Nat} {h : mH} {F : mL → List Value → Nat → Nat → mH → Prop} {pc : Nat} {a : Nat} {b : Nat} {e : Nat} {q : Nat} {y : mM} {i r : Nat} {x : Int32} : wpI d M n0 Φ K (pc, .putfield i, a, b, 1, e, q, y) L (.int x :: .ref r :: st) n sl h F = ((x = 0 ∨ x = 1) ∧ pf (h r) a b (.int x) (kH F L st n sl h r)) := propext Iff.rfl
theorem e_new {d : Nat} {M : mM} {n0 : Nat} {Φ : Option Value → mH → Prop} {K : Nat → mL → List Value → Nat → Nat → mH → Prop} {L : mL} {st : List Value} {n : Nat} {sl : Nat} {h : mH} {F : mL → List Value → Nat → Nat → mH → Prop} {pc : Nat} {a : Nat} {b : Nat} {c : Nat} {e : Nat} {q : Nat} {y : mM} {i : Nat} : wpI d M n0 Φ K (pc, .new i, a, b, c, e, q, y) L (st) n sl h F = (n + 1 - n0 ≤ c ∧ sl + b ≤ e ∧ F L (.ref n :: st) (n + 1) (sl + b) (hu h n (.inr (a, vdef a)))) := propext Iff.rfl
theorem e_newarray {d : Nat} {M : mM} {n0 : Nat} {Φ : Option Value → mH → Prop} {K : Nat → mL → List Value → Nat → Nat → mH → Prop} {L : mL} {st : List Value} {n : Nat} {sl : Nat} {h : mH} {F : mL → List Value → Nat → Nat → mH → Prop} {pc : Nat} {a : Nat} {b : Nat} {c : Nat} {e : Nat} {q : Nat} {y : mM} {ar : ArrayType} : wpI d M n0 Φ K (pc, .newarray ar, a, b, c, e, q, y) L (.int (nI b) :: st) n sl h F = (n + 1 - n0 ≤ c ∧ sl + b ≤ e ∧ F L (.ref n :: st) (n + 1) (sl + b) (hu h n (zc a b))) := by simp [wpI, sI]
theorem e_anewarray {d : Nat} {M : mM} {n0 : Nat} {Φ : Option Value → mH → Prop} {K : Nat → mL → List Value → Nat → Nat → mH → Prop} {L : mL} {st : List Value} {n : Nat} {sl : Nat} {h : mH} {F : mL → List Value → Nat → Nat → mH → Prop} {pc : Nat} {a : Nat} {b : Nat} {c : Nat} {e : Nat} {q : Nat} {y : mM} {i : Nat} : wpI d M n0 Φ K (pc, .anewarray i, a, b, c, e, q, y) L (.int (nI b) :: st) n sl h F = (n + 1 - n0 ≤ c ∧ sl + b ≤ e ∧ F L (.ref n :: st) (n + 1) (sl + b) (hu h n (.inl (a, b, fun _ => .null)))) := by simp [wpI, sI]
theorem e_iaload {d : Nat} {M : mM} {n0 : Nat} {Φ : Option Value → mH → Prop} {K : Nat → mL → List Value → Nat → Nat → mH → Prop} {L : mL} {st : List Value} {n : Nat} {sl : Nat} {h : mH} {F : mL → List Value → Nat → Nat → mH → Prop} {pc : Nat} {b : Nat} {c : Nat} {e : Nat} {q : Nat} {y : mM} {j : Int32} {r : Nat} : wpI d M n0 Φ K (pc, .iaload, 0, b, c, e, q, y) L (.int j :: .ref r :: st) n sl h F = gar (h r) 0 j (k1 F L st n sl h) := propext Iff.rfl
theorem e_siald {d : Nat} {M : mM} {n0 : Nat} {Φ : Option Value → mH → Prop} {K : Nat → mL → List Value → Nat → Nat → mH → Prop} {L : mL} {st : List Value} {n : Nat} {sl : Nat} {h : mH} {F : mL → List Value → Nat → Nat → mH → Prop} {pc : Nat} {b : Nat} {c : Nat} {e : Nat} {q : Nat} {y : mM} {j : Int32} {r : Nat} : wpI d M n0 Φ K (pc, .iaload, 1, b, c, e, q, y) L (.int j :: .retAddr r :: st) n sl h F = scr M fun N xs => vp_in j N ∧ F L (.int (xs j.toNatClampNeg) :: st) n sl h := propext Iff.rfl
theorem e_baload {d : Nat} {M : mM} {n0 : Nat} {Φ : Option Value → mH → Prop} {K : Nat → mL → List Value → Nat → Nat → mH → Prop} {L : mL} {st : List Value} {n : Nat} {sl : Nat} {h : mH} {F : mL → List Value → Nat → Nat → mH → Prop} {pc : Nat} {a : Nat} {b : Nat} {c : Nat} {e : Nat} {q : Nat} {y : mM} {j : Int32} {r : Nat} : wpI d M n0 Φ K (pc, .baload, a, b, c, e, q, y) L (.int j :: .ref r :: st) n sl h F = gar (h r) a j (k1 F L st n sl h) := propext Iff.rfl
theorem e_laload {d : Nat} {M : mM} {n0 : Nat} {Φ : Option Value → mH → Prop} {K : Nat → mL → List Value → Nat → Nat → mH → Prop} {L : mL} {st : List Value} {n : Nat} {sl : Nat} {h : mH} {F : mL → List Value → Nat → Nat → mH → Prop} {pc : Nat} {a : Nat} {b : Nat} {c : Nat} {e : Nat} {q : Nat} {y : mM} {j : Int32} {r : Nat} : wpI d M n0 Φ K (pc, .laload, a, b, c, e, q, y) L (.int j :: .ref r :: st) n sl h F = gar (h r) 3 j (k1 F L st n sl h) := propext Iff.rfl
theorem e_aaload {d : Nat} {M : mM} {n0 : Nat} {Φ : Option Value → mH → Prop} {K : Nat → mL → List Value → Nat → Nat → mH → Prop} {L : mL} {st : List Value} {n : Nat} {sl : Nat} {h : mH} {F : mL → List Value → Nat → Nat → mH → Prop} {pc : Nat} {a : Nat} {b : Nat} {c : Nat} {e : Nat} {q : Nat} {y : mM} {j : Int32} {r : Nat} : wpI d M n0 Φ K (pc, .aaload, a, b, c, e, q, y) L (.int j :: .ref r :: st) n sl h F = gar (h r) a j (k1 F L st n sl h) := propext Iff.rfl
theorem e_iastore {d : Nat} {M : mM} {n0 : Nat} {Φ : Option Value → mH → Prop} {K : Nat → mL → List Value → Nat → Nat → mH → Prop} {L : mL} {st : List Value} {n : Nat} {sl : Nat} {h : mH} {F : mL → List Value → Nat → Nat → mH → Prop} {pc : Nat} {a : Nat} {b : Nat} {c : Nat} {e : Nat} {q : Nat} {y : mM} {x j : Int32} {r : Nat} : wpI d M n0 Φ K (pc, .iastore, a, b, c, e, q, y) L (.int x :: .int j :: .ref r :: st) n sl h F = sar (h r) 0 j (.int x) (kH F L st n sl h r) := propext Iff.rfl
theorem e_bastore {d : Nat} {M : mM} {n0 : Nat} {Φ : Option Value → mH → Prop} {K : Nat → mL → List Value → Nat → Nat → mH → Prop} {L : mL} {st : List Value} {n : Nat} {sl : Nat} {h : mH} {F : mL → List Value → Nat → Nat → mH → Prop} {pc : Nat} {a : Nat} {b : Nat} {c : Nat} {e : Nat} {q : Nat} {y : mM} {x j : Int32} {r : Nat} : wpI d M n0 Φ K (pc, .bastore, a, b, c, e, q, y) L (.int x :: .int j :: .ref r :: st) n sl h F = sar (h r) a j (.int (nar a x)) (kH F L st n sl h r) := propext Iff.rfl
theorem e_lastore {d : Nat} {M : mM} {n0 : Nat} {Φ : Option Value → mH → Prop} {K : Nat → mL → List Value → Nat → Nat → mH → Prop} {L : mL} {st : List Value} {n : Nat} {sl : Nat} {h : mH} {F : mL → List Value → Nat → Nat → mH → Prop} {pc : Nat} {a : Nat} {b : Nat} {c : Nat} {e : Nat} {q : Nat} {y : mM} {x : Int64} {j : Int32} {r : Nat} : wpI d M n0 Φ K (pc, .lastore, a, b, c, e, q, y) L (.long x :: .int j :: .ref r :: st) n sl h F = sar (h r) 3 j (.long x) (kH F L st n sl h r) := propext Iff.rfl
theorem e_aastore {d : Nat} {M : mM} {n0 : Nat} {Φ : Option Value → mH → Prop} {K : Nat → mL → List Value → Nat → Nat → mH → Prop} {L : mL} {st : List Value} {n : Nat} {sl : Nat} {h : mH} {F : mL → List Value → Nat → Nat → mH → Prop} {pc : Nat} {a : Nat} {b : Nat} {c : Nat} {e : Nat} {q : Nat} {y : mM} {j : Int32} {v r : Nat} : wpI d M n0 Φ K (pc, .aastore, a, b, c, e, q, y) L (.ref v :: .int j :: .ref r :: st) n sl h F = (oc (h v) b ∧ sar (h r) a j (.ref v) (kH F L st n sl h r)) := propext Iff.rfl
theorem e_alen {d : Nat} {M : mM} {n0 : Nat} {Φ : Option Value → mH → Prop} {K : Nat → mL → List Value → Nat → Nat → mH → Prop} {L : mL} {st : List Value} {n : Nat} {sl : Nat} {h : mH} {F : mL → List Value → Nat → Nat → mH → Prop} {pc : Nat} {b : Nat} {c : Nat} {e : Nat} {q : Nat} {y : mM} {r : Nat} : wpI d M n0 Φ K (pc, .arraylength, 0, b, c, e, q, y) L (.ref r :: st) n sl h F = aln (h r) fun N => F L (.int (nI N) :: st) n sl h := propext Iff.rfl
theorem e_slen {d : Nat} {M : mM} {n0 : Nat} {Φ : Option Value → mH → Prop} {K : Nat → mL → List Value → Nat → Nat → mH → Prop} {L : mL} {st : List Value} {n : Nat} {sl : Nat} {h : mH} {F : mL → List Value → Nat → Nat → mH → Prop} {pc : Nat} {b : Nat} {c : Nat} {e : Nat} {q : Nat} {y : mM} {r : Nat} : wpI d M n0 Φ K (pc, .arraylength, 1, b, c, e, q, y) L (.retAddr r :: st) n sl h F = scr M fun N _ => F L (.int (nI N) :: st) n sl h := propext Iff.rfl
theorem e_callV {d : Nat} {M : mM} {n0 : Nat} {Φ : Option Value → mH → Prop} {K : Nat → mL → List Value → Nat → Nat → mH → Prop} {L : mL} {st : List Value} {n : Nat} {sl : Nat} {h : mH} {F : mL → List Value → Nat → Nat → mH → Prop} {pc : Nat} {a : Nat} {b : Nat} {c : Nat} {e : Nat} {q : Nat} {y : mM} {i : Nat} : wpI d M n0 Φ K (pc, .invokevirtual i, a, b, c, e, q, y) L (st) n sl h F = popN b [] st (kV d M n0 y a c e F L n sl h) := propext Iff.rfl
theorem e_callS {d : Nat} {M : mM} {n0 : Nat} {Φ : Option Value → mH → Prop} {K : Nat → mL → List Value → Nat → Nat → mH → Prop} {L : mL} {st : List Value} {n : Nat} {sl : Nat} {h : mH} {F : mL → List Value → Nat → Nat → mH → Prop} {pc : Nat} {b : Nat} {c : Nat} {e : Nat} {q : Nat} {y : mM} {i : Nat} : wpI d M n0 Φ K (pc, .invokestatic i, 0, b, c, e, q, y) L (st) n sl h F = popN b [] st (kS d M n0 y c e F L n sl h) := propext Iff.rfl
theorem e_callI {d : Nat} {M : mM} {n0 : Nat} {Φ : Option Value → mH → Prop} {K : Nat → mL → List Value → Nat → Nat → mH → Prop} {L : mL} {st : List Value} {n : Nat} {sl : Nat} {h : mH} {F : mL → List Value → Nat → Nat → mH → Prop} {pc : Nat} {b : Nat} {c : Nat} {e : Nat} {q : Nat} {y : mM} {i : Nat} : wpI d M n0 Φ K (pc, .invokespecial i, 0, b, c, e, q, y) L (st) n sl h F = popN b [] st (kP d M n0 y c e F L n sl h) := propext Iff.rfl
theorem e_objInit {d : Nat} {M : mM} {n0 : Nat} {Φ : Option Value → mH → Prop} {K : Nat → mL → List Value → Nat → Nat → mH → Prop} {L : mL} {st : List Value} {n : Nat} {sl : Nat} {h : mH} {F : mL → List Value → Nat → Nat → mH → Prop} {pc : Nat} {b : Nat} {c : Nat} {e : Nat} {q : Nat} {y : mM} {i r : Nat} : wpI d M n0 Φ K (pc, .invokespecial i, 1, b, c, e, q, y) L (.ref r :: st) n sl h F = (st.length ≤ 4 ∧ F L st n sl h) := propext Iff.rfl
theorem e_max {d : Nat} {M : mM} {n0 : Nat} {Φ : Option Value → mH → Prop} {K : Nat → mL → List Value → Nat → Nat → mH → Prop} {L : mL} {st : List Value} {n : Nat} {sl : Nat} {h : mH} {F : mL → List Value → Nat → Nat → mH → Prop} {pc : Nat} {b : Nat} {c : Nat} {e : Nat} {q : Nat} {y : mM} {i : Nat} {x z : Int32} : wpI d M n0 Φ K (pc, .invokestatic i, 2, b, c, e, q, y) L (.int z :: .int x :: st) n sl h F = (st.length ≤ 4 ∧ F L (.int (if x < z then z else x) :: st) n sl h) := propext Iff.rfl
theorem e_copy {d : Nat} {M : mM} {n0 : Nat} {Φ : Option Value → mH → Prop} {K : Nat → mL → List Value → Nat → Nat → mH → Prop} {L : mL} {st : List Value} {n : Nat} {sl : Nat} {h : mH} {F : mL → List Value → Nat → Nat → mH → Prop} {pc : Nat} {b : Nat} {c : Nat} {e : Nat} {q : Nat} {y : mM} {i ra rb : Nat} {kk dp sp : Int32} : wpI d M n0 Φ K (pc, .invokestatic i, 1, b, c, e, q, y) L (.int kk :: .int dp :: .ref rb :: .int sp :: .ref ra :: st) n sl h F = (st.length ≤ 4 ∧ cpI (h ra) (h rb) sp dp kk (kH F L st n sl h rb)) := propext Iff.rfl
theorem q_cpI  {N0 N1 : Nat} {f f2 : Nat → Int32} {sp dp kk : Int32} {G : mC → Prop} : cpI (ia N0 f) (ia N1 f2) sp dp kk G = (¬ sp < 0 ∧ ¬ dp < 0 ∧ ¬ kk < 0 ∧ sp.toNatClampNeg + kk.toNatClampNeg ≤ N0 ∧ dp.toNatClampNeg + kk.toNatClampNeg ≤ N1 ∧ G (ia N1 (va_cpy f f2 sp.toNatClampNeg dp.toNatClampNeg kk.toNatClampNeg))) := by
  apply propext
  constructor
  · rintro ⟨N0', f', N1', f2', h1, h2, h⟩
    obtain ⟨rfl, rfl⟩ := ia_inj h1
    obtain ⟨rfl, rfl⟩ := ia_inj h2
    exact h
  · intro h
    exact ⟨N0, f, N1, f2, rfl, rfl, h⟩
theorem q_k1 {L : mL} {st : List Value} {n : Nat} {sl : Nat} {h : mH} {F : mL → List Value → Nat → Nat → mH → Prop} {v : Value} : k1 F L st n sl h v = F L (v :: st) n sl h := propext Iff.rfl
theorem q_kI {L : mL} {st : List Value} {n : Nat} {sl : Nat} {h : mH} {F : mL → List Value → Nat → Nat → mH → Prop} {x : Int32} : kI F L st n sl h (.int x) = F L (.int x :: st) n sl h := propext Iff.rfl
theorem q_kJ {L : mL} {st : List Value} {n : Nat} {sl : Nat} {h : mH} {F : mL → List Value → Nat → Nat → mH → Prop} {x : Int64} : kJ F L st n sl h (.long x) = F L (.long x :: st) n sl h := propext Iff.rfl
theorem q_kA {L : mL} {st : List Value} {n : Nat} {sl : Nat} {h : mH} {F : mL → List Value → Nat → Nat → mH → Prop} {x : Nat} : kA F L st n sl h (.ref x) = F L (.ref x :: st) n sl h := propext Iff.rfl
theorem q_kAS {L : mL} {st : List Value} {n : Nat} {sl : Nat} {h : mH} {F : mL → List Value → Nat → Nat → mH → Prop} {x : Nat} : kA F L st n sl h (.retAddr x) = F L (.retAddr x :: st) n sl h := propext Iff.rfl
theorem q_kNp {L : mL} {st : List Value} {n : Nat} {sl : Nat} {h : mH} {F : mL → List Value → Nat → Nat → mH → Prop} {a : Nat} {k : Nat} {x : Int32} : kN F L st n sl h k a 0 (.int x) = F (s1 k (.int (x + nI a)) L) st n sl h := propext Iff.rfl
theorem q_kNm {L : mL} {st : List Value} {n : Nat} {sl : Nat} {h : mH} {F : mL → List Value → Nat → Nat → mH → Prop} {a : Nat} {k : Nat} {x : Int32} : kN F L st n sl h k a 1 (.int x) = F (s1 k (.int (x + -nI a)) L) st n sl h := propext Iff.rfl
theorem q_kH {L : mL} {st : List Value} {n : Nat} {sl : Nat} {h : mH} {F : mL → List Value → Nat → Nat → mH → Prop} {r : Nat} {cc : mC} : kH F L st n sl h r cc = F L st n sl (hu h r cc) := propext Iff.rfl
theorem q_kV {d : Nat} {M : mM} {n0 : Nat} {L : mL} {st : List Value} {n : Nat} {sl : Nat} {h : mH} {F : mL → List Value → Nat → Nat → mH → Prop} {a : Nat} {c : Nat} {e : Nat} {y : mM} {r : Nat} {As : List Value} : kV d M n0 y a c e F L n sl h As (.ref r :: st) = (oc (h r) a ∧ st.length ≤ 4 ∧ bud M n0 n sl c e ∧ CC d y (.ref r :: As) n h (kR F L st n sl c e)) := propext Iff.rfl
theorem q_kS {d : Nat} {M : mM} {n0 : Nat} {L : mL} {st : List Value} {n : Nat} {sl : Nat} {h : mH} {F : mL → List Value → Nat → Nat → mH → Prop} {c : Nat} {e : Nat} {y : mM} {As : List Value} : kS d M n0 y c e F L n sl h As st = (st.length ≤ 4 ∧ bud M n0 n sl c e ∧ CC d y As n h (kR F L st n sl c e)) := propext Iff.rfl
theorem q_kP {d : Nat} {M : mM} {n0 : Nat} {L : mL} {st : List Value} {n : Nat} {sl : Nat} {h : mH} {F : mL → List Value → Nat → Nat → mH → Prop} {c : Nat} {e : Nat} {y : mM} {r : Nat} {As : List Value} : kP d M n0 y c e F L n sl h As (.ref r :: st) = (st.length ≤ 4 ∧ bud M n0 n sl c e ∧ CC d y (.ref r :: As) n h (kR F L st n sl c e)) := propext Iff.rfl
theorem q_kT {K : Nat → mL → List Value → Nat → Nat → mH → Prop} {L : mL} {st : List Value} {n : Nat} {sl : Nat} {h : mH} {t : Nat} : kT K L st n sl h t = K t L st n sl h := propext Iff.rfl
theorem q_pop0 {st : List Value} {acc : List Value} {G : List Value → List Value → Prop} : popN 0 acc st G = G acc st := propext Iff.rfl
theorem q_pops {st : List Value} {k : Nat} {v : Value} {acc : List Value} {G : List Value → List Value → Prop} : popN (k + 1) acc (v :: st) G = popN k (v :: acc) st G := propext Iff.rfl
theorem q_gl0  {v : Value} {t : mL} {G : Value → Prop} : gl (some v :: t) 0 G = G v := propext Iff.rfl
theorem q_gls  {x : Option Value} {i : Nat} {t : mL} {G : Value → Prop} : gl (x :: t) (i + 1) G = gl t i G := by cases x <;> rfl
theorem q_s10  {v : Value} {x : Option Value} {t : mL} : s1 0 v (x :: t) = some v :: t := by simp [s1]
theorem q_s11  {v : Value} {x : Option Value} {t : mL} : s1 1 v (x :: t) = clr x :: s1 0 v t := by simp [s1]
theorem q_s12  {i : Nat} {v : Value} {x : Option Value} {t : mL} : s1 (i + 2) v (x :: t) = x :: s1 (i + 1) v t := by simp [s1]
theorem q_s20  {v : Value} {x z : Option Value} {t : mL} : s2 0 v (x :: z :: t) = some v :: none :: t := by simp [s2]
theorem q_s21  {v : Value} {x : Option Value} {t : mL} : s2 1 v (x :: t) = clr x :: s2 0 v t := by simp [s2]
theorem q_s22  {i : Nat} {v : Value} {x : Option Value} {t : mL} : s2 (i + 2) v (x :: t) = x :: s2 (i + 1) v t := by simp [s2]
theorem q_clrI  {x : Int32} : clr (some (.int x)) = some (.int x) := by simp [clr]
theorem q_clrR  {x : Nat} : clr (some (.ref x)) = some (.ref x) := by simp [clr]
theorem q_clrS  {x : Nat} : clr (some (.retAddr x)) = some (.retAddr x) := by simp [clr]
theorem q_clrN   : clr none = none := by simp [clr]
theorem q_clrJ  {x : Int64} : clr (some (.long x)) = none := by simp [clr]
theorem q_gf  {ci k : Nat} {fs : List Value} {G : Value → Prop} : gf (.inr (ci, fs)) ci k G = gv fs k G := by simp [gf]
theorem q_gv0  {v : Value} {t : List Value} {G : Value → Prop} : gv (v :: t) 0 G = G v := propext Iff.rfl
theorem q_gvs  {k : Nat} {v : Value} {t : List Value} {G : Value → Prop} : gv (v :: t) (k + 1) G = gv t k G := propext Iff.rfl
theorem q_pf  {ci k : Nat} {v : Value} {fs : List Value} {G : mC → Prop} : pf (.inr (ci, fs)) ci k v G = (k < fs.length ∧ G (.inr (ci, fs.set k v))) := by simp [pf]
theorem q_garI  {N : Nat} {f : Nat → Int32} {j : Int32} {G : Value → Prop} : gar (ia N f) 0 j G = (vp_in j N ∧ G (.int (f j.toNatClampNeg))) := by simp [gar, ia]
theorem q_garZ  {N : Nat} {f : Nat → Int32} {j : Int32} {G : Value → Prop} : gar (za N f) 1 j G = (vp_in j N ∧ G (.int (f j.toNatClampNeg))) := by simp [gar, za]
theorem q_garB  {N : Nat} {f : Nat → Int32} {j : Int32} {G : Value → Prop} : gar (ba N f) 2 j G = (vp_in j N ∧ G (.int (f j.toNatClampNeg))) := by simp [gar, ba]
theorem q_garL  {N : Nat} {f : Nat → Int64} {j : Int32} {G : Value → Prop} : gar (la N f) 3 j G = (vp_in j N ∧ G (.long (f j.toNatClampNeg))) := by simp [gar, la]
theorem q_garR  {t N : Nat} {f : Nat → Value} {j : Int32} {G : Value → Prop} : gar (.inl (t, N, f)) t j G = (vp_in j N ∧ G (f j.toNatClampNeg)) := by simp [gar]
theorem q_sarI  {N : Nat} {f : Nat → Int32} {j x : Int32} {G : mC → Prop} : sar (ia N f) 0 j (.int x) G = (vp_in j N ∧ G (ia N (upd f j.toNatClampNeg x))) := by
  simp only [sar, ia, true_and]
  congr 3
  congr 2
  funext q
  by_cases hq : q = j.toNatClampNeg <;> simp [updV, upd, hq]
theorem q_sarZ  {N : Nat} {f : Nat → Int32} {j x : Int32} {G : mC → Prop} : sar (za N f) 1 j (.int x) G = (vp_in j N ∧ G (za N (upd f j.toNatClampNeg x))) := by
  simp only [sar, za, true_and]
  congr 3
  congr 2
  funext q
  by_cases hq : q = j.toNatClampNeg <;> simp [updV, upd, hq]
theorem q_sarB  {N : Nat} {f : Nat → Int32} {j x : Int32} {G : mC → Prop} : sar (ba N f) 2 j (.int x) G = (vp_in j N ∧ G (ba N (upd f j.toNatClampNeg x))) := by
  simp only [sar, ba, true_and]
  congr 3
  congr 2
  funext q
  by_cases hq : q = j.toNatClampNeg <;> simp [updV, upd, hq]
theorem q_sarL  {N : Nat} {f : Nat → Int64} {j : Int32} {x : Int64} {G : mC → Prop} : sar (la N f) 3 j (.long x) G = (vp_in j N ∧ G (la N (vp_updL f j.toNatClampNeg x))) := by
  simp only [sar, la, true_and]
  congr 3
  congr 2
  funext q
  by_cases hq : q = j.toNatClampNeg <;> simp [updV, vp_updL, hq]
theorem q_sarR  {t N : Nat} {f : Nat → Value} {j : Int32} {v : Value} {G : mC → Prop} : sar (.inl (t, N, f)) t j v G = (vp_in j N ∧ G (.inl (t, N, updV f j.toNatClampNeg v))) := by simp [sar]
theorem q_oc  {ci : Nat} {fs : List Value} : oc (.inr (ci, fs)) ci = True := by simp [oc]
theorem q_alnI  {N : Nat} {f : Nat → Int32} {G : Nat → Prop} : aln (ia N f) G = G N := by simp [aln, ia]
theorem q_alnL  {N : Nat} {f : Nat → Int64} {G : Nat → Prop} : aln (la N f) G = G N := by simp [aln, la]
theorem q_bud {M : mM} {n0 : Nat} {n : Nat} {sl : Nat}  : bud M n0 n sl 0 0 = True := by simp [bud]
theorem q_kR {L : mL} {st : List Value} {n : Nat} {sl : Nat} {F : mL → List Value → Nat → Nat → mH → Prop} {c : Nat} {e : Nat} {rv : Option Value} {h' : mH} : kR F L st n sl c e rv h' = F L (rv.toList ++ st) (n + c) (sl + e) h' := propext Iff.rfl
theorem q_swLn {pc : Nat} {x : Int32} {df : Int} {G : Nat → Prop} : swL pc x df [] G = G ((pc : Int) + df).toNat := propext Iff.rfl
theorem q_swLc {pc : Nat} {x : Int32} {df k o : Int} {t : List (Int × Int)} {G : Nat → Prop} : swL pc x df ((k, o) :: t) G = ((x = Int32.ofInt k → G ((pc : Int) + o).toNat) ∧ (¬ x = Int32.ofInt k → swL pc x df t G)) := propext Iff.rfl
theorem q_swTn {pc : Nat} {x : Int32} {df lo : Int} {G : Nat → Prop} : swT pc x df lo [] G = G ((pc : Int) + df).toNat := propext Iff.rfl
theorem q_swTc {pc : Nat} {x : Int32} {df lo o : Int} {t : List Int} {G : Nat → Prop} : swT pc x df lo (o :: t) G = ((x = Int32.ofInt lo → G ((pc : Int) + o).toNat) ∧ (¬ x = Int32.ofInt lo → swT pc x df (lo + 1) t G)) := propext Iff.rfl
theorem q_zc0  {N : Nat} : zc 0 N = ia N (fun _ => 0) := by unfold zc ia; rfl
theorem q_zc1  {N : Nat} : zc 1 N = za N (fun _ => 0) := by unfold zc za; rfl
theorem q_zc2  {N : Nat} : zc 2 N = ba N (fun _ => 0) := by unfold zc ba; rfl
theorem q_zc3  {N : Nat} : zc 3 N = la N (fun _ => 0) := by unfold zc la; rfl
theorem q_tg_1_27   : (((1 : Nat) : Int) + (27 : Int)).toNat = 28 := by decide
theorem q_tg_1_35   : (((1 : Nat) : Int) + (35 : Int)).toNat = 36 := by decide
theorem q_tg_1_37   : (((1 : Nat) : Int) + (37 : Int)).toNat = 38 := by decide
theorem q_tg_1_39   : (((1 : Nat) : Int) + (39 : Int)).toNat = 40 := by decide
theorem q_tg_1_40   : (((1 : Nat) : Int) + (40 : Int)).toNat = 41 := by decide
theorem q_tg_1_41   : (((1 : Nat) : Int) + (41 : Int)).toNat = 42 := by decide
theorem q_tg_1_43   : (((1 : Nat) : Int) + (43 : Int)).toNat = 44 := by decide
theorem q_tg_1_44   : (((1 : Nat) : Int) + (44 : Int)).toNat = 45 := by decide
theorem q_tg_1_45   : (((1 : Nat) : Int) + (45 : Int)).toNat = 46 := by decide
theorem q_tg_1_47   : (((1 : Nat) : Int) + (47 : Int)).toNat = 48 := by decide
theorem q_tg_1_52   : (((1 : Nat) : Int) + (52 : Int)).toNat = 53 := by decide
theorem q_tg_1_54   : (((1 : Nat) : Int) + (54 : Int)).toNat = 55 := by decide
theorem q_tg_1_55   : (((1 : Nat) : Int) + (55 : Int)).toNat = 56 := by decide
theorem q_tg_1_56   : (((1 : Nat) : Int) + (56 : Int)).toNat = 57 := by decide
theorem q_tg_1_58   : (((1 : Nat) : Int) + (58 : Int)).toNat = 59 := by decide
theorem q_tg_1_61   : (((1 : Nat) : Int) + (61 : Int)).toNat = 62 := by decide
theorem q_tg_1_63   : (((1 : Nat) : Int) + (63 : Int)).toNat = 64 := by decide
theorem q_tg_1_64   : (((1 : Nat) : Int) + (64 : Int)).toNat = 65 := by decide
theorem q_tg_1_68   : (((1 : Nat) : Int) + (68 : Int)).toNat = 69 := by decide
theorem q_tg_1_71   : (((1 : Nat) : Int) + (71 : Int)).toNat = 72 := by decide
theorem q_tg_1_75   : (((1 : Nat) : Int) + (75 : Int)).toNat = 76 := by decide
theorem q_tg_1_78   : (((1 : Nat) : Int) + (78 : Int)).toNat = 79 := by decide
theorem q_tg_1_79   : (((1 : Nat) : Int) + (79 : Int)).toNat = 80 := by decide
theorem q_tg_1_82   : (((1 : Nat) : Int) + (82 : Int)).toNat = 83 := by decide
theorem q_tg_1_87   : (((1 : Nat) : Int) + (87 : Int)).toNat = 88 := by decide
theorem q_tg_1_91   : (((1 : Nat) : Int) + (91 : Int)).toNat = 92 := by decide
theorem q_tg_1_94   : (((1 : Nat) : Int) + (94 : Int)).toNat = 95 := by decide
theorem q_tg_1_95   : (((1 : Nat) : Int) + (95 : Int)).toNat = 96 := by decide
theorem q_tg_1_99   : (((1 : Nat) : Int) + (99 : Int)).toNat = 100 := by decide
theorem q_tg_1_103   : (((1 : Nat) : Int) + (103 : Int)).toNat = 104 := by decide
theorem q_tg_1_111   : (((1 : Nat) : Int) + (111 : Int)).toNat = 112 := by decide
theorem q_tg_1_138   : (((1 : Nat) : Int) + (138 : Int)).toNat = 139 := by decide
theorem q_tg_1_171   : (((1 : Nat) : Int) + (171 : Int)).toNat = 172 := by decide
theorem q_tg_11_37   : (((11 : Nat) : Int) + (37 : Int)).toNat = 48 := by decide
theorem q_tg_11_47   : (((11 : Nat) : Int) + (47 : Int)).toNat = 58 := by decide
theorem q_tg_11_57   : (((11 : Nat) : Int) + (57 : Int)).toNat = 68 := by decide
theorem q_tg_11_70   : (((11 : Nat) : Int) + (70 : Int)).toNat = 81 := by decide
theorem q_tg_11_83   : (((11 : Nat) : Int) + (83 : Int)).toNat = 94 := by decide
theorem q_tg_11_117   : (((11 : Nat) : Int) + (117 : Int)).toNat = 128 := by decide
theorem q_tg_11_123   : (((11 : Nat) : Int) + (123 : Int)).toNat = 134 := by decide
theorem q_tg_12_40   : (((12 : Nat) : Int) + (40 : Int)).toNat = 52 := by decide
theorem q_tg_12_46   : (((12 : Nat) : Int) + (46 : Int)).toNat = 58 := by decide
theorem q_tg_12_52   : (((12 : Nat) : Int) + (52 : Int)).toNat = 64 := by decide
theorem q_tg_12_58   : (((12 : Nat) : Int) + (58 : Int)).toNat = 70 := by decide
theorem q_tg_12_64   : (((12 : Nat) : Int) + (64 : Int)).toNat = 76 := by decide
theorem q_tg_12_70   : (((12 : Nat) : Int) + (70 : Int)).toNat = 82 := by decide
theorem q_tg_12_76   : (((12 : Nat) : Int) + (76 : Int)).toNat = 88 := by decide
theorem q_tg_13_39   : (((13 : Nat) : Int) + (39 : Int)).toNat = 52 := by decide
theorem q_tg_13_46   : (((13 : Nat) : Int) + (46 : Int)).toNat = 59 := by decide
theorem q_tg_13_53   : (((13 : Nat) : Int) + (53 : Int)).toNat = 66 := by decide
theorem q_tg_13_63   : (((13 : Nat) : Int) + (63 : Int)).toNat = 76 := by decide
theorem q_tg_13_72   : (((13 : Nat) : Int) + (72 : Int)).toNat = 85 := by decide
theorem q_tg_13_112   : (((13 : Nat) : Int) + (112 : Int)).toNat = 125 := by decide
theorem q_tg_13_167   : (((13 : Nat) : Int) + (167 : Int)).toNat = 180 := by decide
theorem q_tg_14_50   : (((14 : Nat) : Int) + (50 : Int)).toNat = 64 := by decide
theorem q_tg_14_68   : (((14 : Nat) : Int) + (68 : Int)).toNat = 82 := by decide
theorem q_tg_14_74   : (((14 : Nat) : Int) + (74 : Int)).toNat = 88 := by decide
theorem q_tg_14_97   : (((14 : Nat) : Int) + (97 : Int)).toNat = 111 := by decide
theorem q_tg_14_119   : (((14 : Nat) : Int) + (119 : Int)).toNat = 133 := by decide
theorem q_tg_14_141   : (((14 : Nat) : Int) + (141 : Int)).toNat = 155 := by decide
theorem q_tg_32_128   : (((32 : Nat) : Int) + (128 : Int)).toNat = 160 := by decide
theorem q_tg_32_151   : (((32 : Nat) : Int) + (151 : Int)).toNat = 183 := by decide
theorem q_tg_32_164   : (((32 : Nat) : Int) + (164 : Int)).toNat = 196 := by decide
theorem q_tg_32_177   : (((32 : Nat) : Int) + (177 : Int)).toNat = 209 := by decide
theorem q_tg_32_210   : (((32 : Nat) : Int) + (210 : Int)).toNat = 242 := by decide
theorem q_tg_32_243   : (((32 : Nat) : Int) + (243 : Int)).toNat = 275 := by decide
theorem q_tg_32_266   : (((32 : Nat) : Int) + (266 : Int)).toNat = 298 := by decide
theorem q_tg_32_299   : (((32 : Nat) : Int) + (299 : Int)).toNat = 331 := by decide
theorem q_tg_32_322   : (((32 : Nat) : Int) + (322 : Int)).toNat = 354 := by decide
theorem q_tg_32_345   : (((32 : Nat) : Int) + (345 : Int)).toNat = 377 := by decide
theorem q_tg_32_378   : (((32 : Nat) : Int) + (378 : Int)).toNat = 410 := by decide
theorem q_tg_32_411   : (((32 : Nat) : Int) + (411 : Int)).toNat = 443 := by decide
theorem q_tg_32_434   : (((32 : Nat) : Int) + (434 : Int)).toNat = 466 := by decide
theorem q_tg_32_447   : (((32 : Nat) : Int) + (447 : Int)).toNat = 479 := by decide
theorem q_tg_32_470   : (((32 : Nat) : Int) + (470 : Int)).toNat = 502 := by decide
theorem q_tg_32_493   : (((32 : Nat) : Int) + (493 : Int)).toNat = 525 := by decide
theorem q_tg_32_516   : (((32 : Nat) : Int) + (516 : Int)).toNat = 548 := by decide
theorem q_tg_32_549   : (((32 : Nat) : Int) + (549 : Int)).toNat = 581 := by decide
theorem q_tg_32_582   : (((32 : Nat) : Int) + (582 : Int)).toNat = 614 := by decide
theorem q_tg_32_615   : (((32 : Nat) : Int) + (615 : Int)).toNat = 647 := by decide
theorem q_tg_32_648   : (((32 : Nat) : Int) + (648 : Int)).toNat = 680 := by decide
theorem q_tg_32_661   : (((32 : Nat) : Int) + (661 : Int)).toNat = 693 := by decide
theorem q_tg_32_684   : (((32 : Nat) : Int) + (684 : Int)).toNat = 716 := by decide
theorem q_tg_32_697   : (((32 : Nat) : Int) + (697 : Int)).toNat = 729 := by decide
theorem q_tg_32_730   : (((32 : Nat) : Int) + (730 : Int)).toNat = 762 := by decide
theorem q_tg_32_753   : (((32 : Nat) : Int) + (753 : Int)).toNat = 785 := by decide
theorem q_tg_32_776   : (((32 : Nat) : Int) + (776 : Int)).toNat = 808 := by decide
theorem q_tg_32_799   : (((32 : Nat) : Int) + (799 : Int)).toNat = 831 := by decide
theorem q_tg_32_813   : (((32 : Nat) : Int) + (813 : Int)).toNat = 845 := by decide
theorem q_i1_0   : ((0 : Int) + 1) = (1 : Int) := by decide
theorem q_i1_1   : ((1 : Int) + 1) = (2 : Int) := by decide
theorem q_i1_2   : ((2 : Int) + 1) = (3 : Int) := by decide
theorem q_i1_3   : ((3 : Int) + 1) = (4 : Int) := by decide
theorem q_i1_4   : ((4 : Int) + 1) = (5 : Int) := by decide
theorem q_i1_5   : ((5 : Int) + 1) = (6 : Int) := by decide
theorem q_i1_6   : ((6 : Int) + 1) = (7 : Int) := by decide
theorem q_i1_7   : ((7 : Int) + 1) = (8 : Int) := by decide
theorem q_i1_8   : ((8 : Int) + 1) = (9 : Int) := by decide
theorem q_i1_9   : ((9 : Int) + 1) = (10 : Int) := by decide
theorem q_i1_10   : ((10 : Int) + 1) = (11 : Int) := by decide
theorem q_i1_11   : ((11 : Int) + 1) = (12 : Int) := by decide
theorem q_i1_12   : ((12 : Int) + 1) = (13 : Int) := by decide
theorem q_i1_13   : ((13 : Int) + 1) = (14 : Int) := by decide
theorem q_i1_14   : ((14 : Int) + 1) = (15 : Int) := by decide
theorem q_i1_15   : ((15 : Int) + 1) = (16 : Int) := by decide
theorem q_i1_16   : ((16 : Int) + 1) = (17 : Int) := by decide
theorem q_i1_17   : ((17 : Int) + 1) = (18 : Int) := by decide
theorem q_i1_18   : ((18 : Int) + 1) = (19 : Int) := by decide
theorem q_i1_19   : ((19 : Int) + 1) = (20 : Int) := by decide
theorem q_i1_20   : ((20 : Int) + 1) = (21 : Int) := by decide
theorem q_i1_21   : ((21 : Int) + 1) = (22 : Int) := by decide
theorem q_i1_22   : ((22 : Int) + 1) = (23 : Int) := by decide
theorem q_i1_23   : ((23 : Int) + 1) = (24 : Int) := by decide
theorem q_i1_24   : ((24 : Int) + 1) = (25 : Int) := by decide
theorem q_i1_25   : ((25 : Int) + 1) = (26 : Int) := by decide
theorem q_i1_26   : ((26 : Int) + 1) = (27 : Int) := by decide
theorem q_i1_27   : ((27 : Int) + 1) = (28 : Int) := by decide
theorem q_oi0   : Int32.ofInt 0 = nI 0 := by decide
theorem q_oi1   : Int32.ofInt 1 = nI 1 := by decide
theorem q_oi2   : Int32.ofInt 2 = nI 2 := by decide
theorem q_oi3   : Int32.ofInt 3 = nI 3 := by decide
theorem q_oi4   : Int32.ofInt 4 = nI 4 := by decide
theorem q_oi5   : Int32.ofInt 5 = nI 5 := by decide
theorem q_oi6   : Int32.ofInt 6 = nI 6 := by decide
theorem q_oi7   : Int32.ofInt 7 = nI 7 := by decide
theorem q_oi98   : Int32.ofInt 98 = nI 98 := by decide
theorem q_oi106   : Int32.ofInt 106 = nI 106 := by decide
theorem q_oi107   : Int32.ofInt 107 = nI 107 := by decide
theorem q_oi115   : Int32.ofInt 115 = nI 115 := by decide
theorem q_oi119   : Int32.ofInt 119 = nI 119 := by decide
theorem q_gls_1  {x : Option Value} {t : mL} {G : Value → Prop} : gl (x :: t) 1 G = gl t 0 G := q_gls
theorem q_gls_2  {x : Option Value} {t : mL} {G : Value → Prop} : gl (x :: t) 2 G = gl t 1 G := q_gls
theorem q_gls_3  {x : Option Value} {t : mL} {G : Value → Prop} : gl (x :: t) 3 G = gl t 2 G := q_gls
theorem q_gls_4  {x : Option Value} {t : mL} {G : Value → Prop} : gl (x :: t) 4 G = gl t 3 G := q_gls
theorem q_gls_5  {x : Option Value} {t : mL} {G : Value → Prop} : gl (x :: t) 5 G = gl t 4 G := q_gls
theorem q_gls_6  {x : Option Value} {t : mL} {G : Value → Prop} : gl (x :: t) 6 G = gl t 5 G := q_gls
theorem q_gls_7  {x : Option Value} {t : mL} {G : Value → Prop} : gl (x :: t) 7 G = gl t 6 G := q_gls
theorem q_gls_8  {x : Option Value} {t : mL} {G : Value → Prop} : gl (x :: t) 8 G = gl t 7 G := q_gls
theorem q_gls_9  {x : Option Value} {t : mL} {G : Value → Prop} : gl (x :: t) 9 G = gl t 8 G := q_gls
theorem q_gls_10  {x : Option Value} {t : mL} {G : Value → Prop} : gl (x :: t) 10 G = gl t 9 G := q_gls
theorem q_gls_11  {x : Option Value} {t : mL} {G : Value → Prop} : gl (x :: t) 11 G = gl t 10 G := q_gls
theorem q_gls_12  {x : Option Value} {t : mL} {G : Value → Prop} : gl (x :: t) 12 G = gl t 11 G := q_gls
theorem q_gls_13  {x : Option Value} {t : mL} {G : Value → Prop} : gl (x :: t) 13 G = gl t 12 G := q_gls
theorem q_gls_14  {x : Option Value} {t : mL} {G : Value → Prop} : gl (x :: t) 14 G = gl t 13 G := q_gls
theorem q_gls_15  {x : Option Value} {t : mL} {G : Value → Prop} : gl (x :: t) 15 G = gl t 14 G := q_gls
theorem q_gls_16  {x : Option Value} {t : mL} {G : Value → Prop} : gl (x :: t) 16 G = gl t 15 G := q_gls
theorem q_gls_17  {x : Option Value} {t : mL} {G : Value → Prop} : gl (x :: t) 17 G = gl t 16 G := q_gls
theorem q_gls_18  {x : Option Value} {t : mL} {G : Value → Prop} : gl (x :: t) 18 G = gl t 17 G := q_gls
theorem q_gls_19  {x : Option Value} {t : mL} {G : Value → Prop} : gl (x :: t) 19 G = gl t 18 G := q_gls
theorem q_gls_20  {x : Option Value} {t : mL} {G : Value → Prop} : gl (x :: t) 20 G = gl t 19 G := q_gls
theorem q_gls_21  {x : Option Value} {t : mL} {G : Value → Prop} : gl (x :: t) 21 G = gl t 20 G := q_gls
theorem q_gvs_1  {v : Value} {t : List Value} {G : Value → Prop} : gv (v :: t) 1 G = gv t 0 G := propext Iff.rfl
theorem q_gvs_2  {v : Value} {t : List Value} {G : Value → Prop} : gv (v :: t) 2 G = gv t 1 G := propext Iff.rfl
theorem q_gvs_3  {v : Value} {t : List Value} {G : Value → Prop} : gv (v :: t) 3 G = gv t 2 G := propext Iff.rfl
theorem q_gvs_4  {v : Value} {t : List Value} {G : Value → Prop} : gv (v :: t) 4 G = gv t 3 G := propext Iff.rfl
theorem q_gvs_5  {v : Value} {t : List Value} {G : Value → Prop} : gv (v :: t) 5 G = gv t 4 G := propext Iff.rfl
theorem q_gvs_6  {v : Value} {t : List Value} {G : Value → Prop} : gv (v :: t) 6 G = gv t 5 G := propext Iff.rfl
theorem q_gvs_7  {v : Value} {t : List Value} {G : Value → Prop} : gv (v :: t) 7 G = gv t 6 G := propext Iff.rfl
theorem q_gvs_8  {v : Value} {t : List Value} {G : Value → Prop} : gv (v :: t) 8 G = gv t 7 G := propext Iff.rfl
theorem q_gvs_9  {v : Value} {t : List Value} {G : Value → Prop} : gv (v :: t) 9 G = gv t 8 G := propext Iff.rfl
theorem q_gvs_10  {v : Value} {t : List Value} {G : Value → Prop} : gv (v :: t) 10 G = gv t 9 G := propext Iff.rfl
theorem q_gvs_11  {v : Value} {t : List Value} {G : Value → Prop} : gv (v :: t) 11 G = gv t 10 G := propext Iff.rfl
theorem q_gvs_12  {v : Value} {t : List Value} {G : Value → Prop} : gv (v :: t) 12 G = gv t 11 G := propext Iff.rfl
theorem q_gvs_13  {v : Value} {t : List Value} {G : Value → Prop} : gv (v :: t) 13 G = gv t 12 G := propext Iff.rfl
theorem q_gvs_14  {v : Value} {t : List Value} {G : Value → Prop} : gv (v :: t) 14 G = gv t 13 G := propext Iff.rfl
theorem q_gvs_15  {v : Value} {t : List Value} {G : Value → Prop} : gv (v :: t) 15 G = gv t 14 G := propext Iff.rfl
theorem q_gvs_16  {v : Value} {t : List Value} {G : Value → Prop} : gv (v :: t) 16 G = gv t 15 G := propext Iff.rfl
theorem q_gvs_17  {v : Value} {t : List Value} {G : Value → Prop} : gv (v :: t) 17 G = gv t 16 G := propext Iff.rfl
theorem q_gvs_18  {v : Value} {t : List Value} {G : Value → Prop} : gv (v :: t) 18 G = gv t 17 G := propext Iff.rfl
theorem q_gvs_19  {v : Value} {t : List Value} {G : Value → Prop} : gv (v :: t) 19 G = gv t 18 G := propext Iff.rfl
theorem q_gvs_20  {v : Value} {t : List Value} {G : Value → Prop} : gv (v :: t) 20 G = gv t 19 G := propext Iff.rfl
theorem q_gvs_21  {v : Value} {t : List Value} {G : Value → Prop} : gv (v :: t) 21 G = gv t 20 G := propext Iff.rfl
theorem q_gvs_22  {v : Value} {t : List Value} {G : Value → Prop} : gv (v :: t) 22 G = gv t 21 G := propext Iff.rfl
theorem q_gvs_23  {v : Value} {t : List Value} {G : Value → Prop} : gv (v :: t) 23 G = gv t 22 G := propext Iff.rfl
theorem q_gvs_24  {v : Value} {t : List Value} {G : Value → Prop} : gv (v :: t) 24 G = gv t 23 G := propext Iff.rfl
theorem q_gvs_25  {v : Value} {t : List Value} {G : Value → Prop} : gv (v :: t) 25 G = gv t 24 G := propext Iff.rfl
theorem q_gvs_26  {v : Value} {t : List Value} {G : Value → Prop} : gv (v :: t) 26 G = gv t 25 G := propext Iff.rfl
theorem q_gvs_27  {v : Value} {t : List Value} {G : Value → Prop} : gv (v :: t) 27 G = gv t 26 G := propext Iff.rfl
theorem q_gvs_28  {v : Value} {t : List Value} {G : Value → Prop} : gv (v :: t) 28 G = gv t 27 G := propext Iff.rfl
theorem q_gvs_29  {v : Value} {t : List Value} {G : Value → Prop} : gv (v :: t) 29 G = gv t 28 G := propext Iff.rfl
theorem q_pops_1 {st : List Value} {v : Value} {acc : List Value} {G : List Value → List Value → Prop} : popN 1 acc (v :: st) G = popN 0 (v :: acc) st G := propext Iff.rfl
theorem q_pops_2 {st : List Value} {v : Value} {acc : List Value} {G : List Value → List Value → Prop} : popN 2 acc (v :: st) G = popN 1 (v :: acc) st G := propext Iff.rfl
theorem q_pops_3 {st : List Value} {v : Value} {acc : List Value} {G : List Value → List Value → Prop} : popN 3 acc (v :: st) G = popN 2 (v :: acc) st G := propext Iff.rfl
theorem q_pops_4 {st : List Value} {v : Value} {acc : List Value} {G : List Value → List Value → Prop} : popN 4 acc (v :: st) G = popN 3 (v :: acc) st G := propext Iff.rfl
theorem q_pops_5 {st : List Value} {v : Value} {acc : List Value} {G : List Value → List Value → Prop} : popN 5 acc (v :: st) G = popN 4 (v :: acc) st G := propext Iff.rfl
theorem q_pops_6 {st : List Value} {v : Value} {acc : List Value} {G : List Value → List Value → Prop} : popN 6 acc (v :: st) G = popN 5 (v :: acc) st G := propext Iff.rfl
theorem q_pops_7 {st : List Value} {v : Value} {acc : List Value} {G : List Value → List Value → Prop} : popN 7 acc (v :: st) G = popN 6 (v :: acc) st G := propext Iff.rfl
theorem q_s1_2  {v : Value} {x : Option Value} {t : mL} : s1 2 v (x :: t) = x :: s1 1 v t := by simp [s1]
theorem q_s2_2  {v : Value} {x : Option Value} {t : mL} : s2 2 v (x :: t) = x :: s2 1 v t := by simp [s2]
theorem q_s1_3  {v : Value} {x : Option Value} {t : mL} : s1 3 v (x :: t) = x :: s1 2 v t := by simp [s1]
theorem q_s2_3  {v : Value} {x : Option Value} {t : mL} : s2 3 v (x :: t) = x :: s2 2 v t := by simp [s2]
theorem q_s1_4  {v : Value} {x : Option Value} {t : mL} : s1 4 v (x :: t) = x :: s1 3 v t := by simp [s1]
theorem q_s2_4  {v : Value} {x : Option Value} {t : mL} : s2 4 v (x :: t) = x :: s2 3 v t := by simp [s2]
theorem q_s1_5  {v : Value} {x : Option Value} {t : mL} : s1 5 v (x :: t) = x :: s1 4 v t := by simp [s1]
theorem q_s2_5  {v : Value} {x : Option Value} {t : mL} : s2 5 v (x :: t) = x :: s2 4 v t := by simp [s2]
theorem q_s1_6  {v : Value} {x : Option Value} {t : mL} : s1 6 v (x :: t) = x :: s1 5 v t := by simp [s1]
theorem q_s2_6  {v : Value} {x : Option Value} {t : mL} : s2 6 v (x :: t) = x :: s2 5 v t := by simp [s2]
theorem q_s1_7  {v : Value} {x : Option Value} {t : mL} : s1 7 v (x :: t) = x :: s1 6 v t := by simp [s1]
theorem q_s2_7  {v : Value} {x : Option Value} {t : mL} : s2 7 v (x :: t) = x :: s2 6 v t := by simp [s2]
theorem q_s1_8  {v : Value} {x : Option Value} {t : mL} : s1 8 v (x :: t) = x :: s1 7 v t := by simp [s1]
theorem q_s2_8  {v : Value} {x : Option Value} {t : mL} : s2 8 v (x :: t) = x :: s2 7 v t := by simp [s2]
theorem q_s1_9  {v : Value} {x : Option Value} {t : mL} : s1 9 v (x :: t) = x :: s1 8 v t := by simp [s1]
theorem q_s2_9  {v : Value} {x : Option Value} {t : mL} : s2 9 v (x :: t) = x :: s2 8 v t := by simp [s2]
theorem q_s1_10  {v : Value} {x : Option Value} {t : mL} : s1 10 v (x :: t) = x :: s1 9 v t := by simp [s1]
theorem q_s2_10  {v : Value} {x : Option Value} {t : mL} : s2 10 v (x :: t) = x :: s2 9 v t := by simp [s2]
theorem q_s1_11  {v : Value} {x : Option Value} {t : mL} : s1 11 v (x :: t) = x :: s1 10 v t := by simp [s1]
theorem q_s2_11  {v : Value} {x : Option Value} {t : mL} : s2 11 v (x :: t) = x :: s2 10 v t := by simp [s2]
theorem q_s1_12  {v : Value} {x : Option Value} {t : mL} : s1 12 v (x :: t) = x :: s1 11 v t := by simp [s1]
theorem q_s2_12  {v : Value} {x : Option Value} {t : mL} : s2 12 v (x :: t) = x :: s2 11 v t := by simp [s2]
theorem q_s1_13  {v : Value} {x : Option Value} {t : mL} : s1 13 v (x :: t) = x :: s1 12 v t := by simp [s1]
theorem q_s2_13  {v : Value} {x : Option Value} {t : mL} : s2 13 v (x :: t) = x :: s2 12 v t := by simp [s2]
theorem q_s1_14  {v : Value} {x : Option Value} {t : mL} : s1 14 v (x :: t) = x :: s1 13 v t := by simp [s1]
theorem q_s2_14  {v : Value} {x : Option Value} {t : mL} : s2 14 v (x :: t) = x :: s2 13 v t := by simp [s2]
theorem q_s1_15  {v : Value} {x : Option Value} {t : mL} : s1 15 v (x :: t) = x :: s1 14 v t := by simp [s1]
theorem q_s2_15  {v : Value} {x : Option Value} {t : mL} : s2 15 v (x :: t) = x :: s2 14 v t := by simp [s2]
theorem q_s1_16  {v : Value} {x : Option Value} {t : mL} : s1 16 v (x :: t) = x :: s1 15 v t := by simp [s1]
theorem q_s2_16  {v : Value} {x : Option Value} {t : mL} : s2 16 v (x :: t) = x :: s2 15 v t := by simp [s2]
theorem q_s1_17  {v : Value} {x : Option Value} {t : mL} : s1 17 v (x :: t) = x :: s1 16 v t := by simp [s1]
theorem q_s2_17  {v : Value} {x : Option Value} {t : mL} : s2 17 v (x :: t) = x :: s2 16 v t := by simp [s2]
theorem q_s1_18  {v : Value} {x : Option Value} {t : mL} : s1 18 v (x :: t) = x :: s1 17 v t := by simp [s1]
theorem q_s2_18  {v : Value} {x : Option Value} {t : mL} : s2 18 v (x :: t) = x :: s2 17 v t := by simp [s2]
theorem q_s1_19  {v : Value} {x : Option Value} {t : mL} : s1 19 v (x :: t) = x :: s1 18 v t := by simp [s1]
theorem q_s2_19  {v : Value} {x : Option Value} {t : mL} : s2 19 v (x :: t) = x :: s2 18 v t := by simp [s2]
theorem q_s1_20  {v : Value} {x : Option Value} {t : mL} : s1 20 v (x :: t) = x :: s1 19 v t := by simp [s1]
theorem q_s2_20  {v : Value} {x : Option Value} {t : mL} : s2 20 v (x :: t) = x :: s2 19 v t := by simp [s2]
theorem q_s1_21  {v : Value} {x : Option Value} {t : mL} : s1 21 v (x :: t) = x :: s1 20 v t := by simp [s1]
theorem q_s2_21  {v : Value} {x : Option Value} {t : mL} : s2 21 v (x :: t) = x :: s2 20 v t := by simp [s2]
