/-! what must hold ahead of a row of instructions (wp), and that it is enough (wp_sound).
An item: (pc, instruction, a, b, c, e, q, y): operands resolved by program, checked by okB -/
abbrev mI : Type := Nat × Instr × Nat × Nat × Nat × Nat × Nat × mM
def kv (a b : Nat) : Int32 := match b with
  | 0 => nI a
  | _ => -nI a
def gl : mL → Nat → (Value → Prop) → Prop
  | some v :: _, 0, G => G v
  | _ :: t, i + 1, G => gl t i G
  | _, _, _ => False
def vI (v : Value) (G : Int32 → Prop) : Prop := match v with
  | .int x => G x
  | _ => False
def vJ (v : Value) (G : Int64 → Prop) : Prop := match v with
  | .long x => G x
  | _ => False
def vA (v : Value) (G : Value → Prop) : Prop := match v with
  | .ref k => G (.ref k)
  | .retAddr k => G (.retAddr k)
  | _ => False
def sI (st : List Value) (G : Int32 → List Value → Prop) : Prop := match st with
  | .int x :: st => G x st
  | _ => False
def sII (st : List Value) (G : Int32 → Int32 → List Value → Prop) : Prop := match st with
  | .int y :: .int x :: st => G y x st
  | _ => False
def sJ (st : List Value) (G : Int64 → List Value → Prop) : Prop := match st with
  | .long x :: st => G x st
  | _ => False
def sJJ (st : List Value) (G : Int64 → Int64 → List Value → Prop) : Prop := match st with
  | .long y :: .long x :: st => G y x st
  | _ => False
def sA (st : List Value) (G : Nat → List Value → Prop) : Prop := match st with
  | .ref k :: st => G k st
  | _ => False
def sS (st : List Value) (G : List Value → Prop) : Prop := match st with
  | .retAddr _ :: st => G st
  | _ => False
def sV (st : List Value) (G : Value → List Value → Prop) : Prop := match st with
  | v :: st => G v st
  | _ => False
def c1 (v : Value) : Prop := match v with
  | .long _ => False
  | .double _ => False
  | _ => True
def cI (c : ClassFile.Cond) (x y : Int32) : Prop := match c with
  | .eq => x = y
  | .ne => ¬ x = y
  | .lt => x < y
  | .ge => y ≤ x
  | .gt => y < x
  | .le => x ≤ y
def swL (pc : Nat) (x : Int32) (dflt : Int) : List (Int × Int) → (Nat → Prop) → Prop
  | [], G => G ((pc : Int) + dflt).toNat
  | (k, o) :: t, G => (x = Int32.ofInt k → G ((pc : Int) + o).toNat) ∧ (¬ x = Int32.ofInt k → swL pc x dflt t G)
def swT (pc : Nat) (x : Int32) (dflt : Int) : Int → List Int → (Nat → Prop) → Prop
  | _, [], G => G ((pc : Int) + dflt).toNat
  | lo, o :: t, G => (x = Int32.ofInt lo → G ((pc : Int) + o).toNat) ∧ (¬ x = Int32.ofInt lo → swT pc x dflt (lo + 1) t G)
def gv : List Value → Nat → (Value → Prop) → Prop
  | v :: _, 0, G => G v
  | _ :: t, k + 1, G => gv t k G
  | [], _, _ => False
def gf (c : mC) (ci k : Nat) (G : Value → Prop) : Prop := match c with
  | .inr (cj, fs) => cj = ci ∧ gv fs k G
  | .inl _ => False
def pf (c : mC) (ci k : Nat) (v : Value) (G : mC → Prop) : Prop := match c with
  | .inr (cj, fs) => cj = ci ∧ k < fs.length ∧ G (.inr (ci, fs.set k v))
  | .inl _ => False
def vk (c : Nat) (v : Value) : Prop := match c, v with
  | 0, .int _ => True
  | 1, .int x => x = 0 ∨ x = 1
  | 2, .long _ => True
  | 3, .ref _ => True
  | _, _ => False
def gar (c : mC) (t : Nat) (j : Int32) (G : Value → Prop) : Prop := match c with
  | .inl (t', N, f) => t' = t ∧ vp_in j N ∧ G (f j.toNatClampNeg)
  | .inr _ => False
def sar (c : mC) (t : Nat) (j : Int32) (v : Value) (G : mC → Prop) : Prop := match c with
  | .inl (t', N, f) => t' = t ∧ vp_in j N ∧ G (.inl (t, N, updV f j.toNatClampNeg v))
  | .inr _ => False
def oc (c : mC) (ci : Nat) : Prop := match c with
  | .inr (cj, _) => cj = ci
  | .inl _ => False
def aln (c : mC) (G : Nat → Prop) : Prop := match c with
  | .inl (t, N, _) => t < 6 ∧ G N
  | .inr _ => False
def scr (M : mM) (G : Nat → (Nat → Int32) → Prop) : Prop := match M.2.2.2.2.2.2.2 with
  | some (N, xs) => G N xs
  | none => False
def popN : Nat → List Value → List Value → (List Value → List Value → Prop) → Prop
  | 0, acc, st, G => G acc st
  | k + 1, acc, v :: st, G => popN k (v :: acc) st G
  | _ + 1, _, [], _ => False
def zc (t N : Nat) : mC := .inl (t, N, fun _ => defaultValue (mty t))
def nar (t : Nat) (x : Int32) : Int32 := match t with
  | 1 => vp_nar .boolean x
  | _ => vp_nar .byte x
def bud (M : mM) (n0 n sl c e : Nat) : Prop := (c = 0 ∧ e = 0) ∨ (n - n0 + c ≤ M.2.2.2.2.1 ∧ sl + e ≤ M.2.2.2.2.2.1)
section
variable (d : Nat) (M : mM) (n0 : Nat) (Φ : Option Value → mH → Prop) (K : Nat → mL → List Value → Nat → Nat → mH → Prop)
def wpI (it : mI) (L : mL) (st : List Value) (n sl : Nat) (h : mH) (F : mL → List Value → Nat → Nat → mH → Prop) : Prop :=
  match it with
  | (pc, i, a, b, c, e, _, y) => match i with
    | .iconst _ => F L (.int (kv a b) :: st) n sl h
    | .bipush _ => F L (.int (kv a b) :: st) n sl h
    | .sipush _ => F L (.int (kv a b) :: st) n sl h
    | .ldc _ => F L (.int (kv a b) :: st) n sl h
    | .ldc_w _ => F L (.int (kv a b) :: st) n sl h
    | .lconst _ => F L (.long (lN a) :: st) n sl h
    | .ldc2_w _ => F L (.long (lN a) :: st) n sl h
    | .iload_n k => gl L k fun v => vI v fun x => F L (.int x :: st) n sl h
    | .iload k => gl L k fun v => vI v fun x => F L (.int x :: st) n sl h
    | .lload_n k => gl L k fun v => vJ v fun x => F L (.long x :: st) n sl h
    | .lload k => gl L k fun v => vJ v fun x => F L (.long x :: st) n sl h
    | .aload_n k => gl L k fun v => vA v fun w => F L (w :: st) n sl h
    | .aload k => gl L k fun v => vA v fun w => F L (w :: st) n sl h
    | .istore_n k => sI st fun x st => F (s1 k (.int x) L) st n sl h
    | .istore k => sI st fun x st => F (s1 k (.int x) L) st n sl h
    | .lstore_n k => sJ st fun x st => F (s2 k (.long x) L) st n sl h
    | .lstore k => sJ st fun x st => F (s2 k (.long x) L) st n sl h
    | .astore_n k => sA st fun x st => F (s1 k (.ref x) L) st n sl h
    | .astore k => sA st fun x st => F (s1 k (.ref x) L) st n sl h
    | .iinc k _ => gl L k fun v => vI v fun x => F (s1 k (.int (x + kv a b)) L) st n sl h
    | .iadd => sII st fun y x st => F L (.int (x + y) :: st) n sl h
    | .isub => sII st fun y x st => F L (.int (x - y) :: st) n sl h
    | .imul => sII st fun y x st => F L (.int (x * y) :: st) n sl h
    | .iand => sII st fun y x st => F L (.int (x &&& y) :: st) n sl h
    | .ior => sII st fun y x st => F L (.int (x ||| y) :: st) n sl h
    | .ishl => sII st fun y x st => F L (.int (x <<< (y &&& 31)) :: st) n sl h
    | .ishr => sII st fun y x st => F L (.int (x >>> (y &&& 31)) :: st) n sl h
    | .iushr => sII st fun y x st => F L (.int ((x.toUInt32 >>> (y.toUInt32 &&& Int32.toUInt32 31)).toInt32) :: st) n sl h
    | .idiv => sII st fun y x st => ¬ y = 0 ∧ F L (.int (x / y) :: st) n sl h
    | .irem => sII st fun y x st => ¬ y = 0 ∧ F L (.int (x - x / y * y) :: st) n sl h
    | .ladd => sJJ st fun y x st => F L (.long (x + y) :: st) n sl h
    | .lmul => sJJ st fun y x st => F L (.long (x * y) :: st) n sl h
    | .lsub => sJJ st fun y x st => F L (.long (x - y) :: st) n sl h
    | .ldiv => sJJ st fun y x st => ¬ y = 0 ∧ F L (.long (x / y) :: st) n sl h
    | .lcmp => sJJ st fun y x st => F L (.int (lg_cmp x y) :: st) n sl h
    | .i2l => sI st fun x st => F L (.long x.toInt64 :: st) n sl h
    | .l2i => sJ st fun x st => F L (.int x.toInt32 :: st) n sl h
    | .i2b => sI st fun x st => F L (.int x.toInt8.toInt32 :: st) n sl h
    | .dup => sV st fun v st => c1 v ∧ F L (v :: v :: st) n sl h
    | .pop => sV st fun v st => c1 v ∧ F L st n sl h
    | .dup2 => sV st fun v st => sV st fun w st => c1 v ∧ c1 w ∧ F L (v :: w :: v :: w :: st) n sl h
    | .if_icmp cd _ => sII st fun y x st => (cI cd x y → K a L st n sl h) ∧ (¬ cI cd x y → F L st n sl h)
    | .ifCond cd _ => sI st fun x st => (cI cd x 0 → K a L st n sl h) ∧ (¬ cI cd x 0 → F L st n sl h)
    | .goto _ => K a L st n sl h
    | .tableswitch df lo _ offs => sI st fun x st => swT pc x df lo offs.toList fun t => K t L st n sl h
    | .lookupswitch df ps => sI st fun x st => swL pc x df ps.toList fun t => K t L st n sl h
    | .ireturn => sI st fun x st => st = [] ∧ (a = 0 ∨ x = 0 ∨ x = 1) ∧ (c = 0 ∨ n = n0 + c) ∧ Φ (some (.int x)) h
    | .lreturn => sJ st fun x st => st = [] ∧ (c = 0 ∨ n = n0 + c) ∧ Φ (some (.long x)) h
    | .return_ => st = [] ∧ (c = 0 ∨ n = n0 + c) ∧ Φ none h
    | .getfield _ => sA st fun r st => gf (h r) a b fun v => F L (v :: st) n sl h
    | .putfield _ => sV st fun v st => sA st fun r st => vk c v ∧ pf (h r) a b v fun cc => F L st n sl (hu h r cc)
    | .new _ => n + 1 - n0 ≤ c ∧ sl + b ≤ e ∧ F L (.ref n :: st) (n + 1) (sl + b) (hu h n (.inr (a, vdef a)))
    | .newarray _ => sI st fun x st => x = nI b ∧ n + 1 - n0 ≤ c ∧ sl + b ≤ e ∧ F L (.ref n :: st) (n + 1) (sl + b) (hu h n (zc a b))
    | .anewarray _ => sI st fun x st => x = nI b ∧ n + 1 - n0 ≤ c ∧ sl + b ≤ e ∧ F L (.ref n :: st) (n + 1) (sl + b) (hu h n (.inl (a, b, fun _ => .null)))
    | .iaload => sI st fun j st => match a with
      | 0 => sA st fun r st => gar (h r) 0 j fun v => F L (v :: st) n sl h
      | _ => sS st fun st => scr M fun N xs => vp_in j N ∧ F L (.int (xs j.toNatClampNeg) :: st) n sl h
    | .baload => sI st fun j st => sA st fun r st => gar (h r) a j fun v => F L (v :: st) n sl h
    | .laload => sI st fun j st => sA st fun r st => gar (h r) 3 j fun v => F L (v :: st) n sl h
    | .aaload => sI st fun j st => sA st fun r st => gar (h r) a j fun v => F L (v :: st) n sl h
    | .iastore => sI st fun x st => sI st fun j st => sA st fun r st => sar (h r) 0 j (.int x) fun cc => F L st n sl (hu h r cc)
    | .bastore => sI st fun x st => sI st fun j st => sA st fun r st => sar (h r) a j (.int (nar a x)) fun cc => F L st n sl (hu h r cc)
    | .lastore => sJ st fun x st => sI st fun j st => sA st fun r st => sar (h r) 3 j (.long x) fun cc => F L st n sl (hu h r cc)
    | .aastore => sA st fun v st => sI st fun j st => sA st fun r st => oc (h v) b ∧ sar (h r) a j (.ref v) fun cc => F L st n sl (hu h r cc)
    | .arraylength => match a with
      | 0 => sA st fun r st => aln (h r) fun N => F L (.int (nI N) :: st) n sl h
      | _ => sS st fun st => scr M fun N _ => F L (.int (nI N) :: st) n sl h
    | .invokevirtual _ => popN b [] st fun As st => sA st fun r st => oc (h r) a ∧ st.length ≤ 4 ∧ bud M n0 n sl c e ∧ CC d y (.ref r :: As) n h fun rv h' => F L (rv.toList ++ st) (n + c) (sl + e) h'
    | .invokestatic _ => match a with
      | 2 => sII st fun y x st => st.length ≤ 4 ∧ F L (.int (if x < y then y else x) :: st) n sl h
      | 0 => popN b [] st fun As st => st.length ≤ 4 ∧ bud M n0 n sl c e ∧ CC d y As n h fun rv h' => F L (rv.toList ++ st) (n + c) (sl + e) h'
      | _ => sI st fun kk st => sI st fun dp st => sA st fun rb st => sI st fun sp st => sA st fun ra st => st.length ≤ 4 ∧ ∃ N0 f N1 f2, h ra = ia N0 f ∧ h rb = ia N1 f2 ∧ ¬ sp < 0 ∧ ¬ dp < 0 ∧ ¬ kk < 0 ∧ sp.toNatClampNeg + kk.toNatClampNeg ≤ N0 ∧ dp.toNatClampNeg + kk.toNatClampNeg ≤ N1 ∧ F L st n sl (hu h rb (ia N1 (va_cpy f f2 sp.toNatClampNeg dp.toNatClampNeg kk.toNatClampNeg)))
    | .invokespecial _ => match a with
      | 0 => popN b [] st fun As st => sA st fun r st => st.length ≤ 4 ∧ bud M n0 n sl c e ∧ CC d y (.ref r :: As) n h fun rv h' => F L (rv.toList ++ st) (n + c) (sl + e) h'
      | _ => sA st fun _ st => st.length ≤ 4 ∧ F L st n sl h
    | _ => False
def wp (nx : Nat) : List mI → mL → List Value → Nat → Nat → mH → Prop
  | [], L, st, n, sl, h => K nx L st n sl h
  | it :: is, L, st, n, sl, h => wpI d M n0 Φ K it L st n sl h (wp nx is)
end
/-- the check of an item -/
def ceq (a b : Cond) : Bool := match a, b with
  | .methodLink o i y, .methodLink o' i' y' => (i == i') && decide (o = o') && decide (y = y')
  | .methodLinkNest o i y h, .methodLinkNest o' i' y' h' => (i == i') && decide (o = o') && decide (y = y') && decide (h = h')
  | .fieldLink o i r n d, .fieldLink o' i' r' n' d' => (i == i') && decide (o = o') && decide (r = r') && decide (n = n') && decide (d = d')
  | .fieldLinkNest o i r n d h, .fieldLinkNest o' i' r' n' d' h' => (i == i') && decide (o = o') && decide (r = r') && decide (n = n') && decide (d = d') && decide (h = h')
  | .classLink o i c, .classLink o' i' c' => (i == i') && decide (o = o') && decide (c = c')
  | .constant o i v, .constant o' i' v' => (i == i') && decide (o = o') && decide (v = v')
  | .constantLong o i v, .constantLong o' i' v' => (i == i') && decide (o = o') && decide (v = v')
  | .initialized o, .initialized o' => decide (o = o')
  | .static y, .static y' => decide (y = y')
  | .instanceMethod y, .instanceMethod y' => decide (y = y')
  | .selects o x y, .selects o' x' y' => decide (o = o') && decide (x = x') && decide (y = y')
  | .code y c n r, .code y' c' n' r' => (n == n') && decide (r = r') && decide (y = y') && decide (c = c')
  | _, _ => false
theorem ceq_ok {a b : Cond} (h : ceq a b = true) : a = b := by
  unfold ceq at h
  split at h <;> first | (simp only [Bool.and_eq_true, beq_iff_eq, decide_eq_true_eq] at h; simp only [h]) | cases h
def tq (q : Nat) (w : Cond) : Bool := match lw_tbl[q]? with
  | some c => ceq c w
  | none => false
theorem tq_ok {q : Nat} {w : Cond} (h : tq q w = true) : lw_tbl[q]? = some w := by
  unfold tq at h
  split at h
  · rename_i c hc; rw [hc, ceq_ok h]
  · cases h
def lkF (own : String) (i ci b q : Nat) : Bool := match vwCl[ci]? with
  | some (_, T, N) => decide (b < N) && (tq q (.fieldLink own i (T b).1 (T b).2.1 (T b).2.2.1) || tq q (.fieldLinkNest own i (T b).1 (T b).2.1 (T b).2.2.1 "ApologyBricks"))
  | none => false
def lkP (M : mM) (i ci b c e q : Nat) : Bool := match vwCl[ci]? with
  | some (_, T, N) => decide (b < N) && (match parseFieldDescriptor (T b).2.2.1, c with
      | some .int, 0 => true
      | some .boolean, 1 => true
      | some .long, 2 => true
      | some (.object _), 3 => true
      | some (.array _), 3 => true
      | _, _ => false) && (match e with
      | 0 => decide ((T b).2.2.2 = false) && (tq q (.fieldLink M.1.cls i (T b).1 (T b).2.1 (T b).2.2.1) || tq q (.fieldLinkNest M.1.cls i (T b).1 (T b).2.1 (T b).2.2.1 "ApologyBricks"))
      | _ => decide ((T b).2.2.2 = true) && decide (M.1.name = "<init>") && decide ((T b).1 = M.1.cls) && tq q (.fieldLink M.1.cls i (T b).1 (T b).2.1 (T b).2.2.1))
  | none => false
def lkM (M y : mM) (i b c e q : Nat) : Bool := (tq q (.methodLink M.1.cls i y.1) || tq q (.methodLinkNest M.1.cls i y.1 "ApologyBricks")) && decide ((parseMethodDescriptor y.1.desc).map (fun d => d.parameters.length) = some b) && decide (c = y.2.2.2.2.1) && decide (e = y.2.2.2.2.2.1)
def okI (M : mM) (it : mI) : Bool := match it with
  | (pc, i, a, b, c, e, q, y) => match i with
    | .iconst z => decide (Int32.ofInt z = kv a b)
    | .bipush z => decide ((Int8.ofInt z).toInt32 = kv a b)
    | .sipush z => decide ((Int16.ofInt z).toInt32 = kv a b)
    | .ldc k => tq q (.constant M.1.cls k (kv a b))
    | .ldc_w k => tq q (.constant M.1.cls k (kv a b))
    | .lconst z => decide (Int64.ofNat (z : Nat) = lN a)
    | .ldc2_w k => tq q (.constantLong M.1.cls k (lN a))
    | .istore_n k => decide ((k : Nat) < M.2.2.1)
    | .istore k => decide (k < M.2.2.1)
    | .lstore_n k => decide ((k : Nat) + 1 < M.2.2.1)
    | .lstore k => decide (k + 1 < M.2.2.1)
    | .astore_n k => decide ((k : Nat) < M.2.2.1)
    | .astore k => decide (k < M.2.2.1)
    | .iinc k z => decide (k < M.2.2.1) && decide (Int32.ofInt z = kv a b)
    | .if_icmp _ off => decide ((pc : Int) + off = (a : Int))
    | .ifCond _ off => decide ((pc : Int) + off = (a : Int))
    | .goto off => decide ((pc : Int) + off = (a : Int))
    | .tableswitch df lo hi offs => decide (lo + offs.toList.length = hi + 1) && decide (-2147483648 ≤ lo) && decide (hi < 2147483648) && decide (0 ≤ (pc : Int) + df) && offs.toList.all (fun o => decide (0 ≤ (pc : Int) + o))
    | .lookupswitch df ps => (ps.toList.zip (ps.toList.drop 1)).all (fun (a, next) => a.1 < next.1) && decide (0 ≤ (pc : Int) + df) && ps.toList.all (fun o => decide (0 ≤ (pc : Int) + o.2) && decide (-2147483648 ≤ o.1) && decide (o.1 < 2147483648))
    | .ireturn => decide (c = M.2.2.2.2.1) && (match a with
      | 0 => decide (M.2.2.2.1 = some .int)
      | _ => decide (M.2.2.2.1 = some .boolean))
    | .lreturn => decide (c = M.2.2.2.2.1) && decide (M.2.2.2.1 = some .long)
    | .return_ => decide (c = M.2.2.2.2.1) && decide (M.2.2.2.1 = none)
    | .getfield k => lkF M.1.cls k a b q
    | .putfield k => lkP M k a b c e q
    | .new k => decide (c = M.2.2.2.2.1) && decide (e = M.2.2.2.2.2.1) && (match vwCl[a]? with
      | some (C, _, N) => decide (b = N) && tq q (.classLink M.1.cls k C)
      | none => false)
    | .newarray ar => decide (c = M.2.2.2.2.1) && decide (e = M.2.2.2.2.2.1) && decide (a < 4) && decide (newarray.typeOf ar = mty a) && decide (b < 10000)
    | .anewarray k => decide (c = M.2.2.2.2.1) && decide (e = M.2.2.2.2.2.1) && decide (b < 10000) && (match a with
      | 4 => tq q (.classLink M.1.cls k RX3)
      | 5 => tq q (.classLink M.1.cls k RX4)
      | _ => false)
    | .baload => decide (a = 1) || decide (a = 2)
    | .bastore => decide (a = 1) || decide (a = 2)
    | .aaload => decide (a = 4) || decide (a = 5)
    | .aastore => (decide (a = 4) && decide (b = 3)) || (decide (a = 5) && decide (b = 4))
    | .invokevirtual k => lkM M y k b c e q && decide (y.2.2.2.2.2.2.1 = 1) && decide ((vwCl[a]?).map (fun z => z.1) = some y.1.cls)
    | .invokestatic k => (match a with
      | 0 => lkM M y k b c e q && decide (y.2.2.2.2.2.2.1 = 0)
      | 2 => tq q (.methodLink M.1.cls k Lib.Math.max.name)
      | _ => tq q (.methodLink M.1.cls k arraycopyName))
    | .invokespecial k => (match a with
      | 0 => lkM M y k b c e q && decide (y.2.2.2.2.2.2.1 = 2)
      | _ => tq q (.methodLink M.1.cls k Lib.objectInit))
    | _ => true
def il (i : Instr) : Nat := match i with
  | .bipush _ => 2
  | .sipush _ => 3
  | .ldc _ => 2
  | .ldc_w _ => 3
  | .ldc2_w _ => 3
  | .iload _ => 2
  | .lload _ => 2
  | .aload _ => 2
  | .istore _ => 2
  | .lstore _ => 2
  | .astore _ => 2
  | .iinc _ _ => 3
  | .if_icmp _ _ => 3
  | .ifCond _ _ => 3
  | .goto _ => 3
  | .getfield _ => 3
  | .putfield _ => 3
  | .new _ => 3
  | .newarray _ => 2
  | .anewarray _ => 3
  | .invokevirtual _ => 3
  | .invokestatic _ => 3
  | .invokespecial _ => 3
  | .tableswitch _ _ _ _ => 0
  | .lookupswitch _ _ => 0
  | _ => 1
def okB (M : mM) (nx : Nat) : List mI → Nat → Bool
  | [], pc => pc == nx
  | it :: is, pc => (it.1 == pc) && okI M it && (match decode M.2.1 pc with
    | .ok (i, len) => decide (i = it.2.1) && ((il i == 0) || (il i == len)) && okB M nx is (pc + len)
    | .error _ => false)
