/-- the words of the tables that a call hands on -/
def tokW (w : Cond) : Bool := match w with
  | .fieldLinkNest .. => true
  | .methodLinkNest .. => true
  | .arrayOver (.object _) => true
  | w => goodWord w
def mTb : List Cond := lw_tbl.filter tokW
theorem mTb_in {w : Cond} (h : w ∈ lw_tbl) (ht : tokW w = true) : w ∈ mTb := List.mem_filter.mpr ⟨h, ht⟩
theorem mTb_at {w : Cond} {q : Nat} (h : lw_tbl[q]? = some w) (ht : tokW w = true) : w ∈ mTb := mTb_in (List.mem_of_getElem? h) ht
theorem tok_warm {w : Cond} {args a' : Array Value} {s U : State} (ht : tokW w = true) (hW : s.WarmedH U.vm) (h : w.before args s = true) : w.before a' U = true := by
  unfold tokW at ht
  split at ht
  · exact va_Nw.use rfl (va_Nw.warmF hW (va_Nw.of rfl h))
  · exact va_Nw.use rfl (va_Nw.warmM hW (va_Nw.of rfl h))
  · exact va_AO.use (va_AO.moved hW.alike (va_AO.of h))
  · exact word_at hW (good_of_word ht) h
theorem mTb_warm {args a' : Array Value} {s U : State} (hts : ∀ w ∈ mTb, w.before args s = true) (hW : s.WarmedH U.vm) : ∀ w ∈ mTb, w.before a' U = true := fun w hw => tok_warm (List.mem_filter.mp hw).2 hW (hts w hw)
theorem inY {C : String} {T : u_T} {N : Nat} (h : ∀ w ∈ u_ws C T N, w ∈ lw_tbl) (ha : (u_ws C T N).all tokW = true) : ∀ w ∈ u_ws C T N, w ∈ mTb := fun w hw => mTb_in (h w hw) (List.all_eq_true.mp ha w hw)
/-! THE SMALL MACHINE: abstract cells (refs relative to a base), heaps, locals; the judgement MW over the kit's W -/
abbrev mG : Type := Nat × va_G × (Nat → ClassId) × Nat
def mrl (g : mG) (v : Value) : Value := match v with
  | .ref k => .ref (g.1 + k)
  | .retAddr _ => .ref g.2.2.2
  | v => v
abbrev mC : Type := (Nat × Nat × (Nat → Value)) ⊕ (Nat × List Value)
abbrev mH : Type := Nat → mC
abbrev mL : Type := List (Option Value)
def mjk : mC := .inr (1000, [])
def mty (t : Nat) : FieldType := match t with
  | 0 => .int
  | 1 => .boolean
  | 2 => .byte
  | 3 => .long
  | 4 => .object RX3
  | _ => .object RX4
def mtl (g : mG) : List (ClassId × FieldType) := [(g.2.2.1 0, mty 0), (g.2.2.1 1, mty 1), (g.2.2.1 2, mty 2), (g.2.2.1 3, mty 3), (g.2.2.1 4, mty 4), (g.2.2.1 5, mty 5)]
theorem mtl_at (g : mG) {t : Nat} (h : t < 6) : (mtl g)[t]? = some (g.2.2.1 t, mty t) := by
  rcases (show t = 0 ∨ t = 1 ∨ t = 2 ∨ t = 3 ∨ t = 4 ∨ t = 5 by omega) with rfl | rfl | rfl | rfl | rfl | rfl <;> rfl
def mat (g : mG) (c : mC) (a : Nat) (H : Heap) : Prop := match c with
  | .inl (t, N, f) => H[a]? = some (arrV (g.2.2.1 t) N (fun j => mrl g (f j)))
  | .inr (ci, fs) => ∃ r : vw_C, vwCl[ci]? = some r ∧ t_OB a (g.2.1.1 ci) r.2.2 (g.2.1.2 ci) H (vp_V (fs.map (mrl g)))
theorem mat.kept {g : mG} {c : mC} {a : Nat} {H H1 : Heap} (h : mat g c a H) (hq : H1[a]? = H[a]?) : mat g c a H1 := by
  match c, h with
  | .inl (t, N, f), h => exact hq.trans h
  | .inr (ci, fs), ⟨r, h1, h2⟩ => exact ⟨r, h1, h2.kept hq⟩
/-- the heap holds the n abstract cells h from the base on, and nothing behind them -/
def mHI (g : mG) (n : Nat) (h : mH) (H : Heap) : Prop := H.size = g.1 + n ∧ (∀ k, n ≤ k → h k = mjk) ∧ ∀ k, k < n → mat g (h k) (g.1 + k) H
def hu (h : mH) (a : Nat) (c : mC) : mH := fun k => if k = a then c else h k
theorem hu_s (h : mH) (a : Nat) (c : mC) : hu h a c a = c := by simp [hu]
theorem hu_n (h : mH) {a b : Nat} (c : mC) (hb : b ≠ a) : hu h a c b = h b := by simp [hu, hb]
theorem mHI.lt {g : mG} {n : Nat} {h : mH} {H : Heap} (hH : mHI g n h H) {a : Nat} (ha : h a ≠ mjk) : a < n := by
  rcases Nat.lt_or_ge a n with q | q
  · exact q
  · exact absurd (hH.2.1 a q) ha
theorem mHI.put {g : mG} {n : Nat} {h : mH} {H H1 : Heap} (hH : mHI g n h H) {a : Nat} (ha : a < n) {c : mC} (z : H1.size = H.size) (oq : ∀ q : Nat, q ≠ g.1 + a → H1[q]? = H[q]?) (hc : mat g c (g.1 + a) H1) : mHI g n (hu h a c) H1 := by
  refine ⟨z.trans hH.1, fun k hk => ?_, fun k hk => ?_⟩
  · rw [hu_n h c (by omega)]; exact hH.2.1 k hk
  · by_cases e : k = a
    · subst e; rw [hu_s]; exact hc
    · rw [hu_n h c e]; exact (hH.2.2 k hk).kept (oq _ (by omega))
theorem mHI.push {g : mG} {n : Nat} {h : mH} {H H1 : Heap} (hH : mHI g n h H) {c : mC} (z : H1.size = H.size + 1) (oq : ∀ q : Nat, q < H.size → H1[q]? = H[q]?) (hc : mat g c (g.1 + n) H1) : mHI g (n + 1) (hu h n c) H1 := by
  refine ⟨by rw [z, hH.1]; omega, fun k hk => ?_, fun k hk => ?_⟩
  · rw [hu_n h c (by omega)]; exact hH.2.1 k (by omega)
  · by_cases e : k = n
    · subst e; rw [hu_s]; exact hc
    · rw [hu_n h c e]; exact (hH.2.2 k (by omega)).kept (oq _ (by rw [hH.1]; omega))
theorem mrl_cat (g : mG) (v : Value) : (mrl g v).category = v.category := by cases v <;> rfl
/-! locals -/
def lvO (g : mG) : Nat → mL → List (Nat × Value)
  | _, [] => []
  | i, none :: t => lvO g (i + 1) t
  | i, some v :: t => (i, mrl g v) :: lvO g (i + 1) t
theorem lvO_mem (g : mG) : ∀ (L : mL) (k : Nat) (q : Nat × Value), q ∈ lvO g k L ↔ ∃ (i : Nat) (v : Value), L[i]? = some (some v) ∧ q = (k + i, mrl g v)
  | [], k, q => by simp [lvO]
  | none :: t, k, q => by
    rw [lvO, lvO_mem g t]
    constructor
    · rintro ⟨i, v, h1, h2⟩
      exact ⟨i + 1, v, by simpa using h1, by rw [h2]; congr 1; omega⟩
    · rintro ⟨i, v, h1, h2⟩
      cases i with
      | zero => simp at h1
      | succ i => exact ⟨i, v, by simpa using h1, by rw [h2]; congr 1; omega⟩
  | some w :: t, k, q => by
    rw [lvO, List.mem_cons, lvO_mem g t]
    constructor
    · rintro (h | ⟨i, v, h1, h2⟩)
      · exact ⟨0, w, by simp, by simpa using h⟩
      · exact ⟨i + 1, v, by simpa using h1, by rw [h2]; congr 1; omega⟩
    · rintro ⟨i, v, h1, h2⟩
      cases i with
      | zero =>
        left
        simp at h1
        rw [h2, h1]; rfl
      | succ i => exact Or.inr ⟨i, v, by simpa using h1, by rw [h2]; congr 1; omega⟩
theorem lvO_get {g : mG} {ls : Array Slot} {nL : Nat} {L : mL} (h : lv_has ls nL (lvO g 0 L)) {i : Nat} {v : Value} (hi : L[i]? = some (some v)) : ls[i]? = some (.val (mrl g v)) := by
  have := h.2.2 (i, mrl g v) ((lvO_mem g L 0 _).mpr ⟨i, v, hi, by simp⟩)
  exact this
theorem lv_mono {ls : Array Slot} {nL : Nat} {l l' : List (Nat × Value)} (h : lv_has ls nL l) (hs : ∀ q ∈ l', q ∈ l) : lv_has ls nL l' := ⟨h.1, h.2.1, fun q hq => h.2.2 q (hs q hq)⟩
def clr : Option Value → Option Value
  | some (.long _) => none
  | some (.double _) => none
  | x => x
def s1 : Nat → Value → mL → mL
  | _, _, [] => []
  | 0, v, _ :: t => some v :: t
  | 1, v, x :: t => clr x :: s1 0 v t
  | i + 2, v, x :: t => x :: s1 (i + 1) v t
def s2 : Nat → Value → mL → mL
  | _, _, [] => []
  | 0, v, [_] => [some v]
  | 0, v, _ :: _ :: t => some v :: none :: t
  | 1, v, x :: t => clr x :: s2 0 v t
  | i + 2, v, x :: t => x :: s2 (i + 1) v t
theorem clr_some {x : Option Value} {w : Value} (h : clr x = some w) : x = some w ∧ w.category ≠ 2 := by
  match x, h with
  | some (.int z), h => simp [clr] at h; subst h; exact ⟨rfl, by simp [Value.category]⟩
  | some (.float z), h => simp [clr] at h; subst h; exact ⟨rfl, by simp [Value.category]⟩
  | some .null, h => simp [clr] at h; subst h; exact ⟨rfl, by simp [Value.category]⟩
  | some (.ref z), h => simp [clr] at h; subst h; exact ⟨rfl, by simp [Value.category]⟩
  | some (.retAddr z), h => simp [clr] at h; subst h; exact ⟨rfl, by simp [Value.category]⟩
  | some (.long z), h => simp [clr] at h
  | some (.double z), h => simp [clr] at h
  | none, h => simp [clr] at h
theorem s1_spec (v : Value) : ∀ (L : mL) (i j : Nat) (w : Value), (s1 i v L)[j]? = some (some w) → (j = i ∧ w = v) ∨ (L[j]? = some (some w) ∧ j ≠ i ∧ (j + 1 = i → w.category ≠ 2))
  | [], i, j, w, h => by simp [s1] at h
  | x :: t, 0, j, w, h => by
    cases j with
    | zero => left; simp [s1] at h; exact ⟨rfl, h.symm⟩
    | succ j => right; simp [s1] at h; exact ⟨by simpa using h, by omega, by omega⟩
  | x :: t, 1, j, w, h => by
    cases j with
    | zero =>
      right
      simp [s1] at h
      exact ⟨by simp [(clr_some h).1], by omega, fun _ => (clr_some h).2⟩
    | succ j =>
      have h' : (s1 0 v t)[j]? = some (some w) := by simpa [s1] using h
      rcases s1_spec v t 0 j w h' with ⟨e1, e2⟩ | ⟨e1, e2, e3⟩
      · left; exact ⟨by omega, e2⟩
      · right; exact ⟨by simpa using e1, by omega, by omega⟩
  | x :: t, i + 2, j, w, h => by
    cases j with
    | zero => right; simp [s1] at h; exact ⟨by simp [h], by omega, by omega⟩
    | succ j =>
      have h' : (s1 (i + 1) v t)[j]? = some (some w) := by simpa [s1] using h
      rcases s1_spec v t (i + 1) j w h' with ⟨e1, e2⟩ | ⟨e1, e2, e3⟩
      · left; exact ⟨by omega, e2⟩
      · right; exact ⟨by simpa using e1, by omega, fun q => e3 (by omega)⟩
theorem s2_spec (v : Value) : ∀ (L : mL) (i j : Nat) (w : Value), (s2 i v L)[j]? = some (some w) → (j = i ∧ w = v) ∨ (L[j]? = some (some w) ∧ j ≠ i ∧ j ≠ i + 1 ∧ (j + 1 = i → w.category ≠ 2))
  | [], i, j, w, h => by simp [s2] at h
  | [x], 0, j, w, h => by
    cases j with
    | zero => left; simp [s2] at h; exact ⟨rfl, h.symm⟩
    | succ j => simp [s2] at h
  | x :: y :: t, 0, j, w, h => by
    cases j with
    | zero => left; simp [s2] at h; exact ⟨rfl, h.symm⟩
    | succ j =>
      cases j with
      | zero => simp [s2] at h
      | succ j => right; simp [s2] at h; exact ⟨by simpa using h, by omega, by omega, by omega⟩
  | x :: t, 1, j, w, h => by
    cases j with
    | zero =>
      right
      simp [s2] at h
      exact ⟨by simp [(clr_some h).1], by omega, by omega, fun _ => (clr_some h).2⟩
    | succ j =>
      have h' : (s2 0 v t)[j]? = some (some w) := by simpa [s2] using h
      rcases s2_spec v t 0 j w h' with ⟨e1, e2⟩ | ⟨e1, e2, e3, e4⟩
      · left; exact ⟨by omega, e2⟩
      · right; exact ⟨by simpa using e1, by omega, by omega, by omega⟩
  | x :: t, i + 2, j, w, h => by
    cases j with
    | zero => right; simp [s2] at h; exact ⟨by simp [h], by omega, by omega, by omega⟩
    | succ j =>
      have h' : (s2 (i + 1) v t)[j]? = some (some w) := by simpa [s2] using h
      rcases s2_spec v t (i + 1) j w h' with ⟨e1, e2⟩ | ⟨e1, e2, e3, e4⟩
      · left; exact ⟨by omega, e2⟩
      · right; exact ⟨by simpa using e1, by omega, by omega, fun q => e4 (by omega)⟩
theorem lvO_s1 {g : mG} {L : mL} {i : Nat} {v : Value} : ∀ q ∈ lvO g 0 (s1 i v L), q ∈ (i, mrl g v) :: (lvO g 0 L).filter (fun q => !(q.1 == i) && !(q.1 + 1 == i && q.2.category == 2)) := by
  intro q hq
  obtain ⟨j, w, h1, rfl⟩ := (lvO_mem g _ 0 q).mp hq
  rw [Nat.zero_add]
  rcases s1_spec v L i j w h1 with ⟨rfl, rfl⟩ | ⟨e1, e2, e3⟩
  · exact List.mem_cons_self
  · refine List.mem_cons_of_mem _ (List.mem_filter.mpr ⟨(lvO_mem g L 0 _).mpr ⟨j, w, e1, by simp⟩, ?_⟩)
    simp only [mrl_cat, Bool.and_eq_true, Bool.not_eq_true', beq_eq_false_iff_ne, Bool.and_eq_false_imp, beq_iff_eq]
    exact ⟨e2, fun q => by simpa using e3 q⟩
theorem lvO_s2 {g : mG} {L : mL} {i : Nat} {v : Value} : ∀ q ∈ lvO g 0 (s2 i v L), q ∈ (i, mrl g v) :: (lvO g 0 L).filter (fun q => !(q.1 == i) && (!(q.1 == i + 1) && !(q.1 + 1 == i && q.2.category == 2))) := by
  intro q hq
  obtain ⟨j, w, h1, rfl⟩ := (lvO_mem g _ 0 q).mp hq
  rw [Nat.zero_add]
  rcases s2_spec v L i j w h1 with ⟨rfl, rfl⟩ | ⟨e1, e2, e3, e4⟩
  · exact List.mem_cons_self
  · refine List.mem_cons_of_mem _ (List.mem_filter.mpr ⟨(lvO_mem g L 0 _).mpr ⟨j, w, e1, by simp⟩, ?_⟩)
    simp only [mrl_cat, Bool.and_eq_true, Bool.not_eq_true', beq_eq_false_iff_ne, Bool.and_eq_false_imp, beq_iff_eq]
    exact ⟨e2, e3, fun q => by simpa using e4 q⟩
def en : Nat → List Value → mL
  | n, [] => List.replicate n none
  | n, v :: vs => if v.category = 2 then some v :: none :: en (n - 2) vs else some v :: en (n - 1) vs
theorem lvO_none (g : mG) : ∀ (n k : Nat), lvO g k (List.replicate n none) = []
  | 0, _ => rfl
  | n + 1, k => by rw [List.replicate_succ, lvO]; exact lvO_none g n (k + 1)
theorem lvO_en (g : mG) : ∀ (vs : List Value) (n k : Nat), lvO g k (en n vs) = lv_args k (vs.map (mrl g))
  | [], n, k => by rw [en, lvO_none]; rfl
  | v :: vs, n, k => by
    rw [en, List.map_cons, lv_args, mrl_cat]
    by_cases h : v.category = 2
    · rw [if_pos h, if_pos h, lvO, lvO, lvO_en g vs]
    · rw [if_neg h, if_neg h, lvO, lvO_en g vs]
/-! methods: name, bytes, locals, answer's type, cells and slots that come, kind (0 static, 1 virtual, 2 constructor), the script (the law alone) -/
abbrev mM : Type := MethodName × ByteArray × Nat × Option FieldType × Nat × Nat × Nat × Option (Nat × (Nat → Int32))
def mRm (d : Nat) (M : mM) : Room := { frames := d, cells := M.2.2.2.2.1, slots := M.2.2.2.2.2.1, locals := 64 * d }
def mX (g : mG) (M : mM) (n0 d : Nat) (R : Room) (p : Program) (s : State) (m : MethodId) (args : Array Value) (meth : Method) (c : Code) : Prop :=
  p.tables.exec = Jvm.exec ∧ c.code = M.2.1 ∧ c.maxLocals = M.2.2.1 ∧ s.vm.findClass M.1.cls = some m.cls ∧ (∀ w ∈ mTb, w.before args s = true) ∧ va_K g.2.1 vwCl (mtl g) s ∧ meth.name = M.1.name ∧ s.heap.size = g.1 + n0 ∧
  (∀ L xs, M.2.2.2.2.2.2.2 = some (L, xs) → va_X g.2.2.2 L xs s s.heap ∧ g.2.2.2 < g.1) ∧ d ≤ R.frames ∧ 64 * d ≤ R.locals ∧ M.2.2.2.2.1 ≤ R.cells ∧ M.2.2.2.2.2.1 ≤ R.slots
def mRt (M : mM) (pc : Nat) (v : Option Value) : Prop :=
  (∃ x, v = some (.int x) ∧ decode M.2.1 pc = .ok (.ireturn, 1) ∧ (M.2.2.2.1 = some .int ∨ (M.2.2.2.1 = some .boolean ∧ (x = 0 ∨ x = 1)))) ∨ (∃ x, v = some (.long x) ∧ decode M.2.1 pc = .ok (.lreturn, 1) ∧ M.2.2.2.1 = some .long) ∨ (v = none ∧ decode M.2.1 pc = .ok (.return_, 1) ∧ M.2.2.2.1 = none)
def mRet (M : mM) (n0 : Nat) (Φ : Option Value → mH → Prop) (g : mG) (R : Room) (p : Program) (l : Launch) (e : Env) (s : State) (m : MethodId) (args : Array Value) (below : List Frame) (meth : Method) (c : Code) (Q : State → Prop) : Prop :=
  ∀ (H : Heap) (locs : List Loc) (pc : Nat) (ls : Array Slot) (v : Option Value) (sl : Nat) (h : mH), mRt M pc v → mHI g (n0 + M.2.2.2.2.1) h H → va_S (fun q => g.1 ≤ q) s.heap H locs → sl ≤ M.2.2.2.2.2.1 → Φ v h → W p l e R s m args below meth c H locs M.2.2.2.2.1 sl Q (F0 m pc ls (v.toList.map (mrl g)))
def MW (d : Nat) (M : mM) (n0 : Nat) (Φ : Option Value → mH → Prop) (pc : Nat) (L : mL) (st : List Value) (n sl : Nat) (h : mH) : Prop :=
  ∀ (g : mG) (R : Room) (p : Program) (l : Launch) (e : Env) (s : State) (m : MethodId) (args : Array Value) (below : List Frame) (meth : Method) (c : Code) (Q : State → Prop), mX g M n0 d R p s m args meth c → mRet M n0 Φ g R p l e s m args below meth c Q →
  ∀ (H : Heap) (locs : List Loc) (ls : Array Slot), mHI g n h H → va_S (fun q => g.1 ≤ q) s.heap H locs → lv_has ls M.2.2.1 (lvO g 0 L) → n0 ≤ n ∧ n - n0 ≤ M.2.2.2.2.1 ∧ sl ≤ M.2.2.2.2.2.1 →
    W p l e R s m args below meth c H locs (n - n0) sl Q (F0 m pc ls (st.map (mrl g)))
