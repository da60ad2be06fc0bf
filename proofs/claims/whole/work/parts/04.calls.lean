/-! new cells, calls, returns; a method's contract CC out of MW at its entry -/
def vdef (ci : Nat) : List Value := match ci with
  | 0 => [.int 0, .null, .null]
  | 1 => [.null, .null, .null, .null, .null, .null]
  | 2 => [.null, .int 0, .int 0, .int 0, .int 0, .int 0]
  | 3 => [.int 0, .null, .null, .null, .null]
  | 4 => [.null, .null, .int 0]
  | 5 => [.int 0, .int 0, .int 0, .int 0, .int 0, .null, .null, .null, .null, .null, .null]
  | 6 => [.null]
  | 7 => [.null, .null, .null, .null, .null, .null, .null, .null, .null, .null, .long 0]
  | _ => [.null, .int 0, .null, .null, .null, .null, .null, .null, .null, .null, .null, .null, .int 0, .int 0, .int 0, .int 0, .int 0, .int 0, .null, .null, .null, .null, .null, .null, .null, .null, .null, .int 0, .long 0]
theorem vdef_ok {ci : Nat} {C : String} {T : u_T} {N : Nat} (hc : vwCl[ci]? = some (C, T, N)) : ∃ ty : Nat → FieldType, (∀ k, k < N → parseFieldDescriptor (T k).2.2.1 = some (ty k)) ∧ ∀ (g : mG) (j : Nat), j < N → defaultValue (ty j) = vp_V ((vdef ci).map (mrl g)) j := by
  match ci, hc with
  | 0, hc => cases hc; exact ⟨tyX0, tyX0_ok, fun g => (by decide +kernel : ∀ j, j < 3 → defaultValue (tyX0 j) = vp_V (vdef 0) j)⟩
  | 1, hc => cases hc; exact ⟨tyX1, tyX1_ok, fun g => (by decide +kernel : ∀ j, j < 6 → defaultValue (tyX1 j) = vp_V (vdef 1) j)⟩
  | 2, hc => cases hc; exact ⟨tyX2, tyX2_ok, fun g => (by decide +kernel : ∀ j, j < 6 → defaultValue (tyX2 j) = vp_V (vdef 2) j)⟩
  | 3, hc => cases hc; exact ⟨tyX3, tyX3_ok, fun g => (by decide +kernel : ∀ j, j < 5 → defaultValue (tyX3 j) = vp_V (vdef 3) j)⟩
  | 4, hc => cases hc; exact ⟨tyX4, tyX4_ok, fun g => (by decide +kernel : ∀ j, j < 3 → defaultValue (tyX4 j) = vp_V (vdef 4) j)⟩
  | 5, hc => cases hc; exact ⟨tyX5, tyX5_ok, fun g => (by decide +kernel : ∀ j, j < 11 → defaultValue (tyX5 j) = vp_V (vdef 5) j)⟩
  | 6, hc => cases hc; exact ⟨tyX6, tyX6_ok, fun g => (by decide +kernel : ∀ j, j < 1 → defaultValue (tyX6 j) = vp_V (vdef 6) j)⟩
  | 7, hc => cases hc; exact ⟨tyX7, tyX7_ok, fun g => (by decide +kernel : ∀ j, j < 11 → defaultValue (tyX7 j) = vp_V (vdef 7) j)⟩
  | 8, hc => cases hc; exact ⟨tyX8, tyX8_ok, fun g => (by decide +kernel : ∀ j, j < 29 → defaultValue (tyX8 j) = vp_V (vdef 8) j)⟩
  | k + 9, hc => simp [vwCl] at hc
theorem vw_new {ci : Nat} {C : String} {T : u_T} {N : Nat} (hc : vwCl[ci]? = some (C, T, N)) : Cond.instantiable C N ∈ mTb ∧ Cond.initialized C ∈ mTb := by
  match ci, hc with
  | 0, hc => cases hc; exact ⟨mTb_in (by decide +kernel) rfl, mTb_in (by decide +kernel) rfl⟩
  | 1, hc => cases hc; exact ⟨mTb_in (by decide +kernel) rfl, mTb_in (by decide +kernel) rfl⟩
  | 2, hc => cases hc; exact ⟨mTb_in (by decide +kernel) rfl, mTb_in (by decide +kernel) rfl⟩
  | 3, hc => cases hc; exact ⟨mTb_in (by decide +kernel) rfl, mTb_in (by decide +kernel) rfl⟩
  | 4, hc => cases hc; exact ⟨mTb_in (by decide +kernel) rfl, mTb_in (by decide +kernel) rfl⟩
  | 5, hc => cases hc; exact ⟨mTb_in (by decide +kernel) rfl, mTb_in (by decide +kernel) rfl⟩
  | 6, hc => cases hc; exact ⟨mTb_in (by decide +kernel) rfl, mTb_in (by decide +kernel) rfl⟩
  | 7, hc => cases hc; exact ⟨mTb_in (by decide +kernel) rfl, mTb_in (by decide +kernel) rfl⟩
  | 8, hc => cases hc; exact ⟨mTb_in (by decide +kernel) rfl, mTb_in (by decide +kernel) rfl⟩
  | k + 9, hc => simp [vwCl] at hc
theorem ar_new {t : Nat} (h : t < 4) : Cond.arrayClass (mty t) ∈ mTb := by
  rcases (show t = 0 ∨ t = 1 ∨ t = 2 ∨ t = 3 by omega) with rfl | rfl | rfl | rfl <;> exact mTb_in (by decide +kernel) rfl
theorem va_S.grow {A : Nat → Prop} {H0 H H1 : Heap} {locs : List Loc} (hS : va_S A H0 H locs) (z : H1.size = H.size + 1) (o : ∀ q : Nat, q < H.size → H1[q]? = H[q]?) : va_S A H0 H1 locs :=
  ⟨Nat.le_trans hS.1 (by omega), fun x h1 h2 => (o x (Nat.lt_of_lt_of_le h1 hS.1)).trans (hS.2.1 x h1 h2), hS.2.2⟩
theorem st_new {d : Nat} {M : mM} {n0 : Nat} {Φ : Option Value → mH → Prop} {pc : Nat} {L : mL} {st : List Value} {n sl : Nat} {h : mH} {i ci N : Nat} {C : String} {T : u_T} (hd : decode M.2.1 pc = .ok (.new i, 3)) (hc : vwCl[ci]? = some (C, T, N)) (hw : Cond.classLink M.1.cls i C ∈ mTb) (hm : n + 1 - n0 ≤ M.2.2.2.2.1) (hms : sl + N ≤ M.2.2.2.2.2.1) (k : MW d M n0 Φ (pc + 3) L (.ref n :: st) (n + 1) (sl + N) (hu h n (.inr (ci, vdef ci)))) : MW d M n0 Φ pc L st n sl h := by
  intro g R p l e s m args below meth c Q X hr H locs ls hH hS hL hn
  obtain ⟨hx, hb, hml, hown, hts, hK, hmn, hsz, hsc, hR⟩ := id X
  obtain ⟨hc9, hin, -, -⟩ := vw_ok hc
  obtain ⟨w1, w2⟩ := vw_new hc
  obtain ⟨ty, hty, hdf⟩ := vdef_ok hc
  have hKn := hK.1 ci _ hc
  refine W.newcK (g := F0 m pc ls (st.map (mrl g))) hx hb hown (hts _ hw) (hts _ w1) (hts _ w2) rfl hd (by omega) (by omega) hKn.2.1 hH.1 fun H1 kC hkC e1 z1 o1 => ?_
  have z2 : H1.size = H.size + 1 := by rw [z1, hH.1]
  have o2 : ∀ q : Nat, q < H.size → H1[q]? = H[q]? := fun q hq => o1 q (by rw [← hH.1]; exact hq)
  have := k g R p l e s m args below meth c Q X hr H1 locs ls (hH.push z2 o2 ⟨_, hc, (u_born ty hts hin hKn hkC e1 hty).to (hdf g)⟩) (hS.grow z2 o2) hL ⟨by omega, by omega, hms⟩
  rw [show n + 1 - n0 = n - n0 + 1 by omega] at this
  exact this
theorem st_newarray {d : Nat} {M : mM} {n0 : Nat} {Φ : Option Value → mH → Prop} {pc : Nat} {L : mL} {st : List Value} {n sl : Nat} {h : mH} {ar : ArrayType} {t N : Nat} (hd : decode M.2.1 pc = .ok (.newarray ar, 2)) (ht : t < 4) (hty : newarray.typeOf ar = mty t) (hN : N < 10000) (hm : n + 1 - n0 ≤ M.2.2.2.2.1) (hms : sl + N ≤ M.2.2.2.2.2.1) (k : MW d M n0 Φ (pc + 2) L (.ref n :: st) (n + 1) (sl + N) (hu h n (.inl (t, N, fun _ => defaultValue (mty t))))) : MW d M n0 Φ pc L (.int (nI N) :: st) n sl h := by
  intro g R p l e s m args below meth c Q X hr H locs ls hH hS hL hn
  obtain ⟨hx, hb, hml, hown, hts, hK, hmn, hsz, hsc, hR⟩ := id X
  have hcl : (nI N).toNatClampNeg = N := nI_clamp (by omega)
  have hbt : N * componentBytes (newarray.typeOf ar) ≤ 536870912 := by
    have : componentBytes (newarray.typeOf ar) ≤ 8 := by cases ar <;> simp [newarray.typeOf, componentBytes]
    exact Nat.le_trans (Nat.mul_le_mul_left N this) (by omega)
  refine va_newaK (g := F0 m pc ls (.int (nI N) :: st.map (mrl g))) hx hb (by rw [hty]; exact hts _ (ar_new ht)) rfl hd rfl (nI_pos (by omega)) hcl hbt (by omega) (by omega) hH.1 fun H1 cA e1 z1 o1 hAr hNm => ?_
  have hca : cA = g.2.2.1 t := by
    have h2 := (hK.2 t _ (mtl_at g (by omega))).2
    rw [hty] at hNm
    rcases (show t = 0 ∨ t = 1 ∨ t = 2 ∨ t = 3 by omega) with rfl | rfl | rfl | rfl <;> exact Option.some.inj (hNm.symm.trans h2)
  subst hca
  have z2 : H1.size = H.size + 1 := by rw [z1, hH.1]
  have o2 : ∀ q : Nat, q < H.size → H1[q]? = H[q]? := fun q hq => o1 q (by rw [← hH.1]; exact hq)
  have hdv : mrl g (defaultValue (mty t)) = defaultValue (mty t) := by
    rcases (show t = 0 ∨ t = 1 ∨ t = 2 ∨ t = 3 by omega) with rfl | rfl | rfl | rfl <;> rfl
  have := k g R p l e s m args below meth c Q X hr H1 locs ls (hH.push z2 o2 (show H1[g.1 + n]? = some _ by rw [e1, hty]; simp only [hdv])) (hS.grow z2 o2) hL ⟨by omega, by omega, hms⟩
  rw [show n + 1 - n0 = n - n0 + 1 by omega] at this
  exact this
theorem ar_over {t : Nat} (h : t = 4 ∨ t = 5) : ∃ C, mty t = .object C ∧ Cond.arrayOver (.object C) ∈ mTb := by
  rcases h with rfl | rfl
  · exact ⟨RX3, rfl, mTb_in (by decide +kernel) rfl⟩
  · exact ⟨RX4, rfl, mTb_in (by decide +kernel) rfl⟩
theorem st_anewarray {d : Nat} {M : mM} {n0 : Nat} {Φ : Option Value → mH → Prop} {pc : Nat} {L : mL} {st : List Value} {n sl : Nat} {h : mH} {i t N : Nat} {C : String} (hd : decode M.2.1 pc = .ok (.anewarray i, 3)) (ht : t = 4 ∨ t = 5) (hC : mty t = .object C) (hw : Cond.classLink M.1.cls i C ∈ mTb) (hN : N < 10000) (hm : n + 1 - n0 ≤ M.2.2.2.2.1) (hms : sl + N ≤ M.2.2.2.2.2.1) (k : MW d M n0 Φ (pc + 3) L (.ref n :: st) (n + 1) (sl + N) (hu h n (.inl (t, N, fun _ => .null)))) : MW d M n0 Φ pc L (.int (nI N) :: st) n sl h := by
  intro g R p l e s m args below meth c Q X hr H locs ls hH hS hL hn
  obtain ⟨hx, hb, hml, hown, hts, hK, hmn, hsz, hsc, hR⟩ := id X
  have hcl : (nI N).toNatClampNeg = N := nI_clamp (by omega)
  obtain ⟨C', hC', hov⟩ := ar_over ht
  have hCC : C' = C := by rw [hC] at hC'; exact (FieldType.object.inj hC').symm
  subst hCC
  refine W.anew (g := F0 m pc ls (.int (nI N) :: st.map (mrl g))) hx hb hown (hts _ hw) (hts _ hov) rfl hd rfl (nI_pos (by omega)) (by rw [hcl]; omega) (by omega) (by rw [hcl]; omega) fun cA kA comp f1 f2 f3 f4 => ?_
  rw [hcl]
  generalize hH1 : H.push ({ cls := cA, slots := Array.replicate N .null, vm := .none } : Cell) = H1
  have z2 : H1.size = H.size + 1 := by rw [← hH1, Array.size_push]
  have e1 : H1[H.size]? = some (arrV cA N (fun _ => .null)) := by rw [← hH1, Array.getElem?_push_size, ← arrV_new]
  have o2 : ∀ q : Nat, q < H.size → H1[q]? = H[q]? := fun q hq => by rw [← hH1, Array.getElem?_push, if_neg (Nat.ne_of_lt hq)]
  have hca : cA = g.2.2.1 t := by
    have h2 := (hK.2 t _ (mtl_at g (by omega))).2
    rw [hC] at h2
    obtain ⟨_, _, -, -, -, h6⟩ := h2
    exact Option.some.inj (f1.symm.trans h6)
  subst hca
  have := k g R p l e s m args below meth c Q X hr H1 locs ls (hH.push z2 o2 (show H1[g.1 + n]? = some _ by rw [← hH.1, e1]; rfl)) (hS.grow z2 o2) hL ⟨by omega, by omega, hms⟩
  rw [show n + 1 - n0 = n - n0 + 1 by omega] at this
  have e2 : mrl g (.ref n) = .ref H.size := by rw [hH.1]; rfl
  rw [List.map_cons, e2] at this
  exact this
theorem cats (g : mG) {st : List Value} (h : st.length ≤ 4) : ((st.map (mrl g)).map fun v => v.category).sum ≤ 8 := by
  have key : ∀ l : List Value, ((l.map (mrl g)).map fun v => v.category).sum ≤ 2 * l.length := by
    intro l
    induction l with
    | nil => simp
    | cons a l ih =>
      simp only [List.map_cons, List.sum_cons, List.length_cons, mrl_cat] at ih ⊢
      rcases lv_cat a with q | q <;> omega
  exact Nat.le_trans (key st) (by omega)
theorem st_objInit {d : Nat} {M : mM} {n0 : Nat} {Φ : Option Value → mH → Prop} {pc : Nat} {L : mL} {st : List Value} {n sl : Nat} {h : mH} {i a : Nat} (hd : decode M.2.1 pc = .ok (.invokespecial i, 3)) (hw : Cond.methodLink M.1.cls i Lib.objectInit ∈ mTb) (hst : st.length ≤ 4) (k : MW (d + 1) M n0 Φ (pc + 3) L st n sl h) : MW (d + 1) M n0 Φ pc L (.ref a :: st) n sl h := by
  intro g R p l e s m args below meth c Q X hr H locs ls hH hS hL hn
  obtain ⟨hx, hb, hml, hown, hts, hK, hmn, hsz, hsc, hR⟩ := id X
  have hcats := cats g hst
  exact W.objInit (g := F0 m pc ls (.ref (g.1 + a) :: st.map (mrl g))) hx hb hown (hts _ hw) (hts _ (mTb_in (w := .instanceMethod Lib.objectInit) (by decide +kernel) rfl)) (hts _ (mTb_in (w := .code Lib.objectInit ⟨#[0xb1]⟩ 1 none) (by decide +kernel) rfl)) rfl (by rw [hml]; exact hL.1) rfl hd (by omega) (by show 2 * 0 + _ + 12 ≤ R.locals; omega) (k g R p l e s m args below meth c Q X hr H locs ls hH hS hL hn)
/-! contracts -/
def okM (M : mM) : Prop := Cond.code M.1 M.2.1 M.2.2.1 M.2.2.2.1 ∈ mTb ∧ Cond.initialized M.1.cls ∈ mTb ∧ (M.1.cls ≠ "java/lang/invoke/MethodHandle" ∧ M.1.cls ≠ "java/lang/invoke/VarHandle") ∧ plainName M.1.cls = true ∧ M.2.2.1 ≤ 45 ∧
  (M.2.2.2.2.2.2.1 = 0 → Cond.static M.1 ∈ mTb) ∧ (M.2.2.2.2.2.2.1 = 1 → Cond.instanceMethod M.1 ∈ mTb ∧ Cond.selects M.1.cls M.1 M.1 ∈ mTb) ∧ (M.2.2.2.2.2.2.1 = 2 → Cond.instanceMethod M.1 ∈ mTb ∧ M.1.name = "<init>" ∧ M.2.2.2.1 = none) ∧ M.2.2.2.2.2.2.2 = none
def mQ (g : mG) (M : mM) (n : Nat) (Φ : Option Value → mH → Prop) : Array Value → State → Outcome → State → Prop := fun _ st oc t => ∃ (r : Option Value) (h' : mH), oc = .returned (r.map (mrl g)) ∧ Φ r h' ∧ mHI g (n + M.2.2.2.2.1) h' t.heap ∧ va_F (fun q => g.1 ≤ q) st t
def mPc (g : mG) (args : List Value) (n : Nat) (h : mH) : Array Value → State → Prop := va_Pc (args.map (mrl g)) (fun U => mHI g n h U.heap ∧ (∀ w ∈ mTb, w.before #[] U = true) ∧ va_K g.2.1 vwCl (mtl g) U)
def CC (d : Nat) (M : mM) (args : List Value) (n : Nat) (h : mH) (Φ : Option Value → mH → Prop) : Prop := okM M ∧ ∀ (l : Launch) (g : mG), Met l M.1 [.code M.1 M.2.1 M.2.2.1 M.2.2.2.1] (mRm d M) (mPc g args n h) (mQ g M n Φ) M.2.2.2.2.1 M.2.2.2.2.2.1 (fun q => g.1 ≤ q)
theorem mPc_blind (g : mG) (args : List Value) (n : Nat) (h : mH) : FrameBlind (mPc g args n h) := fun a U g' mk q => by
  obtain ⟨q0, q1, q2, q3⟩ := q
  exact ⟨q0, q1, mTb_warm q2 (U := U.calling g' mk a) (State.WarmedH.refl U), va_K.moved (u := U) (U := U.calling g' mk a) (Vm.Alike.refl U.vm) q3⟩
theorem cc_of_mw {d : Nat} {M : mM} {args : List Value} {n : Nat} {h : mH} {Φ : Option Value → mH → Prop} (hM : okM M) (ha : (args.map fun v => v.category).sum ≤ M.2.2.1) (k : MW d M n Φ 0 (en M.2.2.1 args) [] n 0 h) : CC d M args n h Φ := by
  refine ⟨hM, fun l g => ?_⟩
  obtain ⟨hcode, hini, hne, hpl, hmx, hk0, hk1, hk2, hsc⟩ := hM
  refine Met.ofW (cc := M.2.1) (maxL := M.2.2.1) (ret := M.2.2.2.1) hpl rfl ?_
  intro p e s m args' below meth c s₁ B hml hv
  obtain ⟨rfl, hH, hts, hK⟩ := hv
  have hlocks := B.notSynchronized
  have hr := B.returns
  have hb := B.bytes
  have hx := B.exec
  have hlg : ∀ vs : List Value, (lg_sl (vs.map (mrl g))).length = (vs.map fun v => v.category).sum := by
    intro vs
    induction vs with
    | nil => rfl
    | cons a vs ih =>
      simp only [List.map_cons, lg_sl, List.flatMap_cons, List.length_append, List.sum_cons, mrl_cat] at ih ⊢
      rw [ih]
      rcases lv_cat a with q | q <;> simp [q]
  have hl := lv_entry (args.map (mrl g)) (n := M.2.2.1) (by rw [hlg]; exact ha)
  rw [lg_entry_eq]
  have hX : mX g M n d (mRm d M) p s m (args.map (mrl g)).toArray meth c := ⟨hx, hb, hml, findClass_of_methodNamed B.named, mTb_warm hts (State.WarmedH.refl s), hK, (name_of_methodNamed B.named B.method).1, hH.1, (fun L xs q => by rw [hsc] at q; cases q), Nat.le_refl _, Nat.le_refl _, Nat.le_refl _, Nat.le_refl _⟩
  have := k g (mRm d M) p l e s m _ below meth c (MQ below (mQ g M n Φ) (args.map (mrl g)).toArray s M.2.2.2.2.1 M.2.2.2.2.2.1 (fun q => g.1 ≤ q)) hX ?_ s.heap [] _ hH va_S.rf (by rw [lvO_en]; exact hl) ⟨Nat.le_refl _, by omega, Nat.zero_le _⟩
  · rw [Nat.sub_self] at this
    exact this
  · intro H locs pc ls v sl h' hrt hH' hS hsl hΦ
    have hq : ∀ t : State, t.heap = H → s.WarmedH t.vm → mQ g M n Φ (args.map (mrl g)).toArray s (.returned (v.map (mrl g))) t := fun t ht _ => ⟨v, h', rfl, hΦ, by rw [ht]; exact hH', hS.F ht⟩
    refine W.widen (Nat.le_refl _) hsl ?_
    rcases hrt with ⟨x, rfl, hd, hr1⟩ | ⟨x, rfl, hd, hr1⟩ | ⟨rfl, hd, hr1⟩
    · rcases hr1 with hr1 | ⟨hr1, hx01⟩
      · exact W.iret hx hb (hr.trans hr1) hq hS.2.2 hd
      · exact W.zret (ty := .boolean) hx hb (hr.trans hr1) (by rcases hx01 with rfl | rfl <;> rfl) hq hS.2.2 hd
    · exact W.lret hx hb (hr.trans hr1) hq hS.2.2 hd
    · exact W.vret hx hb (hr.trans hr1) hq hS.2.2 hd
theorem CC.mono {d : Nat} {M : mM} {args : List Value} {n : Nat} {h : mH} {Φ Ψ : Option Value → mH → Prop} (k : CC d M args n h Φ) (hi : ∀ r h', Φ r h' → Ψ r h') : CC d M args n h Ψ := by
  refine ⟨k.1, fun l g => ?_⟩
  intro p e ha hc hk s m args below hf hfit hP hK
  obtain ⟨k', o, h1, h2, h3, ⟨⟨r, h', q1, q2, q3⟩, q4⟩⟩ := k.2 l g p e ha hc hk s m args below hf hfit hP hK
  exact ⟨k', o, h1, h2, h3, ⟨r, h', q1, hi _ _ q2, q3⟩, q4⟩

/-- behind a call: the callee's world is the whole of ours -/
theorem st_run {d : Nat} {M y : mM} {n0 : Nat} {Φ Ψ : Option Value → mH → Prop} {pc : Nat} {L : mL} {st0 st : List Value} {n sl : Nat} {h : mH} (a0 : Array Value)
    {g : mG} {R : Room} {p : Program} {l : Launch} {e : Env} {s : State} {m : MethodId} {args : Array Value} {below : List Frame} {meth : Method} {c : Code} {Q : State → Prop} (X : mX g M n0 d R p s m args meth c) (hr : mRet M n0 Φ g R p l e s m args below meth c Q) {H : Heap} {locs : List Loc} {ls : Array Slot} (hH : mHI g n h H) (hS : va_S (fun q => g.1 ≤ q) s.heap H locs) (hL : lv_has ls M.2.2.1 (lvO g 0 L)) (hn : n0 ≤ n ∧ n - n0 ≤ M.2.2.2.2.1 ∧ sl ≤ M.2.2.2.2.2.1)
    (hm : n - n0 + y.2.2.2.2.1 ≤ M.2.2.2.2.1) (hms : sl + y.2.2.2.2.2.1 ≤ M.2.2.2.2.2.1)
    (run : va_Run p l e R s m args below meth c H locs (n - n0) sl y.2.2.2.2.1 y.2.2.2.2.2.1 (F0 m pc ls st0) (st.map (mrl g)) (mQ g y n Ψ a0) (fun q => g.1 ≤ q))
    (k : ∀ r h', Ψ r h' → MW d M n0 Φ (pc + 3) L (r.toList ++ st) (n + y.2.2.2.2.1) (sl + y.2.2.2.2.2.1) h') : W p l e R s m args below meth c H locs (n - n0) sl Q (F0 m pc ls st0) := by
  intro T hT X0
  obtain ⟨v, st₀, t, T', Lc, h0, X', hLc, e1, e2, ⟨r, h', hv, hΨ, hH', hF⟩, go⟩ := run T hT X0
  have hv' : v = r.map (mrl g) := by cases hv; rfl
  subst hv'
  have hsz := hF.1
  rw [h0] at hsz
  have hoq : ∀ q : Nat, q < H.size → ¬ g.1 ≤ q → T'.heap[q]? = H[q]? := fun q h1 h2 => by
    have := hF.2 q (by rw [h0]; exact h1) h2
    rw [h0] at this
    rw [e1]; exact this
  have hS' : va_S (fun q => g.1 ≤ q) s.heap T'.heap (locs ++ Lc) := ⟨Nat.le_trans hS.1 (by rw [e1]; exact hsz), fun q h1 h2 => (hoq q (Nat.lt_of_lt_of_le h1 hS.1) h2).trans (hS.2.1 q h1 h2), fun q hq => by
    rcases List.mem_append.mp hq with h | h
    · exact hS.2.2 q h
    · exact hLc q h⟩
  have := k r h' hΨ g R p l e s m args below meth c Q X hr T'.heap (locs ++ Lc) ls (by rw [e1]; exact hH') hS' hL ⟨by omega, by omega, hms⟩
  rw [show n + y.2.2.2.2.1 - n0 = n - n0 + y.2.2.2.2.1 by omega] at this
  obtain ⟨tt, a1, b1⟩ := this T' rfl X'
  refine ⟨tt, go tt ?_, b1⟩
  have e3 : (r.toList ++ st).map (mrl g) = (r.map (mrl g)).toList ++ st.map (mrl g) := by cases r <;> simp
  rw [e3] at a1
  exact a1
theorem mPc_of {g : mG} {M : mM} {n0 n d : Nat} {R : Room} {p : Program} {s : State} {m : MethodId} {args : Array Value} {meth : Method} {c : Code} (X : mX g M n0 d R p s m args meth c) {h : mH} {H : Heap} (hH : mHI g n h H) (As : List Value) : ∀ U : State, U.heap = H → s.WarmedH U.vm → mPc g As n h (As.map (mrl g)).toArray U := by
  intro U hU hW
  obtain ⟨hx, hb, hml, hown, hts, hK, hmn, hsz, hsc, hR⟩ := X
  exact ⟨rfl, by rw [hU]; exact hH, mTb_warm hts hW, va_K.moved hW.alike hK⟩
theorem np_of {y : mM} {k : Nat} (h : (parseMethodDescriptor y.1.desc).map (fun d => d.parameters.length) = some k) : ∀ sig, parseMethodDescriptor y.1.desc = some sig → k = sig.parameters.length := fun sig hs => by rw [hs] at h; exact (Option.some.inj h).symm
theorem cb_of {d : Nat} {M y : mM} {g : mG} {n0 : Nat} {R : Room} {p : Program} {s : State} {m : MethodId} {args : Array Value} {meth : Method} {c : Code} {k i : Nat} (X : mX g M n0 (d + 1) R p s m args meth c) (hy : okM y) (hw : Cond.methodLink M.1.cls i y.1 ∈ mTb) (hnp : (parseMethodDescriptor y.1.desc).map (fun d => d.parameters.length) = some k) :
    CallB R s args M.1.cls i y.1 y.2.1 y.2.2.1 y.2.2.2.1 [.code y.1 y.2.1 y.2.2.1 y.2.2.2.1] (mRm d y) y.2.2.2.2.1 y.2.2.2.2.2.1 k := by
  obtain ⟨hcode, hini, hne, hpl, hmx, -⟩ := hy
  obtain ⟨hx, hb, hml, hown, hts, hK, hmn, hsz, hsc, hR⟩ := X
  exact ⟨rfl, rfl, hR.1, by show 8 + (_ + 11) + 64 * d ≤ R.locals; omega, fun w h a' U hW => by
    rcases List.mem_singleton.mp h with rfl
    exact mTb_warm hts hW _ hcode, List.mem_singleton.mpr rfl, hts _ hcode, hts _ hini, hne, np_of hnp, hts _ hw⟩
theorem cn_of {d : Nat} {M y : mM} {g : mG} {n0 : Nat} {R : Room} {p : Program} {s : State} {m : MethodId} {args : Array Value} {meth : Method} {c : Code} {k i : Nat} {host : String} (X : mX g M n0 (d + 1) R p s m args meth c) (hy : okM y) (hw : Cond.methodLinkNest M.1.cls i y.1 host ∈ mTb) (hnp : (parseMethodDescriptor y.1.desc).map (fun d => d.parameters.length) = some k) :
    va_CN R s args M.1.cls i y.1 host y.2.1 y.2.2.1 y.2.2.2.1 [.code y.1 y.2.1 y.2.2.1 y.2.2.2.1] (mRm d y) y.2.2.2.2.1 y.2.2.2.2.2.1 k := by
  obtain ⟨hcode, hini, hne, hpl, hmx, -⟩ := hy
  obtain ⟨hx, hb, hml, hown, hts, hK, hmn, hsz, hsc, hR⟩ := X
  exact ⟨⟨rfl, rfl, hR.1, by show 8 + (_ + 11) + 64 * d ≤ R.locals; omega, fun w h a' U hW => by
    rcases List.mem_singleton.mp h with rfl
    exact mTb_warm hts hW _ hcode, List.mem_singleton.mpr rfl⟩, hts _ hcode, hts _ hini, hne, np_of hnp, hts _ hw⟩
def mLk (M y : mM) (i : Nat) : Prop := Cond.methodLink M.1.cls i y.1 ∈ mTb ∨ Cond.methodLinkNest M.1.cls i y.1 "ApologyBricks" ∈ mTb
theorem st_callV {d : Nat} {M y : mM} {n0 : Nat} {Φ Ψ : Option Value → mH → Prop} {pc : Nat} {L : mL} {st As : List Value} {n sl : Nat} {h : mH} {i a ci : Nat} {fs : List Value} (hd : decode M.2.1 pc = .ok (.invokevirtual i, 3)) (hk : y.2.2.2.2.2.2.1 = 1) (hw : mLk M y i) (hnp : (parseMethodDescriptor y.1.desc).map (fun d => d.parameters.length) = some As.length) (ha : h a = .inr (ci, fs)) (hci : (vwCl[ci]?).map (fun q => q.1) = some y.1.cls) (hst : st.length ≤ 4)
    (hm : n - n0 + y.2.2.2.2.1 ≤ M.2.2.2.2.1) (hms : sl + y.2.2.2.2.2.1 ≤ M.2.2.2.2.2.1) (hC : CC d y (.ref a :: As) n h Ψ) (k : ∀ r h', Ψ r h' → MW (d + 1) M n0 Φ (pc + 3) L (r.toList ++ st) (n + y.2.2.2.2.1) (sl + y.2.2.2.2.2.1) h') : MW (d + 1) M n0 Φ pc L (As.reverse ++ .ref a :: st) n sl h := by
  intro g R p l e s m args below meth c Q X hr H locs ls hH hS hL hn
  obtain ⟨hx, hb, hml, hown, hts, hK, hmn, hsz, hsc, hR⟩ := id X
  obtain ⟨hy, hM⟩ := hC
  obtain ⟨w1, w2⟩ := hy.2.2.2.2.2.2.1 hk
  obtain ⟨q, hq, hq1⟩ : ∃ q, vwCl[ci]? = some q ∧ q.1 = y.1.cls := by
    cases hv : vwCl[ci]? with
    | none => rw [hv] at hci; cases hci
    | some q => rw [hv] at hci; exact ⟨q, rfl, Option.some.inj hci⟩
  obtain ⟨hlt, r', hr', cell, g1, g2, g3, -⟩ := hH.obj ha (vw_ok (C := q.1) (T := q.2.1) (N := q.2.2) hq).1
  have hrc : ∃ cellB : Cell, H[g.1 + a]? = some cellB ∧ cellB.vm.isStatics = false ∧ s.vm.findClass y.1.cls = some cellB.cls := ⟨cell, g1, by rw [g3]; rfl, by rw [g2, ← hq1]; exact (hK.1 ci q hq).2.1⟩
  have hp : PreV s H y.1.cls (g.1 + a) (mPc g (.ref a :: As) n h) (As.map (mrl g)) := ⟨mPc_blind _ _ _ _, hrc, mPc_of X hH (.ref a :: As)⟩
  have hstk : (As.reverse ++ Value.ref a :: st).map (mrl g) = (As.map (mrl g)).reverse ++ .ref (g.1 + a) :: st.map (mrl g) := by rw [List.map_append, List.map_reverse]; rfl
  refine st_run (y := y) (Ψ := Ψ) (Value.ref (g.1 + a) :: As.map (mrl g)).toArray X hr hH hS hL hn hm hms ?_ k
  rcases hw with hw | hw
  · exact va_runV (g := F0 m pc ls _) (As := As.map (mrl g)) (n := As.length) ⟨hx, hb, hml, hown, hts⟩ (hM l g) ⟨cb_of X hy hw hnp, hts _ w1, hts _ w2⟩ hp rfl (by rw [List.length_map]) hL.1 hstk (lv_room (cats g hst)) hd ⟨by omega, by omega⟩
  · exact va_runVN (g := F0 m pc ls _) (As := As.map (mrl g)) (n := As.length) ⟨hx, hb, hml, hown, hts⟩ (hM l g) ⟨cn_of X hy hw hnp, hts _ w1, hts _ w2⟩ hp rfl (by rw [List.length_map]) hL.1 hstk (lv_room (cats g hst)) hd ⟨by omega, by omega⟩
theorem st_callS {d : Nat} {M y : mM} {n0 : Nat} {Φ Ψ : Option Value → mH → Prop} {pc : Nat} {L : mL} {st As : List Value} {n sl : Nat} {h : mH} {i : Nat} (hd : decode M.2.1 pc = .ok (.invokestatic i, 3)) (hk : y.2.2.2.2.2.2.1 = 0) (hw : mLk M y i) (hnp : (parseMethodDescriptor y.1.desc).map (fun d => d.parameters.length) = some As.length) (hst : st.length ≤ 4)
    (hm : n - n0 + y.2.2.2.2.1 ≤ M.2.2.2.2.1) (hms : sl + y.2.2.2.2.2.1 ≤ M.2.2.2.2.2.1) (hC : CC d y As n h Ψ) (k : ∀ r h', Ψ r h' → MW (d + 1) M n0 Φ (pc + 3) L (r.toList ++ st) (n + y.2.2.2.2.1) (sl + y.2.2.2.2.2.1) h') : MW (d + 1) M n0 Φ pc L (As.reverse ++ st) n sl h := by
  intro g R p l e s m args below meth c Q X hr H locs ls hH hS hL hn
  obtain ⟨hx, hb, hml, hown, hts, hK, hmn, hsz, hsc, hR⟩ := id X
  obtain ⟨hy, hM⟩ := hC
  have w1 := hy.2.2.2.2.2.1 hk
  have hp : PreS s H (mPc g As n h) (As.map (mrl g)) := ⟨mPc_blind _ _ _ _, mPc_of X hH As⟩
  have hstk : (As.reverse ++ st).map (mrl g) = (As.map (mrl g)).reverse ++ st.map (mrl g) := by rw [List.map_append, List.map_reverse]
  refine st_run (y := y) (Ψ := Ψ) (As.map (mrl g)).toArray X hr hH hS hL hn hm hms ?_ k
  rcases hw with hw | hw
  · exact va_runS (g := F0 m pc ls _) (As := As.map (mrl g)) (n := As.length) ⟨hx, hb, hml, hown, hts⟩ (hM l g) ⟨cb_of X hy hw hnp, hts _ w1⟩ hp rfl (by rw [List.length_map]) hL.1 hstk (lv_room (cats g hst)) hd ⟨by omega, by omega⟩
  · exact va_runSN (g := F0 m pc ls _) (As := As.map (mrl g)) (n := As.length) ⟨hx, hb, hml, hown, hts⟩ (hM l g) ⟨cn_of X hy hw hnp, hts _ w1, trivial⟩ hp rfl (by rw [List.length_map]) hL.1 hstk (lv_room (cats g hst)) hd ⟨by omega, by omega⟩
theorem st_callI {d : Nat} {M y : mM} {n0 : Nat} {Φ Ψ : Option Value → mH → Prop} {pc : Nat} {L : mL} {st As : List Value} {n sl : Nat} {h : mH} {i a : Nat} (hd : decode M.2.1 pc = .ok (.invokespecial i, 3)) (hk : y.2.2.2.2.2.2.1 = 2) (hw : mLk M y i) (hnp : (parseMethodDescriptor y.1.desc).map (fun d => d.parameters.length) = some As.length) (hst : st.length ≤ 4)
    (hm : n - n0 + y.2.2.2.2.1 ≤ M.2.2.2.2.1) (hms : sl + y.2.2.2.2.2.1 ≤ M.2.2.2.2.2.1) (hC : CC d y (.ref a :: As) n h Ψ) (k : ∀ r h', Ψ r h' → MW (d + 1) M n0 Φ (pc + 3) L (r.toList ++ st) (n + y.2.2.2.2.1) (sl + y.2.2.2.2.2.1) h') : MW (d + 1) M n0 Φ pc L (As.reverse ++ .ref a :: st) n sl h := by
  intro g R p l e s m args below meth c Q X hr H locs ls hH hS hL hn
  obtain ⟨hx, hb, hml, hown, hts, hK, hmn, hsz, hsc, hR⟩ := id X
  obtain ⟨hy, hM⟩ := hC
  obtain ⟨w1, w2, w3⟩ := hy.2.2.2.2.2.2.2.1 hk
  have hp : PreS s H (mPc g (.ref a :: As) n h) (.ref (g.1 + a) :: As.map (mrl g)) := ⟨mPc_blind _ _ _ _, mPc_of X hH (.ref a :: As)⟩
  have hstk : (As.reverse ++ Value.ref a :: st).map (mrl g) = (As.map (mrl g)).reverse ++ .ref (g.1 + a) :: st.map (mrl g) := by rw [List.map_append, List.map_reverse]; rfl
  have hM' := hM l g
  refine st_run (y := y) (Ψ := Ψ) (Value.ref (g.1 + a) :: As.map (mrl g)).toArray X hr hH hS hL hn hm hms ?_ k
  rcases hw with hw | hw
  · have cb := cb_of (d := d) X hy hw hnp
    rw [w3] at cb hM'
    exact va_runI (g := F0 m pc ls _) (As := As.map (mrl g)) (n := As.length) ⟨hx, hb, hml, hown, hts⟩ hM' ⟨cb, w2, hts _ w1⟩ hp rfl (by rw [List.length_map]) hL.1 hstk (lv_room (cats g hst)) hd ⟨by omega, by omega⟩
  · have cb := cn_of (d := d) X hy hw hnp
    rw [w3] at cb hM'
    exact va_runIN (g := F0 m pc ls _) (As := As.map (mrl g)) (n := As.length) ⟨hx, hb, hml, hown, hts⟩ hM' ⟨cb, w2, hts _ w1⟩ hp rfl (by rw [List.length_map]) hL.1 hstk (lv_room (cats g hst)) hd ⟨by omega, by omega⟩
