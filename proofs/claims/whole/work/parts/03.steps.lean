theorem st_iconst {d : Nat} {M : mM} {n0 : Nat} {Φ : Option Value → mH → Prop} {pc : Nat} {L : mL} {st : List Value} {n sl : Nat} {h : mH} {z : Int} {x : Int32} (hd : decode M.2.1 pc = .ok (.iconst z, 1)) (hv : Int32.ofInt z = x) (k : MW d M n0 Φ (pc + 1) L (.int x :: st) n sl h) : MW d M n0 Φ pc L (st) n sl h := by
  intro g R p l e s m args below meth c Q X hr H locs ls hH hS hL hn
  obtain ⟨hx, hb, hml, hown, hts, hK, hmn, hsz, hsc, hR⟩ := id X
  exact lv_iconst hx hb hd hv (k g R p l e s m args below meth c Q X hr H locs ls hH hS hL hn)
theorem st_bipush {d : Nat} {M : mM} {n0 : Nat} {Φ : Option Value → mH → Prop} {pc : Nat} {L : mL} {st : List Value} {n sl : Nat} {h : mH} {z : Int} {x : Int32} (hd : decode M.2.1 pc = .ok (.bipush z, 2)) (hv : (Int8.ofInt z).toInt32 = x) (k : MW d M n0 Φ (pc + 2) L (.int x :: st) n sl h) : MW d M n0 Φ pc L (st) n sl h := by
  intro g R p l e s m args below meth c Q X hr H locs ls hH hS hL hn
  obtain ⟨hx, hb, hml, hown, hts, hK, hmn, hsz, hsc, hR⟩ := id X
  exact lv_bipush hx hb hd hv (k g R p l e s m args below meth c Q X hr H locs ls hH hS hL hn)
theorem st_sipush {d : Nat} {M : mM} {n0 : Nat} {Φ : Option Value → mH → Prop} {pc : Nat} {L : mL} {st : List Value} {n sl : Nat} {h : mH} {z : Int} {x : Int32} (hd : decode M.2.1 pc = .ok (.sipush z, 3)) (hv : (Int16.ofInt z).toInt32 = x) (k : MW d M n0 Φ (pc + 3) L (.int x :: st) n sl h) : MW d M n0 Φ pc L (st) n sl h := by
  intro g R p l e s m args below meth c Q X hr H locs ls hH hS hL hn
  obtain ⟨hx, hb, hml, hown, hts, hK, hmn, hsz, hsc, hR⟩ := id X
  exact lv_sipush hx hb hd hv (k g R p l e s m args below meth c Q X hr H locs ls hH hS hL hn)
theorem st_lconst {d : Nat} {M : mM} {n0 : Nat} {Φ : Option Value → mH → Prop} {pc : Nat} {L : mL} {st : List Value} {n sl : Nat} {h : mH} {z : Fin 2} {x : Int64} (hd : decode M.2.1 pc = .ok (.lconst z, 1)) (hv : Int64.ofNat (z : Nat) = x) (k : MW d M n0 Φ (pc + 1) L (.long x :: st) n sl h) : MW d M n0 Φ pc L (st) n sl h := by
  intro g R p l e s m args below meth c Q X hr H locs ls hH hS hL hn
  obtain ⟨hx, hb, hml, hown, hts, hK, hmn, hsz, hsc, hR⟩ := id X
  exact lv_lconst hx hb hd hv (k g R p l e s m args below meth c Q X hr H locs ls hH hS hL hn)
theorem st_ldc {d : Nat} {M : mM} {n0 : Nat} {Φ : Option Value → mH → Prop} {pc : Nat} {L : mL} {st : List Value} {n sl : Nat} {h : mH} {i : Nat} {x : Int32} (hd : decode M.2.1 pc = .ok (.ldc i, 2)) (hw : Cond.constant M.1.cls i x ∈ mTb) (k : MW d M n0 Φ (pc + 2) L (.int x :: st) n sl h) : MW d M n0 Φ pc L (st) n sl h := by
  intro g R p l e s m args below meth c Q X hr H locs ls hH hS hL hn
  obtain ⟨hx, hb, hml, hown, hts, hK, hmn, hsz, hsc, hR⟩ := id X
  exact W.ldc (g := F0 m pc ls (st.map (mrl g))) hx hb hown (hts _ hw) rfl hd (k g R p l e s m args below meth c Q X hr H locs ls hH hS hL hn)
theorem st_ldc_w {d : Nat} {M : mM} {n0 : Nat} {Φ : Option Value → mH → Prop} {pc : Nat} {L : mL} {st : List Value} {n sl : Nat} {h : mH} {i : Nat} {x : Int32} (hd : decode M.2.1 pc = .ok (.ldc_w i, 3)) (hw : Cond.constant M.1.cls i x ∈ mTb) (k : MW d M n0 Φ (pc + 3) L (.int x :: st) n sl h) : MW d M n0 Φ pc L (st) n sl h := by
  intro g R p l e s m args below meth c Q X hr H locs ls hH hS hL hn
  obtain ⟨hx, hb, hml, hown, hts, hK, hmn, hsz, hsc, hR⟩ := id X
  exact lv_ldcw hx hb hown (hts _ hw) hd (k g R p l e s m args below meth c Q X hr H locs ls hH hS hL hn)
theorem st_ldc2_w {d : Nat} {M : mM} {n0 : Nat} {Φ : Option Value → mH → Prop} {pc : Nat} {L : mL} {st : List Value} {n sl : Nat} {h : mH} {i : Nat} {x : Int64} (hd : decode M.2.1 pc = .ok (.ldc2_w i, 3)) (hw : Cond.constantLong M.1.cls i x ∈ mTb) (k : MW d M n0 Φ (pc + 3) L (.long x :: st) n sl h) : MW d M n0 Φ pc L (st) n sl h := by
  intro g R p l e s m args below meth c Q X hr H locs ls hH hS hL hn
  obtain ⟨hx, hb, hml, hown, hts, hK, hmn, hsz, hsc, hR⟩ := id X
  exact W.ldc2 (g := F0 m pc ls (st.map (mrl g))) hx hb hown (hts _ hw) rfl hd (k g R p l e s m args below meth c Q X hr H locs ls hH hS hL hn)
theorem st_iload_n {d : Nat} {M : mM} {n0 : Nat} {Φ : Option Value → mH → Prop} {pc : Nat} {L : mL} {st : List Value} {n sl : Nat} {h : mH} {i : Fin 4} {x : Int32} (hd : decode M.2.1 pc = .ok (.iload_n i, 1)) (hl : L[(i : Nat)]? = some (some (.int x))) (k : MW d M n0 Φ (pc + 1) L (.int x :: st) n sl h) : MW d M n0 Φ pc L (st) n sl h := by
  intro g R p l e s m args below meth c Q X hr H locs ls hH hS hL hn
  obtain ⟨hx, hb, hml, hown, hts, hK, hmn, hsz, hsc, hR⟩ := id X
  exact lv_iload_n hx hb hd rfl (lvO_get hL hl) (k g R p l e s m args below meth c Q X hr H locs ls hH hS hL hn)
theorem st_iload {d : Nat} {M : mM} {n0 : Nat} {Φ : Option Value → mH → Prop} {pc : Nat} {L : mL} {st : List Value} {n sl : Nat} {h : mH} {i : Nat} {x : Int32} (hd : decode M.2.1 pc = .ok (.iload i, 2)) (hl : L[i]? = some (some (.int x))) (k : MW d M n0 Φ (pc + 2) L (.int x :: st) n sl h) : MW d M n0 Φ pc L (st) n sl h := by
  intro g R p l e s m args below meth c Q X hr H locs ls hH hS hL hn
  obtain ⟨hx, hb, hml, hown, hts, hK, hmn, hsz, hsc, hR⟩ := id X
  exact lv_iload hx hb hd (lvO_get hL hl) (k g R p l e s m args below meth c Q X hr H locs ls hH hS hL hn)
theorem st_lload_n {d : Nat} {M : mM} {n0 : Nat} {Φ : Option Value → mH → Prop} {pc : Nat} {L : mL} {st : List Value} {n sl : Nat} {h : mH} {i : Fin 4} {x : Int64} (hd : decode M.2.1 pc = .ok (.lload_n i, 1)) (hl : L[(i : Nat)]? = some (some (.long x))) (k : MW d M n0 Φ (pc + 1) L (.long x :: st) n sl h) : MW d M n0 Φ pc L (st) n sl h := by
  intro g R p l e s m args below meth c Q X hr H locs ls hH hS hL hn
  obtain ⟨hx, hb, hml, hown, hts, hK, hmn, hsz, hsc, hR⟩ := id X
  exact lv_lload_n hx hb hd rfl (lvO_get hL hl) (k g R p l e s m args below meth c Q X hr H locs ls hH hS hL hn)
theorem st_lload {d : Nat} {M : mM} {n0 : Nat} {Φ : Option Value → mH → Prop} {pc : Nat} {L : mL} {st : List Value} {n sl : Nat} {h : mH} {i : Nat} {x : Int64} (hd : decode M.2.1 pc = .ok (.lload i, 2)) (hl : L[i]? = some (some (.long x))) (k : MW d M n0 Φ (pc + 2) L (.long x :: st) n sl h) : MW d M n0 Φ pc L (st) n sl h := by
  intro g R p l e s m args below meth c Q X hr H locs ls hH hS hL hn
  obtain ⟨hx, hb, hml, hown, hts, hK, hmn, hsz, hsc, hR⟩ := id X
  exact lv_lload hx hb hd (lvO_get hL hl) (k g R p l e s m args below meth c Q X hr H locs ls hH hS hL hn)
theorem st_aload_n {d : Nat} {M : mM} {n0 : Nat} {Φ : Option Value → mH → Prop} {pc : Nat} {L : mL} {st : List Value} {n sl : Nat} {h : mH} {i : Fin 4} {x : Nat} (hd : decode M.2.1 pc = .ok (.aload_n i, 1)) (hl : L[(i : Nat)]? = some (some (.ref x))) (k : MW d M n0 Φ (pc + 1) L (.ref x :: st) n sl h) : MW d M n0 Φ pc L (st) n sl h := by
  intro g R p l e s m args below meth c Q X hr H locs ls hH hS hL hn
  obtain ⟨hx, hb, hml, hown, hts, hK, hmn, hsz, hsc, hR⟩ := id X
  exact lv_aload_n hx hb hd rfl (lvO_get hL hl) (k g R p l e s m args below meth c Q X hr H locs ls hH hS hL hn)
theorem st_aload {d : Nat} {M : mM} {n0 : Nat} {Φ : Option Value → mH → Prop} {pc : Nat} {L : mL} {st : List Value} {n sl : Nat} {h : mH} {i : Nat} {x : Nat} (hd : decode M.2.1 pc = .ok (.aload i, 2)) (hl : L[i]? = some (some (.ref x))) (k : MW d M n0 Φ (pc + 2) L (.ref x :: st) n sl h) : MW d M n0 Φ pc L (st) n sl h := by
  intro g R p l e s m args below meth c Q X hr H locs ls hH hS hL hn
  obtain ⟨hx, hb, hml, hown, hts, hK, hmn, hsz, hsc, hR⟩ := id X
  exact lv_aload hx hb hd (lvO_get hL hl) (k g R p l e s m args below meth c Q X hr H locs ls hH hS hL hn)
theorem st_aload_nS {d : Nat} {M : mM} {n0 : Nat} {Φ : Option Value → mH → Prop} {pc : Nat} {L : mL} {st : List Value} {n sl : Nat} {h : mH} {i : Fin 4} {x : Nat} (hd : decode M.2.1 pc = .ok (.aload_n i, 1)) (hl : L[(i : Nat)]? = some (some (.retAddr x))) (k : MW d M n0 Φ (pc + 1) L (.retAddr x :: st) n sl h) : MW d M n0 Φ pc L (st) n sl h := by
  intro g R p l e s m args below meth c Q X hr H locs ls hH hS hL hn
  obtain ⟨hx, hb, hml, hown, hts, hK, hmn, hsz, hsc, hR⟩ := id X
  exact lv_aload_n hx hb hd rfl (lvO_get hL hl) (k g R p l e s m args below meth c Q X hr H locs ls hH hS hL hn)
theorem st_aloadS {d : Nat} {M : mM} {n0 : Nat} {Φ : Option Value → mH → Prop} {pc : Nat} {L : mL} {st : List Value} {n sl : Nat} {h : mH} {i : Nat} {x : Nat} (hd : decode M.2.1 pc = .ok (.aload i, 2)) (hl : L[i]? = some (some (.retAddr x))) (k : MW d M n0 Φ (pc + 2) L (.retAddr x :: st) n sl h) : MW d M n0 Φ pc L (st) n sl h := by
  intro g R p l e s m args below meth c Q X hr H locs ls hH hS hL hn
  obtain ⟨hx, hb, hml, hown, hts, hK, hmn, hsz, hsc, hR⟩ := id X
  exact lv_aload hx hb hd (lvO_get hL hl) (k g R p l e s m args below meth c Q X hr H locs ls hH hS hL hn)
theorem st_istore_n {d : Nat} {M : mM} {n0 : Nat} {Φ : Option Value → mH → Prop} {pc : Nat} {L : mL} {st : List Value} {n sl : Nat} {h : mH} {i : Fin 4} {x : Int32} (hd : decode M.2.1 pc = .ok (.istore_n i, 1)) (hi : (i : Nat) < M.2.2.1) (k : MW d M n0 Φ (pc + 1) (s1 i (.int x) L) (st) n sl h) : MW d M n0 Φ pc L (.int x :: st) n sl h := by
  intro g R p l e s m args below meth c Q X hr H locs ls hH hS hL hn
  obtain ⟨hx, hb, hml, hown, hts, hK, hmn, hsz, hsc, hR⟩ := id X
  exact lv_istore_n hx hb hd rfl hL hi rfl (fun ls' hl' => k g R p l e s m args below meth c Q X hr H locs ls' hH hS (lv_mono hl' (lvO_s1 (g := g) (v := .int x))) hn)
theorem st_istore {d : Nat} {M : mM} {n0 : Nat} {Φ : Option Value → mH → Prop} {pc : Nat} {L : mL} {st : List Value} {n sl : Nat} {h : mH} {i : Nat} {x : Int32} (hd : decode M.2.1 pc = .ok (.istore i, 2)) (hi : i < M.2.2.1) (k : MW d M n0 Φ (pc + 2) (s1 i (.int x) L) (st) n sl h) : MW d M n0 Φ pc L (.int x :: st) n sl h := by
  intro g R p l e s m args below meth c Q X hr H locs ls hH hS hL hn
  obtain ⟨hx, hb, hml, hown, hts, hK, hmn, hsz, hsc, hR⟩ := id X
  exact lv_istore hx hb hd hL hi rfl (fun ls' hl' => k g R p l e s m args below meth c Q X hr H locs ls' hH hS (lv_mono hl' (lvO_s1 (g := g) (v := .int x))) hn)
theorem st_astore_n {d : Nat} {M : mM} {n0 : Nat} {Φ : Option Value → mH → Prop} {pc : Nat} {L : mL} {st : List Value} {n sl : Nat} {h : mH} {i : Fin 4} {x : Nat} (hd : decode M.2.1 pc = .ok (.astore_n i, 1)) (hi : (i : Nat) < M.2.2.1) (k : MW d M n0 Φ (pc + 1) (s1 i (.ref x) L) (st) n sl h) : MW d M n0 Φ pc L (.ref x :: st) n sl h := by
  intro g R p l e s m args below meth c Q X hr H locs ls hH hS hL hn
  obtain ⟨hx, hb, hml, hown, hts, hK, hmn, hsz, hsc, hR⟩ := id X
  exact lv_astore_n hx hb hd rfl hL hi rfl (fun ls' hl' => k g R p l e s m args below meth c Q X hr H locs ls' hH hS (lv_mono hl' (lvO_s1 (g := g) (v := .ref x))) hn)
theorem st_astore {d : Nat} {M : mM} {n0 : Nat} {Φ : Option Value → mH → Prop} {pc : Nat} {L : mL} {st : List Value} {n sl : Nat} {h : mH} {i : Nat} {x : Nat} (hd : decode M.2.1 pc = .ok (.astore i, 2)) (hi : i < M.2.2.1) (k : MW d M n0 Φ (pc + 2) (s1 i (.ref x) L) (st) n sl h) : MW d M n0 Φ pc L (.ref x :: st) n sl h := by
  intro g R p l e s m args below meth c Q X hr H locs ls hH hS hL hn
  obtain ⟨hx, hb, hml, hown, hts, hK, hmn, hsz, hsc, hR⟩ := id X
  exact lv_astore hx hb hd hL hi rfl (fun ls' hl' => k g R p l e s m args below meth c Q X hr H locs ls' hH hS (lv_mono hl' (lvO_s1 (g := g) (v := .ref x))) hn)
theorem st_lstore_n {d : Nat} {M : mM} {n0 : Nat} {Φ : Option Value → mH → Prop} {pc : Nat} {L : mL} {st : List Value} {n sl : Nat} {h : mH} {i : Fin 4} {x : Int64} (hd : decode M.2.1 pc = .ok (.lstore_n i, 1)) (hi : (i : Nat) + 1 < M.2.2.1) (k : MW d M n0 Φ (pc + 1) (s2 i (.long x) L) (st) n sl h) : MW d M n0 Φ pc L (.long x :: st) n sl h := by
  intro g R p l e s m args below meth c Q X hr H locs ls hH hS hL hn
  obtain ⟨hx, hb, hml, hown, hts, hK, hmn, hsz, hsc, hR⟩ := id X
  exact lv_lstore_n hx hb hd rfl hL hi rfl (fun ls' hl' => k g R p l e s m args below meth c Q X hr H locs ls' hH hS (lv_mono hl' (lvO_s2 (g := g) (v := .long x))) hn)
theorem st_lstore {d : Nat} {M : mM} {n0 : Nat} {Φ : Option Value → mH → Prop} {pc : Nat} {L : mL} {st : List Value} {n sl : Nat} {h : mH} {i : Nat} {x : Int64} (hd : decode M.2.1 pc = .ok (.lstore i, 2)) (hi : i + 1 < M.2.2.1) (k : MW d M n0 Φ (pc + 2) (s2 i (.long x) L) (st) n sl h) : MW d M n0 Φ pc L (.long x :: st) n sl h := by
  intro g R p l e s m args below meth c Q X hr H locs ls hH hS hL hn
  obtain ⟨hx, hb, hml, hown, hts, hK, hmn, hsz, hsc, hR⟩ := id X
  exact lv_lstore hx hb hd hL hi rfl (fun ls' hl' => k g R p l e s m args below meth c Q X hr H locs ls' hH hS (lv_mono hl' (lvO_s2 (g := g) (v := .long x))) hn)
theorem st_iinc {d : Nat} {M : mM} {n0 : Nat} {Φ : Option Value → mH → Prop} {pc : Nat} {L : mL} {st : List Value} {n sl : Nat} {h : mH} {i : Nat} {z : Int} {x y : Int32} (hd : decode M.2.1 pc = .ok (.iinc i z, 3)) (hi : i < M.2.2.1) (hl : L[i]? = some (some (.int x))) (hv : x + Int32.ofInt z = y) (k : MW d M n0 Φ (pc + 3) (s1 i (.int y) L) (st) n sl h) : MW d M n0 Φ pc L (st) n sl h := by
  intro g R p l e s m args below meth c Q X hr H locs ls hH hS hL hn
  obtain ⟨hx, hb, hml, hown, hts, hK, hmn, hsz, hsc, hR⟩ := id X
  have hm : (i, mrl g (.int x)) ∈ lvO g 0 L := (lvO_mem g L 0 _).mpr ⟨i, _, hl, by simp⟩
  obtain ⟨q, hq⟩ := List.getElem?_of_mem hm
  exact lv_iinc hx hb hd hL (k := q) (x := x) hq hv hi rfl (fun ls' hl' => k g R p l e s m args below meth c Q X hr H locs ls' hH hS (lv_mono hl' (lvO_s1 (g := g) (v := .int y))) hn)
theorem st_iadd {d : Nat} {M : mM} {n0 : Nat} {Φ : Option Value → mH → Prop} {pc : Nat} {L : mL} {st : List Value} {n sl : Nat} {h : mH} {x y : Int32} (hd : decode M.2.1 pc = .ok (.iadd, 1)) (k : MW d M n0 Φ (pc + 1) L (.int (x + y) :: st) n sl h) : MW d M n0 Φ pc L (.int y :: .int x :: st) n sl h := by
  intro g R p l e s m args below meth c Q X hr H locs ls hH hS hL hn
  obtain ⟨hx, hb, hml, hown, hts, hK, hmn, hsz, hsc, hR⟩ := id X
  exact lv_iadd hx hb hd (k g R p l e s m args below meth c Q X hr H locs ls hH hS hL hn)
theorem st_isub {d : Nat} {M : mM} {n0 : Nat} {Φ : Option Value → mH → Prop} {pc : Nat} {L : mL} {st : List Value} {n sl : Nat} {h : mH} {x y : Int32} (hd : decode M.2.1 pc = .ok (.isub, 1)) (k : MW d M n0 Φ (pc + 1) L (.int (x - y) :: st) n sl h) : MW d M n0 Φ pc L (.int y :: .int x :: st) n sl h := by
  intro g R p l e s m args below meth c Q X hr H locs ls hH hS hL hn
  obtain ⟨hx, hb, hml, hown, hts, hK, hmn, hsz, hsc, hR⟩ := id X
  exact lv_isub hx hb hd (k g R p l e s m args below meth c Q X hr H locs ls hH hS hL hn)
theorem st_imul {d : Nat} {M : mM} {n0 : Nat} {Φ : Option Value → mH → Prop} {pc : Nat} {L : mL} {st : List Value} {n sl : Nat} {h : mH} {x y : Int32} (hd : decode M.2.1 pc = .ok (.imul, 1)) (k : MW d M n0 Φ (pc + 1) L (.int (x * y) :: st) n sl h) : MW d M n0 Φ pc L (.int y :: .int x :: st) n sl h := by
  intro g R p l e s m args below meth c Q X hr H locs ls hH hS hL hn
  obtain ⟨hx, hb, hml, hown, hts, hK, hmn, hsz, hsc, hR⟩ := id X
  exact lv_imul hx hb hd (k g R p l e s m args below meth c Q X hr H locs ls hH hS hL hn)
theorem st_iand {d : Nat} {M : mM} {n0 : Nat} {Φ : Option Value → mH → Prop} {pc : Nat} {L : mL} {st : List Value} {n sl : Nat} {h : mH} {x y : Int32} (hd : decode M.2.1 pc = .ok (.iand, 1)) (k : MW d M n0 Φ (pc + 1) L (.int (x &&& y) :: st) n sl h) : MW d M n0 Φ pc L (.int y :: .int x :: st) n sl h := by
  intro g R p l e s m args below meth c Q X hr H locs ls hH hS hL hn
  obtain ⟨hx, hb, hml, hown, hts, hK, hmn, hsz, hsc, hR⟩ := id X
  exact lv_iand hx hb hd (k g R p l e s m args below meth c Q X hr H locs ls hH hS hL hn)
theorem st_ior {d : Nat} {M : mM} {n0 : Nat} {Φ : Option Value → mH → Prop} {pc : Nat} {L : mL} {st : List Value} {n sl : Nat} {h : mH} {x y : Int32} (hd : decode M.2.1 pc = .ok (.ior, 1)) (k : MW d M n0 Φ (pc + 1) L (.int (x ||| y) :: st) n sl h) : MW d M n0 Φ pc L (.int y :: .int x :: st) n sl h := by
  intro g R p l e s m args below meth c Q X hr H locs ls hH hS hL hn
  obtain ⟨hx, hb, hml, hown, hts, hK, hmn, hsz, hsc, hR⟩ := id X
  exact lv_ior hx hb hd (k g R p l e s m args below meth c Q X hr H locs ls hH hS hL hn)
theorem st_ishl {d : Nat} {M : mM} {n0 : Nat} {Φ : Option Value → mH → Prop} {pc : Nat} {L : mL} {st : List Value} {n sl : Nat} {h : mH} {x y : Int32} (hd : decode M.2.1 pc = .ok (.ishl, 1)) (k : MW d M n0 Φ (pc + 1) L (.int (x <<< (y &&& 31)) :: st) n sl h) : MW d M n0 Φ pc L (.int y :: .int x :: st) n sl h := by
  intro g R p l e s m args below meth c Q X hr H locs ls hH hS hL hn
  obtain ⟨hx, hb, hml, hown, hts, hK, hmn, hsz, hsc, hR⟩ := id X
  exact lv_ishl hx hb hd (k g R p l e s m args below meth c Q X hr H locs ls hH hS hL hn)
theorem st_ishr {d : Nat} {M : mM} {n0 : Nat} {Φ : Option Value → mH → Prop} {pc : Nat} {L : mL} {st : List Value} {n sl : Nat} {h : mH} {x y : Int32} (hd : decode M.2.1 pc = .ok (.ishr, 1)) (k : MW d M n0 Φ (pc + 1) L (.int (x >>> (y &&& 31)) :: st) n sl h) : MW d M n0 Φ pc L (.int y :: .int x :: st) n sl h := by
  intro g R p l e s m args below meth c Q X hr H locs ls hH hS hL hn
  obtain ⟨hx, hb, hml, hown, hts, hK, hmn, hsz, hsc, hR⟩ := id X
  exact lv_ishr hx hb hd (k g R p l e s m args below meth c Q X hr H locs ls hH hS hL hn)
theorem st_idiv {d : Nat} {M : mM} {n0 : Nat} {Φ : Option Value → mH → Prop} {pc : Nat} {L : mL} {st : List Value} {n sl : Nat} {h : mH} {x y : Int32} (hd : decode M.2.1 pc = .ok (.idiv, 1)) (hne : ¬ y = 0) (k : MW d M n0 Φ (pc + 1) L (.int (x / y) :: st) n sl h) : MW d M n0 Φ pc L (.int y :: .int x :: st) n sl h := by
  intro g R p l e s m args below meth c Q X hr H locs ls hH hS hL hn
  obtain ⟨hx, hb, hml, hown, hts, hK, hmn, hsz, hsc, hR⟩ := id X
  exact lv_idiv hx hb hd hne (k g R p l e s m args below meth c Q X hr H locs ls hH hS hL hn)
theorem st_irem {d : Nat} {M : mM} {n0 : Nat} {Φ : Option Value → mH → Prop} {pc : Nat} {L : mL} {st : List Value} {n sl : Nat} {h : mH} {x y : Int32} (hd : decode M.2.1 pc = .ok (.irem, 1)) (hne : ¬ y = 0) (k : MW d M n0 Φ (pc + 1) L (.int (x - x / y * y) :: st) n sl h) : MW d M n0 Φ pc L (.int y :: .int x :: st) n sl h := by
  intro g R p l e s m args below meth c Q X hr H locs ls hH hS hL hn
  obtain ⟨hx, hb, hml, hown, hts, hK, hmn, hsz, hsc, hR⟩ := id X
  exact lv_irem hx hb hd hne (k g R p l e s m args below meth c Q X hr H locs ls hH hS hL hn)
theorem st_iushr {d : Nat} {M : mM} {n0 : Nat} {Φ : Option Value → mH → Prop} {pc : Nat} {L : mL} {st : List Value} {n sl : Nat} {h : mH} {x y : Int32} (hd : decode M.2.1 pc = .ok (.iushr, 1)) (k : MW d M n0 Φ (pc + 1) L (.int ((x.toUInt32 >>> (y.toUInt32 &&& Int32.toUInt32 31)).toInt32) :: st) n sl h) : MW d M n0 Φ pc L (.int y :: .int x :: st) n sl h := by
  intro g R p l e s m args below meth c Q X hr H locs ls hH hS hL hn
  obtain ⟨hx, hb, hml, hown, hts, hK, hmn, hsz, hsc, hR⟩ := id X
  exact lv_iushr hx hb hd rfl (k g R p l e s m args below meth c Q X hr H locs ls hH hS hL hn)
theorem st_ladd {d : Nat} {M : mM} {n0 : Nat} {Φ : Option Value → mH → Prop} {pc : Nat} {L : mL} {st : List Value} {n sl : Nat} {h : mH} {x y : Int64} (hd : decode M.2.1 pc = .ok (.ladd, 1)) (k : MW d M n0 Φ (pc + 1) L (.long (x + y) :: st) n sl h) : MW d M n0 Φ pc L (.long y :: .long x :: st) n sl h := by
  intro g R p l e s m args below meth c Q X hr H locs ls hH hS hL hn
  obtain ⟨hx, hb, hml, hown, hts, hK, hmn, hsz, hsc, hR⟩ := id X
  exact lv_ladd hx hb hd (k g R p l e s m args below meth c Q X hr H locs ls hH hS hL hn)
theorem st_lmul {d : Nat} {M : mM} {n0 : Nat} {Φ : Option Value → mH → Prop} {pc : Nat} {L : mL} {st : List Value} {n sl : Nat} {h : mH} {x y : Int64} (hd : decode M.2.1 pc = .ok (.lmul, 1)) (k : MW d M n0 Φ (pc + 1) L (.long (x * y) :: st) n sl h) : MW d M n0 Φ pc L (.long y :: .long x :: st) n sl h := by
  intro g R p l e s m args below meth c Q X hr H locs ls hH hS hL hn
  obtain ⟨hx, hb, hml, hown, hts, hK, hmn, hsz, hsc, hR⟩ := id X
  exact lv_lmul hx hb hd (k g R p l e s m args below meth c Q X hr H locs ls hH hS hL hn)
theorem st_lsub {d : Nat} {M : mM} {n0 : Nat} {Φ : Option Value → mH → Prop} {pc : Nat} {L : mL} {st : List Value} {n sl : Nat} {h : mH} {x y : Int64} (hd : decode M.2.1 pc = .ok (.lsub, 1)) (k : MW d M n0 Φ (pc + 1) L (.long (x - y) :: st) n sl h) : MW d M n0 Φ pc L (.long y :: .long x :: st) n sl h := by
  intro g R p l e s m args below meth c Q X hr H locs ls hH hS hL hn
  obtain ⟨hx, hb, hml, hown, hts, hK, hmn, hsz, hsc, hR⟩ := id X
  exact lv_lsub hx hb hd (k g R p l e s m args below meth c Q X hr H locs ls hH hS hL hn)
theorem st_ldiv {d : Nat} {M : mM} {n0 : Nat} {Φ : Option Value → mH → Prop} {pc : Nat} {L : mL} {st : List Value} {n sl : Nat} {h : mH} {x y : Int64} (hd : decode M.2.1 pc = .ok (.ldiv, 1)) (hne : ¬ y = 0) (k : MW d M n0 Φ (pc + 1) L (.long (x / y) :: st) n sl h) : MW d M n0 Φ pc L (.long y :: .long x :: st) n sl h := by
  intro g R p l e s m args below meth c Q X hr H locs ls hH hS hL hn
  obtain ⟨hx, hb, hml, hown, hts, hK, hmn, hsz, hsc, hR⟩ := id X
  exact lv_ldiv hx hb hd hne (k g R p l e s m args below meth c Q X hr H locs ls hH hS hL hn)
theorem st_lcmp {d : Nat} {M : mM} {n0 : Nat} {Φ : Option Value → mH → Prop} {pc : Nat} {L : mL} {st : List Value} {n sl : Nat} {h : mH} {x y : Int64} (hd : decode M.2.1 pc = .ok (.lcmp, 1)) (k : MW d M n0 Φ (pc + 1) L (.int (lg_cmp x y) :: st) n sl h) : MW d M n0 Φ pc L (.long y :: .long x :: st) n sl h := by
  intro g R p l e s m args below meth c Q X hr H locs ls hH hS hL hn
  obtain ⟨hx, hb, hml, hown, hts, hK, hmn, hsz, hsc, hR⟩ := id X
  exact W.lcmp hx hb hd (k g R p l e s m args below meth c Q X hr H locs ls hH hS hL hn)
theorem st_i2l {d : Nat} {M : mM} {n0 : Nat} {Φ : Option Value → mH → Prop} {pc : Nat} {L : mL} {st : List Value} {n sl : Nat} {h : mH} {x : Int32} (hd : decode M.2.1 pc = .ok (.i2l, 1)) (k : MW d M n0 Φ (pc + 1) L (.long x.toInt64 :: st) n sl h) : MW d M n0 Φ pc L (.int x :: st) n sl h := by
  intro g R p l e s m args below meth c Q X hr H locs ls hH hS hL hn
  obtain ⟨hx, hb, hml, hown, hts, hK, hmn, hsz, hsc, hR⟩ := id X
  exact lv_i2l hx hb hd rfl (k g R p l e s m args below meth c Q X hr H locs ls hH hS hL hn)
theorem st_l2i {d : Nat} {M : mM} {n0 : Nat} {Φ : Option Value → mH → Prop} {pc : Nat} {L : mL} {st : List Value} {n sl : Nat} {h : mH} {x : Int64} (hd : decode M.2.1 pc = .ok (.l2i, 1)) (k : MW d M n0 Φ (pc + 1) L (.int x.toInt32 :: st) n sl h) : MW d M n0 Φ pc L (.long x :: st) n sl h := by
  intro g R p l e s m args below meth c Q X hr H locs ls hH hS hL hn
  obtain ⟨hx, hb, hml, hown, hts, hK, hmn, hsz, hsc, hR⟩ := id X
  exact lv_l2i hx hb hd rfl (k g R p l e s m args below meth c Q X hr H locs ls hH hS hL hn)
theorem st_i2b {d : Nat} {M : mM} {n0 : Nat} {Φ : Option Value → mH → Prop} {pc : Nat} {L : mL} {st : List Value} {n sl : Nat} {h : mH} {x : Int32} (hd : decode M.2.1 pc = .ok (.i2b, 1)) (k : MW d M n0 Φ (pc + 1) L (.int x.toInt8.toInt32 :: st) n sl h) : MW d M n0 Φ pc L (.int x :: st) n sl h := by
  intro g R p l e s m args below meth c Q X hr H locs ls hH hS hL hn
  obtain ⟨hx, hb, hml, hown, hts, hK, hmn, hsz, hsc, hR⟩ := id X
  exact lv_i2b hx hb hd rfl (k g R p l e s m args below meth c Q X hr H locs ls hH hS hL hn)
theorem st_dup {d : Nat} {M : mM} {n0 : Nat} {Φ : Option Value → mH → Prop} {pc : Nat} {L : mL} {st : List Value} {n sl : Nat} {h : mH} {v : Value} (hd : decode M.2.1 pc = .ok (.dup, 1)) (hv : v.category = 1) (k : MW d M n0 Φ (pc + 1) L (v :: v :: st) n sl h) : MW d M n0 Φ pc L (v :: st) n sl h := by
  intro g R p l e s m args below meth c Q X hr H locs ls hH hS hL hn
  obtain ⟨hx, hb, hml, hown, hts, hK, hmn, hsz, hsc, hR⟩ := id X
  exact lv_dup hx hb hd (by rw [mrl_cat]; exact hv) (k g R p l e s m args below meth c Q X hr H locs ls hH hS hL hn)
theorem st_pop {d : Nat} {M : mM} {n0 : Nat} {Φ : Option Value → mH → Prop} {pc : Nat} {L : mL} {st : List Value} {n sl : Nat} {h : mH} {v : Value} (hd : decode M.2.1 pc = .ok (.pop, 1)) (hv : v.category = 1) (k : MW d M n0 Φ (pc + 1) L (st) n sl h) : MW d M n0 Φ pc L (v :: st) n sl h := by
  intro g R p l e s m args below meth c Q X hr H locs ls hH hS hL hn
  obtain ⟨hx, hb, hml, hown, hts, hK, hmn, hsz, hsc, hR⟩ := id X
  exact lv_pop hx hb hd (by rw [mrl_cat]; exact hv) (k g R p l e s m args below meth c Q X hr H locs ls hH hS hL hn)
theorem st_dup2 {d : Nat} {M : mM} {n0 : Nat} {Φ : Option Value → mH → Prop} {pc : Nat} {L : mL} {st : List Value} {n sl : Nat} {h : mH} {v w : Value} (hd : decode M.2.1 pc = .ok (.dup2, 1)) (hv : v.category = 1) (hw : w.category = 1) (k : MW d M n0 Φ (pc + 1) L (v :: w :: v :: w :: st) n sl h) : MW d M n0 Φ pc L (v :: w :: st) n sl h := by
  intro g R p l e s m args below meth c Q X hr H locs ls hH hS hL hn
  obtain ⟨hx, hb, hml, hown, hts, hK, hmn, hsz, hsc, hR⟩ := id X
  exact lv_dup2_11 hx hb hd (by rw [mrl_cat]; exact hv) (by rw [mrl_cat]; exact hw) (k g R p l e s m args below meth c Q X hr H locs ls hH hS hL hn)
theorem st_icmp_eq {d : Nat} {M : mM} {n0 : Nat} {Φ : Option Value → mH → Prop} {pc : Nat} {L : mL} {st : List Value} {n sl : Nat} {h : mH} {x y : Int32} {off : Int} {tgt : Nat} (hd : decode M.2.1 pc = .ok (.if_icmp .eq off, 3)) (ht : (pc : Int) + off = (tgt : Int)) (k : x = y → MW d M n0 Φ tgt L st n sl h) (k2 : ¬ x = y → MW d M n0 Φ (pc + 3) L st n sl h) : MW d M n0 Φ pc L (.int y :: .int x :: st) n sl h := by
  intro g R p l e s m args below meth c Q X hr H locs ls hH hS hL hn
  obtain ⟨hx, hb, hml, hown, hts, hK, hmn, hsz, hsc, hR⟩ := id X
  exact lv_icmp_eq hx hb hd ht (fun q => k q g R p l e s m args below meth c Q X hr H locs ls hH hS hL hn) (fun q => k2 q g R p l e s m args below meth c Q X hr H locs ls hH hS hL hn)
theorem st_if_eq {d : Nat} {M : mM} {n0 : Nat} {Φ : Option Value → mH → Prop} {pc : Nat} {L : mL} {st : List Value} {n sl : Nat} {h : mH} {x : Int32} {off : Int} {tgt : Nat} (hd : decode M.2.1 pc = .ok (.ifCond .eq off, 3)) (ht : (pc : Int) + off = (tgt : Int)) (k : x = 0 → MW d M n0 Φ tgt L st n sl h) (k2 : ¬ x = 0 → MW d M n0 Φ (pc + 3) L st n sl h) : MW d M n0 Φ pc L (.int x :: st) n sl h := by
  intro g R p l e s m args below meth c Q X hr H locs ls hH hS hL hn
  obtain ⟨hx, hb, hml, hown, hts, hK, hmn, hsz, hsc, hR⟩ := id X
  exact lv_if_eq hx hb hd ht (fun q => k q g R p l e s m args below meth c Q X hr H locs ls hH hS hL hn) (fun q => k2 q g R p l e s m args below meth c Q X hr H locs ls hH hS hL hn)
theorem st_icmp_ne {d : Nat} {M : mM} {n0 : Nat} {Φ : Option Value → mH → Prop} {pc : Nat} {L : mL} {st : List Value} {n sl : Nat} {h : mH} {x y : Int32} {off : Int} {tgt : Nat} (hd : decode M.2.1 pc = .ok (.if_icmp .ne off, 3)) (ht : (pc : Int) + off = (tgt : Int)) (k : ¬ x = y → MW d M n0 Φ tgt L st n sl h) (k2 : x = y → MW d M n0 Φ (pc + 3) L st n sl h) : MW d M n0 Φ pc L (.int y :: .int x :: st) n sl h := by
  intro g R p l e s m args below meth c Q X hr H locs ls hH hS hL hn
  obtain ⟨hx, hb, hml, hown, hts, hK, hmn, hsz, hsc, hR⟩ := id X
  exact lv_icmp_ne hx hb hd ht (fun q => k q g R p l e s m args below meth c Q X hr H locs ls hH hS hL hn) (fun q => k2 q g R p l e s m args below meth c Q X hr H locs ls hH hS hL hn)
theorem st_if_ne {d : Nat} {M : mM} {n0 : Nat} {Φ : Option Value → mH → Prop} {pc : Nat} {L : mL} {st : List Value} {n sl : Nat} {h : mH} {x : Int32} {off : Int} {tgt : Nat} (hd : decode M.2.1 pc = .ok (.ifCond .ne off, 3)) (ht : (pc : Int) + off = (tgt : Int)) (k : ¬ x = 0 → MW d M n0 Φ tgt L st n sl h) (k2 : x = 0 → MW d M n0 Φ (pc + 3) L st n sl h) : MW d M n0 Φ pc L (.int x :: st) n sl h := by
  intro g R p l e s m args below meth c Q X hr H locs ls hH hS hL hn
  obtain ⟨hx, hb, hml, hown, hts, hK, hmn, hsz, hsc, hR⟩ := id X
  exact lv_if_ne hx hb hd ht (fun q => k q g R p l e s m args below meth c Q X hr H locs ls hH hS hL hn) (fun q => k2 q g R p l e s m args below meth c Q X hr H locs ls hH hS hL hn)
theorem st_icmp_lt {d : Nat} {M : mM} {n0 : Nat} {Φ : Option Value → mH → Prop} {pc : Nat} {L : mL} {st : List Value} {n sl : Nat} {h : mH} {x y : Int32} {off : Int} {tgt : Nat} (hd : decode M.2.1 pc = .ok (.if_icmp .lt off, 3)) (ht : (pc : Int) + off = (tgt : Int)) (k : x < y → MW d M n0 Φ tgt L st n sl h) (k2 : ¬ x < y → MW d M n0 Φ (pc + 3) L st n sl h) : MW d M n0 Φ pc L (.int y :: .int x :: st) n sl h := by
  intro g R p l e s m args below meth c Q X hr H locs ls hH hS hL hn
  obtain ⟨hx, hb, hml, hown, hts, hK, hmn, hsz, hsc, hR⟩ := id X
  exact lv_icmp_lt hx hb hd ht (fun q => k q g R p l e s m args below meth c Q X hr H locs ls hH hS hL hn) (fun q => k2 q g R p l e s m args below meth c Q X hr H locs ls hH hS hL hn)
theorem st_if_lt {d : Nat} {M : mM} {n0 : Nat} {Φ : Option Value → mH → Prop} {pc : Nat} {L : mL} {st : List Value} {n sl : Nat} {h : mH} {x : Int32} {off : Int} {tgt : Nat} (hd : decode M.2.1 pc = .ok (.ifCond .lt off, 3)) (ht : (pc : Int) + off = (tgt : Int)) (k : x < 0 → MW d M n0 Φ tgt L st n sl h) (k2 : ¬ x < 0 → MW d M n0 Φ (pc + 3) L st n sl h) : MW d M n0 Φ pc L (.int x :: st) n sl h := by
  intro g R p l e s m args below meth c Q X hr H locs ls hH hS hL hn
  obtain ⟨hx, hb, hml, hown, hts, hK, hmn, hsz, hsc, hR⟩ := id X
  exact lv_if_lt hx hb hd ht (fun q => k q g R p l e s m args below meth c Q X hr H locs ls hH hS hL hn) (fun q => k2 q g R p l e s m args below meth c Q X hr H locs ls hH hS hL hn)
theorem st_icmp_ge {d : Nat} {M : mM} {n0 : Nat} {Φ : Option Value → mH → Prop} {pc : Nat} {L : mL} {st : List Value} {n sl : Nat} {h : mH} {x y : Int32} {off : Int} {tgt : Nat} (hd : decode M.2.1 pc = .ok (.if_icmp .ge off, 3)) (ht : (pc : Int) + off = (tgt : Int)) (k : y ≤ x → MW d M n0 Φ tgt L st n sl h) (k2 : ¬ y ≤ x → MW d M n0 Φ (pc + 3) L st n sl h) : MW d M n0 Φ pc L (.int y :: .int x :: st) n sl h := by
  intro g R p l e s m args below meth c Q X hr H locs ls hH hS hL hn
  obtain ⟨hx, hb, hml, hown, hts, hK, hmn, hsz, hsc, hR⟩ := id X
  exact lv_icmp_ge hx hb hd ht (fun q => k q g R p l e s m args below meth c Q X hr H locs ls hH hS hL hn) (fun q => k2 q g R p l e s m args below meth c Q X hr H locs ls hH hS hL hn)
theorem st_if_ge {d : Nat} {M : mM} {n0 : Nat} {Φ : Option Value → mH → Prop} {pc : Nat} {L : mL} {st : List Value} {n sl : Nat} {h : mH} {x : Int32} {off : Int} {tgt : Nat} (hd : decode M.2.1 pc = .ok (.ifCond .ge off, 3)) (ht : (pc : Int) + off = (tgt : Int)) (k : 0 ≤ x → MW d M n0 Φ tgt L st n sl h) (k2 : ¬ 0 ≤ x → MW d M n0 Φ (pc + 3) L st n sl h) : MW d M n0 Φ pc L (.int x :: st) n sl h := by
  intro g R p l e s m args below meth c Q X hr H locs ls hH hS hL hn
  obtain ⟨hx, hb, hml, hown, hts, hK, hmn, hsz, hsc, hR⟩ := id X
  exact lv_if_ge hx hb hd ht (fun q => k q g R p l e s m args below meth c Q X hr H locs ls hH hS hL hn) (fun q => k2 q g R p l e s m args below meth c Q X hr H locs ls hH hS hL hn)
theorem st_icmp_gt {d : Nat} {M : mM} {n0 : Nat} {Φ : Option Value → mH → Prop} {pc : Nat} {L : mL} {st : List Value} {n sl : Nat} {h : mH} {x y : Int32} {off : Int} {tgt : Nat} (hd : decode M.2.1 pc = .ok (.if_icmp .gt off, 3)) (ht : (pc : Int) + off = (tgt : Int)) (k : y < x → MW d M n0 Φ tgt L st n sl h) (k2 : ¬ y < x → MW d M n0 Φ (pc + 3) L st n sl h) : MW d M n0 Φ pc L (.int y :: .int x :: st) n sl h := by
  intro g R p l e s m args below meth c Q X hr H locs ls hH hS hL hn
  obtain ⟨hx, hb, hml, hown, hts, hK, hmn, hsz, hsc, hR⟩ := id X
  exact lv_icmp_gt hx hb hd ht (fun q => k q g R p l e s m args below meth c Q X hr H locs ls hH hS hL hn) (fun q => k2 q g R p l e s m args below meth c Q X hr H locs ls hH hS hL hn)
theorem st_if_gt {d : Nat} {M : mM} {n0 : Nat} {Φ : Option Value → mH → Prop} {pc : Nat} {L : mL} {st : List Value} {n sl : Nat} {h : mH} {x : Int32} {off : Int} {tgt : Nat} (hd : decode M.2.1 pc = .ok (.ifCond .gt off, 3)) (ht : (pc : Int) + off = (tgt : Int)) (k : 0 < x → MW d M n0 Φ tgt L st n sl h) (k2 : ¬ 0 < x → MW d M n0 Φ (pc + 3) L st n sl h) : MW d M n0 Φ pc L (.int x :: st) n sl h := by
  intro g R p l e s m args below meth c Q X hr H locs ls hH hS hL hn
  obtain ⟨hx, hb, hml, hown, hts, hK, hmn, hsz, hsc, hR⟩ := id X
  exact lv_if_gt hx hb hd ht (fun q => k q g R p l e s m args below meth c Q X hr H locs ls hH hS hL hn) (fun q => k2 q g R p l e s m args below meth c Q X hr H locs ls hH hS hL hn)
theorem st_icmp_le {d : Nat} {M : mM} {n0 : Nat} {Φ : Option Value → mH → Prop} {pc : Nat} {L : mL} {st : List Value} {n sl : Nat} {h : mH} {x y : Int32} {off : Int} {tgt : Nat} (hd : decode M.2.1 pc = .ok (.if_icmp .le off, 3)) (ht : (pc : Int) + off = (tgt : Int)) (k : x ≤ y → MW d M n0 Φ tgt L st n sl h) (k2 : ¬ x ≤ y → MW d M n0 Φ (pc + 3) L st n sl h) : MW d M n0 Φ pc L (.int y :: .int x :: st) n sl h := by
  intro g R p l e s m args below meth c Q X hr H locs ls hH hS hL hn
  obtain ⟨hx, hb, hml, hown, hts, hK, hmn, hsz, hsc, hR⟩ := id X
  exact lv_icmp_le hx hb hd ht (fun q => k q g R p l e s m args below meth c Q X hr H locs ls hH hS hL hn) (fun q => k2 q g R p l e s m args below meth c Q X hr H locs ls hH hS hL hn)
theorem st_if_le {d : Nat} {M : mM} {n0 : Nat} {Φ : Option Value → mH → Prop} {pc : Nat} {L : mL} {st : List Value} {n sl : Nat} {h : mH} {x : Int32} {off : Int} {tgt : Nat} (hd : decode M.2.1 pc = .ok (.ifCond .le off, 3)) (ht : (pc : Int) + off = (tgt : Int)) (k : x ≤ 0 → MW d M n0 Φ tgt L st n sl h) (k2 : ¬ x ≤ 0 → MW d M n0 Φ (pc + 3) L st n sl h) : MW d M n0 Φ pc L (.int x :: st) n sl h := by
  intro g R p l e s m args below meth c Q X hr H locs ls hH hS hL hn
  obtain ⟨hx, hb, hml, hown, hts, hK, hmn, hsz, hsc, hR⟩ := id X
  exact lv_if_le hx hb hd ht (fun q => k q g R p l e s m args below meth c Q X hr H locs ls hH hS hL hn) (fun q => k2 q g R p l e s m args below meth c Q X hr H locs ls hH hS hL hn)
theorem st_goto {d : Nat} {M : mM} {n0 : Nat} {Φ : Option Value → mH → Prop} {pc : Nat} {L : mL} {st : List Value} {n sl : Nat} {h : mH} {off : Int} {tgt : Nat} (hd : decode M.2.1 pc = .ok (.goto off, 3)) (ht : (pc : Int) + off = (tgt : Int)) (k : MW d M n0 Φ (tgt) L (st) n sl h) : MW d M n0 Φ pc L (st) n sl h := by
  intro g R p l e s m args below meth c Q X hr H locs ls hH hS hL hn
  obtain ⟨hx, hb, hml, hown, hts, hK, hmn, hsz, hsc, hR⟩ := id X
  exact lv_goto hx hb hd ht (k g R p l e s m args below meth c Q X hr H locs ls hH hS hL hn)
theorem st_tableOut {d : Nat} {M : mM} {n0 : Nat} {Φ : Option Value → mH → Prop} {pc : Nat} {L : mL} {st : List Value} {n sl : Nat} {h : mH} {dflt lo hi : Int} {offs : Array Int} {len : Nat} {x : Int32} {tgt : Nat} (hd : decode M.2.1 pc = .ok (.tableswitch dflt lo hi offs, len)) (hc : x.toInt < lo ∨ hi < x.toInt) (ht : (pc : Int) + dflt = (tgt : Int)) (k : MW d M n0 Φ (tgt) L (st) n sl h) : MW d M n0 Φ pc L (.int x :: st) n sl h := by
  intro g R p l e s m args below meth c Q X hr H locs ls hH hS hL hn
  obtain ⟨hx, hb, hml, hown, hts, hK, hmn, hsz, hsc, hR⟩ := id X
  exact lv_tableOut hx hb hd hc ht (k g R p l e s m args below meth c Q X hr H locs ls hH hS hL hn)
theorem st_tableIn {d : Nat} {M : mM} {n0 : Nat} {Φ : Option Value → mH → Prop} {pc : Nat} {L : mL} {st : List Value} {n sl : Nat} {h : mH} {dflt lo hi : Int} {offs : Array Int} {len : Nat} {x : Int32} {off : Int} {tgt : Nat} (hd : decode M.2.1 pc = .ok (.tableswitch dflt lo hi offs, len)) (h1 : ¬ x.toInt < lo) (h2 : ¬ hi < x.toInt) (ho : offs[(x.toInt - lo).toNat]? = some off) (ht : (pc : Int) + off = (tgt : Int)) (k : MW d M n0 Φ (tgt) L (st) n sl h) : MW d M n0 Φ pc L (.int x :: st) n sl h := by
  intro g R p l e s m args below meth c Q X hr H locs ls hH hS hL hn
  obtain ⟨hx, hb, hml, hown, hts, hK, hmn, hsz, hsc, hR⟩ := id X
  exact lv_tableIn hx hb hd h1 h2 ho ht (k g R p l e s m args below meth c Q X hr H locs ls hH hS hL hn)
theorem st_lookup {d : Nat} {M : mM} {n0 : Nat} {Φ : Option Value → mH → Prop} {pc : Nat} {L : mL} {st : List Value} {n sl : Nat} {h : mH} {dflt : Int} {ps : Array (Int × Int)} {len : Nat} {x : Int32} {off : Int} {tgt : Nat} (hd : decode M.2.1 pc = .ok (.lookupswitch dflt ps, len)) (hp : (ps.toList.zip (ps.toList.drop 1)).all (fun (a, next) => a.1 < next.1) = true) (ho : Op.lookupswitch.offset ps.toList dflt x.toInt = off) (ht : (pc : Int) + off = (tgt : Int)) (k : MW d M n0 Φ (tgt) L (st) n sl h) : MW d M n0 Φ pc L (.int x :: st) n sl h := by
  intro g R p l e s m args below meth c Q X hr H locs ls hH hS hL hn
  obtain ⟨hx, hb, hml, hown, hts, hK, hmn, hsz, hsc, hR⟩ := id X
  exact lv_lookup hx hb hd hp ho ht (k g R p l e s m args below meth c Q X hr H locs ls hH hS hL hn)
theorem vw_ok {ci : Nat} {C : String} {T : u_T} {N : Nat} (hc : vwCl[ci]? = some (C, T, N)) : ci < 9 ∧ (∀ w ∈ u_ws C T N, w ∈ mTb) ∧ (∃ ty : Nat → FieldType, ∀ k, k < N → parseFieldDescriptor (T k).2.2.1 = some (ty k)) ∧ ∀ a, a < N → ∀ b, b < N → a ≠ b → (T a).2.1 ≠ (T b).2.1 := by
  match ci, hc with
  | 0, hc => cases hc; exact ⟨by omega, inY inX0 (by decide +kernel), ⟨tyX0, tyX0_ok⟩, nmX0⟩
  | 1, hc => cases hc; exact ⟨by omega, inY inX1 (by decide +kernel), ⟨tyX1, tyX1_ok⟩, nmX1⟩
  | 2, hc => cases hc; exact ⟨by omega, inY inX2 (by decide +kernel), ⟨tyX2, tyX2_ok⟩, nmX2⟩
  | 3, hc => cases hc; exact ⟨by omega, inY inX3 (by decide +kernel), ⟨tyX3, tyX3_ok⟩, nmX3⟩
  | 4, hc => cases hc; exact ⟨by omega, inY inX4 (by decide +kernel), ⟨tyX4, tyX4_ok⟩, nmX4⟩
  | 5, hc => cases hc; exact ⟨by omega, inY inX5 (by decide +kernel), ⟨tyX5, tyX5_ok⟩, nmX5⟩
  | 6, hc => cases hc; exact ⟨by omega, inY inX6 (by decide +kernel), ⟨tyX6, tyX6_ok⟩, nmX6⟩
  | 7, hc => cases hc; exact ⟨by omega, inY inX7 (by decide +kernel), ⟨tyX7, tyX7_ok⟩, nmX7⟩
  | 8, hc => cases hc; exact ⟨by omega, inY inX8 (by decide +kernel), ⟨tyX8, tyX8_ok⟩, nmX8⟩
  | k + 9, hc => simp [vwCl] at hc

theorem mHI.obj {g : mG} {n : Nat} {h : mH} {H : Heap} (hH : mHI g n h H) {a ci : Nat} {fs : List Value} (ha : h a = .inr (ci, fs)) (hc : ci < 9) : a < n ∧ mat g (.inr (ci, fs)) (g.1 + a) H := by
  have hlt := hH.lt (a := a) (fun q => by rw [ha] at q; simp [mjk] at q; omega)
  exact ⟨hlt, by rw [← ha]; exact hH.2.2 a hlt⟩
theorem mHI.arr {g : mG} {n : Nat} {h : mH} {H : Heap} (hH : mHI g n h H) {a t N : Nat} {f : Nat → Value} (ha : h a = .inl (t, N, f)) : a < n ∧ mat g (.inl (t, N, f)) (g.1 + a) H := by
  have hlt := hH.lt (a := a) (fun q => by rw [ha] at q; simp [mjk] at q)
  exact ⟨hlt, by rw [← ha]; exact hH.2.2 a hlt⟩

theorem st_getfield {d : Nat} {M : mM} {n0 : Nat} {Φ : Option Value → mH → Prop} {pc : Nat} {L : mL} {st : List Value} {n sl : Nat} {h : mH} {i ci b a N : Nat} {C host : String} {T : u_T} {fs : List Value} {v : Value} (hd : decode M.2.1 pc = .ok (.getfield i, 3)) (hc : vwCl[ci]? = some (C, T, N)) (hbN : b < N) (hw : Cond.fieldLink M.1.cls i (T b).1 (T b).2.1 (T b).2.2.1 ∈ mTb) (ha : h a = .inr (ci, fs)) (hv : fs[b]? = some v) (k : MW d M n0 Φ (pc + 3) L (v :: st) n sl h) : MW d M n0 Φ pc L (.ref a :: st) n sl h := by
  intro g R p l e s m args below meth c Q X hr H locs ls hH hS hL hn
  obtain ⟨hx, hb, hml, hown, hts, hK, hmn, hsz, hsc, hR⟩ := id X
  obtain ⟨hc9, hin, -, -⟩ := vw_ok hc
  obtain ⟨hlt, r, h1, cell, q1, q2, q3, q4⟩ := hH.obj ha hc9
  have hr' : r = (C, T, N) := Option.some.inj (h1.symm.trans hc)
  subst hr'
  obtain ⟨hSl, hfc, kC, hkC, hkind⟩ := hK.1 ci _ hc
  obtain ⟨cf, kf, fi, f, hi, hsl⟩ := hSl b hbN
  refine W.getf hx hb hown (hts _ hw) hi (u_facts hfc hkC (u_lays hts hin hbN) hi).1 q1 (by rw [q3]; exact fun h => by cases h) (v := mrl g v) ?_ rfl rfl hd (k g R p l e s m args below meth c Q X hr H locs ls hH hS hL hn)
  rw [hsl, q4 b hbN]
  simp [vp_V, hv]
theorem st_getfieldN {d : Nat} {M : mM} {n0 : Nat} {Φ : Option Value → mH → Prop} {pc : Nat} {L : mL} {st : List Value} {n sl : Nat} {h : mH} {i ci b a N : Nat} {C host : String} {T : u_T} {fs : List Value} {v : Value} (hd : decode M.2.1 pc = .ok (.getfield i, 3)) (hc : vwCl[ci]? = some (C, T, N)) (hbN : b < N) (hw : Cond.fieldLinkNest M.1.cls i (T b).1 (T b).2.1 (T b).2.2.1 host ∈ mTb) (ha : h a = .inr (ci, fs)) (hv : fs[b]? = some v) (k : MW d M n0 Φ (pc + 3) L (v :: st) n sl h) : MW d M n0 Φ pc L (.ref a :: st) n sl h := by
  intro g R p l e s m args below meth c Q X hr H locs ls hH hS hL hn
  obtain ⟨hx, hb, hml, hown, hts, hK, hmn, hsz, hsc, hR⟩ := id X
  obtain ⟨hc9, hin, -, -⟩ := vw_ok hc
  obtain ⟨hlt, r, h1, cell, q1, q2, q3, q4⟩ := hH.obj ha hc9
  have hr' : r = (C, T, N) := Option.some.inj (h1.symm.trans hc)
  subst hr'
  obtain ⟨hSl, hfc, kC, hkC, hkind⟩ := hK.1 ci _ hc
  obtain ⟨cf, kf, fi, f, hi, hsl⟩ := hSl b hbN
  refine va_Wgetf hx hb hown (hts _ hw) hi (u_facts hfc hkC (u_lays hts hin hbN) hi).1 q1 (by rw [q3]; exact fun h => by cases h) (v := mrl g v) ?_ rfl rfl hd (k g R p l e s m args below meth c Q X hr H locs ls hH hS hL hn)
  rw [hsl, q4 b hbN]
  simp [vp_V, hv]
theorem st_putfield {d : Nat} {M : mM} {n0 : Nat} {Φ : Option Value → mH → Prop} {pc : Nat} {L : mL} {st : List Value} {n sl : Nat} {h : mH} {i ci b a N : Nat} {C host : String} {T : u_T} {fs : List Value} {v : Value} {ty : FieldType} (hd : decode M.2.1 pc = .ok (.putfield i, 3)) (hc : vwCl[ci]? = some (C, T, N)) (hbN : b < N) (hw : Cond.fieldLink M.1.cls i (T b).1 (T b).2.1 (T b).2.2.1 ∈ mTb) (ha : h a = .inr (ci, fs)) (hlen : b < fs.length) (hfin : (T b).2.2.2 = false) (hty0 : parseFieldDescriptor (T b).2.2.1 = some ty) (hnr : ∀ g : mG, narrow ty (mrl g v) = mrl g v ∧ fits ty (mrl g v) = true) (k : MW d M n0 Φ (pc + 3) L (st) n sl (hu h a (.inr (ci, fs.set b v)))) : MW d M n0 Φ pc L (v :: .ref a :: st) n sl h := by
  intro g R p l e s m args below meth c Q X hr H locs ls hH hS hL hn
  obtain ⟨hx, hb, hml, hown, hts, hK, hmn, hsz, hsc, hR⟩ := id X
  obtain ⟨hc9, hin, ⟨ty0, hty⟩, hnm⟩ := vw_ok hc
  have hap := va_apart (own := M.1.cls) hts hin ty0 hty hnm hK hc
  obtain ⟨hlt, r, h1, cell, q1, q2, q3, q4⟩ := hH.obj ha hc9
  have hr' : r = (C, T, N) := Option.some.inj (h1.symm.trans hc)
  subst hr'
  obtain ⟨hSl, hfc, kC, hkC, hkind⟩ := hK.1 ci _ hc
  obtain ⟨cf, kf, fi, f, hi, hsl⟩ := hSl b hbN
  have hlay := hts _ (hin _ (u_in_lay hbN))
  unfold u_lay at hlay
  rw [if_neg (by rw [hfin]; decide)] at hlay
  have hst := (u_facts hfc hkC (u_lays hts hin hbN) hi).1
  have h6 := u_store hfc hkC hkind hlay hi hty0 (hnr g).1 (hnr g).2
  refine W.putK hx hb (f := f) ⟨hown, hts _ hw, ⟨_, _, _, hi⟩, hst⟩ (by rw [q2]; exact h6) q1 q3 (by rw [hsl]; exact k2_hasslot (q4 b hbN)) rfl rfl hd fun H' e1 e2 e3 => ?_
  rw [hsl] at e1 ⊢
  refine k g R p l e s m args below meth c Q X hr H' _ ls (hH.put hlt e2 e3 ⟨_, hc, t_OB.to (V := updV (vp_V (fs.map (mrl g))) b (mrl g v)) ⟨_, e1, q2, q3, t_set q4 hap hbN (mrl g v)⟩ (fun j _ => ?_)⟩) (hS.put e2 e3 (Nat.le_add_right _ _)) hL hn
  rw [vp_updV_set (by rw [List.length_map]; exact hlen), List.map_set]
theorem st_putfieldN {d : Nat} {M : mM} {n0 : Nat} {Φ : Option Value → mH → Prop} {pc : Nat} {L : mL} {st : List Value} {n sl : Nat} {h : mH} {i ci b a N : Nat} {C host : String} {T : u_T} {fs : List Value} {v : Value} {ty : FieldType} (hd : decode M.2.1 pc = .ok (.putfield i, 3)) (hc : vwCl[ci]? = some (C, T, N)) (hbN : b < N) (hw : Cond.fieldLinkNest M.1.cls i (T b).1 (T b).2.1 (T b).2.2.1 host ∈ mTb) (ha : h a = .inr (ci, fs)) (hlen : b < fs.length) (hfin : (T b).2.2.2 = false) (hty0 : parseFieldDescriptor (T b).2.2.1 = some ty) (hnr : ∀ g : mG, narrow ty (mrl g v) = mrl g v ∧ fits ty (mrl g v) = true) (k : MW d M n0 Φ (pc + 3) L (st) n sl (hu h a (.inr (ci, fs.set b v)))) : MW d M n0 Φ pc L (v :: .ref a :: st) n sl h := by
  intro g R p l e s m args below meth c Q X hr H locs ls hH hS hL hn
  obtain ⟨hx, hb, hml, hown, hts, hK, hmn, hsz, hsc, hR⟩ := id X
  obtain ⟨hc9, hin, ⟨ty0, hty⟩, hnm⟩ := vw_ok hc
  have hap := va_apart (own := M.1.cls) hts hin ty0 hty hnm hK hc
  obtain ⟨hlt, r, h1, cell, q1, q2, q3, q4⟩ := hH.obj ha hc9
  have hr' : r = (C, T, N) := Option.some.inj (h1.symm.trans hc)
  subst hr'
  obtain ⟨hSl, hfc, kC, hkC, hkind⟩ := hK.1 ci _ hc
  obtain ⟨cf, kf, fi, f, hi, hsl⟩ := hSl b hbN
  have hlay := hts _ (hin _ (u_in_lay hbN))
  unfold u_lay at hlay
  rw [if_neg (by rw [hfin]; decide)] at hlay
  have hst := (u_facts hfc hkC (u_lays hts hin hbN) hi).1
  have h6 := u_store hfc hkC hkind hlay hi hty0 (hnr g).1 (hnr g).2
  refine va_WputK hx hb (f := f) hown (hts _ hw) hi hst (by rw [q2]; exact h6) q1 q3 (by rw [hsl]; exact k2_hasslot (q4 b hbN)) rfl rfl hd fun H' e1 e2 e3 => ?_
  rw [hsl] at e1 ⊢
  refine k g R p l e s m args below meth c Q X hr H' _ ls (hH.put hlt e2 e3 ⟨_, hc, t_OB.to (V := updV (vp_V (fs.map (mrl g))) b (mrl g v)) ⟨_, e1, q2, q3, t_set q4 hap hbN (mrl g v)⟩ (fun j _ => ?_)⟩) (hS.put e2 e3 (Nat.le_add_right _ _)) hL hn
  rw [vp_updV_set (by rw [List.length_map]; exact hlen), List.map_set]
theorem st_putfieldF {d : Nat} {M : mM} {n0 : Nat} {Φ : Option Value → mH → Prop} {pc : Nat} {L : mL} {st : List Value} {n sl : Nat} {h : mH} {i ci b a N : Nat} {C host : String} {T : u_T} {fs : List Value} {v : Value} {ty : FieldType} (hd : decode M.2.1 pc = .ok (.putfield i, 3)) (hc : vwCl[ci]? = some (C, T, N)) (hbN : b < N) (hw : Cond.fieldLink M.1.cls i (T b).1 (T b).2.1 (T b).2.2.1 ∈ mTb) (ha : h a = .inr (ci, fs)) (hlen : b < fs.length) (hfin : (T b).2.2.2 = true) (hini : M.1.name = "<init>") (hdecl : (T b).1 = M.1.cls) (hty0 : parseFieldDescriptor (T b).2.2.1 = some ty) (hnr : ∀ g : mG, narrow ty (mrl g v) = mrl g v ∧ fits ty (mrl g v) = true) (k : MW d M n0 Φ (pc + 3) L (st) n sl (hu h a (.inr (ci, fs.set b v)))) : MW d M n0 Φ pc L (v :: .ref a :: st) n sl h := by
  intro g R p l e s m args below meth c Q X hr H locs ls hH hS hL hn
  obtain ⟨hx, hb, hml, hown, hts, hK, hmn, hsz, hsc, hR⟩ := id X
  obtain ⟨hc9, hin, ⟨ty0, hty⟩, hnm⟩ := vw_ok hc
  have hap := va_apart (own := M.1.cls) hts hin ty0 hty hnm hK hc
  obtain ⟨hlt, r, h1, cell, q1, q2, q3, q4⟩ := hH.obj ha hc9
  have hr' : r = (C, T, N) := Option.some.inj (h1.symm.trans hc)
  subst hr'
  obtain ⟨hSl, hfc, kC, hkC, hkind⟩ := hK.1 ci _ hc
  obtain ⟨cf, kf, fi, f, hi, hsl⟩ := hSl b hbN
  have hlay := hts _ (hin _ (u_in_lay hbN))
  unfold u_lay at hlay
  rw [if_pos hfin] at hlay
  have hst := (u_facts hfc hkC (u_lays hts hin hbN) hi).1
  have hcf : m.cls = cf := by
    obtain ⟨_, _, c', _, _, _, -, -, hf', -, -, -, hown2, -⟩ := Cond.laysFinal_spec hlay
    have e1 : c' = cf := by have := hi.symm.trans hf'; simp at this; exact this.1.symm
    rw [hdecl] at hown2
    rw [← e1]; exact Option.some.inj (hown.symm.trans hown2)
  have h6 := u_fits hfc hkC hkind (Or.inr hlay) hi hty0 (hnr g).1 (hnr g).2
  refine W.putFinK hx hb hown (hts _ hw) hi hst hcf (hmn.trans hini) (by rw [q2]; exact h6) q1 q3 (by rw [hsl]; exact k2_hasslot (q4 b hbN)) rfl rfl hd fun H' e1 e2 e3 => ?_
  rw [hsl] at e1 ⊢
  refine k g R p l e s m args below meth c Q X hr H' _ ls (hH.put hlt e2 e3 ⟨_, hc, t_OB.to (V := updV (vp_V (fs.map (mrl g))) b (mrl g v)) ⟨_, e1, q2, q3, t_set q4 hap hbN (mrl g v)⟩ (fun j _ => ?_)⟩) (hS.put e2 e3 (Nat.le_add_right _ _)) hL hn
  rw [vp_updV_set (by rw [List.length_map]; exact hlen), List.map_set]
theorem st_iaload {d : Nat} {M : mM} {n0 : Nat} {Φ : Option Value → mH → Prop} {pc : Nat} {L : mL} {st : List Value} {n sl : Nat} {h : mH} {a N : Nat} {f : Nat → Value} {i : Int32} (hd : decode M.2.1 pc = .ok (.iaload, 1)) (ha : h a = .inl (0, N, f)) (hi : vp_in i N) (k : MW d M n0 Φ (pc + 1) L (f i.toNatClampNeg :: st) n sl h) : MW d M n0 Φ pc L (.int i :: .ref a :: st) n sl h := by
  intro g R p l e s m args below meth c Q X hr H locs ls hH hS hL hn
  obtain ⟨hx, hb, hml, hown, hts, hK, hmn, hsz, hsc, hR⟩ := id X
  obtain ⟨hlt, hA⟩ := hH.arr ha
  have hj : i.toNatClampNeg < N := Nat.not_le.mp fun q => hi (Or.inr q)
  exact W.iald (v := mrl g (f i.toNatClampNeg)) hx hb hA ((hK.2 0 _ (mtl_at g (by omega))).1 N _) (fun q => by cases q) (by rw [arrV_size]; exact hi) (by rw [arrV_read _ _ hj]) rfl rfl hd (k g R p l e s m args below meth c Q X hr H locs ls hH hS hL hn)
theorem st_zaload {d : Nat} {M : mM} {n0 : Nat} {Φ : Option Value → mH → Prop} {pc : Nat} {L : mL} {st : List Value} {n sl : Nat} {h : mH} {a N : Nat} {f : Nat → Value} {i : Int32} (hd : decode M.2.1 pc = .ok (.baload, 1)) (ha : h a = .inl (1, N, f)) (hi : vp_in i N) (k : MW d M n0 Φ (pc + 1) L (f i.toNatClampNeg :: st) n sl h) : MW d M n0 Φ pc L (.int i :: .ref a :: st) n sl h := by
  intro g R p l e s m args below meth c Q X hr H locs ls hH hS hL hn
  obtain ⟨hx, hb, hml, hown, hts, hK, hmn, hsz, hsc, hR⟩ := id X
  obtain ⟨hlt, hA⟩ := hH.arr ha
  have hj : i.toNatClampNeg < N := Nat.not_le.mp fun q => hi (Or.inr q)
  exact W.zald (v := mrl g (f i.toNatClampNeg)) hx hb hA ((hK.2 1 _ (mtl_at g (by omega))).1 N _) (fun q => by cases q) (by rw [arrV_size]; exact hi) (by rw [arrV_read _ _ hj]) rfl rfl hd (k g R p l e s m args below meth c Q X hr H locs ls hH hS hL hn)
theorem st_baload {d : Nat} {M : mM} {n0 : Nat} {Φ : Option Value → mH → Prop} {pc : Nat} {L : mL} {st : List Value} {n sl : Nat} {h : mH} {a N : Nat} {f : Nat → Value} {i : Int32} (hd : decode M.2.1 pc = .ok (.baload, 1)) (ha : h a = .inl (2, N, f)) (hi : vp_in i N) (k : MW d M n0 Φ (pc + 1) L (f i.toNatClampNeg :: st) n sl h) : MW d M n0 Φ pc L (.int i :: .ref a :: st) n sl h := by
  intro g R p l e s m args below meth c Q X hr H locs ls hH hS hL hn
  obtain ⟨hx, hb, hml, hown, hts, hK, hmn, hsz, hsc, hR⟩ := id X
  obtain ⟨hlt, hA⟩ := hH.arr ha
  have hj : i.toNatClampNeg < N := Nat.not_le.mp fun q => hi (Or.inr q)
  exact W.bald (v := mrl g (f i.toNatClampNeg)) hx hb hA ((hK.2 2 _ (mtl_at g (by omega))).1 N _) (fun q => by cases q) (by rw [arrV_size]; exact hi) (by rw [arrV_read _ _ hj]) rfl rfl hd (k g R p l e s m args below meth c Q X hr H locs ls hH hS hL hn)
theorem st_laload {d : Nat} {M : mM} {n0 : Nat} {Φ : Option Value → mH → Prop} {pc : Nat} {L : mL} {st : List Value} {n sl : Nat} {h : mH} {a N : Nat} {f : Nat → Value} {i : Int32} (hd : decode M.2.1 pc = .ok (.laload, 1)) (ha : h a = .inl (3, N, f)) (hi : vp_in i N) (k : MW d M n0 Φ (pc + 1) L (f i.toNatClampNeg :: st) n sl h) : MW d M n0 Φ pc L (.int i :: .ref a :: st) n sl h := by
  intro g R p l e s m args below meth c Q X hr H locs ls hH hS hL hn
  obtain ⟨hx, hb, hml, hown, hts, hK, hmn, hsz, hsc, hR⟩ := id X
  obtain ⟨hlt, hA⟩ := hH.arr ha
  have hj : i.toNatClampNeg < N := Nat.not_le.mp fun q => hi (Or.inr q)
  exact W.lald (v := mrl g (f i.toNatClampNeg)) hx hb hA ((hK.2 3 _ (mtl_at g (by omega))).1 N _) (fun q => by cases q) (by rw [arrV_size]; exact hi) (by rw [arrV_read _ _ hj]) rfl rfl hd (k g R p l e s m args below meth c Q X hr H locs ls hH hS hL hn)
theorem st_aaload4 {d : Nat} {M : mM} {n0 : Nat} {Φ : Option Value → mH → Prop} {pc : Nat} {L : mL} {st : List Value} {n sl : Nat} {h : mH} {a N : Nat} {f : Nat → Value} {i : Int32} (hd : decode M.2.1 pc = .ok (.aaload, 1)) (ha : h a = .inl (4, N, f)) (hi : vp_in i N) (k : MW d M n0 Φ (pc + 1) L (f i.toNatClampNeg :: st) n sl h) : MW d M n0 Φ pc L (.int i :: .ref a :: st) n sl h := by
  intro g R p l e s m args below meth c Q X hr H locs ls hH hS hL hn
  obtain ⟨hx, hb, hml, hown, hts, hK, hmn, hsz, hsc, hR⟩ := id X
  obtain ⟨hlt, hA⟩ := hH.arr ha
  have hj : i.toNatClampNeg < N := Nat.not_le.mp fun q => hi (Or.inr q)
  exact W.aald (v := mrl g (f i.toNatClampNeg)) (ty := mty 4) hx hb hA ((hK.2 4 _ (mtl_at g (by omega))).1 N _) rfl (fun q => by cases q) (by rw [arrV_size]; exact hi) (by rw [arrV_read _ _ hj]) rfl rfl hd (k g R p l e s m args below meth c Q X hr H locs ls hH hS hL hn)
theorem st_aaload5 {d : Nat} {M : mM} {n0 : Nat} {Φ : Option Value → mH → Prop} {pc : Nat} {L : mL} {st : List Value} {n sl : Nat} {h : mH} {a N : Nat} {f : Nat → Value} {i : Int32} (hd : decode M.2.1 pc = .ok (.aaload, 1)) (ha : h a = .inl (5, N, f)) (hi : vp_in i N) (k : MW d M n0 Φ (pc + 1) L (f i.toNatClampNeg :: st) n sl h) : MW d M n0 Φ pc L (.int i :: .ref a :: st) n sl h := by
  intro g R p l e s m args below meth c Q X hr H locs ls hH hS hL hn
  obtain ⟨hx, hb, hml, hown, hts, hK, hmn, hsz, hsc, hR⟩ := id X
  obtain ⟨hlt, hA⟩ := hH.arr ha
  have hj : i.toNatClampNeg < N := Nat.not_le.mp fun q => hi (Or.inr q)
  exact W.aald (v := mrl g (f i.toNatClampNeg)) (ty := mty 5) hx hb hA ((hK.2 5 _ (mtl_at g (by omega))).1 N _) rfl (fun q => by cases q) (by rw [arrV_size]; exact hi) (by rw [arrV_read _ _ hj]) rfl rfl hd (k g R p l e s m args below meth c Q X hr H locs ls hH hS hL hn)
theorem st_alen {d : Nat} {M : mM} {n0 : Nat} {Φ : Option Value → mH → Prop} {pc : Nat} {L : mL} {st : List Value} {n sl : Nat} {h : mH} {a t N : Nat} {f : Nat → Value} (hd : decode M.2.1 pc = .ok (.arraylength, 1)) (ht : t < 6) (ha : h a = .inl (t, N, f)) (k : MW d M n0 Φ (pc + 1) L (.int (nI N) :: st) n sl h) : MW d M n0 Φ pc L (.ref a :: st) n sl h := by
  intro g R p l e s m args below meth c Q X hr H locs ls hH hS hL hn
  obtain ⟨hx, hb, hml, hown, hts, hK, hmn, hsz, hsc, hR⟩ := id X
  obtain ⟨hlt, hA⟩ := hH.arr ha
  exact W.alen (n := nI N) hx hb hA ((hK.2 t _ (mtl_at g ht)).1 N _) (by rw [arrV_size]; rfl) rfl rfl hd (k g R p l e s m args below meth c Q X hr H locs ls hH hS hL hn)
theorem st_slen {d : Nat} {M : mM} {n0 : Nat} {Φ : Option Value → mH → Prop} {pc : Nat} {L : mL} {st : List Value} {n sl : Nat} {h : mH} {N x : Nat} {xs : Nat → Int32} (hd : decode M.2.1 pc = .ok (.arraylength, 1)) (hs : M.2.2.2.2.2.2.2 = some (N, xs)) (k : MW d M n0 Φ (pc + 1) L (.int (nI N) :: st) n sl h) : MW d M n0 Φ pc L (.retAddr x :: st) n sl h := by
  intro g R p l e s m args below meth c Q X hr H locs ls hH hS hL hn
  obtain ⟨hx, hb, hml, hown, hts, hK, hmn, hsz, hsc, hR⟩ := id X
  obtain ⟨hX, hlt⟩ := hsc N xs hs
  exact va_slen hx hb hX (by omega) (Nat.not_le.mpr hlt) hS hd (k g R p l e s m args below meth c Q X hr H locs ls hH hS hL hn)
theorem st_sld {d : Nat} {M : mM} {n0 : Nat} {Φ : Option Value → mH → Prop} {pc : Nat} {L : mL} {st : List Value} {n sl : Nat} {h : mH} {N x : Nat} {xs : Nat → Int32} {i : Int32} (hd : decode M.2.1 pc = .ok (.iaload, 1)) (hs : M.2.2.2.2.2.2.2 = some (N, xs)) (hi : vp_in i N) (k : MW d M n0 Φ (pc + 1) L (.int (xs i.toNatClampNeg) :: st) n sl h) : MW d M n0 Φ pc L (.int i :: .retAddr x :: st) n sl h := by
  intro g R p l e s m args below meth c Q X hr H locs ls hH hS hL hn
  obtain ⟨hx, hb, hml, hown, hts, hK, hmn, hsz, hsc, hR⟩ := id X
  obtain ⟨hX, hlt⟩ := hsc N xs hs
  exact va_sld hx hb hX (by omega) (Nat.not_le.mpr hlt) hS hi hd (k g R p l e s m args below meth c Q X hr H locs ls hH hS hL hn)
theorem st_iastore {d : Nat} {M : mM} {n0 : Nat} {Φ : Option Value → mH → Prop} {pc : Nat} {L : mL} {st : List Value} {n sl : Nat} {h : mH} {a N : Nat} {f : Nat → Value} {i : Int32} {x : Int32} (hd : decode M.2.1 pc = .ok (.iastore, 1)) (ha : h a = .inl (0, N, f)) (hi : vp_in i N) (k : MW d M n0 Φ (pc + 1) L (st) n sl (hu h a (.inl (0, N, updV f i.toNatClampNeg (.int x))))) : MW d M n0 Φ pc L (.int x :: .int i :: .ref a :: st) n sl h := by
  intro g R p l e s m args below meth c Q X hr H locs ls hH hS hL hn
  obtain ⟨hx, hb, hml, hown, hts, hK, hmn, hsz, hsc, hR⟩ := id X
  obtain ⟨hlt, hA⟩ := hH.arr ha
  refine W.iast hx hb hA ((hK.2 0 _ (mtl_at g (by omega))).1 N _) (fun q => by cases q) (by rw [arrV_size]; exact hi) rfl rfl hd fun H1 e1 z oq => ?_
  refine k g R p l e s m args below meth c Q X hr H1 _ ls (hH.put hlt z oq ?_) (hS.put z oq (Nat.le_add_right _ _)) hL hn
  show H1[g.1 + a]? = some _
  rw [e1, arrV_store]
  congr 2
  funext q
  by_cases hq : q = i.toNatClampNeg
  · subst hq; simp [updV, mrl]
  · simp [updV, hq]
theorem st_zastore {d : Nat} {M : mM} {n0 : Nat} {Φ : Option Value → mH → Prop} {pc : Nat} {L : mL} {st : List Value} {n sl : Nat} {h : mH} {a N : Nat} {f : Nat → Value} {i : Int32} {x : Int32} (hd : decode M.2.1 pc = .ok (.bastore, 1)) (ha : h a = .inl (1, N, f)) (hi : vp_in i N) (k : MW d M n0 Φ (pc + 1) L (st) n sl (hu h a (.inl (1, N, updV f i.toNatClampNeg (.int (vp_nar .boolean x)))))) : MW d M n0 Φ pc L (.int x :: .int i :: .ref a :: st) n sl h := by
  intro g R p l e s m args below meth c Q X hr H locs ls hH hS hL hn
  obtain ⟨hx, hb, hml, hown, hts, hK, hmn, hsz, hsc, hR⟩ := id X
  obtain ⟨hlt, hA⟩ := hH.arr ha
  refine W.zast hx hb hA ((hK.2 1 _ (mtl_at g (by omega))).1 N _) (fun q => by cases q) (by rw [arrV_size]; exact hi) rfl rfl hd fun H1 e1 z oq => ?_
  refine k g R p l e s m args below meth c Q X hr H1 _ ls (hH.put hlt z oq ?_) (hS.put z oq (Nat.le_add_right _ _)) hL hn
  show H1[g.1 + a]? = some _
  rw [e1, arrV_store]
  congr 2
  funext q
  by_cases hq : q = i.toNatClampNeg
  · subst hq; simp [updV, mrl, vp_nar, narrow]
  · simp [updV, hq]
theorem st_bastore {d : Nat} {M : mM} {n0 : Nat} {Φ : Option Value → mH → Prop} {pc : Nat} {L : mL} {st : List Value} {n sl : Nat} {h : mH} {a N : Nat} {f : Nat → Value} {i : Int32} {x : Int32} (hd : decode M.2.1 pc = .ok (.bastore, 1)) (ha : h a = .inl (2, N, f)) (hi : vp_in i N) (k : MW d M n0 Φ (pc + 1) L (st) n sl (hu h a (.inl (2, N, updV f i.toNatClampNeg (.int (vp_nar .byte x)))))) : MW d M n0 Φ pc L (.int x :: .int i :: .ref a :: st) n sl h := by
  intro g R p l e s m args below meth c Q X hr H locs ls hH hS hL hn
  obtain ⟨hx, hb, hml, hown, hts, hK, hmn, hsz, hsc, hR⟩ := id X
  obtain ⟨hlt, hA⟩ := hH.arr ha
  refine W.bast hx hb hA ((hK.2 2 _ (mtl_at g (by omega))).1 N _) (fun q => by cases q) (by rw [arrV_size]; exact hi) rfl rfl hd fun H1 e1 z oq => ?_
  refine k g R p l e s m args below meth c Q X hr H1 _ ls (hH.put hlt z oq ?_) (hS.put z oq (Nat.le_add_right _ _)) hL hn
  show H1[g.1 + a]? = some _
  rw [e1, arrV_store]
  congr 2
  funext q
  by_cases hq : q = i.toNatClampNeg
  · subst hq; simp [updV, mrl, vp_nar, narrow]
  · simp [updV, hq]
theorem st_lastore {d : Nat} {M : mM} {n0 : Nat} {Φ : Option Value → mH → Prop} {pc : Nat} {L : mL} {st : List Value} {n sl : Nat} {h : mH} {a N : Nat} {f : Nat → Value} {i : Int32} {x : Int64} (hd : decode M.2.1 pc = .ok (.lastore, 1)) (ha : h a = .inl (3, N, f)) (hi : vp_in i N) (k : MW d M n0 Φ (pc + 1) L (st) n sl (hu h a (.inl (3, N, updV f i.toNatClampNeg (.long x))))) : MW d M n0 Φ pc L (.long x :: .int i :: .ref a :: st) n sl h := by
  intro g R p l e s m args below meth c Q X hr H locs ls hH hS hL hn
  obtain ⟨hx, hb, hml, hown, hts, hK, hmn, hsz, hsc, hR⟩ := id X
  obtain ⟨hlt, hA⟩ := hH.arr ha
  refine W.last hx hb hA ((hK.2 3 _ (mtl_at g (by omega))).1 N _) (fun q => by cases q) (by rw [arrV_size]; exact hi) rfl rfl hd fun H1 e1 z oq => ?_
  refine k g R p l e s m args below meth c Q X hr H1 _ ls (hH.put hlt z oq ?_) (hS.put z oq (Nat.le_add_right _ _)) hL hn
  show H1[g.1 + a]? = some _
  rw [e1, arrV_store]
  congr 2
  funext q
  by_cases hq : q = i.toNatClampNeg
  · subst hq; simp [updV, mrl]
  · simp [updV, hq]
theorem st_aastore4 {d : Nat} {M : mM} {n0 : Nat} {Φ : Option Value → mH → Prop} {pc : Nat} {L : mL} {st : List Value} {n sl : Nat} {h : mH} {a v N : Nat} {f : Nat → Value} {fs : List Value} {i : Int32} (hd : decode M.2.1 pc = .ok (.aastore, 1)) (ha : h a = .inl (4, N, f)) (hv : h v = .inr (3, fs)) (hi : vp_in i N) (k : MW d M n0 Φ (pc + 1) L (st) n sl (hu h a (.inl (4, N, updV f i.toNatClampNeg (.ref v))))) : MW d M n0 Φ pc L (.ref v :: .int i :: .ref a :: st) n sl h := by
  intro g R p l e s m args below meth c Q X hr H locs ls hH hS hL hn
  obtain ⟨hx, hb, hml, hown, hts, hK, hmn, hsz, hsc, hR⟩ := id X
  obtain ⟨hlt, hA⟩ := hH.arr ha
  have hj : i.toNatClampNeg < N := Nat.not_le.mp fun q => hi (Or.inr q)
  have h0 : ¬ i < 0 := fun q => hi (Or.inl q)
  obtain ⟨hlv, r', hr', cellV, g1, g2, g3, -⟩ := hH.obj hv (by omega)
  have hcls := (hK.1 3 _ rfl).2
  obtain ⟨kA, comp, k1, k2, k3, -⟩ := (hK.2 4 _ (mtl_at g (by omega))).2
  have hcomp : comp = g.2.1.1 3 := Option.some.inj (k3.symm.trans hcls.1)
  subst hcomp
  obtain ⟨kC, hkC, -⟩ := hcls.2
  refine W.aast hx hb hA (fun q h => by cases h) (fun h => by cases h) k1 k2 rfl hkC ⟨h0, by rw [arrV_size]; exact hj⟩ g1 (fun q h => by rw [g3] at h; cases h) (by rw [g2]; exact hkC) (by rw [g2]; exact va_assign hcls) rfl rfl hd fun H1 e1 z oq => ?_
  refine k g R p l e s m args below meth c Q X hr H1 _ ls (hH.put hlt z oq ?_) (hS.put z oq (Nat.le_add_right _ _)) hL hn
  show H1[g.1 + a]? = some _
  rw [e1, arrV_store]
  congr 2
  funext q
  by_cases hq : q = i.toNatClampNeg
  · subst hq; simp [updV, mrl]
  · simp [updV, hq]
theorem st_aastore5 {d : Nat} {M : mM} {n0 : Nat} {Φ : Option Value → mH → Prop} {pc : Nat} {L : mL} {st : List Value} {n sl : Nat} {h : mH} {a v N : Nat} {f : Nat → Value} {fs : List Value} {i : Int32} (hd : decode M.2.1 pc = .ok (.aastore, 1)) (ha : h a = .inl (5, N, f)) (hv : h v = .inr (4, fs)) (hi : vp_in i N) (k : MW d M n0 Φ (pc + 1) L (st) n sl (hu h a (.inl (5, N, updV f i.toNatClampNeg (.ref v))))) : MW d M n0 Φ pc L (.ref v :: .int i :: .ref a :: st) n sl h := by
  intro g R p l e s m args below meth c Q X hr H locs ls hH hS hL hn
  obtain ⟨hx, hb, hml, hown, hts, hK, hmn, hsz, hsc, hR⟩ := id X
  obtain ⟨hlt, hA⟩ := hH.arr ha
  have hj : i.toNatClampNeg < N := Nat.not_le.mp fun q => hi (Or.inr q)
  have h0 : ¬ i < 0 := fun q => hi (Or.inl q)
  obtain ⟨hlv, r', hr', cellV, g1, g2, g3, -⟩ := hH.obj hv (by omega)
  have hcls := (hK.1 4 _ rfl).2
  obtain ⟨kA, comp, k1, k2, k3, -⟩ := (hK.2 5 _ (mtl_at g (by omega))).2
  have hcomp : comp = g.2.1.1 4 := Option.some.inj (k3.symm.trans hcls.1)
  subst hcomp
  obtain ⟨kC, hkC, -⟩ := hcls.2
  refine W.aast hx hb hA (fun q h => by cases h) (fun h => by cases h) k1 k2 rfl hkC ⟨h0, by rw [arrV_size]; exact hj⟩ g1 (fun q h => by rw [g3] at h; cases h) (by rw [g2]; exact hkC) (by rw [g2]; exact va_assign hcls) rfl rfl hd fun H1 e1 z oq => ?_
  refine k g R p l e s m args below meth c Q X hr H1 _ ls (hH.put hlt z oq ?_) (hS.put z oq (Nat.le_add_right _ _)) hL hn
  show H1[g.1 + a]? = some _
  rw [e1, arrV_store]
  congr 2
  funext q
  by_cases hq : q = i.toNatClampNeg
  · subst hq; simp [updV, mrl]
  · simp [updV, hq]
