/-! arrays in words; System.arraycopy of ints; a method's end -/
def ia (N : Nat) (f : Nat → Int32) : mC := .inl (0, N, fun j => .int (f j))
def za (N : Nat) (f : Nat → Int32) : mC := .inl (1, N, fun j => .int (f j))
def ba (N : Nat) (f : Nat → Int32) : mC := .inl (2, N, fun j => .int (f j))
def la (N : Nat) (f : Nat → Int64) : mC := .inl (3, N, fun j => .long (f j))
theorem st_copy {d : Nat} {M : mM} {n0 : Nat} {Φ : Option Value → mH → Prop} {pc : Nat} {L : mL} {st : List Value} {n sl : Nat} {h : mH} {i a b N0 N1 : Nat} {f f2 : Nat → Int32} {sp dp kk : Int32} (hd : decode M.2.1 pc = .ok (.invokestatic i, 3)) (hw : Cond.methodLink M.1.cls i arraycopyName ∈ mTb) (ha : h a = ia N0 f) (hb2 : h b = ia N1 f2) (h1 : ¬ sp < 0) (h2 : ¬ dp < 0) (h3 : ¬ kk < 0) (h4 : sp.toNatClampNeg + kk.toNatClampNeg ≤ N0) (h5 : dp.toNatClampNeg + kk.toNatClampNeg ≤ N1) (hst : st.length ≤ 4) (k : MW (d + 1) M n0 Φ (pc + 3) L st n sl (hu h b (ia N1 (va_cpy f f2 sp.toNatClampNeg dp.toNatClampNeg kk.toNatClampNeg)))) : MW (d + 1) M n0 Φ pc L (.int kk :: .int dp :: .ref b :: .int sp :: .ref a :: st) n sl h := by
  intro g R p l e s m args below meth c Q X hr H locs ls hH hS hL hn
  obtain ⟨hx, hb, hml, hown, hts, hK, hmn, hsz, hsc, hR⟩ := id X
  have hcats := cats g hst
  have nn : ∀ z : Int32, ¬ z < 0 → z.toInt = (z.toNatClampNeg : Int) := by
    intro z hz
    have hz0 : (0 : Int) ≤ z.toInt := by
      have := Int32.not_lt.mp hz
      simpa using Int32.le_iff_toInt_le.mp this
    show z.toInt = ((z.toInt.toNat : Nat) : Int)
    omega
  obtain ⟨hla, hA⟩ := hH.arr ha
  obtain ⟨hlb, hB⟩ := hH.arr hb2
  have hc0 : H[g.1 + a]? = some (vp_cell (g.2.2.1 0) (N0, .inl f)) := hA
  have hc1 : H[g.1 + b]? = some (vp_cell (g.2.2.1 0) (N1, .inl f2)) := hB
  intro T hT X0
  obtain ⟨-, k0, hk0, cm0, hkk0⟩ := (hK.2 0 _ (mtl_at g (by omega))).1 N0 (fun j => .int (f j))
  obtain ⟨-, k1, hk1, cm1, hkk1⟩ := (hK.2 0 _ (mtl_at g (by omega))).1 N1 (fun j => .int (f2 j))
  obtain ⟨vm', X', step⟩ := X0.arraycopy hx hown (hts _ hw) (hts _ (mTb_in (w := .native arraycopyName) (by decide +kernel) rfl)) (hts _ (mTb_in (w := .static arraycopyName) (by decide +kernel) rfl)) (hts _ (mTb_in (w := .initialized "java/lang/System") (by decide +kernel) rfl)) (src := g.1 + a) (dst := g.1 + b) (cs := vp_cell (g.2.2.1 0) (N0, .inl f)) (cd := vp_cell (g.2.2.1 0) (N1, .inl f2)) (srcPos := sp) (destPos := dp) (n := kk) (by rw [hT]; exact hc0) (by rw [hT]; exact hc1)
    (fun _ h => by cases h) (fun _ h => by cases h) (fun h => by cases h) (fun h => by cases h) hk0 hk1 hkk0 hkk1 (by simp [mty, refKind]) h1 h2 h3
    (by rw [nn sp h1, nn kk h3]; show ¬ _ > ((arrV _ N0 (fun j => .int (f j))).slots.size : Int); rw [arrV_size]; omega)
    (by rw [nn dp h2, nn kk h3]; show ¬ _ > ((arrV _ N1 (fun j => .int (f2 j))).slots.size : Int); rw [arrV_size]; omega)
    (fun vm₁ _ i hi => by
      have e : (vp_cell (g.2.2.1 0) (N0, .inl f)).slots.getD (sp.toNatClampNeg + i) .null = .int (f (sp.toNatClampNeg + i)) := by
        show (arrV _ N0 (fun j => .int (f j))).slots.getD _ _ = _
        rw [Array.getD_eq_getD_getElem?, arrV_read _ _ (by omega)]
        rfl
      refine ⟨?_, ?_⟩
      · rw [e]
        rfl
      · rw [e]
        exact trivial)
    (g := F0 m pc ls (.int kk :: .int dp :: .ref (g.1 + b) :: .int sp :: .ref (g.1 + a) :: st.map (mrl g))) rfl (by rw [hml]; exact hL.1) (rest := st.map (mrl g)) rfl (by rw [hb]; exact hd) (by omega) (by
      show 2 * 0 + _ + (nativeFrameWords "java/lang/System" "arraycopy" 5 + 11) ≤ R.locals
      have : nativeFrameWords "java/lang/System" "arraycopy" 5 ≤ 7 := by decide
      omega)
  have e1 : copied (vp_cell (g.2.2.1 0) (N0, .inl f)) (vp_cell (g.2.2.1 0) (N1, .inl f2)) sp dp kk = vp_cell (g.2.2.1 0) (N1, .inl (va_cpy f f2 sp.toNatClampNeg dp.toNatClampNeg kk.toNatClampNeg)) := va_copied (fun z => .int z) _ _ f f2 h4
  rw [e1] at X' step
  have hl : g.1 + b < H.size := (Array.getElem?_eq_some_iff.mp hc1).1
  generalize hc9 : vp_cell (g.2.2.1 0) (N1, .inl (va_cpy f f2 sp.toNatClampNeg dp.toNatClampNeg kk.toNatClampNeg)) = cN at X' step
  have hheap : ((T.setVm vm').setCell (g.1 + b) cN).heap = H.setIfInBounds (g.1 + b) cN := by rw [← hT]; rfl
  have oq : ∀ q : Nat, q ≠ g.1 + b → (H.setIfInBounds (g.1 + b) cN)[q]? = H[q]? := fun q hq => by simp [Array.getElem?_setIfInBounds, Ne.symm hq]
  have hNew : mat g (ia N1 (va_cpy f f2 sp.toNatClampNeg dp.toNatClampNeg kk.toNatClampNeg)) (g.1 + b) (H.setIfInBounds (g.1 + b) cN) := by
    show (H.setIfInBounds (g.1 + b) cN)[g.1 + b]? = some _
    rw [← hc9]
    simp [Array.getElem?_setIfInBounds, hl]
    rfl
  obtain ⟨t, a1, b1⟩ := k g R p l e s m args below meth c Q X hr (H.setIfInBounds (g.1 + b) cN) _ ls (hH.put hlb (by simp) oq hNew) ⟨by simp; exact hS.1, fun q g1 g2 => by
      rw [oq q (fun e => g2 (by rw [e]; exact Nat.le_add_right _ _))]
      exact hS.2.1 q g1 g2, fun q hq => by
      rcases List.mem_append.mp hq with h | h
      · exact hS.2.2 q h
      · obtain ⟨z, -, hz⟩ := List.mem_map.mp h
        rw [← hz]
        exact Nat.le_add_right _ _⟩ hL hn _ hheap X'
  exact ⟨t, step t a1, b1⟩
theorem st_ret {d : Nat} {M : mM} {n0 : Nat} {Φ : Option Value → mH → Prop} {pc : Nat} {L : mL} {n sl : Nat} {h : mH} {v : Option Value} (hrt : mRt M pc v) (hm : M.2.2.2.2.1 = 0 ∨ n = n0 + M.2.2.2.2.1) (hΦ : Φ v h) : MW d M n0 Φ pc L v.toList n sl h := by
  intro g R p l e s m args below meth c Q X hr H locs ls hH hS hL hn
  have hn1 : n = n0 + M.2.2.2.2.1 := by omega
  subst hn1
  have := hr H locs pc ls v sl h hrt hH hS hn.2.2 hΦ
  rw [Nat.add_sub_cancel_left]
  exact this
theorem st_max {d : Nat} {M : mM} {n0 : Nat} {Φ : Option Value → mH → Prop} {pc : Nat} {L : mL} {st : List Value} {n sl : Nat} {h : mH} {i : Nat} {x y : Int32} (hd : decode M.2.1 pc = .ok (.invokestatic i, 3)) (hw : Cond.methodLink M.1.cls i Lib.Math.max.name ∈ mTb) (hst : st.length ≤ 4) (k : MW (d + 1) M n0 Φ (pc + 3) L (.int (if x < y then y else x) :: st) n sl h) : MW (d + 1) M n0 Φ pc L (.int y :: .int x :: st) n sl h := by
  intro g R p l e s m args below meth c Q X hr H locs ls hH hS hL hn
  obtain ⟨hx, hb, hml, hown, hts, hK, hmn, hsz, hsc, hR⟩ := id X
  have hcats := cats g hst
  exact va_mmax hx hb (hml.trans hL.1.symm) hown (hts _ hw) (hts _ (mTb_in (w := .static Lib.Math.max.name) (by decide +kernel) rfl)) (hts _ (mTb_in (w := .initialized "java/lang/Math") (by decide +kernel) rfl)) (hts _ (mTb_in (w := .code Lib.Math.max.name Lib.Math.max.code 2 (some .int)) (by decide +kernel) rfl)) (by omega) (by omega) (by omega) (by omega) hd (k g R p l e s m args below meth c Q X hr H locs ls hH hS hL hn)
