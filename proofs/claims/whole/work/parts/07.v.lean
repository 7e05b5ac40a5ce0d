section VN
variable {X : CX} {mt : MT} {R : Room} {Z : ZX} {A : AX} {pc : Nat} {L : List (Option Value)} {st : List Value} {h : AH}
theorem setA_self {k : Nat} {f : Nat → Int32} : (setA h k f).1 k = f := if_pos rfl
/-- System.arraycopy over rows of ints -/
theorem v_acopy {r0 r1 n0 n1 idx : Nat} {sp dp n : Int32} (hd : decode mt.2.1 pc = .ok (.invokestatic idx, 3)) (hlk : Cond.methodLink mt.1.cls idx arraycopyName ∈ BIG) (hnat : Cond.native arraycopyName ∈ BIG) (hstc : Cond.static arraycopyName ∈ BIG) (hini : Cond.initialized "java/lang/System" ∈ BIG) (hk0 : kd X r0 = (20, n0)) (hk1 : kd X r1 = (20, n1)) (hA0 : r0 < A.1) (hA1 : r1 < A.1) (h1 : ¬ sp < 0) (h2 : ¬ dp < 0) (h3 : ¬ n < 0) (h4 : sp.toNatClampNeg + n.toNatClampNeg ≤ n0) (h5 : dp.toNatClampNeg + n.toNatClampNeg ≤ n1)
    (hR : RO R 1) (hst : (st.map fun v => v.category).sum ≤ 8) (q : V X mt R Z A (pc + 3) L st (setA h r1 (va_cpy (h.1 r0) (h.1 r1) sp.toNatClampNeg dp.toNatClampNeg n.toNatClampNeg))) : V X mt R Z A pc L (.int n :: .int dp :: .ref r1 :: .int sp :: .ref r0 :: st) h := by
  intro p e s m args below meth c0 H locs ls hF hH hz hl
  have hF' := hF
  obtain ⟨hx, hb, -, -, hml, hown, -, hts, hK, -⟩ := hF'
  show W _ _ _ _ _ _ _ _ _ _ _ _ _ _ _ (F0 m pc ls (.int n :: .int dp :: .ref (ad X r1) :: .int sp :: .ref (ad X r0) :: st.map (tr X)))
  rw [ad_own (kd_lt hk0 (by omega)), ad_own (kd_lt hk1 (by omega))]
  have hst2 : ((st.map (tr X)).map fun v => v.category).sum ≤ 8 := by
    rw [List.map_map]
    have : ((fun v => Value.category v) ∘ tr X) = fun v => v.category := funext fun v => tr_cat
    rw [this]
    exact hst
  have nn : ∀ z : Int32, ¬ z < 0 → z.toInt = (z.toNatClampNeg : Int) := by
    intro z hz
    have hz0 : (0 : Int) ≤ z.toInt := by
      have := Int32.not_lt.mp hz
      simpa using Int32.le_iff_toInt_le.mp this
    show z.toInt = ((z.toInt.toNat : Nat) : Int)
    omega
  have hc0 := hH.1 r0 _ (wsL_at hA0)
  have hc1 := hH.1 r1 _ (wsL_at hA1)
  unfold ent at hc0 hc1
  rw [hk0] at hc0
  rw [hk1] at hc1
  have hc0 : H[X.2.1 + r0]? = some (vp_cell (X.2.2.2.1 20) (n0, .inl (h.1 r0))) := hc0
  have hc1 : H[X.2.1 + r1]? = some (vp_cell (X.2.2.2.1 20) (n1, .inl (h.1 r1))) := hc1
  have ha0 : (tysOf X)[0]? = some (X.2.2.2.1 20, .int) := rfl
  obtain ⟨-, k0, hkk0, cm0, hq0⟩ := (hK.2 0 _ ha0).1 n0 (fun j => .int (h.1 r0 j))
  obtain ⟨-, k1, hkk1, cm1, hq1⟩ := (hK.2 0 _ ha0).1 n1 (fun j => .int (h.1 r1 j))
  intro T hT XT
  obtain ⟨vm', X', step⟩ := XT.arraycopy hx hown (hts _ hlk) (hts _ hnat) (hts _ hstc) (hts _ hini) (src := X.2.1 + r0) (dst := X.2.1 + r1) (cs := vp_cell (X.2.2.2.1 20) (n0, .inl (h.1 r0))) (cd := vp_cell (X.2.2.2.1 20) (n1, .inl (h.1 r1))) (srcPos := sp) (destPos := dp) (n := n) (by rw [hT]; exact hc0) (by rw [hT]; exact hc1)
    (fun _ h => by cases h) (fun _ h => by cases h) (fun h => by cases h) (fun h => by cases h) hkk0 hkk1 hq0 hq1 (by simp [refKind]) h1 h2 h3
    (by rw [nn sp h1, nn n h3]; show ¬ _ > ((arrV (X.2.2.2.1 20) n0 (fun j => .int (h.1 r0 j))).slots.size : Int); rw [arrV_size]; omega)
    (by rw [nn dp h2, nn n h3]; show ¬ _ > ((arrV (X.2.2.2.1 20) n1 (fun j => .int (h.1 r1 j))).slots.size : Int); rw [arrV_size]; omega)
    (fun vm₁ _ i hi => by
      have e : (vp_cell (X.2.2.2.1 20) (n0, .inl (h.1 r0))).slots.getD (sp.toNatClampNeg + i) .null = .int (h.1 r0 (sp.toNatClampNeg + i)) := by
        show (arrV (X.2.2.2.1 20) n0 (fun j => .int (h.1 r0 j))).slots.getD _ _ = _
        rw [Array.getD_eq_getD_getElem?, arrV_read _ _ (by omega)]
        rfl
      exact ⟨by rw [e]; rfl, by rw [e]; exact trivial⟩)
    (g := F0 m pc ls (.int n :: .int dp :: .ref (X.2.1 + r1) :: .int sp :: .ref (X.2.1 + r0) :: st.map (tr X))) rfl (by rw [hml]; exact hl.1) (rest := st.map (tr X)) rfl (by rw [hb]; exact hd) hR.1 (by
      have e8 : nativeFrameWords "java/lang/System" "arraycopy" 5 ≤ 30 := by decide +kernel
      have := hR.2
      show 2 * 0 + _ + _ ≤ _
      omega)
  have e1 : copied (vp_cell (X.2.2.2.1 20) (n0, .inl (h.1 r0))) (vp_cell (X.2.2.2.1 20) (n1, .inl (h.1 r1))) sp dp n = vp_cell (X.2.2.2.1 20) (n1, .inl (va_cpy (h.1 r0) (h.1 r1) sp.toNatClampNeg dp.toNatClampNeg n.toNatClampNeg)) := va_copied (fun z => .int z) _ _ _ _ h4
  rw [e1] at X' step
  have hlt : X.2.1 + r1 < H.size := (Array.getElem?_eq_some_iff.mp hc1).1
  generalize hce : vp_cell (X.2.2.2.1 20) (n1, .inl (va_cpy (h.1 r0) (h.1 r1) sp.toNatClampNeg dp.toNatClampNeg n.toNatClampNeg)) = ce at X' step
  have hheap : ((T.setVm vm').setCell (X.2.1 + r1) ce).heap = H.setIfInBounds (X.2.1 + r1) ce := by rw [← hT]; rfl
  have oq : ∀ q : Nat, q ≠ X.2.1 + r1 → (H.setIfInBounds (X.2.1 + r1) ce)[q]? = H[q]? := fun q hq => by simp [Array.getElem?_setIfInBounds, Ne.symm hq]
  obtain ⟨t, a1, b1⟩ := q p e s m args below meth c0 (H.setIfInBounds (X.2.1 + r1) ce) _ ls hF ⟨P_set hH.1 (by
      unfold ent
      rw [hk1]
      show (H.setIfInBounds (X.2.1 + r1) ce)[X.2.1 + r1]? = some (vp_cell _ (n1, .inl ((setA h r1 _).1 r1)))
      rw [setA_self, hce]
      simp [Array.getElem?_setIfInBounds, hlt]) setA_ne oq, ⟨by simp; exact hH.2.1, fun q g1 g2 => by
      rw [oq q (fun e => g2 (by rw [e]; exact Nat.le_add_right _ _))]
      exact hH.2.2.1 q g1 g2, fun q hq => by
      rcases List.mem_append.mp hq with h | h
      · exact hH.2.2.2 q h
      · obtain ⟨z, -, hz⟩ := List.mem_map.mp h
        rw [← hz]
        exact Nat.le_add_right _ _⟩⟩ (by simpa using hz) hl _ hheap X'
  exact ⟨t, step t a1, b1⟩
theorem v_mmax {idx : Nat} {x y : Int32} (hd : decode mt.2.1 pc = .ok (.invokestatic idx, 3)) (hlk : Cond.methodLink mt.1.cls idx Lib.Math.max.name ∈ BIG) (hstc : Cond.static Lib.Math.max.name ∈ BIG) (hini : Cond.initialized "java/lang/Math" ∈ BIG) (hcd : Cond.code Lib.Math.max.name Lib.Math.max.code 2 (some .int) ∈ BIG) (hR : RO R 1) (hcs : A.2.2.1 ≤ R.cells ∧ A.2.2.2 ≤ R.slots) (hst : (st.map fun v => v.category).sum ≤ 8) (q : V X mt R Z A (pc + 3) L (.int (if x < y then y else x) :: st) h) : V X mt R Z A pc L (.int y :: .int x :: st) h := by
  intro p e s m args below meth c0 H locs ls hF hH hz hl
  have hF' := hF
  obtain ⟨hx, hb, -, -, hml, hown, -, hts, hK, -⟩ := hF'
  have hst2 : ((st.map (tr X)).map fun v => v.category).sum ≤ 8 := by
    rw [List.map_map]
    have : ((fun v => Value.category v) ∘ tr X) = fun v => v.category := funext fun v => tr_cat
    rw [this]
    exact hst
  exact va_mmax hx hb (hml.trans hl.1.symm) hown (hts _ hlk) (hts _ hstc) (hts _ hini) (hts _ hcd) hR.1 (by have := hR.2; omega) hcs.1 hcs.2 hd (q p e s m args below meth c0 H locs ls hF hH hz hl)
theorem v_mmin {idx : Nat} {x y : Int32} (hd : decode mt.2.1 pc = .ok (.invokestatic idx, 3)) (hlk : Cond.methodLink mt.1.cls idx Lib.Math.min.name ∈ BIG) (hstc : Cond.static Lib.Math.min.name ∈ BIG) (hini : Cond.initialized "java/lang/Math" ∈ BIG) (hcd : Cond.code Lib.Math.min.name Lib.Math.min.code 2 (some .int) ∈ BIG) (hR : RO R 1) (hcs : A.2.2.1 ≤ R.cells ∧ A.2.2.2 ≤ R.slots) (hst : (st.map fun v => v.category).sum ≤ 8) (q : V X mt R Z A (pc + 3) L (.int (if y < x then y else x) :: st) h) : V X mt R Z A pc L (.int y :: .int x :: st) h := by
  intro p e s m args below meth c0 H locs ls hF hH hz hl
  have hF' := hF
  obtain ⟨hx, hb, -, -, hml, hown, -, hts, hK, -⟩ := hF'
  have hst2 : ((st.map (tr X)).map fun v => v.category).sum ≤ 8 := by
    rw [List.map_map]
    have : ((fun v => Value.category v) ∘ tr X) = fun v => v.category := funext fun v => tr_cat
    rw [this]
    exact hst
  exact va_mmin hx hb (hml.trans hl.1.symm) hown (hts _ hlk) (hts _ hstc) (hts _ hini) (hts _ hcd) hR.1 (by have := hR.2; omega) hcs.1 hcs.2 hd (q p e s m args below meth c0 H locs ls hF hH hz hl)
theorem v_mabs {idx : Nat} {x : Int32} (hd : decode mt.2.1 pc = .ok (.invokestatic idx, 3)) (hlk : Cond.methodLink mt.1.cls idx Lib.Math.abs.name ∈ BIG) (hstc : Cond.static Lib.Math.abs.name ∈ BIG) (hini : Cond.initialized "java/lang/Math" ∈ BIG) (hcd : Cond.code Lib.Math.abs.name Lib.Math.abs.code 1 (some .int) ∈ BIG) (hR : RO R 1) (hcs : A.2.2.1 ≤ R.cells ∧ A.2.2.2 ≤ R.slots) (hst : (st.map fun v => v.category).sum ≤ 8) (q : V X mt R Z A (pc + 3) L (.int (if 0 ≤ x then x else 0 - x) :: st) h) : V X mt R Z A pc L (.int x :: st) h := by
  intro p e s m args below meth c0 H locs ls hF hH hz hl
  have hF' := hF
  obtain ⟨hx, hb, -, -, hml, hown, -, hts, hK, -⟩ := hF'
  have hst2 : ((st.map (tr X)).map fun v => v.category).sum ≤ 8 := by
    rw [List.map_map]
    have : ((fun v => Value.category v) ∘ tr X) = fun v => v.category := funext fun v => tr_cat
    rw [this]
    exact hst
  exact va_mabs hx hb (hml.trans hl.1.symm) hown (hts _ hlk) (hts _ hstc) (hts _ hini) (hts _ hcd) hR.1 (by have := hR.2; omega) hcs.1 hcs.2 hd (q p e s m args below meth c0 H locs ls hF hH hz hl)
theorem v_mmaxl {idx : Nat} {x y : Int64} (hd : decode mt.2.1 pc = .ok (.invokestatic idx, 3)) (hlk : Cond.methodLink mt.1.cls idx Lib.MathLoose.max_long.x ∈ BIG) (hstc : Cond.static Lib.MathLoose.max_long.x ∈ BIG) (hini : Cond.initialized "java/lang/Math" ∈ BIG) (hcd : Cond.code Lib.MathLoose.max_long.x Lib.MathLoose.max_long.code 4 (some .long) ∈ BIG) (hR : RO R 1) (hcs : A.2.2.1 ≤ R.cells ∧ A.2.2.2 ≤ R.slots) (hst : (st.map fun v => v.category).sum ≤ 8) (q : V X mt R Z A (pc + 3) L (.long (if y < x then x else y) :: st) h) : V X mt R Z A pc L (.long y :: .long x :: st) h := by
  intro p e s m args below meth c0 H locs ls hF hH hz hl
  have hF' := hF
  obtain ⟨hx, hb, -, -, hml, hown, -, hts, hK, -⟩ := hF'
  have hst2 : ((st.map (tr X)).map fun v => v.category).sum ≤ 8 := by
    rw [List.map_map]
    have : ((fun v => Value.category v) ∘ tr X) = fun v => v.category := funext fun v => tr_cat
    rw [this]
    exact hst
  exact va_mmax_long hx hb (hml.trans hl.1.symm) hown (hts _ hlk) (hts _ hstc) (hts _ hini) (hts _ hcd) hR.1 (by have := hR.2; omega) hcs.1 hcs.2 hd (q p e s m args below meth c0 H locs ls hF hH hz hl)
theorem v_mminl {idx : Nat} {x y : Int64} (hd : decode mt.2.1 pc = .ok (.invokestatic idx, 3)) (hlk : Cond.methodLink mt.1.cls idx Lib.MathLoose.min_long.x ∈ BIG) (hstc : Cond.static Lib.MathLoose.min_long.x ∈ BIG) (hini : Cond.initialized "java/lang/Math" ∈ BIG) (hcd : Cond.code Lib.MathLoose.min_long.x Lib.MathLoose.min_long.code 4 (some .long) ∈ BIG) (hR : RO R 1) (hcs : A.2.2.1 ≤ R.cells ∧ A.2.2.2 ≤ R.slots) (hst : (st.map fun v => v.category).sum ≤ 8) (q : V X mt R Z A (pc + 3) L (.long (if y < x then y else x) :: st) h) : V X mt R Z A pc L (.long y :: .long x :: st) h := by
  intro p e s m args below meth c0 H locs ls hF hH hz hl
  have hF' := hF
  obtain ⟨hx, hb, -, -, hml, hown, -, hts, hK, -⟩ := hF'
  have hst2 : ((st.map (tr X)).map fun v => v.category).sum ≤ 8 := by
    rw [List.map_map]
    have : ((fun v => Value.category v) ∘ tr X) = fun v => v.category := funext fun v => tr_cat
    rw [this]
    exact hst
  exact va_mmin_long hx hb (hml.trans hl.1.symm) hown (hts _ hlk) (hts _ hstc) (hts _ hini) (hts _ hcd) hR.1 (by have := hR.2; omega) hcs.1 hcs.2 hd (q p e s m args below meth c0 H locs ls hF hH hz hl)
end VN
