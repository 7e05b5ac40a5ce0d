/-! what a rule is worth: the class -/
section OPS
variable {X : CX} {d D nx sz : Nat} {h h0 : AH} {T : Nat → Nat} {p : Nat → Int32} {rt b0 ln a k q : Nat} {c : List Nat}
theorem nI_dec {m : Nat} : nI (m + 1) + (-1) = nI m := by
  rw [← nI_1, Int32.add_assoc, show (1 : Int32) + (-1) = 0 from rfl, Int32.add_zero]
theorem nI_dec' {m : Nat} : nI (m + 1) - 1 = nI m := by
  rw [Int32.sub_eq_add_neg]
  exact nI_dec
theorem StkA.top {x : Int32} {t : List Int32} (s : StkA h (x :: t)) : h.1 38 t.length = x := s.2 0 (Nat.succ_pos _)
theorem StkA.pop {x : Int32} {t : List Int32} (s : StkA h (x :: t)) : StkA h t := ⟨Nat.le_of_succ_le s.1, fun i hi => by
  have := s.2 (i + 1) (Nat.succ_lt_succ hi)
  have e : (x :: t).length - 1 - (i + 1) = t.length - 1 - i := by
    show t.length + 1 - 1 - (i + 1) = _
    omega
  rw [e] at this
  exact this⟩
theorem StkA.push {t : List Int32} {y : Int32} (s : StkA h t) (hl : t.length < 48) : StkA (setI h 38 t.length y) (y :: t) := ⟨hl, fun i hi => by
  show (if 38 = 38 ∧ t.length + 1 - 1 - i = t.length then y else h.1 38 (t.length + 1 - 1 - i)) = (y :: t).getD i 0
  cases i with
  | zero => exact if_pos ⟨rfl, rfl⟩
  | succ i =>
    have hi : i < t.length := Nat.lt_of_succ_lt_succ hi
    rw [if_neg (fun z => by omega), show t.length + 1 - 1 - (i + 1) = t.length - 1 - i by omega]
    exact s.2 i hi⟩
theorem F38.set {g : AH} {j : Nat} {x : Int32} (f : F38 h g) : F38 h (setI g 38 j x) := ⟨f.1, fun c k hc => (setI_b hc).trans (f.2 c k hc)⟩
theorem s_worth {r : Nat} (hA0 : 91 ≤ nx) (hF : Fx h) (hr : r < 6) (C : CodA h r c) (L : LetS h p) : Mk X (d + 3) m_X8_worth [.ref 29, .int (nI r)] h nx sz (RI fun y g => y = (wG p c [] false).getD 0 ∧ F38 h g) := by
  obtain ⟨c1, c2, c3, c4⟩ := C
  have hk : kd X (31 + r) = (20, 200) := by
    have : ∀ r, r < 6 → kd0 (31 + r) = (20, 200) := by decide
    exact (kd_ne (by omega)).trans (this r hr)
  have hR0 : R0 30 r = some (31 + r) := by
    have : ∀ r, r < 6 → R0 30 r = some (31 + r) := by decide +kernel
    exact this r hr
  refine e_X8_worth (c_X8_worth_0 hA0 hF (vin hr (by decide)) (by rw [tN (by omega)]; exact hF 30 r (31 + r) hR0) ?_)
  obtain ⟨Q, hQ⟩ : ∃ Q, Q = (RI fun y g => y = (wG p c [] false).getD 0 ∧ F38 h g) := ⟨_, rfl⟩
  rw [← hQ]
  have key : ∀ (k i : Nat) (st : List Int32) (ps : Bool) (g : AH), i + k = c.length → F38 h g → StkA g st → wG p (c.drop i) st ps = wG p c [] false → VM X m_X8_worth (d + 3) nx sz Q 15 [some (.ref 29), some (.int (nI r)), some (.ref (31 + r)), some (.int (nI st.length)), some (.int (if ps = true then 1 else 0)), some (.int (nI i)), none] [] g := by
    intro k
    induction k with
    | zero =>
      intro i st ps g hi f s e
      have hFg := hF.of f.1
      have yes : g.1 37 (nI r).toNatClampNeg ≤ nI i := by
        rw [tN (by omega), f.2 37 _ (by decide), c2, le_nI (by omega) (by omega)]
        omega
      have e0 : wG p c [] false = none := by
        rw [← e, List.drop_eq_nil_of_le (by omega)]
        cases ps <;> rfl
      refine c_X8_worth_15 (d := d + 2) (P221 := fun _ _ => False) (P151 := fun _ _ => False) hA0 hFg hk (by show 31 + r < nx; omega) RO_rm hcs0 (vin hr (by decide)) (fun _ => c_X8_worth_231 ?_) (fun z => absurd yes z) (fun z => absurd yes z) (fun z => absurd yes z) (fun z => absurd yes z) (fun z => absurd yes z) (fun z => absurd yes z) (fun z => absurd yes z) (fun z => absurd yes z) (fun z => absurd yes z) (fun z => absurd yes z) (fun z => absurd yes z) (fun z => absurd yes z) (fun z => absurd yes z) (fun z => absurd yes z) (fun z => absurd yes z) (fun z => absurd yes z) (fun z => absurd yes z) (fun z => absurd yes z) (fun z => absurd yes z) (fun z => absurd yes z) (fun z => absurd yes z) (fun z => absurd yes z) (fun z => absurd yes z) (fun z => absurd yes z)
      rw [hQ]
      exact ⟨_, rfl, by rw [e0]; rfl, f⟩
    | succ k ih =>
      intro i st ps g hi f s e
      have hFg := hF.of f.1
      have hic : i < c.length := by omega
      have no : ¬ g.1 37 (nI r).toNatClampNeg ≤ nI i := by
        rw [tN (by omega), f.2 37 _ (by decide), c2, le_nI (by omega) (by omega)]
        omega
      have no2 : ¬ (200 : Int32) ≤ nI i := fun z => by
        have z : nI 200 ≤ nI i := z
        rw [le_nI (by decide) (by omega)] at z
        omega
      have hw := c4 _ (getD_mem c hic)
      rw [drop_cons c hic] at e
      have ew : g.1 (31 + r) (nI i).toNatClampNeg = nI (c.getD i 0) := by
        rw [tN (by omega), f.2 (31 + r) _ (by omega)]
        exact c3 i hic
      generalize c.getD i 0 = w at *
      have eS : g.1 (31 + r) (nI i).toNatClampNeg &&& 15 = nI (w % 16) := by rw [ew, w_and hw]
      have eV : g.1 (31 + r) (nI i).toNatClampNeg >>> ((4 : Int32) &&& 31) = nI (w / 16) := by rw [ew, w_shr hw]
      have c13 : g.1 (31 + r) (nI i).toNatClampNeg &&& 15 = 13 ↔ w % 16 = 13 := by rw [eS]; exact nI_eq (b := 13) (by omega) (by decide)
      have c12 : g.1 (31 + r) (nI i).toNatClampNeg &&& 15 = 12 ↔ w % 16 = 12 := by rw [eS]; exact nI_eq (b := 12) (by omega) (by decide)
      have c11 : g.1 (31 + r) (nI i).toNatClampNeg &&& 15 = 11 ↔ w % 16 = 11 := by rw [eS]; exact nI_eq (b := 11) (by omega) (by decide)
      have cl : 1 < g.1 (31 + r) (nI i).toNatClampNeg &&& 15 ↔ 1 < w % 16 := by
        rw [eS, ← Int32.not_le, show (1 : Int32) = nI 1 from rfl, le_nI (by omega) (by decide)]
        omega
      have l0 : nI st.length ≤ 0 ↔ st.length = 0 := nI_le0 (by have := s.1; omega)
      have l1 : nI st.length ≤ 1 ↔ st.length ≤ 1 := le_nI (b := 1) (by have := s.1; omega) (by decide)
      have l48 : 48 ≤ nI st.length ↔ 48 ≤ st.length := le_nI (a := 48) (by decide) (by have := s.1; omega)
      have nx225 : ∀ (st : List Int32) (ps : Bool) (g : AH), F38 h g → StkA g st → wG p (c.drop (i + 1)) st ps = wG p c [] false → VM X m_X8_worth (d + 3) nx sz Q 225 [some (.ref 29), some (.int (nI r)), some (.ref (31 + r)), some (.int (nI st.length)), some (.int (if ps = true then 1 else 0)), some (.int (nI i)), none] [] g := fun st ps g f s e => c_X8_worth_225 (by rw [nI_1]; exact ih (i + 1) st ps g (by omega) f s e)
      cases ps with
      | true =>
        have e : wG p (c.drop (i + 1)) st (decide (w % 16 ≠ 13)) = wG p c [] false := e
        have n0 : ¬ (if true = true then (1 : Int32) else 0) = 0 := by decide
        refine c_X8_worth_15 (d := d + 2) (P221 := fun _ _ => False) (P151 := fun _ _ => False) hA0 hFg hk (by show 31 + r < nx; omega) RO_rm hcs0 (vin hr (by decide)) (fun z => absurd z no) (fun _ z => absurd z no2) (fun _ _ => vin (by omega) (by decide)) (fun _ _ z => absurd z n0) (fun _ _ z => absurd z n0) (fun _ _ z => absurd z n0) (fun _ _ z => absurd z n0) (fun _ _ z => absurd z n0) (fun _ _ z => absurd z n0) (fun _ _ z => absurd z n0) (fun _ _ z => absurd z n0) (fun _ _ z => absurd z n0) (fun _ _ z => absurd z n0) (fun _ _ z => absurd z n0) (fun _ _ z => absurd z n0) (fun _ _ z => absurd z n0) (fun _ _ z => absurd z n0) (fun _ _ z => absurd z n0) (fun _ _ z => absurd z n0) (fun _ _ z => absurd z n0) (fun _ _ z => absurd z n0) (fun _ _ z => absurd z n0) (fun _ _ z => absurd z n0) (fun _ _ _ z => ?_) (fun _ _ _ z => ?_)
        · rw [c13] at z
          rw [decide_eq_false (fun y => y z)] at e
          exact c_X8_worth_59 (nx225 st false g f s e)
        · rw [c13] at z
          rw [decide_eq_true z] at e
          exact c_X8_worth_59 (nx225 st true g f s e)
      | false =>
        have e : (if w % 16 = 13 then some (st.headD 0) else if w % 16 = 12 then wG p (c.drop (i + 1)) [] (decide (st.headD 1 = 0)) else if w % 16 ≤ 1 then wG p (c.drop (i + 1)) (if st.length < 48 then toV p w :: st else st) false else if w % 16 = 11 then wG p (c.drop (i + 1)) (notT st) false else wG p (c.drop (i + 1)) (opT (w % 16) st) false) = wG p c [] false := e
        have y0 : (if false = true then (1 : Int32) else 0) = 0 := rfl
        have s0 : ∀ g, StkA g [] := fun g => ⟨by decide, fun i hi => by cases hi⟩
        cases st with
        | nil =>
          have z0 : nI ([] : List Int32).length ≤ 0 := l0.mpr rfl
          have z1 : nI ([] : List Int32).length ≤ 1 := l1.mpr (by decide)
          have z48 : ¬ 48 ≤ nI ([] : List Int32).length := fun z => by have := l48.mp z; cases this
          refine c_X8_worth_15 (d := d + 2) (P221 := fun _ _ => False) hA0 hFg hk (by show 31 + r < nx; omega) RO_rm hcs0 (vin hr (by decide)) (fun z => absurd z no) (fun _ z => absurd z no2) (fun _ _ => vin (by omega) (by decide)) (fun _ _ _ a13 a12 a1 a11 _ => ?_) (fun _ _ _ _ _ _ _ z => absurd z1 z) (fun _ _ _ _ _ _ _ z => absurd z1 z) (fun _ _ _ _ _ _ _ z => absurd z1 z) (fun _ _ _ _ _ _ _ z => absurd z1 z) (fun _ _ _ a13 a12 a1 a11 _ => ?_) (fun _ _ _ _ _ _ _ z => absurd z0 z) (fun _ _ _ _ _ _ _ z => absurd z0 z) (fun _ _ _ _ _ _ _ z => absurd z0 z) (fun _ _ _ _ _ _ z => absurd z z48) (fun _ _ _ _ _ _ _ => vin (by omega) (by decide)) (fun _ _ _ _ _ a1 _ => by rw [eS, eV]; exact s_told (d := d + 2) hA0 hFg ⟨fun k hk => by rw [f.2 39 _ (by decide)]; exact L.1 k hk, L.2⟩ hw (by rw [cl] at a1; omega)) ?_ (fun _ _ _ a13 a12 _ => ?_) (fun _ _ _ _ _ z => absurd z0 z) (fun _ _ _ _ _ z => absurd z0 z) (fun _ _ _ _ _ z => absurd z0 z) (fun _ _ _ a13 _ => ?_) (fun _ _ _ _ z => absurd z0 z) (fun _ _ _ _ z => absurd z0 z) (fun _ _ z => absurd y0 z) (fun _ _ z => absurd y0 z)
          · rw [if_neg (fun z => a13 (c13.mpr z)), if_neg (fun z => a12 (c12.mpr z)), if_neg (by rw [cl] at a1; omega), if_neg (fun z => a11 (c11.mpr z))] at e
            exact nx225 [] false g f s e
          · rw [if_neg (fun z => a13 (c13.mpr z)), if_neg (fun z => a12 (c12.mpr z)), if_neg (by rw [cl] at a1; omega), if_pos (c11.mp a11)] at e
            exact nx225 [] false g f s e
          · rintro _ _ _ a13 a12 a1 _ v g ⟨rfl, rfl⟩
            rw [if_neg (fun z => a13 (c13.mpr z)), if_neg (fun z => a12 (c12.mpr z)), if_pos (by rw [cl] at a1; omega), if_pos (by decide)] at e
            refine c_X8_worth_154 hA0 (vin (i := 0) (by decide) (by decide)) ?_
            rw [nI_1]
            exact nx225 [toV p w] false _ f.set (s.push (y := toV p w) (by decide)) e
          · rw [if_neg (fun z => a13 (c13.mpr z)), if_pos (c12.mp a12)] at e
            exact c_X8_worth_114 (c_X8_worth_115 (nx225 [] false g f s e))
          · rw [if_pos (c13.mp a13)] at e
            refine c_X8_worth_87 ?_
            rw [hQ]
            exact ⟨_, rfl, by rw [← e]; rfl, f⟩
        | cons x t =>
          have z0 : ¬ nI (x :: t).length ≤ 0 := fun z => by have := l0.mp z; cases this
          have hl : t.length < 48 := s.1
          have d1 : nI (x :: t).length - 1 = nI t.length := nI_dec'
          have d2 : nI (x :: t).length + (-1) = nI t.length := nI_dec
          have tl : ¬ nI (x :: t).length ≤ 1 → ∃ l t', t = l :: t' := fun z => by
            cases t with
            | nil => exact absurd (l1.mpr (Nat.le_refl 1)) z
            | cons l t' => exact ⟨l, t', rfl⟩
          have top := s.top
          have tT : (nI t.length).toNatClampNeg = t.length := tN (by omega)
          refine c_X8_worth_15 (d := d + 2) (P221 := fun y g' => y = opV (w % 16) (t.headD 0) x ∧ g = g') hA0 hFg hk (by show 31 + r < nx; omega) RO_rm hcs0 (vin hr (by decide)) (fun z => absurd z no) (fun _ z => absurd z no2) (fun _ _ => vin (by omega) (by decide)) (fun _ _ _ a13 a12 a1 a11 z => ?_) (fun _ _ _ _ _ _ _ z => ?_) (fun _ _ _ _ _ _ _ z => ?_) (fun _ _ _ a13 a12 a1 a11 z => ?_) ?_ (fun _ _ _ _ _ _ _ z => absurd z z0) (fun _ _ _ _ _ _ _ _ => by rw [d1]; exact vin hl (by decide)) (fun _ _ _ _ _ _ _ _ => by rw [d1]; exact vin hl (by decide)) (fun _ _ _ a13 a12 a1 a11 _ => ?_) (fun _ _ _ a13 a12 a1 z => ?_) (fun _ _ _ _ _ _ _ => vin (by omega) (by decide)) (fun _ _ _ _ _ a1 _ => by rw [eS, eV]; exact s_told (d := d + 2) hA0 hFg ⟨fun k hk => by rw [f.2 39 _ (by decide)]; exact L.1 k hk, L.2⟩ hw (by rw [cl] at a1; omega)) ?_ (fun _ _ _ _ _ z => absurd z z0) (fun _ _ _ _ _ _ => by rw [d1]; exact vin hl (by decide)) (fun _ _ _ a13 a12 _ z => ?_) (fun _ _ _ a13 a12 _ z => ?_) (fun _ _ _ _ z => absurd z z0) (fun _ _ _ _ _ => by rw [d1]; exact vin hl (by decide)) (fun _ _ _ a13 _ => ?_) (fun _ _ z => absurd y0 z) (fun _ _ z => absurd y0 z)
          · rw [if_neg (fun z => a13 (c13.mpr z)), if_neg (fun z => a12 (c12.mpr z)), if_neg (by rw [cl] at a1; omega), if_neg (fun z => a11 (c11.mpr z))] at e
            cases t with
            | nil => exact nx225 [x] false g f s e
            | cons l t' =>
              have := l1.mp z
              exact absurd this (by show ¬ t'.length + 1 + 1 ≤ 1; omega)
          · obtain ⟨l, t', rfl⟩ := tl z
            have d3 : nI (l :: t').length - 1 = nI t'.length := nI_dec'
            rw [d2, d3]
            exact vin (by have : t'.length + 1 < 48 := hl; omega) (by decide)
          · rw [d2]
            exact vin hl (by decide)
          · obtain ⟨l, t', rfl⟩ := tl z
            have d3 : nI (l :: t').length - 1 = nI t'.length := nI_dec'
            rw [eS, d2, d3, tT, tN (by have : t'.length + 1 < 48 := hl; omega), top, s.pop.top]
            rw [cl] at a1
            exact s_joined (d := d) (by omega) (by omega) (by omega)
          · rintro _ _ _ a13 a12 a1 a11 z _ g' ⟨rfl, rfl⟩
            obtain ⟨l, t', rfl⟩ := tl z
            rw [if_neg (fun z => a13 (c13.mpr z)), if_neg (fun z => a12 (c12.mpr z)), if_neg (by rw [cl] at a1; omega), if_neg (fun z => a11 (c11.mpr z))] at e
            have d3 : nI (l :: t').length - 1 = nI t'.length := nI_dec'
            rw [d2, d3]
            have ht : t'.length < 48 := by have : t'.length + 1 < 48 := hl; omega
            refine c_X8_worth_224 hA0 (vin ht (by decide)) ?_
            rw [tN (by omega)]
            exact nx225 (opV (w % 16) l x :: t') false _ f.set (s.pop.pop.push ht) e
          · rw [if_neg (fun z => a13 (c13.mpr z)), if_neg (fun z => a12 (c12.mpr z)), if_neg (by rw [cl] at a1; omega), if_pos (c11.mp a11)] at e
            rw [d1, tT, top]
            exact nx225 ((1 - x) :: t) false _ f.set (s.pop.push hl) e
          · rw [if_neg (fun z => a13 (c13.mpr z)), if_neg (fun z => a12 (c12.mpr z)), if_pos (by rw [cl] at a1; omega), if_neg (by have := l48.mp z; omega)] at e
            exact nx225 (x :: t) false g f s e
          · rintro _ _ _ a13 a12 a1 z v g ⟨rfl, rfl⟩
            have lt : (x :: t).length < 48 := by rw [l48] at z; omega
            rw [if_neg (fun z => a13 (c13.mpr z)), if_neg (fun z => a12 (c12.mpr z)), if_pos (by rw [cl] at a1; omega), if_pos lt] at e
            refine c_X8_worth_154 hA0 (vin lt (by decide)) ?_
            rw [nI_1, tN (by omega)]
            exact nx225 (toV p w :: x :: t) false _ f.set (s.push (y := toV p w) lt) e
          · rw [d1, tT, top] at z
            rw [if_neg (fun z => a13 (c13.mpr z)), if_pos (c12.mp a12)] at e
            have e : wG p (c.drop (i + 1)) [] (decide (x = 0)) = wG p c [] false := e
            rw [decide_eq_false z] at e
            exact c_X8_worth_114 (c_X8_worth_115 (nx225 [] false g f (s0 g) e))
          · rw [d1, tT, top] at z
            rw [if_neg (fun z => a13 (c13.mpr z)), if_pos (c12.mp a12)] at e
            have e : wG p (c.drop (i + 1)) [] (decide (x = 0)) = wG p c [] false := e
            rw [decide_eq_true z] at e
            exact c_X8_worth_115 (nx225 [] true g f (s0 g) e)
          · rw [if_pos (c13.mp a13)] at e
            rw [d1, tT, top]
            refine c_X8_worth_87 ?_
            rw [hQ]
            exact ⟨_, rfl, by rw [← e]; rfl, f⟩
  have := key c.length 0 [] false h (by omega) ⟨rfl, fun _ _ _ => rfl⟩ ⟨by decide, fun i hi => by cases hi⟩ rfl
  exact this
end OPS
