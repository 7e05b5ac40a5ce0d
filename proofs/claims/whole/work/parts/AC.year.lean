/-! years: the other side's choices -/
section OPS
variable {X : CX} {d D nx sz : Nat} {g h h0 : AH} {n ln : Nat} {T : Nat → Nat} {c : List Nat}
def Gy (h g : AH) : Prop := Sc h g ∧ g.2.1 = h.2.1
theorem Gy.rfl : Gy h h := ⟨Sc.rfl, Eq.refl _⟩
theorem Gy.trans {a b e : AH} (f : Gy a b) (g : Gy b e) : Gy a e := ⟨f.1.trans g.1, g.2.trans f.2⟩
theorem sc_AA {h g : AH} {a : Nat} {f : Nat → Int32} (s : Sc h g) : Sc (setA h a f) (setA g a f) := ⟨fun b j hb => by
  show (if b = a then f else g.1 b) j = (if b = a then f else h.1 b) j
  by_cases q : b = a
  · rw [if_pos q, if_pos q]
  · rw [if_neg q, if_neg q]
    exact s.1 b j hb, s.2.1, s.2.2⟩
theorem Gy.AA {a b : AH} (f : Gy a b) (F : Nat → Int32) : Gy (setA a 73 F) (setA b 73 F) := ⟨sc_AA f.1, f.2⟩
theorem F72.gy {g : AH} (f : F72 h g) : Gy h g := ⟨f.sc, by rw [f.1]⟩
theorem t_worthTo {r p o : Nat} (hA0 : 91 ≤ nx) (hF : Fx h) (hp : MP h n) (hK : KB (h.1 73) n) (h1 : p < n) (h2 : o < n) (hr : r < 6) (R : RulA h r T ln c) : Mk X (D + 33) m_X12_worthTo [.ref 68, .int (nI r), .int (nI p), .int (nI o)] h nx sz (RI fun y g => y = yw c (h.1 73) (h.1 76) (h.1 75) n p o ∧ Gy h g) := by
  obtain ⟨n0, n2, n20⟩ := id hp
  have to : (nI o).toNatClampNeg = o := tN (by omega)
  have tp : (nI p).toNatClampNeg = p := tN (by omega)
  refine e_X12_worthTo (c_X12_worthTo_0 hA0 RO_rm hcs0 (t_clear (d := D + 28) hA0 hF) ?_)
  rintro g1 ⟨f1, L1⟩
  have hF1 := hF.of f1.1
  have a73 : g1.1 73 = h.1 73 := funext fun j => f1.2 73 j (by decide)
  have a75 : g1.1 75 = h.1 75 := funext fun j => f1.2 75 j (by decide)
  have a76 : g1.1 76 = h.1 76 := funext fun j => f1.2 76 j (by decide)
  obtain ⟨Q, hQ⟩ : ∃ Q, Q = (RI fun y g => y = yw c (h.1 73) (h.1 76) (h.1 75) n p o ∧ Gy h g) := ⟨_, rfl⟩
  rw [← hQ]
  refine c_X12_worthTo_4 hA0 RO_rm hcs0 (t_farOf (d := D + 30) hA0 hF1 (hp.sc f1.sc) h1 h2) ?_
  rintro _ _ ⟨rfl, rfl⟩
  rw [a73, dstI_mask hK (fun j hj => tb_m1f (by omega) hj) p o]
  have key : ∀ x : Int32, x = (if dstI (h.1 73) n (full n) p o = -1 then 0 else dstI (h.1 73) n (full n) p o) → VM X m_X12_worthTo (D + 33) nx sz Q 42 [some (.ref 68), some (.int (nI r)), some (.int (nI p)), some (.int (nI o)), none] [.int (bc (g1.1 73 o)), .int 107, .ref 72] (setI g1 72 100 x) := fun x hx => by
    refine c_X12_worthTo_42 hA0 (hF1.of rfl) RO_rm hcs0 (vin (i := 107) (by decide) (by decide)) (vin (by omega) (by decide)) (vin (by omega) (by decide)) (s_bitCount (d := D + 32)) ?_
    rintro _ _ ⟨rfl, rfl⟩
    rw [to, tp]
    refine c_X12_worthTo_65 hA0 (hF1.of rfl) RO_rm hcs0 (vin (i := 99) (by decide) (by decide)) (vin (by omega) (by decide)) (vin (by omega) (by decide)) (t_many (d := D + 31) hA0 (hF1.of rfl) (by omega)) ?_
    rintro _ _ ⟨rfl, rfl⟩
    rw [to]
    have f5 : F72 g1 (setI (setI (setI (setI (setI g1 72 100 x) 72 107 (bc (g1.1 73 o))) 72 99 (bc (g1.1 73 o &&& g1.1 73 p))) 72 111 (g1.1 76 o)) 72 114 (g1.1 75 o - bc (g1.1 73 o))) := F72.set (F72.set (F72.set (F72.set (F72.set ⟨rfl, fun _ _ _ => rfl⟩))))
    have LL : Let (setI (setI (setI (setI (setI g1 72 100 x) 72 107 (bc (g1.1 73 o))) 72 99 (bc (g1.1 73 o &&& g1.1 73 p))) 72 111 (g1.1 76 o)) 72 114 (g1.1 75 o - bc (g1.1 73 o))) (ltY (h.1 73) (h.1 76) (h.1 75) n p o) := by
      rw [← a73, ← a75, ← a76] at *
      intro k hk
      have : k = 0 ∨ k = 1 ∨ k = 2 ∨ k = 3 ∨ k = 4 ∨ k = 5 ∨ k = 6 ∨ k = 7 ∨ k = 8 := by omega
      rcases this with rfl | rfl | rfl | rfl | rfl | rfl | rfl | rfl | rfl
      · exact L1 0 (by decide)
      · exact L1 1 (by decide)
      · rfl
      · show bc (g1.1 73 o &&& g1.1 73 p) = bc (g1.1 73 p &&& g1.1 73 o)
        rw [Int32.and_comm]
      · exact L1 4 (by decide)
      · exact L1 5 (by decide)
      · exact hx
      · rfl
      · rfl
    have f6 := f1.gy.trans f5.gy
    obtain ⟨r1, r2, r3, r4, r5⟩ := R.sc f6.1
    have wb := t_worthBy (X := X) (D := D) (nx := nx) (sz := sz) hA0 (hF.sc f6.1) hr r1 r2 r3 r4 LL r5
    refine c_X12_worthTo_96 (P100 := fun y g2 => y = yw c (h.1 73) (h.1 76) (h.1 75) n p o ∧ Sc (setI (setI (setI (setI (setI g1 72 100 x) 72 107 (bc (g1.1 73 o))) 72 99 (bc (g1.1 73 o &&& g1.1 73 p))) 72 111 (g1.1 76 o)) 72 114 (g1.1 75 o - bc (g1.1 73 o))) g2 ∧ Gt (setI (setI (setI (setI (setI g1 72 100 x) 72 107 (bc (g1.1 73 o))) 72 99 (bc (g1.1 73 o &&& g1.1 73 p))) 72 111 (g1.1 76 o)) 72 114 (g1.1 75 o - bc (g1.1 73 o))) g2) hA0 RO_rm hcs0 (vin (i := 114) (by decide) (by decide)) wb ?_
    rintro _ g2 ⟨rfl, s2, gt2⟩
    refine c_X12_worthTo_103 ?_
    rw [hQ]
    exact ⟨_, rfl, rfl, f6.trans ⟨s2, gt2.1⟩⟩
  by_cases q : dstI (h.1 73) n (full n) p o = -1
  · refine c_X12_worthTo_10 (P39 := fun _ _ => False) hA0 hF1 RO_rm hcs0 (fun y => absurd q y) (fun y => absurd q y) (fun _ => t_many (d := D + 31) hA0 (hF1.of rfl) (by omega)) ?_
    rintro _ _ _ ⟨rfl, rfl⟩
    exact key 0 (if_pos q).symm
  · refine c_X12_worthTo_10 (P39_1 := fun _ _ => False) hA0 hF1 RO_rm hcs0 (fun _ => t_many (d := D + 31) hA0 (hF1.of rfl) (by omega)) ?_ (fun y => absurd y q) (fun y => absurd y q)
    rintro _ _ _ ⟨rfl, rfl⟩
    exact key _ (if_neg q).symm
theorem t_looks {r p : Nat} (hA0 : 91 ≤ nx) (hF : Fx h) (hp : MP h n) (hK : KB (h.1 73) n) (h1 : p < n) (hr : r < 6) (R : RulA h r T ln c) : Mk X (D + 34) m_X12_looks [.ref 68, .int (nI r), .int (nI p)] h nx sz (RV fun g => Gy (setA h 73 (lkK c (h.1 75) n (h.1 68 31) (h.1 76) (h.1 73) p)) g) := by
  obtain ⟨n0, n2, n20⟩ := id hp
  have tp : (nI p).toNatClampNeg = p := tN (by omega)
  have hid : setA h 73 (h.1 73) = h := setA_id
  refine e_X12_looks (c_X12_looks_0 ?_)
  obtain ⟨Q, hQ⟩ : ∃ Q, Q = (RV fun g => Gy (setA h 73 (lkK c (h.1 75) n (h.1 68 31) (h.1 76) (h.1 73) p)) g) := ⟨_, rfl⟩
  rw [← hQ]
  obtain ⟨w, hw⟩ : ∃ w, w = yw c (h.1 73) (h.1 76) (h.1 75) n p := ⟨_, rfl⟩
  have cal : ∀ g, Gy h g → Fx g ∧ MP g n ∧ RulA g r T ln c ∧ g.1 73 = h.1 73 ∧ g.1 75 = h.1 75 ∧ g.1 76 = h.1 76 ∧ g.1 68 31 = h.1 68 31 := fun g f => ⟨hF.sc f.1, hp.sc f.1, R.sc f.1, f.1.row (fun j => rfl), f.1.row (fun j => rfl), f.1.row (fun j => rfl), f.1.1 68 31 rfl⟩
  have wt : ∀ g o, Gy h g → o < n → Mk X (D + 33) m_X12_worthTo [.ref 68, .int (nI r), .int (nI p), .int (nI o)] g nx sz (RI fun y g' => y = w o ∧ Gy h g') := fun g o f ho => by
    obtain ⟨q1, q2, q3, q4, q5, q6, q7⟩ := cal g f
    have := t_worthTo (X := X) (D := D) (nx := nx) (sz := sz) hA0 q1 q2 (by rw [q4]; exact hK) h1 ho hr q3
    rw [q4, q5, q6, ← hw] at this
    exact this.ri (fun y g' q => ⟨q.1, f.trans q.2⟩)
  unfold lkK at hQ
  rw [← hw] at hQ
  have hQn : Q none = fun g => Gy (setA h 73 (match pkM (okM (h.1 73) (h.1 75) p) w n with
    | none => h.1 73
    | some f => if bc (h.1 73 p) < h.1 75 p then (if f.2 ≤ 0 then h.1 73 else joinK (h.1 73) p f.1) else match pkL (fun i => tb (h.1 73 p) i) w n with
      | none => h.1 73
      | some l => if f.2 ≤ l.2 + h.1 68 31 then h.1 73 else joinK (partK (h.1 73) p l.1) p f.1)) g := by
    funext g
    rw [hQ]
    exact propext ⟨fun z => z.2, fun z => ⟨rfl, z⟩⟩
  have fin2 : ∀ (f : Nat × Int32) (g : AH), pkM (okM (h.1 73) (h.1 75) p) w n = some f → ¬ bc (h.1 73 p) < h.1 75 p → Gy h g → ∀ (k i : Nat) (g : AH), i + k = n → Gy h g → VM X m_X12_looks (D + 34) nx sz Q 135 [some (.ref 68), some (.int (nI r)), some (.int (nI p)), some (.int (heB (some f))), some (.int (heM (some f))), some (.int (heB (pkL (fun i => tb (h.1 73 p) i) w i))), some (.int (heM (pkL (fun i => tb (h.1 73 p) i) w i))), some (.int (nI i)), none] [] g := by
    intro f _ ef nb _ k
    obtain ⟨q1, q2, q3⟩ := pkM_spec n f ef
    rw [ef] at hQn
    have hQn : Q none = fun g => Gy (setA h 73 (if bc (h.1 73 p) < h.1 75 p then (if f.2 ≤ 0 then h.1 73 else joinK (h.1 73) p f.1) else match pkL (fun i => tb (h.1 73 p) i) w n with
      | none => h.1 73
      | some l => if f.2 ≤ l.2 + h.1 68 31 then h.1 73 else joinK (partK (h.1 73) p l.1) p f.1)) g := hQn
    rw [if_neg nb] at hQn
    induction k with
    | zero =>
      intro i g hi f'
      have hi : i = n := by omega
      subst hi
      obtain ⟨c1, c2, c3, c4, c5, c6, c7⟩ := cal g f'
      have yes : g.1 68 1 ≤ nI i := by
        rw [c2.1]
        exact Int32.le_refl _
      cases el : pkL (fun i => tb (h.1 73 p) i) w i with
      | none =>
        rw [el] at hQn
        have hQn : Q none = fun g => Gy (setA h 73 (h.1 73)) g := hQn
        rw [hid] at hQn
        refine c_X12_looks_135 (d := D + 33) (P224 := fun _ => False) (P152 := fun _ _ => False) hA0 c1 RO_rm hcs0 (fun _ _ => ?_) (fun _ y => absurd rfl y) (fun _ y => absurd rfl y) (fun _ y => absurd rfl y) (fun y => absurd yes y) (fun y => absurd yes y) (fun y => absurd yes y)
        rw [hQn]
        exact f'
      | some l =>
        rw [el] at hQn
        obtain ⟨l1, l2, l3⟩ := pkL_spec i l el
        have nl : ¬ heB (some l) = -1 := nI_m1 (by omega)
        have hQn : Q none = fun g => Gy (setA h 73 (if f.2 ≤ l.2 + h.1 68 31 then h.1 73 else joinK (partK (h.1 73) p l.1) p f.1)) g := hQn
        by_cases le : f.2 ≤ l.2 + h.1 68 31
        · rw [if_pos le, hid] at hQn
          refine c_X12_looks_135 (d := D + 33) (P224 := fun _ => False) (P152 := fun _ _ => False) hA0 c1 RO_rm hcs0 (fun _ y => absurd y nl) (fun _ _ y => absurd le (by rw [← c7]; exact Int32.not_le.mpr y)) (fun _ _ y => absurd le (by rw [← c7]; exact Int32.not_le.mpr y)) (fun _ _ _ => ?_) (fun y => absurd yes y) (fun y => absurd yes y) (fun y => absurd yes y)
          rw [hQn]
          exact f'
        · rw [if_neg le] at hQn
          refine c_X12_looks_135 (P152 := fun _ _ => False) hA0 c1 RO_rm hcs0 (fun _ y => absurd y nl) (fun _ _ _ => t_part (d := D + 33) (j := l.1) hA0 c1 (by omega) (by omega)) ?_ (fun _ _ y => absurd (by rw [c7]; exact Int32.not_le.mp le) y) (fun y => absurd yes y) (fun y => absurd yes y) (fun y => absurd yes y)
          rintro _ _ _ _ rfl
          refine c_X12_looks_227 hA0 RO_rm hcs0 (t_join (d := D + 33) (j := f.1) hA0 (c1.of rfl) (by omega) (by omega)) ?_
          rintro _ rfl
          refine c_X12_looks_233 ?_
          rw [hQn]
          show Gy (setA h 73 (joinK (partK (h.1 73) p l.1) p f.1)) (setA (setA g 73 (partK (g.1 73) p l.1)) 73 (joinK ((setA g 73 (partK (g.1 73) p l.1)).1 73) p f.1))
          rw [setA_self, setA_A, c4]
          exact f'.AA _
    | succ k ih =>
      intro i g hi f'
      obtain ⟨c1, c2, c3, c4, c5, c6, c7⟩ := cal g f'
      have no : ¬ g.1 68 1 ≤ nI i := fun y => by
        rw [c2.1, le_nI (by omega) (by omega)] at y
        omega
      refine c_X12_looks_135 (P224 := fun _ => False) hA0 c1 RO_rm hcs0 (fun y => absurd y no) (fun y => absurd y no) (fun y => absurd y no) (fun y => absurd y no) (fun _ => vin (by omega) (by decide)) (fun _ => t_has (d := D + 33) (by omega)) ?_
      rintro _ _ _ ⟨rfl, rfl⟩
      rw [tp, c4]
      by_cases b : tb (h.1 73 p) i = true
      · have eF : pkL (fun i => tb (h.1 73 p) i) w (i + 1) = (match pkL (fun i => tb (h.1 73 p) i) w i with
          | none => some (i, w i)
          | some (b, m) => if m ≤ w i then some (b, m) else some (i, w i)) := if_pos b
        refine c_X12_looks_155 hA0 RO_rm hcs0 (fun _ => wt g i f' (by omega)) ?_ (fun y => absurd b (bt3 y))
        rintro _ _ g2 ⟨rfl, f2⟩
        have nxt := ih (i + 1) g2 (by omega) f2
        rw [eF, ← nI_1] at nxt
        cases q : pkL (fun i => tb (h.1 73 p) i) w i with
        | none =>
          rw [q] at nxt
          exact c_X12_looks_169 (fun _ => nxt) (fun y => absurd rfl y) (fun y => absurd rfl y)
        | some bm =>
          obtain ⟨b', m⟩ := bm
          have hb : b' < i := (pkL_spec i _ q).1
          have nm : ¬ heB (some (b', m)) = -1 := nI_m1 (by show b' < 2 ^ 31; omega)
          rw [q] at nxt
          have nxt : VM X m_X12_looks (D + 34) nx sz Q 135 [some (.ref 68), some (.int (nI r)), some (.int (nI p)), some (.int (heB (some f))), some (.int (heM (some f))), some (.int (heB (if m ≤ w i then some (b', m) else some (i, w i)))), some (.int (heM (if m ≤ w i then some (b', m) else some (i, w i)))), some (.int (nI i + 1)), none] [] g2 := nxt
          by_cases le : m ≤ w i
          · rw [if_pos le] at nxt
            exact c_X12_looks_169 (fun y => absurd y nm) (fun _ y => absurd le (Int32.not_le.mpr y)) (fun _ _ => nxt)
          · rw [if_neg le] at nxt
            exact c_X12_looks_169 (fun y => absurd y nm) (fun _ _ => nxt) (fun _ y => absurd (Int32.not_le.mp le) y)
      · have nxt := ih (i + 1) g (by omega) f'
        have e : pkL (fun i => tb (h.1 73 p) i) w (i + 1) = pkL (fun i => tb (h.1 73 p) i) w i := if_neg b
        rw [e, ← nI_1] at nxt
        exact c_X12_looks_155 (d := D + 33) (P166 := fun _ _ => False) hA0 RO_rm hcs0 (fun y => absurd (bt4 y) b) (fun y => absurd (bt4 y) b) (fun _ => nxt)
  have first : ∀ (k i : Nat) (g : AH), i + k = n → Gy h g → VM X m_X12_looks (D + 34) nx sz Q 8 [some (.ref 68), some (.int (nI r)), some (.int (nI p)), some (.int (heB (pkM (okM (h.1 73) (h.1 75) p) w i))), some (.int (heM (pkM (okM (h.1 73) (h.1 75) p) w i))), some (.int (nI i)), none, none, none] [] g := by
    intro k
    induction k with
    | zero =>
      intro i g hi f'
      have hi : i = n := by omega
      subst hi
      obtain ⟨c1, c2, c3, c4, c5, c6, c7⟩ := cal g f'
      have yes : g.1 68 1 ≤ nI i := by
        rw [c2.1]
        exact Int32.le_refl _
      cases e : pkM (okM (h.1 73) (h.1 75) p) w i with
      | none =>
        rw [e] at hQn
        have hQn : Q none = fun g => Gy (setA h 73 (h.1 73)) g := hQn
        rw [hid] at hQn
        refine c_X12_looks_8 (d := D + 33) (P102 := fun _ _ => False) (P31 := fun _ _ => False) hA0 c1 RO_rm hcs0 (fun _ y => absurd rfl y) (fun _ y => absurd rfl y) (fun _ _ => ?_) (fun y => absurd yes y) (fun y => absurd yes y) (fun y => absurd yes y) (fun y => absurd yes y)
        rw [hQn]
        exact f'
      | some f =>
        obtain ⟨q1, q2, q3⟩ := pkM_spec i f e
        have nm : ¬ heB (some f) = -1 := nI_m1 (by omega)
        refine c_X12_looks_8 (P31 := fun _ _ => False) hA0 c1 RO_rm hcs0 (fun _ _ => t_many (d := D + 32) hA0 c1 (by omega)) ?_ (fun _ y => absurd y nm) (fun y => absurd yes y) (fun y => absurd yes y) (fun y => absurd yes y) (fun y => absurd yes y)
        rintro _ _ _ _ ⟨rfl, rfl⟩
        rw [c4]
        have c5' : g.1 75 (nI p).toNatClampNeg = h.1 75 p := by rw [tp, c5]
        by_cases b : bc (h.1 73 p) < h.1 75 p
        · rw [e] at hQn
          have hQn : Q none = fun g => Gy (setA h 73 (if bc (h.1 73 p) < h.1 75 p then (if f.2 ≤ 0 then h.1 73 else joinK (h.1 73) p f.1) else match pkL (fun i => tb (h.1 73 p) i) w i with
            | none => h.1 73
            | some l => if f.2 ≤ l.2 + h.1 68 31 then h.1 73 else joinK (partK (h.1 73) p l.1) p f.1)) g := hQn
          rw [if_pos b] at hQn
          have nb : ¬ g.1 75 (nI p).toNatClampNeg ≤ bc (h.1 73 p) := by rw [c5']; exact Int32.not_le.mpr b
          by_cases le : f.2 ≤ 0
          · rw [if_pos le, hid] at hQn
            refine c_X12_looks_105 (d := D + 33) (P122 := fun _ => False) hA0 c1 RO_rm hcs0 (vin (by omega) (by decide)) (fun y => absurd y nb) (fun _ _ => c_X12_looks_125 ?_) (fun _ y => absurd le y) (fun _ y => absurd le y)
            rw [hQn]
            exact f'
          · rw [if_neg le] at hQn
            refine c_X12_looks_105 hA0 c1 RO_rm hcs0 (vin (by omega) (by decide)) (fun y => absurd y nb) (fun _ y => absurd y le) (fun _ _ => t_join (d := D + 33) (j := f.1) hA0 c1 (by omega) (by omega)) ?_
            rintro _ _ _ rfl
            refine c_X12_looks_125 ?_
            rw [hQn]
            show Gy (setA h 73 (joinK (h.1 73) p f.1)) (setA g 73 (joinK (g.1 73) p f.1))
            rw [c4]
            exact f'.AA _
        · have yb : g.1 75 (nI p).toNatClampNeg ≤ bc (h.1 73 p) := by rw [c5']; exact Int32.not_lt.mp b
          refine c_X12_looks_105 (d := D + 33) (P122 := fun _ => False) hA0 c1 RO_rm hcs0 (vin (by omega) (by decide)) (fun _ => ?_) (fun y => absurd yb y) (fun y => absurd yb y) (fun y => absurd yb y)
          exact fin2 f g e b f' i 0 g (by omega) f'
    | succ k ih =>
      intro i g hi f'
      obtain ⟨c1, c2, c3, c4, c5, c6, c7⟩ := cal g f'
      have no : ¬ g.1 68 1 ≤ nI i := fun y => by
        rw [c2.1, le_nI (by omega) (by omega)] at y
        omega
      have ep : nI i = nI p ↔ i = p := nI_eq (by omega) (by omega)
      have ti : (nI i).toNatClampNeg = i := tN (by omega)
      have keep : okM (h.1 73) (h.1 75) p i = false → VM X m_X12_looks (D + 34) nx sz Q 8 [some (.ref 68), some (.int (nI r)), some (.int (nI p)), some (.int (heB (pkM (okM (h.1 73) (h.1 75) p) w i))), some (.int (heM (pkM (okM (h.1 73) (h.1 75) p) w i))), some (.int (nI i + 1)), none, none, none] [] g := fun q => by
        have nxt := ih (i + 1) g (by omega) f'
        have e : pkM (okM (h.1 73) (h.1 75) p) w (i + 1) = pkM (okM (h.1 73) (h.1 75) p) w i := if_neg (by rw [q]; decide)
        rw [e, ← nI_1] at nxt
        exact nxt
      by_cases a : i = p
      · exact c_X12_looks_8 (d := D + 33) (P102 := fun _ _ => False) (P31 := fun _ _ => False) hA0 c1 RO_rm hcs0 (fun y => absurd y no) (fun y => absurd y no) (fun y => absurd y no) (fun _ _ => keep (by unfold okM; rw [decide_eq_true a]; rfl)) (fun _ y => absurd (ep.mpr a) y) (fun _ y => absurd (ep.mpr a) y) (fun _ y => absurd (ep.mpr a) y)
      refine c_X12_looks_8 (P102 := fun _ _ => False) hA0 c1 RO_rm hcs0 (fun y => absurd y no) (fun y => absurd y no) (fun y => absurd y no) (fun _ y => absurd (ep.mp y) a) (fun _ _ => vin (by omega) (by decide)) (fun _ _ => t_has (d := D + 33) (by omega)) ?_
      rintro _ _ _ _ ⟨rfl, rfl⟩
      rw [tp, c4]
      by_cases b : tb (h.1 73 p) i = true
      · exact c_X12_looks_34 (d := D + 33) (P40 := fun _ _ => False) hA0 RO_rm hcs0 (fun _ => keep (by unfold okM; rw [b]; exact Bool.and_false _)) (fun y => absurd b (bt3 y)) (fun y => absurd b (bt3 y))
      refine c_X12_looks_34 hA0 RO_rm hcs0 (fun y => absurd (bt4 y) b) (fun _ => t_many (d := D + 32) hA0 c1 (by omega)) ?_
      rintro _ _ _ ⟨rfl, rfl⟩
      rw [c4]
      have c5' : g.1 75 (nI i).toNatClampNeg = h.1 75 i := by rw [ti, c5]
      by_cases e : bc (h.1 73 i) < h.1 75 i
      · have ok : okM (h.1 73) (h.1 75) p i = true := by
          unfold okM
          rw [decide_eq_false a, decide_eq_true e]
          cases q : tb (h.1 73 p) i
          · rfl
          · exact absurd q b
        have eF : pkM (okM (h.1 73) (h.1 75) p) w (i + 1) = (match pkM (okM (h.1 73) (h.1 75) p) w i with
          | none => some (i, w i)
          | some (b, m) => if w i ≤ m then some (b, m) else some (i, w i)) := if_pos ok
        refine c_X12_looks_43 hA0 c1 RO_rm hcs0 (vin (by omega) (by decide)) (fun _ => wt g i f' (by omega)) ?_ (fun y => absurd (by rw [c5']; exact e) y)
        rintro _ _ g2 ⟨rfl, f2⟩
        have nxt := ih (i + 1) g2 (by omega) f2
        rw [eF, ← nI_1] at nxt
        cases q : pkM (okM (h.1 73) (h.1 75) p) w i with
        | none =>
          rw [q] at nxt
          exact c_X12_looks_64 (fun _ => nxt) (fun y => absurd rfl y) (fun y => absurd rfl y)
        | some bm =>
          obtain ⟨b', m⟩ := bm
          have hb : b' < i := (pkM_spec i _ q).1
          have nm : ¬ heB (some (b', m)) = -1 := nI_m1 (by show b' < 2 ^ 31; omega)
          rw [q] at nxt
          have nxt : VM X m_X12_looks (D + 34) nx sz Q 8 [some (.ref 68), some (.int (nI r)), some (.int (nI p)), some (.int (heB (if w i ≤ m then some (b', m) else some (i, w i)))), some (.int (heM (if w i ≤ m then some (b', m) else some (i, w i)))), some (.int (nI i + 1)), none, none, none] [] g2 := nxt
          by_cases le : w i ≤ m
          · rw [if_pos le] at nxt
            exact c_X12_looks_64 (fun y => absurd y nm) (fun _ y => absurd le (Int32.not_le.mpr y)) (fun _ _ => nxt)
          · rw [if_neg le] at nxt
            exact c_X12_looks_64 (fun y => absurd y nm) (fun _ _ => nxt) (fun _ y => absurd (Int32.not_le.mp le) y)
      · exact c_X12_looks_43 (d := D + 33) (P61 := fun _ _ => False) hA0 c1 RO_rm hcs0 (vin (by omega) (by decide)) (fun y => absurd (by rw [← c5']; exact y) e) (fun y => absurd (by rw [← c5']; exact y) e) (fun _ => keep (by unfold okM; rw [decide_eq_false e, Bool.and_false, Bool.and_false]))
  exact first n 0 h (by omega) Gy.rfl
end OPS
