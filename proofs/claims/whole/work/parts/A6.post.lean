/-! post: the other side's heir -/
section OPS
variable {X : CX} {d D nx sz : Nat} {h h0 : AH} {p : Nat → Int32} {n ln : Nat} {T : Nat → Nat} {c : List Nat}
/-- rule r's text lies there, and means c -/
def RulA (h : AH) (r : Nat) (T : Nat → Nat) (ln : Nat) (c : List Nat) : Prop := ln ≤ 200 ∧ h.1 71 r = nI ln ∧ Byt T ln ∧ (∀ i, i < ln → h.1 70 (200 * r + i) = byt (T i)) ∧ (ruF T ln).1 = some c
theorem RulA.sc {g : AH} {r : Nat} (R : RulA h r T ln c) (s : Sc h g) : RulA g r T ln c := by
  obtain ⟨r1, r2, r3, r4, r5⟩ := R
  exact ⟨r1, (s.1 71 r rfl).trans r2, r3, fun i hi => (s.1 70 _ rfl).trans (r4 i hi), r5⟩
def Fgv (h g : AH) : Prop := Sc h g ∧ (∀ j, g.1 85 j = h.1 85 j) ∧ (∀ j, g.1 86 j = h.1 86 j) ∧ g.1 68 41 = h.1 68 41
theorem Fgv.trans {g k : AH} (a : Fgv h g) (b : Fgv g k) : Fgv h k := ⟨a.1.trans b.1, fun j => (b.2.1 j).trans (a.2.1 j), fun j => (b.2.2.1 j).trans (a.2.2.1 j), b.2.2.2.trans a.2.2.2⟩
theorem F72.gv {g : AH} (f : F72 h g) : Fgv h g := ⟨f.sc, fun j => f.2 85 j (by decide), fun j => f.2 86 j (by decide), f.2 68 41 (by decide)⟩
theorem Gt.gv {g : AH} (s : Sc h g) (f : Gt h g) : Fgv h g := ⟨s, fun j => f.2 85 j (by omega), fun j => f.2 86 j (by omega), f.2 68 41 (by omega)⟩
theorem t_givesTo {r hd t : Nat} (hA0 : 91 ≤ nx) (hF : Fx h) (hp : MP h n) (h1 : hd < n) (ht : t < n) (hr : r < 6) (R : RulA h r T ln c) : Mk X (D + 33) m_X12_givesTo [.ref 68, .int (nI r), .int (nI hd), .int (nI t)] h nx sz (RI fun y g => y = heB (heF (h.1 73) hd (gvW c (h.1 73) (h.1 85) hd t) n) ∧ Fgv h g) := by
  obtain ⟨n0, n2, n20⟩ := id hp
  refine e_X12_givesTo (c_X12_givesTo_0 ?_)
  obtain ⟨Q, hQ⟩ : ∃ Q, Q = (RI fun y g => y = heB (heF (h.1 73) hd (gvW c (h.1 73) (h.1 85) hd t) n) ∧ Fgv h g) := ⟨_, rfl⟩
  rw [← hQ]
  have key : ∀ (k i : Nat) (g : AH), i + k = n → Fgv h g → VM X m_X12_givesTo (D + 33) nx sz Q 9 [some (.ref 68), some (.int (nI r)), some (.int (nI hd)), some (.int (nI t)), some (.int (heB (heF (h.1 73) hd (gvW c (h.1 73) (h.1 85) hd t) i))), some (.int (heM (heF (h.1 73) hd (gvW c (h.1 73) (h.1 85) hd t) i))), some (.int (nI i)), none] [] g := by
    intro k
    induction k with
    | zero =>
      intro i g hi f
      have hi : i = n := by omega
      subst hi
      have yes : g.1 68 1 ≤ nI i := by
        rw [f.1.1 68 1 rfl, n0]
        exact Int32.le_refl _
      refine c_X12_givesTo_9 (d := D + 32) (P26 := fun _ _ => False) hA0 (hF.sc f.1) RO_rm hcs0 (fun _ => ?_) (fun z => absurd yes z) (fun z => absurd yes z) (fun z => absurd yes z)
      rw [hQ]
      exact ⟨_, rfl, rfl, f⟩
    | succ k ih =>
      intro i g hi f
      have hFg := hF.sc f.1
      have no : ¬ g.1 68 1 ≤ nI i := fun z => by
        rw [f.1.1 68 1 rfl, n0, le_nI (by omega) (by omega)] at z
        omega
      have g73 : g.1 73 = h.1 73 := f.1.row (fun j => rfl)
      have g85 : g.1 85 = h.1 85 := funext f.2.1
      have thd : (nI hd).toNatClampNeg = hd := tN (by omega)
      have ti : (nI i).toNatClampNeg = i := tN (by omega)
      refine c_X12_givesTo_9 hA0 hFg RO_rm hcs0 (fun z => absurd z no) (fun _ => vin (by omega) (by decide)) (fun _ => t_has (d := D + 32) (by omega)) ?_
      rintro _ _ g ⟨rfl, rfl⟩
      rw [thd, g73]
      by_cases q : tb (h.1 73 hd) i = true
      · rw [if_pos q]
        have eF : heF (h.1 73) hd (gvW c (h.1 73) (h.1 85) hd t) (i + 1) = (match heF (h.1 73) hd (gvW c (h.1 73) (h.1 85) hd t) i with
          | none => some (i, gvW c (h.1 73) (h.1 85) hd t i)
          | some (b, m) => if gvW c (h.1 73) (h.1 85) hd t i ≤ m then some (b, m) else some (i, gvW c (h.1 73) (h.1 85) hd t i)) := if_pos q
        refine c_X12_givesTo_29 hA0 RO_rm hcs0 (fun _ => t_clear (d := D + 28) hA0 hFg) ?_ (fun z => by cases z)
        rintro _ g1 ⟨f1, L1⟩
        have hF1 := hFg.of f1.1
        have a73 : g1.1 73 = h.1 73 := (funext fun j => f1.2 73 j (by decide)).trans g73
        have a85 : g1.1 85 = h.1 85 := (funext fun j => f1.2 85 j (by decide)).trans g85
        have et : nI i = nI t ↔ i = t := nI_eq (by omega) (by omega)
        have nxt : ∀ g2, Fgv h g2 → VM X m_X12_givesTo (D + 33) nx sz Q 153 [some (.ref 68), some (.int (nI r)), some (.int (nI hd)), some (.int (nI t)), some (.int (heB (heF (h.1 73) hd (gvW c (h.1 73) (h.1 85) hd t) i))), some (.int (heM (heF (h.1 73) hd (gvW c (h.1 73) (h.1 85) hd t) i))), some (.int (nI i)), none] [.int (gvW c (h.1 73) (h.1 85) hd t i)] g2 := fun g2 f2 => by
          have nxt := ih (i + 1) g2 (by omega) f2
          rw [eF, ← nI_1] at nxt
          cases e : heF (h.1 73) hd (gvW c (h.1 73) (h.1 85) hd t) i with
          | none =>
            rw [e] at nxt
            exact c_X12_givesTo_153 (fun _ => nxt) (fun y => absurd rfl y) (fun y => absurd rfl y)
          | some bm =>
            obtain ⟨b, m⟩ := bm
            have hb : b < i := (heF_lt i _ e).1
            have nm : ¬ heB (some (b, m)) = -1 := nI_m1 (by show b < 2 ^ 31; omega)
            rw [e] at nxt
            have nxt : VM X m_X12_givesTo (D + 33) nx sz Q 9 [some (.ref 68), some (.int (nI r)), some (.int (nI hd)), some (.int (nI t)), some (.int (heB (if gvW c (h.1 73) (h.1 85) hd t i ≤ m then some (b, m) else some (i, gvW c (h.1 73) (h.1 85) hd t i)))), some (.int (heM (if gvW c (h.1 73) (h.1 85) hd t i ≤ m then some (b, m) else some (i, gvW c (h.1 73) (h.1 85) hd t i)))), some (.int (nI i + 1)), none] [] g2 := nxt
            by_cases le : gvW c (h.1 73) (h.1 85) hd t i ≤ m
            · rw [if_pos le] at nxt
              exact c_X12_givesTo_153 (fun y => absurd y nm) (fun _ y => absurd le (Int32.not_le.mpr y)) (fun _ _ => nxt)
            · rw [if_neg le] at nxt
              exact c_X12_givesTo_153 (fun y => absurd y nm) (fun _ _ => nxt) (fun _ y => absurd (Int32.not_le.mp le) y)
        have p119 : ∀ z1 z2 : Int32, z1 = (if i = t then 1 else 0) → z2 = (if tb (h.1 73 i) t = true then 1 else 0) → VM X m_X12_givesTo (D + 33) nx sz Q 95 [some (.ref 68), some (.int (nI r)), some (.int (nI hd)), some (.int (nI t)), some (.int (heB (heF (h.1 73) hd (gvW c (h.1 73) (h.1 85) hd t) i))), some (.int (heM (heF (h.1 73) hd (gvW c (h.1 73) (h.1 85) hd t) i))), some (.int (nI i)), none] [.int (bc (h.1 73 i)), .int 107, .ref 72] (setI (setI g1 72 116 z1) 72 102 z2) := fun z1 z2 e1 e2 => by
          subst e1 e2
          refine c_X12_givesTo_95 hA0 (hF1.of rfl) RO_rm hcs0 (vin (i := 107) (by decide) (by decide)) (vin (by omega) (by decide)) (vin (by omega) (by decide)) (s_bitCount (d := D + 32)) ?_
          rintro _ _ ⟨rfl, rfl⟩
          rw [ti, thd]
          have k73 : (setI (setI g1 72 116 (if i = t then 1 else 0)) 72 102 (if tb (h.1 73 i) t = true then 1 else 0)).1 73 = h.1 73 := (funext fun j => (setI_b (by decide)).trans (setI_b (by decide))).trans a73
          rw [k73]
          have LL := let_told (g := g1) (K := h.1 73) (V := h.1 85) (hd := hd) (i := i) (t := t) (by omega) L1
          have f6 : F72 g1 (setI (setI (setI (setI (setI (setI g1 72 116 (if i = t then 1 else 0)) 72 102 (if tb (h.1 73 i) t = true then 1 else 0)) 72 107 (bc (h.1 73 i))) 72 99 (bc (h.1 73 i &&& h.1 73 hd))) 72 98 (h.1 85 i)) 72 97 (abI i t)) := F72.set (F72.set (F72.set (F72.set (F72.set (F72.set ⟨rfl, fun _ _ _ => rfl⟩)))))
          have v6 := f.trans (f1.gv.trans f6.gv)
          obtain ⟨r1, r2, r3, r4, r5⟩ := R.sc v6.1
          have wb := t_worthBy (X := X) (D := D) (nx := nx) (sz := sz) hA0 (hF.sc v6.1) hr r1 r2 r3 r4 LL r5
          have e85 : ∀ (j : Nat) (x : Int32), (setI (setI (setI g1 72 116 (if i = t then 1 else 0)) 72 102 (if tb (h.1 73 i) t = true then 1 else 0)) 72 j x).1 85 i = h.1 85 i := fun j x => ((setI_b (by decide)).trans ((setI_b (by decide)).trans (setI_b (by decide)))).trans (congrFun a85 i)
          refine c_X12_givesTo_119 hA0 (hF1.of rfl) RO_rm hcs0 (vin (i := 99) (by decide) (by decide)) (vin (by omega) (by decide)) (P150 := fun y g2 => y = gvW c (h.1 73) (h.1 85) hd t i ∧ Sc (setI (setI (setI (setI (setI (setI g1 72 116 (if i = t then 1 else 0)) 72 102 (if tb (h.1 73 i) t = true then 1 else 0)) 72 107 (bc (h.1 73 i))) 72 99 (bc (h.1 73 i &&& h.1 73 hd))) 72 98 (h.1 85 i)) 72 97 (abI i t)) g2 ∧ Gt (setI (setI (setI (setI (setI (setI g1 72 116 (if i = t then 1 else 0)) 72 102 (if tb (h.1 73 i) t = true then 1 else 0)) 72 107 (bc (h.1 73 i))) 72 99 (bc (h.1 73 i &&& h.1 73 hd))) 72 98 (h.1 85 i)) 72 97 (abI i t)) g2) ?_ ?_
          · rw [ti, e85]
            exact wb
          rintro _ g2 ⟨rfl, s2, gt2⟩
          exact nxt g2 (v6.trans (Gt.gv s2 gt2))
        have p74 : ∀ z1 : Int32, z1 = (if i = t then 1 else 0) → VM X m_X12_givesTo (D + 33) nx sz Q 74 [some (.ref 68), some (.int (nI r)), some (.int (nI hd)), some (.int (nI t)), some (.int (heB (heF (h.1 73) hd (gvW c (h.1 73) (h.1 85) hd t) i))), some (.int (heM (heF (h.1 73) hd (gvW c (h.1 73) (h.1 85) hd t) i))), some (.int (nI i)), none] [.int (if tb (h.1 73 i) t = true then 1 else 0), .int 102, .ref 72] (setI g1 72 116 z1) := fun z1 e1 => by
          have b73 : ∀ x : Int32, (setI (setI g1 72 116 z1) 72 102 x).1 73 i = h.1 73 i := fun x => ((setI_b (by decide)).trans (setI_b (by decide))).trans (congrFun a73 i)
          by_cases w : tb (h.1 73 i) t = true
          · have p := p119 z1 1 e1 (if_pos w).symm
            rw [if_pos w]
            refine c_X12_givesTo_74 (P92 := fun _ _ => False) hA0 (hF1.of rfl) RO_rm hcs0 (fun z => by cases z) (fun z => by cases z) (fun z => by cases z) (fun _ => vin (i := 102) (by decide) (by decide)) (fun _ => t_many (d := D + 31) hA0 (hF1.of rfl) (by omega)) ?_
            rintro _ _ _ ⟨rfl, rfl⟩
            have b : bc ((setI (setI g1 72 116 z1) 72 102 1).1 73 i) = bc (h.1 73 i) := by rw [b73]
            rw [← b] at p
            exact p
          · have p := p119 z1 0 e1 (if_neg w).symm
            rw [if_neg w]
            refine c_X12_givesTo_74 (P92_1 := fun _ _ => False) hA0 (hF1.of rfl) RO_rm hcs0 (fun _ => vin (i := 102) (by decide) (by decide)) (fun _ => t_many (d := D + 31) hA0 (hF1.of rfl) (by omega)) ?_ (fun z => absurd rfl z) (fun z => absurd rfl z) (fun z => absurd rfl z)
            rintro _ _ _ ⟨rfl, rfl⟩
            have b : bc ((setI (setI g1 72 116 z1) 72 102 0).1 73 i) = bc (h.1 73 i) := by rw [b73]
            rw [← b] at p
            exact p
        have c73 : g1.1 73 i = h.1 73 i := congrFun a73 i
        by_cases w : i = t
        · refine c_X12_givesTo_39 (P71 := fun _ _ => False) hA0 hF1 RO_rm hcs0 (fun z => absurd (et.mpr w) z) (fun z => absurd (et.mpr w) z) (fun z => absurd (et.mpr w) z) (fun _ => vin (by omega) (by decide)) (fun _ => t_has (d := D + 32) (by omega)) ?_
          rintro _ _ _ ⟨rfl, rfl⟩
          rw [ti, c73]
          exact p74 1 (if_pos w).symm
        · refine c_X12_givesTo_39 (P71_1 := fun _ _ => False) hA0 hF1 RO_rm hcs0 (fun _ => vin (by omega) (by decide)) (fun _ => t_has (d := D + 32) (by omega)) ?_ (fun z => absurd (et.mp z) w) (fun z => absurd (et.mp z) w) (fun z => absurd (et.mp z) w)
          rintro _ _ _ ⟨rfl, rfl⟩
          rw [ti, c73]
          exact p74 0 (if_neg w).symm
      · rw [if_neg q]
        have eF : heF (h.1 73) hd (gvW c (h.1 73) (h.1 85) hd t) (i + 1) = heF (h.1 73) hd (gvW c (h.1 73) (h.1 85) hd t) i := if_neg q
        have nxt := ih (i + 1) g (by omega) f
        rw [eF, ← nI_1] at nxt
        exact c_X12_givesTo_29 (d := D + 32) (P36 := fun _ => False) hA0 RO_rm hcs0 (fun z => absurd rfl z) (fun z => absurd rfl z) (fun _ => nxt)
  exact key n 0 h (by omega) ⟨Sc.rfl, fun _ => rfl, fun _ => rfl, rfl⟩
end OPS
