/-! years: what is chosen; the class's choices -/
section MONO
variable {X : CX} {d : Nat} {mt : MT} {av : List Value} {h : AH} {nx sz nx' sz' mc ms : Nat}
/-- a contract that says less -/
theorem Mok.mono {Q Q' : Option Value → AH → Prop} (m : Mok X d mt av h nx sz nx' sz' mc ms Q) (hq : ∀ r h', Q r h' → Q' r h') : Mok X d mt av h nx sz nx' sz' mc ms Q' := by
  intro p e ha hc hk s mth args below hfr hap hP hK
  obtain ⟨n, o, a1, a2, a3, a4, a5⟩ := m p e ha hc hk s mth args below hfr hap hP hK
  exact ⟨n, o, a1, a2, a3, a4.mono hq, a5⟩
theorem Mk.ri {P P' : Int32 → AH → Prop} (m : Mk X d mt av h nx sz (RI P)) (hp : ∀ y g, P y g → P' y g) : Mk X d mt av h nx sz (RI P') := Mok.mono m (fun r h' q => by
  obtain ⟨y, e, a⟩ := q
  exact ⟨y, e, hp y h' a⟩)
theorem Mk.rj' {P P' : Int64 → AH → Prop} (m : Mk X d mt av h nx sz (RJ P)) (hp : ∀ y g, P y g → P' y g) : Mk X d mt av h nx sz (RJ P') := Mok.mono m (fun r h' q => by
  obtain ⟨y, e, a⟩ := q
  exact ⟨y, e, hp y h' a⟩)
end MONO
section PY
/-- letters told of a stranger, by place -/
def ltY (K A L : Nat → Int32) (n p o : Nat) : Nat → Int32 := fun k => if k = 8 then L o - bc (K o) else if k = 7 then A o else if k = 6 then (if dstI K n (full n) p o = -1 then 0 else dstI K n (full n) p o) else if k = 3 then bc (K p &&& K o) else if k = 2 then bc (K o) else 0
def yw (c : List Nat) (K A L : Nat → Int32) (n p o : Nat) : Int32 := (wG (ltY K A L n p o) c [] false).getD 0
/-- the first of the greatest, of the least -/
def pkM (P : Nat → Bool) (w : Nat → Int32) : Nat → Option (Nat × Int32)
  | 0 => none
  | k + 1 => if P k = true then (match pkM P w k with
      | none => some (k, w k)
      | some (b, m) => if w k ≤ m then some (b, m) else some (k, w k)) else pkM P w k
def pkL (P : Nat → Bool) (w : Nat → Int32) : Nat → Option (Nat × Int32)
  | 0 => none
  | k + 1 => if P k = true then (match pkL P w k with
      | none => some (k, w k)
      | some (b, m) => if m ≤ w k then some (b, m) else some (k, w k)) else pkL P w k
theorem pkM_spec {P : Nat → Bool} {w : Nat → Int32} : ∀ (k : Nat) (p : Nat × Int32), pkM P w k = some p → p.1 < k ∧ P p.1 = true ∧ p.2 = w p.1
  | 0, p, e => by cases e
  | k + 1, p, e => by
    unfold pkM at e
    by_cases q : P k = true
    · rw [if_pos q] at e
      cases e2 : pkM P w k with
      | none =>
        rw [e2] at e
        cases e
        exact ⟨Nat.lt_succ_self _, q, rfl⟩
      | some r =>
        have ih := pkM_spec k r e2
        rw [e2] at e
        obtain ⟨b, m⟩ := r
        have e : (if w k ≤ m then some (b, m) else some (k, w k)) = some p := e
        split at e
        · cases e
          exact ⟨Nat.lt_succ_of_lt ih.1, ih.2⟩
        · cases e
          exact ⟨Nat.lt_succ_self _, q, rfl⟩
    · rw [if_neg q] at e
      have ih := pkM_spec k p e
      exact ⟨Nat.lt_succ_of_lt ih.1, ih.2⟩
theorem pkL_spec {P : Nat → Bool} {w : Nat → Int32} : ∀ (k : Nat) (p : Nat × Int32), pkL P w k = some p → p.1 < k ∧ P p.1 = true ∧ p.2 = w p.1
  | 0, p, e => by cases e
  | k + 1, p, e => by
    unfold pkL at e
    by_cases q : P k = true
    · rw [if_pos q] at e
      cases e2 : pkL P w k with
      | none =>
        rw [e2] at e
        cases e
        exact ⟨Nat.lt_succ_self _, q, rfl⟩
      | some r =>
        have ih := pkL_spec k r e2
        rw [e2] at e
        obtain ⟨b, m⟩ := r
        have e : (if m ≤ w k then some (b, m) else some (k, w k)) = some p := e
        split at e
        · cases e
          exact ⟨Nat.lt_succ_of_lt ih.1, ih.2⟩
        · cases e
          exact ⟨Nat.lt_succ_self _, q, rfl⟩
    · rw [if_neg q] at e
      have ih := pkL_spec k p e
      exact ⟨Nat.lt_succ_of_lt ih.1, ih.2⟩
theorem heB_m1 {P : Option (Nat × Int32)} {k : Nat} (h : ∀ p, P = some p → p.1 < k) (hk : k < 2 ^ 31) : heB P = -1 ↔ P = none := by
  cases P with
  | none => exact ⟨fun _ => rfl, fun _ => rfl⟩
  | some p => exact ⟨fun z => absurd z (nI_m1 (by have := h p rfl; omega)), fun z => by cases z⟩
/-- who may be taken -/
def okM (K L : Nat → Int32) (p i : Nat) : Bool := !decide (i = p) && (!tb (K p) i && decide (bc (K i) < L i))
/-- one looks: the ties behind it -/
def lkK (c : List Nat) (L : Nat → Int32) (n : Nat) (pr : Int32) (A K : Nat → Int32) (p : Nat) : Nat → Int32 :=
  match pkM (okM K L p) (yw c K A L n p) n with
  | none => K
  | some f => if bc (K p) < L p then (if f.2 ≤ 0 then K else joinK K p f.1) else match pkL (fun i => tb (K p) i) (yw c K A L n p) n with
    | none => K
    | some l => if f.2 ≤ l.2 + pr then K else joinK (partK K p l.1) p f.1
end PY
section OPS
variable {X : CX} {d D nx sz : Nat} {g h h0 : AH} {n : Nat} {c : List Nat}
def Z14 (g : AH) : Prop := g.1 39 0 = 0 ∧ g.1 39 1 = 0 ∧ g.1 39 4 = 0 ∧ g.1 39 5 = 0
theorem F89.set {g' : AH} {j : Nat} {x : Int32} (f : F89 g g') : F89 g (setI g' 39 j x) := ⟨f.1, fun c k h1 h2 => (setI_b h2).trans (f.2 c k h1 h2)⟩
theorem F89.rfl : F89 g g := ⟨Eq.refl _, fun _ _ _ _ => Eq.refl _⟩
theorem F89.trans {a b e : AH} (f : F89 a b) (g : F89 b e) : F89 a e := ⟨g.1.trans f.1, fun c j h1 h2 => (g.2 c j h1 h2).trans (f.2 c j h1 h2)⟩
theorem F89.row {a b : AH} (f : F89 a b) {k : Nat} (h1 : k ≠ 38) (h2 : k ≠ 39) : b.1 k = a.1 k := funext fun j => f.2 k j h1 h2
theorem s_worthOf {r p o : Nat} (hA0 : 91 ≤ nx) (hF : Fx g) (h20 : n ≤ 20) (hp : p < n) (ho : o < n) (hr : r < 6) (C : CodA g r c) (z : Z14 g) (e67 : g.1 67 o = dstI (g.1 2) n (full n) p o) : Mk X (d + 4) m_X0_worthOf [.ref 66, .int (nI r), .int (nI p), .int (nI o)] g nx sz (RI fun y g' => y = yw c (g.1 2) (g.1 4) (g.1 3) n p o ∧ F89 g g' ∧ Z14 g') := by
  have to : (nI o).toNatClampNeg = o := tN (by omega)
  refine e_X0_worthOf ?_
  obtain ⟨Q, hQ⟩ : ∃ Q, Q = (RI fun y g' => y = yw c (g.1 2) (g.1 4) (g.1 3) n p o ∧ F89 g g' ∧ Z14 g') := ⟨_, rfl⟩
  rw [← hQ]
  have key : ∀ x : Int32, x = (if dstI (g.1 2) n (full n) p o = -1 then 0 else dstI (g.1 2) n (full n) p o) → VM X m_X0_worthOf (d + 4) nx sz Q 45 [some (.ref 66), some (.int (nI r)), some (.int (nI p)), some (.int (nI o)), some (.ref 39)] [.int (bc (g.1 2 o)), .int 2, .ref 39] (setI g 39 6 x) := fun x hx => by
    refine c_X0_worthOf_45 hA0 (hF.of rfl) RO_rm hcs0 (vin (i := 2) (by decide) (by decide)) (s_inCommon (d := d + 2) (a := 1) hA0 (hF.of rfl) (Or.inl rfl) (by omega) (by omega)) ?_
    rintro _ g1 ⟨rfl, rfl⟩
    refine c_X0_worthOf_58 hA0 (hF.of rfl) RO_rm hcs0 (vin (i := 3) (by decide) (by decide)) (vin (by omega) (by decide)) (vin (by omega) (by decide)) (s_degree (d := d + 2) (a := 1) hA0 (hF.of rfl) (Or.inl rfl) (by omega)) ?_
    rintro _ g1 ⟨rfl, rfl⟩
    have f5 : F89 g (setI (setI (setI (setI (setI g 39 6 x) 39 2 (bc (g.1 2 o))) 39 3 (bc (g.1 2 p &&& g.1 2 o))) 39 7 (g.1 4 o)) 39 8 (g.1 3 o - bc (g.1 2 o))) := F89.rfl.set.set.set.set.set
    have L : LetS (setI (setI (setI (setI (setI g 39 6 x) 39 2 (bc (g.1 2 o))) 39 3 (bc (g.1 2 p &&& g.1 2 o))) 39 7 (g.1 4 o)) 39 8 (g.1 3 o - bc (g.1 2 o))) (ltY (g.1 2) (g.1 4) (g.1 3) n p o) := by
      refine ⟨fun k hk => ?_, fun k hk => ?_⟩
      · have : k = 0 ∨ k = 1 ∨ k = 2 ∨ k = 3 ∨ k = 4 ∨ k = 5 ∨ k = 6 ∨ k = 7 ∨ k = 8 := by omega
        rcases this with rfl | rfl | rfl | rfl | rfl | rfl | rfl | rfl | rfl
        · exact z.1
        · exact z.2.1
        · rfl
        · rfl
        · exact z.2.2.1
        · exact z.2.2.2
        · exact hx
        · rfl
        · rfl
      · unfold ltY
        rw [if_neg (by omega), if_neg (by omega), if_neg (by omega), if_neg (by omega), if_neg (by omega)]
    have w := s_worth (X := X) (d := d) (nx := nx) (sz := sz) hA0 (hF.of f5.1) hr (C.f89 hr f5) L
    rw [to]
    refine c_X0_worthOf_94 (P101 := fun y g' => y = yw c (g.1 2) (g.1 4) (g.1 3) n p o ∧ F38 (setI (setI (setI (setI (setI g 39 6 x) 39 2 (bc (g.1 2 o))) 39 3 (bc (g.1 2 p &&& g.1 2 o))) 39 7 (g.1 4 o)) 39 8 (g.1 3 o - bc (g.1 2 o))) g') hA0 (hF.of rfl) RO_rm hcs0 (vin (i := 8) (by decide) (by decide)) w ?_
    rintro _ g' ⟨rfl, f38⟩
    refine c_X0_worthOf_104 ?_
    rw [hQ]
    refine ⟨_, rfl, rfl, ⟨f38.1.trans f5.1, fun c j h1 h2 => (f38.2 c j h1).trans (f5.2 c j h1 h2)⟩, ?_, ?_, ?_, ?_⟩
    · exact (f38.2 39 0 (by decide)).trans (L.1 0 (by decide))
    · exact (f38.2 39 1 (by decide)).trans (L.1 1 (by decide))
    · exact (f38.2 39 4 (by decide)).trans (L.1 4 (by decide))
    · exact (f38.2 39 5 (by decide)).trans (L.1 5 (by decide))
  have e67' : g.1 67 (nI o).toNatClampNeg = dstI (g.1 2) n (full n) p o := by rw [to]; exact e67
  by_cases q : dstI (g.1 2) n (full n) p o = -1
  · refine c_X0_worthOf_0 (P42 := fun _ _ => False) hA0 hF RO_rm hcs0 (vin (by omega) (by decide)) (fun _ => vin (by omega) (by decide)) (fun y => absurd (e67'.trans q) y) (fun y => absurd (e67'.trans q) y) (fun _ => s_degree (d := d + 2) (a := 1) hA0 (hF.of rfl) (Or.inl rfl) (by omega)) ?_
    rintro _ _ _ ⟨rfl, rfl⟩
    exact key 0 (if_pos q).symm
  · refine c_X0_worthOf_0 (P42_1 := fun _ _ => False) hA0 hF RO_rm hcs0 (vin (by omega) (by decide)) (fun _ => vin (by omega) (by decide)) (fun _ => s_degree (d := d + 2) (a := 1) hA0 (hF.of rfl) (Or.inl rfl) (by omega)) ?_ (fun y => absurd (e67'.symm.trans y) q) (fun y => absurd (e67'.symm.trans y) q)
    rintro _ _ _ ⟨rfl, rfl⟩
    rw [e67']
    exact key _ (if_neg q).symm
theorem CodA.f {r : Nat} {g g' : AH} (C : CodA g r c) (hr : r < 6) (f : F89 g g') : CodA g' r c := C.f89 hr f
theorem NP.f89 {g' : AH} (P : NP g 1 n) (f : F89 g g') : NP g' 1 n := P.sc f.sc
theorem s_bestStranger {r p : Nat} (hA0 : 91 ≤ nx) (hF : Fx g) (hP : NP g 1 n) (hp : p < n) (hr : r < 6) (C : CodA g r c) (z : Z14 g) (e67 : ∀ o, o < n → g.1 67 o = dstI (g.1 2) n (full n) p o) : Mk X (d + 5) m_X0_bestStranger [.ref 66, .int (nI r), .int (nI p)] g nx sz (RI fun y g' => y = heB (pkM (okM (g.1 2) (g.1 3) p) (yw c (g.1 2) (g.1 4) (g.1 3) n p) n) ∧ F89 g g' ∧ Z14 g') := by
  obtain ⟨hn, n0, n1, n2, n20⟩ := id hP
  refine e_X0_bestStranger (c_X0_bestStranger_0 ?_)
  obtain ⟨Q, hQ⟩ : ∃ Q, Q = (RI fun y g' => y = heB (pkM (okM (g.1 2) (g.1 3) p) (yw c (g.1 2) (g.1 4) (g.1 3) n p) n) ∧ F89 g g' ∧ Z14 g') := ⟨_, rfl⟩
  rw [← hQ]
  obtain ⟨w, hw⟩ : ∃ w, w = yw c (g.1 2) (g.1 4) (g.1 3) n p := ⟨_, rfl⟩
  rw [← hw] at hQ
  have key : ∀ (k i : Nat) (g' : AH), i + k = n → F89 g g' → Z14 g' → VM X m_X0_bestStranger (d + 5) nx sz Q 8 [some (.ref 66), some (.int (nI r)), some (.int (nI p)), some (.int (heB (pkM (okM (g.1 2) (g.1 3) p) w i))), some (.int (heM (pkM (okM (g.1 2) (g.1 3) p) w i))), some (.int (nI i)), none] [] g' := by
    intro k
    induction k with
    | zero =>
      intro i g' hi f z'
      have hi : i = n := by omega
      subst hi
      have yes : g'.1 1 0 ≤ nI i := by
        rw [f.2 1 0 (by decide) (by decide), n0]
        exact Int32.le_refl _
      refine c_X0_bestStranger_8 (d := d + 4) (P33 := fun _ _ => False) hA0 (hF.of f.1) RO_rm hcs0 (fun _ => ?_) (fun y => absurd yes y) (fun y => absurd yes y) (fun y => absurd yes y)
      rw [hQ]
      exact ⟨_, rfl, rfl, f, z'⟩
    | succ k ih =>
      intro i g' hi f z'
      have hFg := hF.of f.1
      have no : ¬ g'.1 1 0 ≤ nI i := fun y => by
        rw [f.2 1 0 (by decide) (by decide), n0, le_nI (by omega) (by omega)] at y
        omega
      have ep : nI i = nI p ↔ i = p := nI_eq (by omega) (by omega)
      have r2 := f.row (k := 2) (by decide) (by decide)
      have r3 := f.row (k := 3) (by decide) (by decide)
      have r4 := f.row (k := 4) (by decide) (by decide)
      have r67 := f.row (k := 67) (by decide) (by decide)
      have keep : okM (g.1 2) (g.1 3) p i = false → VM X m_X0_bestStranger (d + 5) nx sz Q 8 [some (.ref 66), some (.int (nI r)), some (.int (nI p)), some (.int (heB (pkM (okM (g.1 2) (g.1 3) p) w i))), some (.int (heM (pkM (okM (g.1 2) (g.1 3) p) w i))), some (.int (nI i + 1)), none] [] g' := fun q => by
        have nxt := ih (i + 1) g' (by omega) f z'
        have e : pkM (okM (g.1 2) (g.1 3) p) w (i + 1) = pkM (okM (g.1 2) (g.1 3) p) w i := if_neg (by rw [q]; decide)
        rw [e, ← nI_1] at nxt
        exact nxt
      by_cases a : i = p
      · exact c_X0_bestStranger_8 (d := d + 4) (P33 := fun _ _ => False) hA0 hFg RO_rm hcs0 (fun y => absurd y no) (fun _ _ => keep (by unfold okM; rw [decide_eq_true a]; rfl)) (fun _ y => absurd (ep.mpr a) y) (fun _ y => absurd (ep.mpr a) y)
      refine c_X0_bestStranger_8 hA0 hFg RO_rm hcs0 (fun y => absurd y no) (fun _ y => absurd (ep.mp y) a) (fun _ _ => s_tied (d := d + 3) (a := 1) hA0 hFg (hP.f89 f)) ?_
      rintro _ _ _ g1 ⟨rfl, rfl⟩
      rw [tieI_nI n20 hp (by omega), r2]
      by_cases b : tb (g.1 2 p) i = true
      · exact c_X0_bestStranger_36 (d := d + 4) (P45 := fun _ _ => False) hA0 hFg RO_rm hcs0 (fun _ => keep (by unfold okM; rw [b]; exact Bool.and_false _)) (fun y => absurd b (bt3 y)) (fun y => absurd b (bt3 y))
      refine c_X0_bestStranger_36 hA0 hFg RO_rm hcs0 (fun y => absurd (bt4 y) b) (fun _ => s_full (d := d + 2) (a := 1) hA0 hFg (Or.inl rfl) (by omega)) ?_
      rintro _ _ g1 ⟨rfl, rfl⟩
      rw [show (1 + 1 : Nat) = 2 from rfl, show (1 + 2 : Nat) = 3 from rfl, r2, r3]
      by_cases e : bc (g.1 2 i) < g.1 3 i
      · rw [if_pos e]
        have ok : okM (g.1 2) (g.1 3) p i = true := by
          unfold okM
          rw [decide_eq_false a, decide_eq_true e]
          cases q : tb (g.1 2 p) i
          · rfl
          · exact absurd q b
        have eF : pkM (okM (g.1 2) (g.1 3) p) w (i + 1) = (match pkM (okM (g.1 2) (g.1 3) p) w i with
          | none => some (i, w i)
          | some (b, m) => if w i ≤ m then some (b, m) else some (i, w i)) := if_pos ok
        refine c_X0_bestStranger_48 hA0 RO_rm hcs0 (fun y => absurd rfl y) (fun _ => s_worthOf (d := d) hA0 hFg n20 hp (by omega) hr (C.f89 hr f) z' (by rw [r67, r2]; exact e67 i (by omega))) ?_
        rintro _ _ g2 ⟨rfl, f2, z2⟩
        rw [r2, r3, r4, ← hw]
        have nxt := ih (i + 1) g2 (by omega) (f.trans f2) z2
        rw [eF, ← nI_1] at nxt
        cases q : pkM (okM (g.1 2) (g.1 3) p) w i with
        | none =>
          rw [q] at nxt
          exact c_X0_bestStranger_59 (fun _ => nxt) (fun y => absurd rfl y) (fun y => absurd rfl y)
        | some bm =>
          obtain ⟨b', m⟩ := bm
          have hb : b' < i := (pkM_spec i _ q).1
          have nm : ¬ heB (some (b', m)) = -1 := nI_m1 (by show b' < 2 ^ 31; omega)
          rw [q] at nxt
          have nxt : VM X m_X0_bestStranger (d + 5) nx sz Q 8 [some (.ref 66), some (.int (nI r)), some (.int (nI p)), some (.int (heB (if w i ≤ m then some (b', m) else some (i, w i)))), some (.int (heM (if w i ≤ m then some (b', m) else some (i, w i)))), some (.int (nI i + 1)), none] [] g2 := nxt
          by_cases le : w i ≤ m
          · rw [if_pos le] at nxt
            exact c_X0_bestStranger_59 (fun y => absurd y nm) (fun _ _ => nxt) (fun _ y => absurd le y)
          · rw [if_neg le] at nxt
            exact c_X0_bestStranger_59 (fun y => absurd y nm) (fun _ y => absurd y le) (fun _ _ => nxt)
      · rw [if_neg e]
        exact c_X0_bestStranger_48 (d := d + 4) (P56 := fun _ _ => False) hA0 RO_rm hcs0 (fun _ => keep (by unfold okM; rw [decide_eq_false e, Bool.and_false, Bool.and_false])) (fun y => by cases y) (fun y => by cases y)
  exact key n 0 g (by omega) F89.rfl z
theorem s_leastKnown {r p : Nat} (hA0 : 91 ≤ nx) (hF : Fx g) (hP : NP g 1 n) (hp : p < n) (hr : r < 6) (C : CodA g r c) (z : Z14 g) (e67 : ∀ o, o < n → g.1 67 o = dstI (g.1 2) n (full n) p o) : Mk X (d + 5) m_X0_leastKnown [.ref 66, .int (nI r), .int (nI p)] g nx sz (RI fun y g' => y = heB (pkL (fun i => tb (g.1 2 p) i) (yw c (g.1 2) (g.1 4) (g.1 3) n p) n) ∧ F89 g g' ∧ Z14 g') := by
  obtain ⟨hn, n0, n1, n2, n20⟩ := id hP
  refine e_X0_leastKnown (c_X0_leastKnown_0 ?_)
  obtain ⟨Q, hQ⟩ : ∃ Q, Q = (RI fun y g' => y = heB (pkL (fun i => tb (g.1 2 p) i) (yw c (g.1 2) (g.1 4) (g.1 3) n p) n) ∧ F89 g g' ∧ Z14 g') := ⟨_, rfl⟩
  rw [← hQ]
  obtain ⟨w, hw⟩ : ∃ w, w = yw c (g.1 2) (g.1 4) (g.1 3) n p := ⟨_, rfl⟩
  rw [← hw] at hQ
  have key : ∀ (k i : Nat) (g' : AH), i + k = n → F89 g g' → Z14 g' → VM X m_X0_leastKnown (d + 5) nx sz Q 8 [some (.ref 66), some (.int (nI r)), some (.int (nI p)), some (.int (heB (pkL (fun i => tb (g.1 2 p) i) w i))), some (.int (heM (pkL (fun i => tb (g.1 2 p) i) w i))), some (.int (nI i)), none] [] g' := by
    intro k
    induction k with
    | zero =>
      intro i g' hi f z'
      have hi : i = n := by omega
      subst hi
      have yes : g'.1 1 0 ≤ nI i := by
        rw [f.2 1 0 (by decide) (by decide), n0]
        exact Int32.le_refl _
      refine c_X0_leastKnown_8 (d := d + 4) (P27 := fun _ _ => False) hA0 (hF.of f.1) RO_rm hcs0 (fun _ => ?_) (fun y => absurd yes y) (fun y => absurd yes y)
      rw [hQ]
      exact ⟨_, rfl, rfl, f, z'⟩
    | succ k ih =>
      intro i g' hi f z'
      have hFg := hF.of f.1
      have no : ¬ g'.1 1 0 ≤ nI i := fun y => by
        rw [f.2 1 0 (by decide) (by decide), n0, le_nI (by omega) (by omega)] at y
        omega
      have r2 := f.row (k := 2) (by decide) (by decide)
      have r3 := f.row (k := 3) (by decide) (by decide)
      have r4 := f.row (k := 4) (by decide) (by decide)
      have r67 := f.row (k := 67) (by decide) (by decide)
      refine c_X0_leastKnown_8 hA0 hFg RO_rm hcs0 (fun y => absurd y no) (fun _ => s_tied (d := d + 3) (a := 1) hA0 hFg (hP.f89 f)) ?_
      rintro _ _ g1 ⟨rfl, rfl⟩
      rw [tieI_nI n20 hp (by omega), r2]
      by_cases b : tb (g.1 2 p) i = true
      · have eF : pkL (fun i => tb (g.1 2 p) i) w (i + 1) = (match pkL (fun i => tb (g.1 2 p) i) w i with
          | none => some (i, w i)
          | some (b, m) => if m ≤ w i then some (b, m) else some (i, w i)) := if_pos b
        refine c_X0_leastKnown_30 hA0 RO_rm hcs0 (fun y => absurd b (bt3 y)) (fun _ => s_worthOf (d := d) hA0 hFg n20 hp (by omega) hr (C.f89 hr f) z' (by rw [r67, r2]; exact e67 i (by omega))) ?_
        rintro _ _ g2 ⟨rfl, f2, z2⟩
        rw [r2, r3, r4, ← hw]
        have nxt := ih (i + 1) g2 (by omega) (f.trans f2) z2
        rw [eF, ← nI_1] at nxt
        cases q : pkL (fun i => tb (g.1 2 p) i) w i with
        | none =>
          rw [q] at nxt
          exact c_X0_leastKnown_41 (fun _ => nxt) (fun y => absurd rfl y) (fun y => absurd rfl y)
        | some bm =>
          obtain ⟨b', m⟩ := bm
          have hb : b' < i := (pkL_spec i _ q).1
          have nm : ¬ heB (some (b', m)) = -1 := nI_m1 (by show b' < 2 ^ 31; omega)
          rw [q] at nxt
          have nxt : VM X m_X0_leastKnown (d + 5) nx sz Q 8 [some (.ref 66), some (.int (nI r)), some (.int (nI p)), some (.int (heB (if m ≤ w i then some (b', m) else some (i, w i)))), some (.int (heM (if m ≤ w i then some (b', m) else some (i, w i)))), some (.int (nI i + 1)), none] [] g2 := nxt
          by_cases le : m ≤ w i
          · rw [if_pos le] at nxt
            exact c_X0_leastKnown_41 (fun y => absurd y nm) (fun _ _ => nxt) (fun _ y => absurd le y)
          · rw [if_neg le] at nxt
            exact c_X0_leastKnown_41 (fun y => absurd y nm) (fun _ y => absurd y le) (fun _ _ => nxt)
      · have nxt := ih (i + 1) g' (by omega) f z'
        have e : pkL (fun i => tb (g.1 2 p) i) w (i + 1) = pkL (fun i => tb (g.1 2 p) i) w i := if_neg b
        rw [e, ← nI_1] at nxt
        exact c_X0_leastKnown_30 (d := d + 4) (P38 := fun _ _ => False) hA0 RO_rm hcs0 (fun _ => nxt) (fun y => absurd (bt4 y) b) (fun y => absurd (bt4 y) b)
  exact key n 0 g (by omega) F89.rfl z
end OPS
