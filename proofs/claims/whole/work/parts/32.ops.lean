/-! tie, drop, image, back, word, out -/
section OPS
variable {X : CX} {d nx sz : Nat} {h : AH} {n : Nat}
theorem nI_inj {a b : Nat} (ha : a < 2 ^ 31) (hb : b < 2 ^ 31) (e : nI a = nI b) : a = b := by
  have := congrArg Int32.toNatClampNeg e
  rwa [tN ha, tN hb] at this
theorem ne0 {P : Prop} [Decidable P] (h : P) : ¬ (if P then (1 : Int32) else 0) = 0 := by rw [if_pos h]; decide
theorem is0 {P : Prop} [Decidable P] (h : ¬ P) : (if P then (1 : Int32) else 0) = 0 := if_neg h
theorem tb_c {b : Bool} (h : ¬ (if b = true then (1 : Int32) else 0) = 0) : b = true := bt4 h
theorem tb_n {b : Bool} (h : (if b = true then (1 : Int32) else 0) = 0) : b = false := by simpa using bt3 h
theorem twoI_nI {i j : Nat} (hn : n < 2 ^ 31) (hi : i < n) (hj : j < n) (hij : i ≠ j) : twoI n (nI i) (nI j) = 1 := by
  unfold twoI
  rw [if_pos ⟨hasI_nI hn hi, hasI_nI hn hj, fun z => hij (nI_inj (by omega) (by omega) z)⟩]
theorem Lm.full {K L : Nat → Int32} (hL : Lm n K L) (hg : Gr n K) (hn : n ≤ 20) {i : Nat} (hi : i < n) : bc (K i) = L i ↔ ¬ bc (K i) < L i := by
  obtain ⟨l, h1, h2, h3⟩ := hL i hi
  have e := hg.cnt hn i
  rw [e, h2, nI_ltI (by omega) (by omega)]
  constructor
  · intro z
    have := nI_inj (by omega) (by omega) z
    omega
  · intro z
    rw [show cnt (K i) n = l by omega]
theorem t_join {i j : Nat} (hA0 : 91 ≤ nx) (hF : Fx h) (hi : i < 20) (hj : j < 20) : Mk X d m_X12_join [.ref 68, .int (nI i), .int (nI j)] h nx sz (RV fun g => g = setA h 73 (joinK (h.1 73) i j)) := by
  refine e_X12_join (c_X12_join_0 hA0 hF (vin hi (by decide)) (vin hi (by decide)) (vin hj (by decide)) (vin hj (by decide)) ⟨rfl, ?_⟩)
  rw [tN (by omega), tN (by omega), bt_toInt32, bt_toInt32]
  refine Prod.ext (funext fun b => funext fun k => ?_) rfl
  by_cases e : b = 73
  · subst e
    by_cases e1 : k = j
    · subst e1
      by_cases e2 : k = i <;> simp [setI, setA, joinK, e2]
    · by_cases e2 : k = i <;> simp [setI, setA, joinK, e1, e2]
  · simp [setI, setA, e]
theorem t_part {i j : Nat} (hA0 : 91 ≤ nx) (hF : Fx h) (hi : i < 20) (hj : j < 20) : Mk X d m_X12_part_ [.ref 68, .int (nI i), .int (nI j)] h nx sz (RV fun g => g = setA h 73 (partK (h.1 73) i j)) := by
  refine e_X12_part_ (c_X12_part__0 hA0 hF (vin hi (by decide)) (vin hi (by decide)) (vin hj (by decide)) (vin hj (by decide)) ⟨rfl, ?_⟩)
  rw [tN (by omega), tN (by omega), bt_toInt32, bt_toInt32]
  refine Prod.ext (funext fun b => funext fun k => ?_) rfl
  by_cases e : b = 73
  · subst e
    by_cases e1 : k = j
    · subst e1
      by_cases e2 : k = i <;> simp [setI, setA, partK, e2]
    · by_cases e2 : k = i <;> simp [setI, setA, partK, e1, e2]
  · simp [setI, setA, e]
-- tie
def okT (K L : Nat → Int32) (i j : Nat) : Prop := tb (K i) j = false ∧ bc (K i) < L i ∧ bc (K j) < L j
theorem s_tie_bad {x y : Int32} (hA0 : 91 ≤ nx) (hF : Fx h) (hp : InvP h n) (c : twoI n x y = 0) : Mk X (d + 2) m_X11_tie [.ref 0, .int x, .int y] h nx sz (RE 0 h) := by
  refine Mk.re fun Q hq => e_X11_tie (c_X11_tie_0 hA0 hF RO_rm hcs0 (s_hasTwo (d := d) hA0 (hp.np net1)) ?_)
  rintro y0 g ⟨rfl, rfl⟩
  exact c_X11_tie_9 (P18 := fun _ _ => False) hA0 hF RO_rm hcs0 (fun _ => hq) (fun c1 => absurd c c1) (fun c1 => absurd c c1)
theorem s_tie {i j : Nat} (hA0 : 91 ≤ nx) (hF : Fx h) (hp : InvP h n) (hi : i < n) (hj : j < n) (hij : i ≠ j) (D : Decidable (okT (h.1 2) (h.1 3) i j)) : Mk X (d + 3) m_X11_tie [.ref 0, .int (nI i), .int (nI j)] h nx sz (RE (if okT (h.1 2) (h.1 3) i j then 1 else 0) (if okT (h.1 2) (h.1 3) i j then setA h 2 (joinK (h.1 2) i j) else h)) := by
  have h20 := hp.2.1
  refine Mk.re fun Q hq => e_X11_tie (c_X11_tie_0 hA0 hF RO_rm hcs0 (s_hasTwo (d := d + 1) hA0 (hp.np net1)) ?_)
  rintro y0 g ⟨rfl, rfl⟩
  have no : ¬ okT (h.1 2) (h.1 3) i j → Q (some (.int 0)) h := fun z => by rwa [if_neg z, if_neg z] at hq
  rw [twoI_nI (by omega) hi hj hij]
  refine c_X11_tie_9 hA0 hF RO_rm hcs0 (fun z => by cases z) (fun _ => s_tied (d := d + 1) hA0 hF (hp.np net1)) ?_
  rintro _ y0 g ⟨rfl, rfl⟩
  rw [tieI_nI h20 hi hj]
  refine c_X11_tie_21 hA0 hF RO_rm hcs0 (fun c => no fun z => by have := z.1; rw [tb_c c] at this; cases this) (fun _ => s_full (d := d) hA0 hF net1 (by omega)) ?_
  rintro c1 y0 g ⟨rfl, rfl⟩
  refine c_X11_tie_32 hA0 hF RO_rm hcs0 (fun c => no fun z => c (if_pos z.2.1)) (fun _ => s_full (d := d) hA0 hF net1 (by omega)) ?_
  rintro c2 y0 g ⟨rfl, rfl⟩
  refine c_X11_tie_43 hA0 hF RO_rm hcs0 (fun _ => s_join (d := d + 2) hA0 hF net1 (by omega) (by omega)) ?_ (fun c => no fun z => c (if_pos z.2.2))
  rintro c3 g rfl
  have ok : okT (h.1 2) (h.1 3) i j := by
    refine ⟨tb_n c1, Decidable.byContradiction fun (z : ¬ bc (h.1 2 i) < h.1 3 i) => ?_, Decidable.byContradiction fun (z : ¬ bc (h.1 2 j) < h.1 3 j) => ?_⟩
    · have c2 : (if bc (h.1 2 i) < h.1 3 i then (0 : Int32) else 1) = 0 := c2
      rw [if_neg z] at c2
      cases c2
    · have c3 : (if bc (h.1 2 j) < h.1 3 j then (0 : Int32) else 1) = 0 := c3
      rw [if_neg z] at c3
      cases c3
  rw [if_pos ok, if_pos ok] at hq
  exact c_X11_tie_57 hq
theorem t_tie_bad {x y : Int32} (hA0 : 91 ≤ nx) (hF : Fx h) (hp : InvP h n) (c : twoI n x y = 0) : Mk X (d + 2) m_X12_tie [.ref 68, .int x, .int y] h nx sz (RE 0 (setI h 68 0 0)) := by
  refine Mk.re fun Q hq => e_X12_tie (c_X12_tie_0 hA0 RO_rm hcs0 (t_areTwo (d := d) hA0 (h := setI h 68 0 0) hp.mp) ?_)
  rintro y0 g ⟨rfl, rfl⟩
  exact c_X12_tie_11 (P21 := fun _ _ => False) hA0 (show Fx (setI h 68 0 0) from hF) RO_rm hcs0 (fun _ => hq) (fun c1 => absurd c c1) (fun c1 => absurd c c1) (fun c1 => absurd c c1)
theorem t_tie {i j : Nat} (hA0 : 91 ≤ nx) (hF : Fx h) (hp : InvP h n) (hg : Gr n (h.1 73)) (hL : Lm n (h.1 73) (h.1 75)) (hi : i < n) (hj : j < n) (hij : i ≠ j) (D : Decidable (okT (h.1 73) (h.1 75) i j)) : Mk X (d + 3) m_X12_tie [.ref 68, .int (nI i), .int (nI j)] h nx sz (RE (if okT (h.1 73) (h.1 75) i j then 1 else 0) (if okT (h.1 73) (h.1 75) i j then setA (setI h 68 0 0) 73 (joinK (h.1 73) i j) else setI h 68 0 0)) := by
  have h20 := hp.2.1
  have hF0 : Fx (setI h 68 0 0) := hF
  refine Mk.re fun Q hq => e_X12_tie (c_X12_tie_0 hA0 RO_rm hcs0 (t_areTwo (d := d + 1) hA0 (h := setI h 68 0 0) hp.mp) ?_)
  rintro y0 g ⟨rfl, rfl⟩
  have no : ¬ okT (h.1 73) (h.1 75) i j → Q (some (.int 0)) (setI h 68 0 0) := fun z => by rwa [if_neg z, if_neg z] at hq
  rw [twoI_nI (by omega) hi hj hij]
  refine c_X12_tie_11 hA0 hF0 RO_rm hcs0 (fun z => by cases z) (fun _ => vin (by omega) (by decide)) (fun _ => t_has (d := d + 2) (by omega)) ?_
  rintro _ y0 g ⟨rfl, rfl⟩
  rw [tN (by omega)]
  refine c_X12_tie_24 hA0 RO_rm hcs0 (fun c => no fun z => by have := z.1; rw [show tb (h.1 73 i) j = true from tb_c c] at this; cases this) (fun _ => t_many (d := d + 1) hA0 hF0 (by omega)) ?_
  rintro c1 y0 g ⟨rfl, rfl⟩
  have f1 := hL.full hg h20 hi
  have f2 := hL.full hg h20 hj
  refine c_X12_tie_32 hA0 hF0 RO_rm hcs0 (vin (by omega) (by decide)) (fun c => no fun z => ?_) (fun _ => t_many (d := d + 1) hA0 hF0 (by omega)) ?_
  · rw [tN (by omega)] at c
    exact f1.mp c z.2.1
  rintro c2 y0 g ⟨rfl, rfl⟩
  rw [tN (by omega)] at c2
  refine c_X12_tie_46 hA0 hF0 RO_rm hcs0 (vin (by omega) (by decide)) (fun _ => t_join (d := d + 2) hA0 hF0 (by omega) (by omega)) ?_ (fun c => no fun z => ?_)
  · rintro c3 g rfl
    rw [tN (by omega)] at c3
    have ok : okT (h.1 73) (h.1 75) i j := ⟨tb_n c1, Decidable.byContradiction fun z => c2 (f1.mpr z), Decidable.byContradiction fun z => c3 (f2.mpr z)⟩
    rw [if_pos ok, if_pos ok] at hq
    exact c_X12_tie_63 hq
  · rw [tN (by omega)] at c
    exact f2.mp c z.2.2
-- drop
theorem s_drop_bad {x y : Int32} (hA0 : 91 ≤ nx) (hF : Fx h) (hp : InvP h n) (c : tieI n (h.1 2) x y = 0) : Mk X (d + 2) m_X11_drop [.ref 0, .int x, .int y] h nx sz (RE 0 h) := by
  refine Mk.re fun Q hq => e_X11_drop (c_X11_drop_0 hA0 hF RO_rm hcs0 (s_tied (d := d) hA0 hF (hp.np net1)) ?_)
  rintro y0 g ⟨rfl, rfl⟩
  exact c_X11_drop_9 (P20 := fun _ => False) hA0 hF RO_rm hcs0 (fun c1 => absurd c c1) (fun c1 => absurd c c1) (fun _ => hq)
theorem s_drop {i j : Nat} (hA0 : 91 ≤ nx) (hF : Fx h) (hp : InvP h n) (hi : i < n) (hj : j < n) (ht : tb (h.1 2 i) j = true) : Mk X (d + 2) m_X11_drop [.ref 0, .int (nI i), .int (nI j)] h nx sz (RE 1 (setA h 2 (partK (h.1 2) i j))) := by
  have h20 := hp.2.1
  refine Mk.re fun Q hq => e_X11_drop (c_X11_drop_0 hA0 hF RO_rm hcs0 (s_tied (d := d) hA0 hF (hp.np net1)) ?_)
  rintro y0 g ⟨rfl, rfl⟩
  rw [tieI_nI h20 hi hj, ht]
  refine c_X11_drop_9 hA0 hF RO_rm hcs0 (fun _ => s_part (d := d + 1) hA0 hF net1 (by omega) (by omega)) ?_ (fun z => by cases z)
  rintro _ g rfl
  exact c_X11_drop_23 hq
theorem t_drop_bad {x y : Int32} (hA0 : 91 ≤ nx) (hF : Fx h) (hp : InvP h n) (hg : Gr n (h.1 73)) (c : tieI n (h.1 73) x y = 0) : Mk X (d + 2) m_X12_drop [.ref 68, .int x, .int y] h nx sz (RE 0 (setI h 68 0 0)) := by
  have h20 := hp.2.1
  have hF0 : Fx (setI h 68 0 0) := hF
  refine Mk.re fun Q hq => e_X12_drop (c_X12_drop_0 hA0 RO_rm hcs0 (t_areTwo (d := d) hA0 (h := setI h 68 0 0) hp.mp) ?_)
  rintro y0 g ⟨rfl, rfl⟩
  by_cases c2 : twoI n x y = 0
  · exact c_X12_drop_11 (P21 := fun _ _ => False) hA0 hF0 RO_rm hcs0 (fun _ => hq) (fun c1 => absurd c2 c1) (fun c1 => absurd c2 c1) (fun c1 => absurd c2 c1)
  obtain ⟨i, j, hi, hj, -, rfl, rfl⟩ := twoI_ne (by omega) c2
  refine c_X12_drop_11 hA0 hF0 RO_rm hcs0 (fun c1 => absurd c1 c2) (fun _ => vin (by omega) (by decide)) (fun _ => t_has (d := d + 1) (by omega)) ?_
  rintro _ y0 g ⟨rfl, rfl⟩
  rw [tieI_nI h20 hi hj] at c
  rw [tN (by omega)]
  exact c_X12_drop_24 (P32 := fun _ => False) hA0 RO_rm hcs0 (fun c1 => absurd c c1) (fun c1 => absurd c c1) (fun _ => hq)
theorem t_drop {i j : Nat} (hA0 : 91 ≤ nx) (hF : Fx h) (hp : InvP h n) (hg : Gr n (h.1 73)) (hi : i < n) (hj : j < n) (ht : tb (h.1 73 i) j = true) : Mk X (d + 2) m_X12_drop [.ref 68, .int (nI i), .int (nI j)] h nx sz (RE 1 (setA (setI h 68 0 0) 73 (partK (h.1 73) i j))) := by
  have h20 := hp.2.1
  have hF0 : Fx (setI h 68 0 0) := hF
  refine Mk.re fun Q hq => e_X12_drop (c_X12_drop_0 hA0 RO_rm hcs0 (t_areTwo (d := d) hA0 (h := setI h 68 0 0) hp.mp) ?_)
  rintro y0 g ⟨rfl, rfl⟩
  rw [twoI_nI (by omega) hi hj (hg i j ht).2.2.1]
  refine c_X12_drop_11 hA0 hF0 RO_rm hcs0 (fun z => by cases z) (fun _ => vin (by omega) (by decide)) (fun _ => t_has (d := d + 1) (by omega)) ?_
  rintro _ y0 g ⟨rfl, rfl⟩
  rw [tN (by omega), show (setI h 68 0 0).1 73 i = h.1 73 i from rfl, ht]
  refine c_X12_drop_24 hA0 RO_rm hcs0 (fun _ => t_part (d := d + 1) hA0 hF0 (by omega) (by omega)) ?_ (fun z => by cases z)
  rintro _ g rfl
  exact c_X12_drop_35 hq
-- image, back
def cp (f g : Nat → Int32) : Nat → Int32 := va_cpy f g 0 0 20
theorem s_copyE {a b : Nat} (hA0 : 91 ≤ nx) (hF : Fx h) (ha : IsNet a) (hb : IsNet b) (hab : a ≠ b) : Mk X (d + 1) m_X3_copy [.ref a, .ref b] h nx sz (RV fun g => g = setA (setA (setA h (a + 1) (cp (h.1 (b + 1)) (h.1 (a + 1)))) (a + 2) (cp (h.1 (b + 2)) (h.1 (a + 2)))) (a + 3) (cp (h.1 (b + 3)) (h.1 (a + 3)))) := by
  refine e_X3_copy (c_X3_copy_0 (d := d) (hA0 := hA0) (hF := hF) (hR := RO_rm) (hcs := hcs0) (hn_r0 := ha) (hn_r1 := hb) (hq := ⟨rfl, ?_⟩))
  rcases ha with rfl | rfl | rfl <;> rcases hb with rfl | rfl | rfl <;> first | exact absurd rfl hab | rfl
theorem s_image (hA0 : 91 ≤ nx) (hF : Fx h) (hp : InvP h n) : Mk X (d + 3) m_X11_image [.ref 0] h nx sz (RE (smI (fun i => bc (h.1 2 i)) n / 2) (setI (setA (setA (setA h 6 (cp (h.1 2) (h.1 6))) 7 (cp (h.1 3) (h.1 7))) 8 (cp (h.1 4) (h.1 8))) 0 14 1)) := by
  refine Mk.re fun Q hq => e_X11_image (c_X11_image_0 hA0 hF RO_rm hcs0 (s_copyE (d := d + 1) hA0 hF (Or.inr (Or.inl rfl)) net1 (by decide)) ?_)
  rintro g rfl
  refine c_X11_image_11 hA0 hF RO_rm hcs0 (s_tieCount (d := d) hA0 (a := 1) (n := n) hF (hp.np net1)) ?_
  rintro y g ⟨rfl, rfl⟩
  exact c_X11_image_23 hq
theorem s_back_bad (hA0 : 91 ≤ nx) (hF : Fx h) (c : h.1 0 14 = 0) : Mk X (d + 3) m_X11_back [.ref 0] h nx sz (RE (-1) h) :=
  Mk.re fun Q hq => e_X11_back (c_X11_back_0 (P17 := fun _ => False) hA0 hF RO_rm hcs0 (fun c1 => absurd c c1) (fun c1 => absurd c c1) (fun _ => hq))
theorem s_back (hA0 : 91 ≤ nx) (hF : Fx h) (hp : InvP h n) (c : h.1 0 14 = 1) : Mk X (d + 3) m_X11_back [.ref 0] h nx sz (RE (smI (fun i => bc (cp (h.1 6) (h.1 2) i)) n / 2) (setA (setA (setA h 2 (cp (h.1 6) (h.1 2))) 3 (cp (h.1 7) (h.1 3))) 4 (cp (h.1 8) (h.1 4)))) := by
  refine Mk.re fun Q hq => e_X11_back (c_X11_back_0 hA0 hF RO_rm hcs0 (fun _ => s_copyE (d := d + 1) hA0 hF net1 (Or.inr (Or.inl rfl)) (by decide)) ?_ (fun z => by rw [c] at z; cases z))
  rintro _ g rfl
  refine c_X11_back_20 hA0 hF RO_rm hcs0 (s_tieCount (d := d) hA0 (a := 1) (n := n) hF (hp.np net1)) ?_
  rintro y g ⟨rfl, rfl⟩
  exact c_X11_back_27 hq
/-- the first i of f, then g -/
def upto (i : Nat) (f g : Nat → Int32) : Nat → Int32 := fun k => if k < i then f k else g k
theorem upto_0 {f g : Nat → Int32} : upto 0 f g = g := funext fun k => if_neg (Nat.not_lt_zero k)
theorem upto_set {i : Nat} {f g : Nat → Int32} : (fun k => if k = i then f i else upto i f g k) = upto (i + 1) f g := funext fun k => by
  unfold upto
  by_cases e : k = i
  · subst e
    simp
  · rw [if_neg e]
    by_cases c : k < i
    · rw [if_pos c, if_pos (by omega)]
    · rw [if_neg c, if_neg (by omega)]
theorem setA_get_ne {k b : Nat} {f : Nat → Int32} (e : b ≠ k) : (setA h k f).1 b = h.1 b := if_neg e
theorem setI_A {a i : Nat} {x : Int32} : setI h a i x = setA h a (fun k => if k = i then x else h.1 a k) := by
  refine Prod.ext (funext fun b => funext fun k => ?_) rfl
  by_cases e : b = a
  · subst e
    simp [setI, setA]
  · simp [setI, setA, e]
theorem setA_A {a : Nat} {f g : Nat → Int32} : setA (setA h a f) a g = setA h a g := by
  refine Prod.ext (funext fun b => ?_) rfl
  by_cases e : b = a <;> simp [setA, e]
theorem setA_comm {a b : Nat} (e : a ≠ b) {f g : Nat → Int32} : setA (setA h a f) b g = setA (setA h b g) a f := by
  refine Prod.ext (funext fun c => ?_) rfl
  by_cases e1 : c = a
  · subst e1
    simp [setA, e]
  · by_cases e2 : c = b
    · subst e2
      simp [setA, e1]
    · simp [setA, e1, e2]
theorem setA_id {a : Nat} : setA h a (h.1 a) = h := by
  refine Prod.ext (funext fun c => ?_) rfl
  by_cases e : c = a <;> simp [setA, e]
theorem t_image (hA0 : 91 ≤ nx) (hF : Fx h) (hp : InvP h n) : Mk X (d + 2) m_X12_image [.ref 68] h nx sz (RE (smI (fun i => bc (h.1 73 i)) n / 2) (setI (setA (setA (setA (setI h 68 0 0) 87 (upto n (h.1 73) (h.1 87))) 88 (upto n (h.1 75) (h.1 88))) 89 (upto n (h.1 76) (h.1 89))) 68 46 1)) := by
  obtain ⟨h0, h2, h20⟩ := hp.mp
  refine Mk.re fun Q hq => e_X12_image (c_X12_image_0 hA0 ?_)
  have key : VM X m_X12_image (d + 2) nx sz Q 7 [some (.ref 68), some (.int (nI 0))] [] (setA (setA (setA (setI h 68 0 0) 87 (upto 0 (h.1 73) (h.1 87))) 88 (upto 0 (h.1 75) (h.1 88))) 89 (upto 0 (h.1 76) (h.1 89))) := by
    refine down_ind (N := n) (P := fun i => VM X m_X12_image (d + 2) nx sz Q 7 [some (.ref 68), some (.int (nI i))] [] (setA (setA (setA (setI h 68 0 0) 87 (upto i (h.1 73) (h.1 87))) 88 (upto i (h.1 75) (h.1 88))) 89 (upto i (h.1 76) (h.1 89)))) ?_ (fun i hi q => ?_)
    · have ex : h.1 68 1 ≤ nI n := by rw [h0]; exact Int32.le_refl _
      refine c_X12_image_7 hA0 hF RO_rm hcs0 (fun _ => t_ties (d := d + 0) (n := n) hA0 hF ⟨h0, h2, h20⟩) ?_ (fun c => absurd ex c) (fun c => absurd ex c) (fun c => absurd ex c) (fun c => absurd ex c) (fun c => absurd ex c) (fun c => absurd ex c) (fun c => absurd ex c)
      rintro _ y g ⟨rfl, rfl⟩
      exact c_X12_image_66 hq
    · refine c_X12_image_7 (P63 := fun _ _ => False) hA0 hF RO_rm hcs0 (fun c => ?_) (fun c => ?_) (fun _ => vin (by omega) (by decide)) (fun _ => vin (by omega) (by decide)) (fun _ => vin (by omega) (by decide)) (fun _ => vin (by omega) (by decide)) (fun _ => vin (by omega) (by decide)) (fun _ => vin (by omega) (by decide)) (fun _ => ?_)
      · have c : h.1 68 1 ≤ nI i := c
        rw [h0, le_nI (by omega) (by omega)] at c
        omega
      · have c : h.1 68 1 ≤ nI i := c
        rw [h0, le_nI (by omega) (by omega)] at c
        omega
      · rw [nI_1, tN (by omega)]
        rw [← upto_set, ← upto_set, ← upto_set] at q
        refine cast (congrArg (VM X m_X12_image (d + 2) nx sz Q 7 _ _) ?_) q
        refine Prod.ext (funext fun b => funext fun k => ?_) rfl
        by_cases e1 : b = 87
        · subst e1; simp [setA, setI]
        by_cases e2 : b = 88
        · subst e2; simp [setA, setI]
        by_cases e3 : b = 89
        · subst e3; simp [setA, setI]
        simp [setA, setI, e1, e2, e3]
  refine cast (congrArg (VM X m_X12_image (d + 2) nx sz Q 7 _ _) ?_) key
  rw [upto_0, upto_0, upto_0]
  refine Prod.ext (funext fun b => funext fun k => ?_) rfl
  by_cases e1 : b = 87
  · subst e1; simp [setA, setI]
  by_cases e2 : b = 88
  · subst e2; simp [setA, setI]
  by_cases e3 : b = 89
  · subst e3; simp [setA, setI]
  simp [setA, setI, e1, e2, e3]
end OPS
