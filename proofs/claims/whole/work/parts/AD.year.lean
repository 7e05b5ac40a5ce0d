/-! years: draws and deaths -/
section WB
theorem wb_tb (n : Nat) : (lN n).toBitVec = BitVec.ofNat 64 n := rfl
theorem wb_inj {a b : Int64} (h : a.toBitVec = b.toBitVec) : a = b := Int64.toBitVec_inj.mp h
theorem wb_tn {n : Nat} (h : n < 2 ^ 64) : (lN n).toBitVec.toNat = n := by rw [wb_tb, BitVec.toNat_ofNat, Nat.mod_eq_of_lt h]
theorem wb_of (x : Int64) : ∃ n, n < 2 ^ 64 ∧ x = lN n := ⟨x.toBitVec.toNat, x.toBitVec.isLt, wb_inj (by rw [wb_tb]; simp)⟩
theorem wb_cu : ∀ k, k < 64 → ((nI k).toInt64.toUInt64 &&& Int64.toUInt64 63) = UInt64.ofNat k := by decide +kernel
theorem wb_shr {n k : Nat} (hn : n < 2 ^ 64) (hk : k < 64) : ((lN n).toUInt64 >>> ((nI k).toInt64.toUInt64 &&& Int64.toUInt64 63)).toInt64 = lN (n / 2 ^ k) := by
  rw [wb_cu k hk]
  apply wb_inj
  apply BitVec.eq_of_toNat_eq
  show ((lN n).toUInt64 >>> UInt64.ofNat k).toNat = (BitVec.ofNat 64 _).toNat
  have h1 : (UInt64.ofNat k).toNat = k := by
    show (BitVec.ofNat 64 k).toNat = k
    rw [BitVec.toNat_ofNat, Nat.mod_eq_of_lt (by omega)]
  have h2 : (lN n).toUInt64.toNat = n := wb_tn hn
  rw [UInt64.toNat_shiftRight, h1, h2, Nat.mod_eq_of_lt hk, Nat.shiftRight_eq_div_pow, BitVec.toNat_ofNat, Nat.mod_eq_of_lt (Nat.lt_of_le_of_lt (Nat.div_le_self _ _) hn)]
end WB
section PD
def DRW (j : Int64) : Int64 := j * 6364136223846793005 + 1442695040888963407
/-- a draw, 0 to 99 -/
def dwN (j : Int64) : Nat := j.toBitVec.toNat / 2 ^ 33 % 100
theorem dwN_lt {j : Int64} : dwN j < 100 := Nat.mod_lt _ (by decide)
theorem dw_rem (j : Int64) : (j.toUInt64 >>> ((33 : Int32).toInt64.toUInt64 &&& Int64.toUInt64 63)).toInt64 - (j.toUInt64 >>> ((33 : Int32).toInt64.toUInt64 &&& Int64.toUInt64 63)).toInt64 / 100 * 100 = lN (dwN j) := by
  obtain ⟨m, hm, rfl⟩ := wb_of j
  have e : ((lN m).toUInt64 >>> ((33 : Int32).toInt64.toUInt64 &&& Int64.toUInt64 63)).toInt64 = lN (m / 2 ^ 33) := wb_shr (k := 33) hm (by decide)
  have e2 : (100 : Int64) = lN 100 := rfl
  rw [e, e2, pk_lRem (by omega) (by decide) (by decide)]
  unfold dwN
  rw [wb_tn hm]
/-- who dies -/
def leK (K : Nat → Int32) (p : Nat) : Nat → (Nat → Int32)
  | 0 => K
  | i + 1 => if tb (leK K p i p) i = true then partK (leK K p i) p i else leK K p i
def xN (x : Int64) : Nat → Int64
  | 0 => x
  | k + 1 => DRW (xN x k)
def dyK (n e : Nat) (x : Int64) (K : Nat → Int32) : Nat → (Nat → Int32)
  | 0 => K
  | k + 1 => if dwN (xN x (k + 1)) < e then leK (dyK n e x K k) k n else dyK n e x K k
def dyA (e : Nat) (x : Int64) (A : Nat → Int32) : Nat → (Nat → Int32)
  | 0 => A
  | k + 1 => fun j => if j = k then (if dwN (xN x (k + 1)) < e then 0 else dyA e x A k k + 1) else dyA e x A k j
def dcF (e : Nat) (x : Int64) (i : Nat) : Int32 := if dwN (xN x (i + 1)) < e then 1 else 0
def lkN (c : List Nat) (L : Nat → Int32) (n : Nat) (pr : Int32) (A K : Nat → Int32) : Nat → (Nat → Int32)
  | 0 => K
  | k + 1 => lkK c L n pr A (lkN c L n pr A K k) k
abbrev YS : Type := (Nat → Int32) × (Nat → Int32) × Int64
def yr1 (c : List Nat) (L : Nat → Int32) (n : Nat) (pr : Int32) (e : Nat) (s : YS) : YS := (lkN c L n pr (dyA e s.2.2 s.2.1 n) (dyK n e s.2.2 s.1 n) n, dyA e s.2.2 s.2.1 n, xN s.2.2 n)
def yrN (c : List Nat) (L : Nat → Int32) (n : Nat) (pr : Int32) (e : Nat) (s : YS) : Nat → YS
  | 0 => s
  | k + 1 => yr1 c L n pr e (yrN c L n pr e s k)
def yrD (c : List Nat) (L : Nat → Int32) (n : Nat) (pr : Int32) (e : Nat) (s : YS) (y : Nat) : Int32 := smI (dcF e (yrN c L n pr e s y).2.2) n
section
variable {n : Nat} {K L A : Nat → Int32} {c : List Nat}
theorem leK_ok (hn : n ≤ 20) {p : Nat} (hg : Gr n K) (hL : Lm n K L) : ∀ i, Gr n (leK K p i) ∧ Lm n (leK K p i) L
  | 0 => ⟨hg, hL⟩
  | i + 1 => by
    obtain ⟨g, l⟩ := leK_ok hn (p := p) hg hL i
    unfold leK
    by_cases q : tb (leK K p i p) i = true
    · rw [if_pos q]
      obtain ⟨h1, h2, h3, h4⟩ := g p i q
      exact ⟨g.part hn h1 h2 h3, l.sub fun a b z => ((tb_part (by omega) (by omega) h3).mp z).1⟩
    · rw [if_neg q]
      exact ⟨g, l⟩
theorem lkK_ok {pr : Int32} (hn : n ≤ 20) {p : Nat} (hp : p < n) (hg : Gr n K) (hL : Lm n K L) : Gr n (lkK c L n pr A K p) ∧ Lm n (lkK c L n pr A K p) L := by
  unfold lkK
  cases e : pkM (okM K L p) (yw c K A L n p) n with
  | none => exact ⟨hg, hL⟩
  | some f =>
    obtain ⟨q1, q2, -⟩ := pkM_spec n f e
    unfold okM at q2
    simp only [Bool.and_eq_true, Bool.not_eq_true', decide_eq_false_iff_not, decide_eq_true_eq] at q2
    obtain ⟨a1, a2, a3⟩ := q2
    show Gr n (if bc (K p) < L p then _ else _) ∧ Lm n (if bc (K p) < L p then _ else _) L
    by_cases b : bc (K p) < L p
    · rw [if_pos b]
      by_cases le : f.2 ≤ 0
      · rw [if_pos le]
        exact ⟨hg, hL⟩
      · rw [if_neg le]
        have cb : cbB K L p none f.1 none = true := cbB_iff.mpr ⟨fun z => a1 z.symm, a2, decide_eq_true b, decide_eq_true a3⟩
        exact ⟨mk_gr (o := none) (p := none) hg hn hp q1 (fun z => a1 z.symm) a2 (fun j z => by cases z) (fun j z => by cases z), mk_lm (o := none) (p := none) hg hL hn hp q1 cb⟩
    · rw [if_neg b]
      cases el : pkL (fun i => tb (K p) i) (yw c K A L n p) n with
      | none => exact ⟨hg, hL⟩
      | some l =>
        obtain ⟨l1, l2, -⟩ := pkL_spec n l el
        show Gr n (if f.2 ≤ l.2 + pr then _ else _) ∧ Lm n (if f.2 ≤ l.2 + pr then _ else _) L
        by_cases le : f.2 ≤ l.2 + pr
        · rw [if_pos le]
          exact ⟨hg, hL⟩
        · rw [if_neg le]
          have cb : cbB K L p (some l.1) f.1 none = true := cbB_iff.mpr ⟨fun z => a1 z.symm, a2, l2, decide_eq_true a3⟩
          exact ⟨mk_gr (o := some l.1) (p := none) hg hn hp q1 (fun z => a1 z.symm) a2 (fun j z => by cases z; exact l2) (fun j z => by cases z), mk_lm (o := some l.1) (p := none) hg hL hn hp q1 cb⟩
theorem dyK_ok {e : Nat} {x : Int64} (hn : n ≤ 20) (hg : Gr n K) (hL : Lm n K L) : ∀ k, Gr n (dyK n e x K k) ∧ Lm n (dyK n e x K k) L
  | 0 => ⟨hg, hL⟩
  | k + 1 => by
    obtain ⟨g, l⟩ := dyK_ok (e := e) (x := x) hn hg hL k
    unfold dyK
    split
    · exact leK_ok hn g l n
    · exact ⟨g, l⟩
theorem lkN_ok {pr : Int32} (hn : n ≤ 20) (hg : Gr n K) (hL : Lm n K L) : ∀ k, k ≤ n → Gr n (lkN c L n pr A K k) ∧ Lm n (lkN c L n pr A K k) L
  | 0, _ => ⟨hg, hL⟩
  | k + 1, hk => by
    obtain ⟨g, l⟩ := lkN_ok (pr := pr) hn hg hL k (by omega)
    exact lkK_ok hn (by omega) g l
theorem yrN_ok {pr : Int32} {e : Nat} {s : YS} (hn : n ≤ 20) (hg : Gr n s.1) (hL : Lm n s.1 L) : ∀ k, Gr n (yrN c L n pr e s k).1 ∧ Lm n (yrN c L n pr e s k).1 L
  | 0 => ⟨hg, hL⟩
  | k + 1 => by
    obtain ⟨g, l⟩ := yrN_ok (pr := pr) (e := e) hn hg hL k
    obtain ⟨g2, l2⟩ := dyK_ok (e := e) (x := (yrN c L n pr e s k).2.2) hn g l n
    exact lkN_ok hn g2 l2 n (Nat.le_refl _)
theorem and_nbt {x : Int32} {p : Nat} (hp : p < 32) (h : tb x p = false) : x &&& (bt p ^^^ (-1)) = x := tb_ext fun j hj => by
  rw [tb_and, tb_not hj, tb_bt hp]
  by_cases q : p = j
  · subst q
    rw [h]
    rfl
  · rw [decide_eq_false q]
    cases tb x j <;> rfl
/-- to part those who aren't tied changes nothing -/
theorem part_no {p i : Nat} (hp : p < 32) (hi : i < 32) (h1 : tb (K p) i = false) (h2 : tb (K i) p = false) : partK K p i = K := by
  funext k
  unfold partK
  by_cases a : k = i
  · rw [if_pos a]
    by_cases b : i = p
    · subst b
      rw [if_pos rfl, and_nbt hp h1, and_nbt hp h1, a]
    · rw [if_neg b, and_nbt hp h2, a]
  · rw [if_neg a]
    by_cases b : k = p
    · rw [if_pos b, and_nbt hi h1, b]
    · rw [if_neg b]
theorem leK_step (hn : n ≤ 20) {p i : Nat} (hp : p < n) (hi : i < n) (hg : Gr n K) (hL : Lm n K L) : partK (leK K p i) p i = leK K p (i + 1) := by
  have g := (leK_ok hn (p := p) hg hL i).1
  show _ = if tb (leK K p i p) i = true then partK (leK K p i) p i else leK K p i
  by_cases q : tb (leK K p i p) i = true
  · rw [if_pos q]
  · rw [if_neg q]
    have q1 : tb (leK K p i p) i = false := by
      cases e : tb (leK K p i p) i
      · rfl
      · exact absurd e q
    refine part_no (by omega) (by omega) q1 ?_
    cases e : tb (leK K p i i) p
    · rfl
    · exact absurd (g i p e).2.2.2 q
end
end PD
section OPS
variable {X : CX} {d D nx sz : Nat} {g h h0 : AH} {n : Nat} {c : List Nat} {K A L K' A' : Nat → Int32} {x y v : Int64}
/-- the heap with new ties and ages -/
def S2 (a b : Nat) (h : AH) (K A : Nat → Int32) : AH := setA (setA h a K) b A
theorem S2K {a b : Nat} (e : a ≠ b) : setA (S2 a b h K A) a K' = S2 a b h K' A := by
  unfold S2
  rw [setA_comm (Ne.symm e), setA_A]
theorem S2A {a b : Nat} : setA (S2 a b h K A) b A' = S2 a b h K A' := setA_A
theorem S2_id {a b : Nat} : S2 a b h (h.1 a) (h.1 b) = h := by
  unfold S2
  rw [setA_id, setA_id]
theorem S2_a {a b : Nat} (e : a ≠ b) : (S2 a b h K A).1 a = K := (setA_get_ne e).trans setA_self
theorem S2_b {a b : Nat} : (S2 a b h K A).1 b = A := setA_self
theorem S2_o {a b k : Nat} (e1 : k ≠ a) (e2 : k ≠ b) : (S2 a b h K A).1 k = h.1 k := (setA_get_ne e2).trans (setA_get_ne e1)
theorem setL_id {l f : Nat} : setL h l f (h.2.1 l f) = h := by
  refine Prod.ext rfl (Prod.ext (funext fun a => funext fun i => ?_) rfl)
  show (if a = l ∧ i = f then h.2.1 l f else h.2.1 a i) = _
  by_cases q : a = l ∧ i = f
  · rw [if_pos q, q.1, q.2]
  · rw [if_neg q]
theorem sL_at {l f : Nat} {x : Int64} : (setL h l f x).2.1 l f = x := by
  show (if l = l ∧ f = f then x else h.2.1 l f) = x
  exact if_pos ⟨rfl, rfl⟩
theorem setL_L {l f : Nat} {x y : Int64} : setL (setL h l f x) l f y = setL h l f y := by
  refine Prod.ext rfl (Prod.ext (funext fun a => funext fun i => ?_) rfl)
  show (if a = l ∧ i = f then y else if a = l ∧ i = f then x else h.2.1 a i) = if a = l ∧ i = f then y else h.2.1 a i
  by_cases q : a = l ∧ i = f
  · rw [if_pos q, if_pos q]
  · rw [if_neg q, if_neg q, if_neg q]
theorem setL_A {l f a : Nat} {x : Int64} {F : Nat → Int32} : setA (setL h l f x) a F = setL (setA h a F) l f x := rfl
theorem sc_two {a b : Nat} (e : a ≠ b) (s : Sc (S2 a b h K A) g) : Sc (S2 a b h K' A') (S2 a b g K' A') := by
  have := sc_AA (sc_AA s (a := a) (f := K')) (a := b) (f := A')
  rw [S2K e, S2A] at this
  exact this
theorem s_leave {p : Nat} (hA0 : 91 ≤ nx) (hF : Fx g) (hP : NP g 1 n) (hg : Gr n (g.1 2)) (hL : Lm n (g.1 2) L) (hp : p < n) : Mk X (d + 1) m_X0_leave [.ref 66, .int (nI p)] g nx sz (RVE (setA g 2 (leK (g.1 2) p n))) := by
  obtain ⟨hn, n0, n1, n2, n20⟩ := id hP
  refine Mk.rv fun Q hq => e_X0_leave (c_X0_leave_0 ?_)
  have key : VM X m_X0_leave (d + 1) nx sz Q 2 [some (.ref 66), some (.int (nI p)), some (.int (nI 0))] [] (setA g 2 (leK (g.1 2) p 0)) := by
    refine down_ind (N := n) (P := fun i => VM X m_X0_leave (d + 1) nx sz Q 2 [some (.ref 66), some (.int (nI p)), some (.int (nI i))] [] (setA g 2 (leK (g.1 2) p i))) ?_ (fun i hi q => ?_)
    · have yes : (setA g 2 (leK (g.1 2) p n)).1 1 0 ≤ nI n := by
        show g.1 1 0 ≤ nI n
        rw [n0]
        exact Int32.le_refl _
      exact c_X0_leave_2 (d := d) (P19 := fun _ => False) hA0 (hF.of rfl) RO_rm hcs0 (fun _ => hq) (fun z => absurd yes z) (fun z => absurd yes z)
    · have no : ¬ (setA g 2 (leK (g.1 2) p i)).1 1 0 ≤ nI i := fun z => by
        have z : g.1 1 0 ≤ nI i := z
        rw [n0, le_nI (by omega) (by omega)] at z
        omega
      refine c_X0_leave_2 hA0 (hF.of rfl) RO_rm hcs0 (fun z => absurd z no) (fun _ => s_part (d := d) (a := 1) hA0 (hF.of rfl) (Or.inl rfl) (by omega) (by omega)) ?_
      rintro _ _ rfl
      refine c_X0_leave_22 ?_
      rw [nI_1, show (1 + 1 : Nat) = 2 from rfl, setA_self, setA_A, leK_step n20 hp hi hg hL]
      exact q
  rw [show leK (g.1 2) p 0 = g.1 2 from rfl, setA_id] at key
  exact key
theorem dy_age {a b l f p : Nat} {v : Int32} (e : a ≠ b) : setI (setL (setL (S2 a b g K A) l f x) l f y) b p v = setL (S2 a b g K (fun j => if j = p then v else A j)) l f y := by
  rw [setI_A, setL_L, setL_A, S2A]
  congr 2
  funext j
  show (if j = p then v else (S2 a b g K A).1 b j) = _
  rw [S2_b]
theorem s_dyings {e : Nat} (hA0 : 91 ≤ nx) (hF : Fx g) (hP : NP g 1 n) (hg : Gr n (g.1 2)) (hL : Lm n (g.1 2) L) (he : e ≤ 100) : Mk X (d + 2) m_X0_dyings [.ref 66, .int (nI e)] g nx sz (RE (smI (dcF e (g.2.1 66 4)) n) (setL (S2 2 4 g (dyK n e (g.2.1 66 4) (g.1 2) n) (dyA e (g.2.1 66 4) (g.1 4) n)) 66 4 (xN (g.2.1 66 4) n))) := by
  obtain ⟨hn, n0, n1, n2, n20⟩ := id hP
  refine Mk.re fun Q hq => e_X0_dyings (c_X0_dyings_0 ?_)
  obtain ⟨x, hx⟩ : ∃ x, x = g.2.1 66 4 := ⟨_, rfl⟩
  rw [← hx] at hq
  have key : VM X m_X0_dyings (d + 2) nx sz Q 4 [some (.ref 66), some (.int (nI e)), some (.int (smI (dcF e x) 0)), some (.int (nI 0))] [] (setL (S2 2 4 g (dyK n e x (g.1 2) 0) (dyA e x (g.1 4) 0)) 66 4 (xN x 0)) := by
    refine down_ind (N := n) (P := fun i => VM X m_X0_dyings (d + 2) nx sz Q 4 [some (.ref 66), some (.int (nI e)), some (.int (smI (dcF e x) i)), some (.int (nI i))] [] (setL (S2 2 4 g (dyK n e x (g.1 2) i) (dyA e x (g.1 4) i)) 66 4 (xN x i))) ?_ (fun i hi q => ?_)
    · have yes : (setL (S2 2 4 g (dyK n e x (g.1 2) n) (dyA e x (g.1 4) n)) 66 4 (xN x n)).1 1 0 ≤ nI n := by
        show g.1 1 0 ≤ nI n
        rw [n0]
        exact Int32.le_refl _
      exact c_X0_dyings_4 (d := d + 1) (P50 := fun _ => False) hA0 (show Fx g from hF) RO_rm hcs0 (fun _ => hq) (fun z => absurd yes z) (fun z => absurd yes z) (fun z => absurd yes z) (fun z => absurd yes z) (fun z => absurd yes z)
    · obtain ⟨H, hH⟩ : ∃ H, H = setL (S2 2 4 g (dyK n e x (g.1 2) i) (dyA e x (g.1 4) i)) 66 4 (xN x i) := ⟨_, rfl⟩
      have h1 : H.1 = (S2 2 4 g (dyK n e x (g.1 2) i) (dyA e x (g.1 4) i)).1 := by rw [hH]; rfl
      have hFH : Fx H := by rw [hH]; exact hF
      have no : ¬ H.1 1 0 ≤ nI i := fun z => by
        rw [h1] at z
        have z : g.1 1 0 ≤ nI i := z
        rw [n0, le_nI (by omega) (by omega)] at z
        omega
      have h66 : H.2.1 66 4 = xN x i := by rw [hH]; exact sL_at
      have hD : H.2.1 66 4 * 6364136223846793005 + 1442695040888963407 = xN x (i + 1) := by rw [h66]; rfl
      have ti : (nI i).toNatClampNeg = i := tN (by omega)
      obtain ⟨gi, li⟩ := dyK_ok (e := e) (x := x) n20 hg hL i
      have c4 := c_X0_dyings_4 (X := X) (R := rm (d + 2) 0 0) (Q := Q) (nx := nx) (sz := sz) (mc := 0) (ms := 0) (h := H) (x1 := nI e) (x2 := smI (dcF e x) i) (x3 := nI i) (d := d + 1) (P50 := fun g' => g' = setL (S2 2 4 g (leK (dyK n e x (g.1 2) i) i n) (dyA e x (g.1 4) i)) 66 4 (xN x (i + 1))) hA0 hFH RO_rm hcs0
      rw [hD, dw_rem, nI_l (by omega), lg_cmp_ge, lN_le (by omega) (by have := dwN_lt (j := xN x (i + 1)); omega)] at c4
      rw [← hH]
      refine c4 (fun z => absurd z no) (fun _ _ => vin (by omega) (by decide)) (fun _ _ => vin (by omega) (by decide)) (fun _ z => ?_) (fun _ z => ?_) ?_
      · have nd : ¬ dwN (xN x (i + 1)) < e := by omega
        have eK : dyK n e x (g.1 2) (i + 1) = dyK n e x (g.1 2) i := if_neg nd
        have eA : dyA e x (g.1 4) (i + 1) = fun j => if j = i then dyA e x (g.1 4) i i + 1 else dyA e x (g.1 4) i j := by
          funext j
          show (if j = i then (if dwN (xN x (i + 1)) < e then 0 else dyA e x (g.1 4) i i + 1) else _) = _
          rw [if_neg nd]
        have eD : smI (dcF e x) (i + 1) = smI (dcF e x) i := by
          show _ + dcF e x i = _
          unfold dcF
          rw [if_neg nd, Int32.add_zero]
        rw [eK, eA, eD] at q
        have eH : H.1 4 i = dyA e x (g.1 4) i i := by rw [h1, S2_b]
        rw [nI_1, ti, eH, hH, dy_age (by decide)]
        exact q
      · have sl := s_leave (X := X) (d := d) (nx := nx) (sz := sz) (g := setL H 66 4 (xN x (i + 1))) (n := n) (p := i) (L := L) hA0 hFH (by
          refine ⟨hn, ?_, ?_, n2, n20⟩
          · show H.1 1 0 = _
            rw [h1]
            exact n0
          · show H.1 1 1 = _
            rw [h1]
            exact n1) (by
          show Gr n (H.1 2)
          rw [h1, S2_a (by decide)]
          exact gi) (by
          show Lm n (H.1 2) L
          rw [h1, S2_a (by decide)]
          exact li) hi
        have e1 : setA (setL H 66 4 (xN x (i + 1))) 2 (leK ((setL H 66 4 (xN x (i + 1))).1 2) i n) = setL (S2 2 4 g (leK (dyK n e x (g.1 2) i) i n) (dyA e x (g.1 4) i)) 66 4 (xN x (i + 1)) := by
          have : (setL H 66 4 (xN x (i + 1))).1 2 = dyK n e x (g.1 2) i := by
            show H.1 2 = _
            rw [h1, S2_a (by decide)]
          rw [this, hH, setL_L, setL_A, S2K (by decide)]
        rw [e1] at sl
        exact Mok.mono sl (fun r h' z => ⟨z.1, z.2.symm⟩)
      · rintro _ z _ rfl
        have nd : dwN (xN x (i + 1)) < e := by omega
        have eK : dyK n e x (g.1 2) (i + 1) = leK (dyK n e x (g.1 2) i) i n := if_pos nd
        have eA : dyA e x (g.1 4) (i + 1) = fun j => if j = i then 0 else dyA e x (g.1 4) i j := by
          funext j
          show (if j = i then (if dwN (xN x (i + 1)) < e then 0 else dyA e x (g.1 4) i i + 1) else _) = _
          rw [if_pos nd]
        have eD : smI (dcF e x) (i + 1) = smI (dcF e x) i + 1 := by
          show _ + dcF e x i = _
          unfold dcF
          rw [if_pos nd]
        rw [eK, eA, eD] at q
        refine c_X0_dyings_53 hA0 (show Fx g from hF) (vin (by omega) (by decide)) ?_
        have := dy_age (g := g) (K := leK (dyK n e x (g.1 2) i) i n) (A := dyA e x (g.1 4) i) (x := xN x (i + 1)) (y := xN x (i + 1)) (a := 2) (b := 4) (l := 66) (f := 4) (p := i) (v := 0) (by decide)
        rw [setL_L] at this
        rw [nI_1, ti, this]
        exact q
  have e0 : setL (S2 2 4 g (dyK n e x (g.1 2) 0) (dyA e x (g.1 4) 0)) 66 4 (xN x 0) = g := by
    show setL (S2 2 4 g (g.1 2) (g.1 4)) 66 4 x = g
    rw [S2_id, hx, setL_id]
  rw [e0] at key
  exact key
end OPS
