/-! cutBy, parts, keyOnes; of, all, count -/
section OPS
variable {X : CX} {d nx sz : Nat} {h : AH} {n : Nat}
theorem tb_fulln {n j : Nat} (hn : n ≤ 20) : tb (full n) j = true ↔ j < n := by
  rw [tb_full (by omega)]
  simp
theorem rc_m1 {K : Nat → Int32} (hK : KB K n) (hn : n ≤ 20) (a : Nat) : bl K n (0 ^^^ (-1)) (bt a) (n - 1) = rc K n (full n) a := by
  rw [nm1]
  exact bl_mask hK (fun j hj => tb_m1f (by omega) hj) _
theorem t_part0 {i : Nat} (hA0 : 91 ≤ nx) (hF : Fx h) (hp : MP h n) (hK : KB (h.1 73) n) (hi : i < n) : Mk X (d + 2) m_X12_partOf [.ref 68, .int (nI i), .int 0] h nx sz (RE (rc (h.1 73) n (full n) i) h) := by
  rw [← rc_m1 hK hp.2.2]
  exact t_partOf hA0 hF hp hK hi
theorem s_reach0 {i : Nat} (hA0 : 91 ≤ nx) (hF : Fx h) (hp : InvP h n) : Mk X (d + 1) m_X3_reached [.ref 1, .int (bt i), .int (h.1 1 1)] h nx sz (RE (rc (h.1 2) n (full n) i) h) := by
  rw [(hp.np net1).2.2.1]
  exact s_reached hA0 hF (hp.np net1)
/-- who is lost to a where p is gone -/
def cutA (K : Nat → Int32) (n p a : Nat) : Nat := if a = p then 0 else cnt ((rc K n (full n) a &&& (rc K n (full n &&& (bt p ^^^ (-1))) a ^^^ (-1))) &&& (bt p ^^^ (-1))) n
def cutN (K : Nat → Int32) (n p : Nat) : Nat := sm (cutA K n p) n
theorem tb_wo {n p j : Nat} (hn : n ≤ 20) (hp : p < n) : tb (full n &&& (bt p ^^^ (-1))) j = true ↔ j < n ∧ j ≠ p := by
  rw [tb_and, Bool.and_eq_true, tb_fulln hn]
  constructor
  · rintro ⟨h1, h2⟩
    refine ⟨h1, fun e => ?_⟩
    rw [tb_not (by omega), tb_bt (by omega), e] at h2
    simp at h2
  · rintro ⟨h1, h2⟩
    refine ⟨h1, ?_⟩
    rw [tb_not (by omega), tb_bt (by omega)]
    simp
    omega
theorem cut_s {K : Nat → Int32} (hg : Gr n K) (hn : n ≤ 20) {p a : Nat} (hp : p < n) (ha : a < n) : cutA K n p a = if tb (rc K n (full n) p &&& (bt p ^^^ (-1))) a = true then cnt ((rc K n (full n) p &&& (bt p ^^^ (-1))) &&& (rc K n (full n &&& (bt p ^^^ (-1))) a ^^^ (-1))) n else 0 := by
  unfold cutA
  have fa := (tb_fulln hn).mpr ha
  have fp := (tb_fulln hn).mpr hp
  by_cases e : a = p
  · subst e
    rw [if_pos rfl, tb_and, tb_not (by omega), tb_bt (by omega)]
    simp
  · rw [if_neg e]
    have e2 : tb (bt p ^^^ (-1)) a = true := by
      rw [tb_not (by omega), tb_bt (by omega)]
      simp
      omega
    rw [tb_and, e2, Bool.and_true]
    by_cases c : tb (rc K n (full n) p) a = true
    · rw [if_pos c, rc_same hg hn hp ha fp fa c]
      congr 1
      apply tb_ext
      intro j _
      rw [tb_and, tb_and, tb_and, tb_and]
      cases tb (rc K n (full n) a) j <;> cases tb (rc K n (full n &&& (bt p ^^^ (-1))) a ^^^ (-1)) j <;> cases tb (bt p ^^^ (-1)) j <;> rfl
    · rw [if_neg c]
      have nr : ∀ k, ¬ Wk K n (full n) k a p := fun k w => c (rc_sym hg hn ha hp fa ((rc_iff hg.kb hn ha).mpr ⟨k, w⟩))
      have : ∀ m, cnt ((rc K n (full n) a &&& (rc K n (full n &&& (bt p ^^^ (-1))) a ^^^ (-1))) &&& (bt p ^^^ (-1))) m = 0 := by
        intro m
        rw [cnt_sm]
        refine sm_zero fun j _ => if_neg ?_
        rw [tb_and, tb_and, Bool.and_eq_true, Bool.and_eq_true]
        rintro ⟨⟨h1, h2⟩, -⟩
        have hj := rc_lt hg.kb hn ha h1
        obtain ⟨k, w⟩ := (rc_iff hg.kb hn ha).mp h1
        rw [tb_not (by omega)] at h2
        have : tb (rc K n (full n &&& (bt p ^^^ (-1))) a) j = true := (rc_iff hg.kb hn ha).mpr ⟨k, W_without (fun i h1 h2 => (tb_wo hn hp).mpr ⟨(tb_fulln hn).mp h1, h2⟩) (nr k) w⟩
        rw [this] at h2
        cases h2
      exact this n
theorem div2_nI {m : Nat} (h : m < 2 ^ 31) : nI m / 2 = nI (m / 2) := by
  apply Int32.toInt_inj.mp
  rw [nI_toInt (by omega), Int32.toInt_div, nI_toInt h]
  have h2 : (2 : Int32).toInt = 2 := by decide
  rw [h2]
  have e : (m : Int).tdiv 2 = ((m / 2 : Nat) : Int) := by
    rw [Int.tdiv_eq_ediv_of_nonneg (by omega)]
    rfl
  rw [e]
  exact Int.bmod_eq_of_le (by omega) (by omega)
theorem cutN_lt {K : Nat → Int32} {p : Nat} (hn : n ≤ 20) : cutN K n p ≤ 400 := by
  have : cutN K n p ≤ n * 20 := sm_le fun a _ => by
    unfold cutA
    split
    · omega
    · have := cnt_le (x := (rc K n (full n) a &&& (rc K n (full n &&& (bt p ^^^ (-1))) a ^^^ (-1))) &&& (bt p ^^^ (-1))) (n := n)
      omega
  have : n * 20 ≤ 20 * 20 := Nat.mul_le_mul_right _ hn
  omega
theorem bc_lt {x : Int32} (hn : n ≤ 20) (hx : ∀ j, tb x j = true → j < n) : bc x = nI (cnt x n) := by rw [bc_cnt, cnt_32 (by omega) hx]
theorem s_cutBy {p : Nat} (hA0 : 91 ≤ nx) (hF : Fx h) (hP : InvP h n) (hg : Gr n (h.1 2)) (hp : p < n) : Mk X (d + 2) m_X1_cutBy [.ref 20, .int (nI p)] h nx sz (RE (nI (cutN (h.1 2) n p / 2)) h) := by
  obtain ⟨hn, h0, h1, h2, h20⟩ := hP.np net1
  refine Mk.re fun Q hq => e_X1_cutBy (c_X1_cutBy_0 (d := d + 1) hA0 hF RO_rm hcs0 (P16 := fun y g => y = rc (h.1 2) n (full n) p ∧ h = g) ?_ ?_)
  · rw [bt_toInt32]
    exact s_reach0 (d := d) hA0 hF hP
  rintro y g ⟨rfl, rfl⟩
  refine c_X1_cutBy_19 ?_
  rw [bt_toInt32]
  refine down_ind (N := n) (P := fun i => VM X m_X1_cutBy (d + 2) nx sz Q 30 [some (.ref 20), none, some (.int (bt p)), some (.int (rc (h.1 2) n (full n) p &&& (bt p ^^^ (-1)))), some (.int (nI (sm (cutA (h.1 2) n p) i))), some (.int (nI i)), none] [] h) ?_ (fun i hi q => ?_)
  · have ex : h.1 1 0 ≤ nI n := by rw [h0]; exact Int32.le_refl _
    refine c_X1_cutBy_30 (d := d + 1) (P70 := fun _ _ => False) hA0 hF RO_rm hcs0 (fun _ => ?_) (fun c => absurd ex c) (fun c => absurd ex c) (fun c => absurd ex c)
    have := cutN_lt (K := h.1 2) (p := p) h20
    rw [show nI (sm (cutA (h.1 2) n p) n) = nI (cutN (h.1 2) n p) from rfl, div2_nI (by omega)]
    exact hq
  · have ec := cut_s hg h20 hp hi
    have e1 : sm (cutA (h.1 2) n p) (i + 1) = sm (cutA (h.1 2) n p) i + cutA (h.1 2) n p i := rfl
    refine c_X1_cutBy_30 (d := d + 1) hA0 hF RO_rm hcs0 (P70 := fun y g => y = rc (h.1 2) n (full n &&& (bt p ^^^ (-1))) i ∧ h = g) (fun c => ?_) (fun _ c => ?_) (fun _ c => ?_) ?_
    · rw [h0, le_nI (by omega) (by omega)] at c
      omega
    · rw [shr_eq0 (by omega)] at c
      rw [if_neg (by rw [c]; decide)] at ec
      rw [e1, ec] at q
      rw [nI_1]
      exact q
    · rw [h1, bt_toInt32]
      exact s_reached (d := d) hA0 hF (hP.np net1)
    · rintro _ c y g ⟨rfl, rfl⟩
      refine c_X1_cutBy_73 RO_rm hcs0 (s_bitCount (d := d + 1)) ?_
      rintro y g ⟨rfl, rfl⟩
      refine c_X1_cutBy_86 ?_
      rw [shr_eq0 (by omega)] at c
      rw [if_pos (by simpa using c)] at ec
      rw [e1, ec] at q
      rw [bc_lt (n := n) h20 (fun j hj => by
        rw [tb_and, tb_and, Bool.and_eq_true, Bool.and_eq_true] at hj
        exact rc_lt hg.kb h20 hp hj.1.1), nI_add, nI_1]
      exact q
theorem t_cutBy {p : Nat} (hA0 : 91 ≤ nx) (hF : Fx h) (hP : MP h n) (hg : Gr n (h.1 73)) (hp : p < n) : Mk X (d + 3) m_X12_cutBy [.ref 68, .int (nI p)] h nx sz (RE (nI (cutN (h.1 73) n p / 2)) h) := by
  obtain ⟨h0, h2, h20⟩ := id hP
  refine Mk.re fun Q hq => e_X12_cutBy (c_X12_cutBy_0 ?_)
  refine down_ind (N := n) (P := fun i => VM X m_X12_cutBy (d + 3) nx sz Q 4 [some (.ref 68), some (.int (nI p)), some (.int (nI (sm (cutA (h.1 73) n p) i))), some (.int (nI i))] [] h) ?_ (fun i hi q => ?_)
  · have ex : h.1 68 1 ≤ nI n := by rw [h0]; exact Int32.le_refl _
    refine c_X12_cutBy_4 (d := d + 2) (P24 := fun _ _ => False) hA0 RO_rm hcs0 (fun _ => ?_) (fun c => absurd ex c) (fun c => absurd ex c) (fun c => absurd ex c)
    have := cutN_lt (K := h.1 73) (p := p) h20
    rw [show nI (sm (cutA (h.1 73) n p) n) = nI (cutN (h.1 73) n p) from rfl, div2_nI (by omega)]
    exact hq
  · have e1 : sm (cutA (h.1 73) n p) (i + 1) = sm (cutA (h.1 73) n p) i + cutA (h.1 73) n p i := rfl
    refine c_X12_cutBy_4 hA0 RO_rm hcs0 (fun c => ?_) (fun _ _ => t_part0 (d := d) hA0 hF hP hg.kb hi) ?_ (fun _ c => ?_)
    · rw [h0, le_nI (by omega) (by omega)] at c
      omega
    · rintro _ c y g ⟨rfl, rfl⟩
      refine c_X12_cutBy_27 hA0 RO_rm hcs0 (t_partOf (d := d) hA0 hF hP hg.kb hi) ?_
      rintro y g ⟨rfl, rfl⟩
      refine c_X12_cutBy_35 RO_rm hcs0 (s_bitCount (d := d + 2)) ?_
      rintro y g ⟨rfl, rfl⟩
      refine c_X12_cutBy_47 ?_
      rw [bt_toInt32]
      have em : bl (h.1 73) n (bt p ^^^ (-1)) (bt i) (n - 1) = rc (h.1 73) n (full n &&& (bt p ^^^ (-1))) i := bl_mask hg.kb (fun j hj => by
        rw [tb_and, tb_full (by omega)]
        simp [hj]) _
      have ec : cutA (h.1 73) n p i = cnt ((rc (h.1 73) n (full n) i &&& (rc (h.1 73) n (full n &&& (bt p ^^^ (-1))) i ^^^ (-1))) &&& (bt p ^^^ (-1))) n := if_neg (fun e => c (by rw [e]))
      rw [em, bc_lt (n := n) h20 (fun j hj => by
        rw [tb_and, tb_and, Bool.and_eq_true, Bool.and_eq_true] at hj
        exact rc_lt hg.kb h20 hi hj.1.1), nI_add, nI_1, ← ec]
      exact q
    · have c := nI_inj (by omega) (by omega) c
      have ec : cutA (h.1 73) n p i = 0 := if_pos c
      rw [e1, ec] at q
      rw [nI_1]
      exact q
/-- seen, and how many parts, of the first k -/
def ptF (K : Nat → Int32) (n : Nat) : Nat → Int32 × Nat
  | 0 => (0, 0)
  | k + 1 => if tb (ptF K n k).1 k = true then ptF K n k else ((ptF K n k).1 ||| rc K n (full n) k, (ptF K n k).2 + 1)
theorem s_parts (hA0 : 91 ≤ nx) (hF : Fx h) (hP : InvP h n) : Mk X (d + 2) m_X1_parts [.ref 20] h nx sz (RE (nI (ptF (h.1 2) n n).2) h) := by
  obtain ⟨hn, h0, h1, h2, h20⟩ := hP.np net1
  refine Mk.re fun Q hq => e_X1_parts (c_X1_parts_0 ?_)
  refine down_ind (N := n) (P := fun i => VM X m_X1_parts (d + 2) nx sz Q 6 [some (.ref 20), some (.int (ptF (h.1 2) n i).1), some (.int (nI (ptF (h.1 2) n i).2)), some (.int (nI i))] [] h) ?_ (fun i hi q => ?_)
  · have ex : h.1 1 0 ≤ nI n := by rw [h0]; exact Int32.le_refl _
    exact c_X1_parts_6 (d := d + 1) (P40 := fun _ _ => False) hA0 hF RO_rm hcs0 (fun _ => hq) (fun c => absurd ex c) (fun c => absurd ex c) (fun c => absurd ex c)
  · refine c_X1_parts_6 hA0 hF RO_rm hcs0 (P40 := fun y g => y = rc (h.1 2) n (full n) i ∧ h = g) (fun c => ?_) (fun _ c => ?_) (fun _ c => ?_) ?_
    · rw [h0, le_nI (by omega) (by omega)] at c
      omega
    · rw [shr_eq0 (by omega)] at c
      have e : ptF (h.1 2) n (i + 1) = ptF (h.1 2) n i := if_pos (by simpa using c)
      rw [e] at q
      rw [nI_1]
      exact q
    · rw [bt_toInt32]
      exact s_reach0 (d := d) hA0 hF hP
    · rintro _ c y g ⟨rfl, rfl⟩
      refine c_X1_parts_43 ?_
      rw [shr_eq0 (by omega)] at c
      have e : ptF (h.1 2) n (i + 1) = ((ptF (h.1 2) n i).1 ||| rc (h.1 2) n (full n) i, (ptF (h.1 2) n i).2 + 1) := if_neg (by rw [c]; decide)
      rw [e] at q
      rw [nI_1, nI_1]
      exact q
theorem t_partsNow (hA0 : 91 ≤ nx) (hF : Fx h) (hP : MP h n) (hK : KB (h.1 73) n) : Mk X (d + 3) m_X12_partsNow [.ref 68] h nx sz (RE (nI (ptF (h.1 73) n n).2) h) := by
  obtain ⟨h0, h2, h20⟩ := id hP
  refine Mk.re fun Q hq => e_X12_partsNow (c_X12_partsNow_0 ?_)
  refine down_ind (N := n) (P := fun i => VM X m_X12_partsNow (d + 3) nx sz Q 6 [some (.ref 68), some (.int (nI (ptF (h.1 73) n i).2)), some (.int (ptF (h.1 73) n i).1), some (.int (nI i))] [] h) ?_ (fun i hi q => ?_)
  · have ex : h.1 68 1 ≤ nI n := by rw [h0]; exact Int32.le_refl _
    exact c_X12_partsNow_6 (d := d + 2) (P16 := fun _ _ => False) hA0 RO_rm hcs0 (fun _ => hq) (fun c => absurd ex c) (fun c => absurd ex c)
  · refine c_X12_partsNow_6 hA0 RO_rm hcs0 (fun c => ?_) (fun _ => t_has (d := d + 2) (by omega)) ?_
    · rw [h0, le_nI (by omega) (by omega)] at c
      omega
    · rintro _ y g ⟨rfl, rfl⟩
      refine c_X12_partsNow_19 hA0 RO_rm hcs0 (fun _ => t_part0 (d := d) hA0 hF hP hK hi) ?_ (fun c => ?_)
      · rintro c y g ⟨rfl, rfl⟩
        refine c_X12_partsNow_32 ?_
        have e : ptF (h.1 73) n (i + 1) = ((ptF (h.1 73) n i).1 ||| rc (h.1 73) n (full n) i, (ptF (h.1 73) n i).2 + 1) := if_neg (by rw [tb_n c]; decide)
        rw [e] at q
        rw [nI_1, nI_1]
        exact q
      · have e : ptF (h.1 73) n (i + 1) = ptF (h.1 73) n i := if_pos (tb_c c)
        rw [e] at q
        rw [nI_1]
        exact q
def koF (K : Nat → Int32) (n : Nat) : Nat → Int32
  | 0 => 0
  | k + 1 => if cutN K n k / 2 = 0 then koF K n k else koF K n k ||| bt k
theorem s_keyOnes (hA0 : 91 ≤ nx) (hF : Fx h) (hP : InvP h n) (hg : Gr n (h.1 2)) : Mk X (d + 3) m_X1_keyOnes [.ref 20] h nx sz (RE (koF (h.1 2) n n) h) := by
  obtain ⟨hn, h0, h1, h2, h20⟩ := hP.np net1
  refine Mk.re fun Q hq => e_X1_keyOnes (c_X1_keyOnes_0 ?_)
  refine down_ind (N := n) (P := fun i => VM X m_X1_keyOnes (d + 3) nx sz Q 4 [some (.ref 20), some (.int (koF (h.1 2) n i)), some (.int (nI i))] [] h) ?_ (fun i hi q => ?_)
  · have ex : h.1 1 0 ≤ nI n := by rw [h0]; exact Int32.le_refl _
    exact c_X1_keyOnes_4 (d := d + 2) (P17 := fun _ _ => False) hA0 hF RO_rm hcs0 (fun _ => hq) (fun c => absurd ex c) (fun c => absurd ex c)
  · refine c_X1_keyOnes_4 hA0 hF RO_rm hcs0 (fun c => ?_) (fun _ => s_cutBy (d := d) hA0 hF hP hg hi) ?_
    · rw [h0, le_nI (by omega) (by omega)] at c
      omega
    · rintro _ y g ⟨rfl, rfl⟩
      have := cutN_lt (K := h.1 2) (p := i) h20
      refine c_X1_keyOnes_20 (fun c => ?_) (fun c => ?_)
      · rw [nI_le0 (by omega)] at c
        have e : koF (h.1 2) n (i + 1) = koF (h.1 2) n i := if_pos c
        rw [e] at q
        rw [nI_1]
        exact q
      · rw [nI_le0 (by omega)] at c
        have e : koF (h.1 2) n (i + 1) = koF (h.1 2) n i ||| bt i := if_neg c
        rw [e] at q
        rw [nI_1, bt_toInt32]
        exact q
/-- five ways, or else -/
def sw (x : Int32) {α : Type} (a b c d e z : α) : α := if x.toInt = 0 then a else if x.toInt = 1 then b else if x.toInt = 2 then c else if x.toInt = 3 then d else if x.toInt = 4 then e else z
theorem sw_0 {x : Int32} {α : Type} {a b c d e z : α} (h : x.toInt = 0) : sw x a b c d e z = a := if_pos h
theorem sw_1 {x : Int32} {α : Type} {a b c d e z : α} (h : x.toInt = 1) : sw x a b c d e z = b := by simp [sw, h]
theorem sw_2 {x : Int32} {α : Type} {a b c d e z : α} (h : x.toInt = 2) : sw x a b c d e z = c := by simp [sw, h]
theorem sw_3 {x : Int32} {α : Type} {a b c d e z : α} (h : x.toInt = 3) : sw x a b c d e z = d := by simp [sw, h]
theorem sw_4 {x : Int32} {α : Type} {a b c d e z : α} (h : x.toInt = 4) : sw x a b c d e z = e := by simp [sw, h]
theorem sw_z {x : Int32} {α : Type} {a b c d e z : α} (h : x.toInt < 0 ∨ 4 < x.toInt) : sw x a b c d e z = z := by
  unfold sw
  rw [if_neg (by omega), if_neg (by omega), if_neg (by omega), if_neg (by omega), if_neg (by omega)]
-- count
theorem s_count {x : Int32} (hA0 : 91 ≤ nx) (hF : Fx h) : Mk X d m_X11_count [.ref 0, .int x] h nx sz (RE (sw x (h.1 0 0) (h.1 29 4) (h.1 23 1) (h.1 40 3) (h.1 40 4) (-1000000)) h) :=
  Mk.re fun Q hq => e_X11_count (c_X11_count_0 hA0 hF (fun c => by rwa [sw_z c] at hq) (fun c => by rwa [sw_0 c] at hq) (fun c => by rwa [sw_1 c] at hq) (fun c => by rwa [sw_2 c] at hq) (fun c => by rwa [sw_3 c] at hq) (fun c => by rwa [sw_4 c] at hq))
theorem t_count {x : Int32} (hA0 : 91 ≤ nx) : Mk X d m_X12_count [.ref 68, .int x] h nx sz (RE (sw x (h.1 68 1) (h.1 68 8) (h.1 68 7) (h.1 68 30) (h.1 68 31) (-1000000)) (setI h 68 0 0)) :=
  Mk.re fun Q hq => e_X12_count (c_X12_count_0 hA0 (fun c => by rwa [sw_z c] at hq) (fun c => by rwa [sw_0 c] at hq) (fun c => by rwa [sw_1 c] at hq) (fun c => by rwa [sw_2 c] at hq) (fun c => by rwa [sw_3 c] at hq) (fun c => by rwa [sw_4 c] at hq))
-- of
def ofV (n : Nat) (K L A : Nat → Int32) (p : Nat) (w : Int32) : Int32 := sw w (nI (sumD K n (full n) (full n) p)) (rc K n (full n) p) (nI (cutN K n p / 2)) (A p) (L p) (-1)
theorem s_of_bad {x y : Int32} (hA0 : 91 ≤ nx) (hF : Fx h) (hp : InvP h n) (c : hasI n x = 0) : Mk X (d + 1) m_X11_of [.ref 0, .int x, .int y] h nx sz (RE (-1) h) := by
  refine Mk.re fun Q hq => e_X11_of (c_X11_of_0 hA0 hF RO_rm hcs0 (s_has (d := d) hA0 (hp.np net1)) ?_)
  rintro y0 g ⟨rfl, rfl⟩
  exact c_X11_of_8 (P53 := fun _ _ => False) (P71 := fun _ _ => False) (P80 := fun _ _ => False) hA0 hF RO_rm hcs0 (fun z => absurd c z) (fun z => absurd c z) (fun z => absurd c z) (fun z => absurd c z) (fun z => absurd c z) (fun z => absurd c z) (fun z => absurd c z) (fun z => absurd c z) (fun z => absurd c z) (fun z => absurd c z) (fun z => absurd c z) (fun _ => hq)
theorem s_of {p : Nat} {w : Int32} (hA0 : 91 ≤ nx) (hF : Fx h) (hp : InvP h n) (hg : Gr n (h.1 2)) (hi : p < n) : Mk X (d + 3) m_X11_of [.ref 0, .int (nI p), .int w] h nx sz (RE (ofV n (h.1 2) (h.1 3) (h.1 4) p w) h) := by
  have h20 := hp.2.1
  refine Mk.re fun Q hq => e_X11_of (c_X11_of_0 hA0 hF RO_rm hcs0 (s_has (d := d + 2) hA0 (hp.np net1)) ?_)
  rintro y0 g ⟨rfl, rfl⟩
  rw [hasI_nI (by omega) hi]
  unfold ofV at hq
  refine c_X11_of_8 hA0 hF RO_rm hcs0 (P71 := fun y g => y = rc (h.1 2) n (full n) p ∧ h = g) (fun _ c => by rwa [sw_z c] at hq) (fun _ _ => s_sumOf (d := d) hA0 hF (hp.np net1) hi) ?_ (fun _ _ => by rw [bt_toInt32]; exact s_reach0 (d := d + 1) hA0 hF hp) ?_ (fun _ _ => s_cutBy (d := d) hA0 hF hp hg hi) ?_ (fun _ _ => vin (by omega) (by decide)) (fun _ c => ?_) (fun _ _ => vin (by omega) (by decide)) (fun _ c => ?_) (fun z => by cases z)
  · rintro _ c y g ⟨rfl, rfl⟩
    rw [sw_0 c] at hq
    exact c_X11_of_56 hq
  · rintro _ c y g ⟨rfl, rfl⟩
    rw [sw_1 c] at hq
    exact c_X11_of_74 hq
  · rintro _ c y g ⟨rfl, rfl⟩
    rw [sw_2 c] at hq
    exact c_X11_of_83 hq
  · rw [sw_3 c] at hq
    rw [tN (by omega)]
    exact hq
  · rw [sw_4 c] at hq
    rw [tN (by omega)]
    exact hq
theorem t_of_bad {x y : Int32} (hA0 : 91 ≤ nx) (hp : InvP h n) (c : hasI n x = 0) : Mk X (d + 1) m_X12_of [.ref 68, .int x, .int y] h nx sz (RE (-1) (setI h 68 0 0)) := by
  refine Mk.re fun Q hq => e_X12_of (c_X12_of_0 hA0 RO_rm hcs0 (t_isOne (d := d) (h := setI h 68 0 0) hA0 hp.mp) ?_)
  rintro y0 g ⟨rfl, rfl⟩
  exact c_X12_of_10 (P16 := fun _ _ => False) RO_rm hcs0 (fun _ => hq) (fun z => absurd c z) (fun z => absurd c z)
theorem isIn_04 {w : Int32} : (¬ w < 0 ∧ ¬ 4 < w) ↔ ¬ (w.toInt < 0 ∨ 4 < w.toInt) := by
  rw [Int32.lt_iff_toInt_lt, Int32.lt_iff_toInt_lt]
  have h0 : (0 : Int32).toInt = 0 := by decide
  have h4 : (4 : Int32).toInt = 4 := by decide
  rw [h0, h4]
  omega
theorem t_of {p : Nat} {w : Int32} (hA0 : 91 ≤ nx) (hF : Fx h) (hp : InvP h n) (hg : Gr n (h.1 73)) (hi : p < n) : Mk X (d + 4) m_X12_of [.ref 68, .int (nI p), .int w] h nx sz (RE (ofV n (h.1 73) (h.1 75) (h.1 76) p w) (setI h 68 0 0)) := by
  have h20 := hp.2.1
  have hF0 : Fx (setI h 68 0 0) := hF
  have hp0 : MP (setI h 68 0 0) n := hp.mp
  refine Mk.re fun Q hq => e_X12_of (c_X12_of_0 hA0 RO_rm hcs0 (t_isOne (d := d + 3) (h := setI h 68 0 0) hA0 hp0) ?_)
  rintro y0 g ⟨rfl, rfl⟩
  rw [hasI_nI (by omega) hi]
  unfold ofV at hq
  refine c_X12_of_10 RO_rm hcs0 (fun z => by cases z) (fun _ => t_isIn (d := d + 3)) ?_
  rintro _ y0 g ⟨rfl, rfl⟩
  refine c_X12_of_19 hA0 hF0 RO_rm hcs0 (fun _ _ => vin (by omega) (by decide)) (fun c c1 => ?_) (fun _ _ => t_sumOf (d := d) hA0 hF0 hp0 hi) ?_ (fun _ _ => t_part0 (d := d + 1) hA0 hF0 hp0 hg.kb hi) ?_ (fun _ _ => t_cutBy (d := d) hA0 hF0 hp0 hg hi) ?_ (fun _ _ => vin (by omega) (by decide)) (fun _ c => ?_) (fun c => ?_)
  · have c := isIn_04.mp (bt4 c)
    rw [sw_4 (by omega)] at hq
    rw [tN (by omega)]
    exact hq
  · rintro _ c y g ⟨rfl, rfl⟩
    rw [sw_0 c, ← sumD_all hg.kb h20] at hq
    exact c_X12_of_61 hq
  · rintro _ c y g ⟨rfl, rfl⟩
    rw [sw_1 c] at hq
    exact c_X12_of_68 hq
  · rintro _ c y g ⟨rfl, rfl⟩
    rw [sw_2 c] at hq
    exact c_X12_of_74 hq
  · rw [sw_3 c] at hq
    rw [tN (by omega)]
    exact hq
  · have c := Decidable.not_not.mp (mt isIn_04.mpr (bt3 c))
    rwa [sw_z c] at hq
end OPS
