/-! courier -/
section OPS
variable {X : CX} {d nx sz : Nat} {h : AH} {n : Nat}
/-- p's own ties out: the first m of them -/
def isS (K : Nat → Int32) (p : Nat) : Nat → Nat → Int32
  | 0 => K
  | o + 1 => if tb (K p) o = true then partK (isS K p o) p o else isS K p o
def joS (K B : Nat → Int32) (p : Nat) : Nat → Nat → Int32
  | 0 => B
  | o + 1 => if tb (K p) o = true then joinK (joS K B p o) p o else joS K B p o
theorem tb_isS {K : Nat → Int32} (hg : Gr n K) (hn : n ≤ 20) {p : Nat} (hp : p < n) {k b : Nat} : ∀ {m : Nat}, m ≤ n → (tb (isS K p m k) b = true ↔ tb (K k) b = true ∧ ¬ (k = p ∧ b < m) ∧ ¬ (b = p ∧ k < m))
  | 0, _ => by simp [isS]
  | o + 1, hm => by
    have ih := tb_isS hg hn hp (k := k) (b := b) (m := o) (by omega)
    unfold isS
    by_cases c : tb (K p) o = true
    · have hpo : p ≠ o := (hg p o c).2.2.1
      rw [if_pos c, tb_part (by omega) (by omega) hpo, ih]
      constructor
      · rintro ⟨⟨h1, h2, h3⟩, h4, h5⟩
        refine ⟨h1, fun z => ?_, fun z => ?_⟩
        · by_cases e : b = o
          · exact h4 ⟨z.1, e⟩
          · exact h2 ⟨z.1, by omega⟩
        · by_cases e : k = o
          · exact h5 ⟨e, z.1⟩
          · exact h3 ⟨z.1, by omega⟩
      · rintro ⟨h1, h2, h3⟩
        exact ⟨⟨h1, fun z => h2 ⟨z.1, by omega⟩, fun z => h3 ⟨z.1, by omega⟩⟩, fun z => h2 ⟨z.1, by omega⟩, fun z => h3 ⟨z.2, by omega⟩⟩
    · rw [if_neg c, ih]
      constructor
      · rintro ⟨h1, h2, h3⟩
        refine ⟨h1, fun z => ?_, fun z => ?_⟩
        · by_cases e : b = o
          · rw [z.1, e] at h1
            exact c h1
          · exact h2 ⟨z.1, by omega⟩
        · by_cases e : k = o
          · rw [z.1, e, tb_sym hg] at h1
            exact c h1
          · exact h3 ⟨z.1, by omega⟩
      · rintro ⟨h1, h2, h3⟩
        exact ⟨h1, fun z => h2 ⟨z.1, by omega⟩, fun z => h3 ⟨z.1, by omega⟩⟩
theorem tb_joS {K : Nat → Int32} (hg : Gr n K) (hn : n ≤ 20) {p : Nat} (hp : p < n) {k b : Nat} : ∀ {m : Nat}, m ≤ n → (tb (joS K (isS K p n) p m k) b = true ↔ tb (K k) b = true ∧ (k = p → b < m) ∧ (b = p → k < m))
  | 0, _ => by
    show tb (isS K p n k) b = true ↔ _
    rw [tb_isS hg hn hp (Nat.le_refl n)]
    constructor
    · rintro ⟨h1, h2, h3⟩
      obtain ⟨g1, g2, -, -⟩ := hg k b h1
      exact ⟨h1, fun z => absurd ⟨z, g2⟩ h2, fun z => absurd ⟨z, g1⟩ h3⟩
    · rintro ⟨h1, h2, h3⟩
      exact ⟨h1, fun z => by have := h2 z.1; omega, fun z => by have := h3 z.1; omega⟩
  | o + 1, hm => by
    have ih := tb_joS hg hn hp (k := k) (b := b) (m := o) (by omega)
    unfold joS
    by_cases c : tb (K p) o = true
    · have hpo : p ≠ o := (hg p o c).2.2.1
      rw [if_pos c, tb_join (by omega) (by omega) hpo, ih]
      constructor
      · rintro (⟨h1, h2, h3⟩ | ⟨e1, e2⟩ | ⟨e1, e2⟩)
        · exact ⟨h1, fun z => by have := h2 z; omega, fun z => by have := h3 z; omega⟩
        · subst e1; subst e2
          exact ⟨c, fun _ => by omega, fun z => absurd z.symm hpo⟩
        · subst e1; subst e2
          exact ⟨by rw [tb_sym hg]; exact c, fun z => absurd z.symm hpo, fun _ => by omega⟩
      · rintro ⟨h1, h2, h3⟩
        by_cases e1 : k = p ∧ b = o
        · exact Or.inr (Or.inl e1)
        · by_cases e2 : k = o ∧ b = p
          · exact Or.inr (Or.inr e2)
          · refine Or.inl ⟨h1, fun z => ?_, fun z => ?_⟩
            · have := h2 z
              have : b ≠ o := fun w => e1 ⟨z, w⟩
              omega
            · have := h3 z
              have : k ≠ o := fun w => e2 ⟨w, z⟩
              omega
    · rw [if_neg c, ih]
      constructor
      · rintro ⟨h1, h2, h3⟩
        exact ⟨h1, fun z => by have := h2 z; omega, fun z => by have := h3 z; omega⟩
      · rintro ⟨h1, h2, h3⟩
        refine ⟨h1, fun z => ?_, fun z => ?_⟩
        · have := h2 z
          have : b ≠ o := fun w => c (by rw [← w, ← z]; exact h1)
          omega
        · have := h3 z
          have : k ≠ o := fun w => c (by rw [tb_sym hg, ← w, ← z]; exact h1)
          omega
theorem joS_end {K : Nat → Int32} (hg : Gr n K) (hn : n ≤ 20) {p : Nat} (hp : p < n) : joS K (isS K p n) p n = K := by
  funext k
  apply tb_ext
  intro b _
  rw [Bool.eq_iff_iff, tb_joS hg hn hp (Nat.le_refl n)]
  constructor
  · exact fun z => z.1
  · intro z
    obtain ⟨g1, g2, -, -⟩ := hg k b z
    exact ⟨z, fun _ => g2, fun _ => g1⟩
theorem Wk_iso {K : Nat → Int32} (hg : Gr n K) (hn : n ≤ 20) {p a : Nat} (hp : p < n) (ha : a < n) (hap : a ≠ p) : ∀ {k b : Nat}, Wk K n (full n &&& (bt p ^^^ (-1))) k a b ↔ Wk (isS K p n) n (full n) k a b := by
  intro k
  induction k with
  | zero => intro b; exact Iff.rfl
  | succ k ih =>
    intro b
    rw [W_succ, W_succ, ih]
    refine or_congr Iff.rfl ⟨?_, ?_⟩
    · rintro ⟨h1, i, h2, h3, h4⟩
      obtain ⟨b1, b2⟩ := (tb_wo hn hp).mp h1
      refine ⟨(tb_fulln hn).mpr b1, i, h2, ih.mp h3, (tb_isS hg hn hp (Nat.le_refl n)).mpr ⟨h4, fun z => ?_, fun z => b2 z.1⟩⟩
      rcases W_in (by omega) h3 with e | e
      · exact hap (e.symm.trans z.1)
      · exact ((tb_wo hn hp).mp e).2 z.1
    · rintro ⟨h1, i, h2, h3, h4⟩
      obtain ⟨g1, g2, g3⟩ := (tb_isS hg hn hp (Nat.le_refl n)).mp h4
      have hb := (tb_fulln hn).mp h1
      exact ⟨(tb_wo hn hp).mpr ⟨hb, fun z => g3 ⟨z, h2⟩⟩, i, h2, ih.mpr h3, g1⟩
theorem dst_iso {K : Nat → Int32} (hg : Gr n K) (hn : n ≤ 20) {p a : Nat} (hp : p < n) (ha : a < n) (hap : a ≠ p) (b : Nat) : dst K n (full n &&& (bt p ^^^ (-1))) a b = dst (isS K p n) n (full n) a b := by
  unfold dst
  congr 1
  funext k
  rw [Bool.eq_iff_iff]
  exact Wk_iso hg hn hp ha hap
/-- the distances of the others -/
def foN (K : Nat → Int32) (n p : Nat) : Nat := sm (fun a => if a = p then 0 else sm (fun b => if b = p ∨ a = b then 0 else dstN K n (full n) a b) n) n
def moreI (K : Nat → Int32) (n p : Nat) : Int32 := nI (foN (isS K p n) n p) - nI (foN K n p)
theorem fo_s {K : Nat → Int32} (hn : n ≤ 20) {p : Nat} (hp : p < n) (m : Int32) (K' : Nat → Int32) (hd : ∀ a b, a < n → a ≠ p → dst K n m a b = dst K' n (full n) a b) : sm (fun a => if a = p then 0 else sumD K n m (full n &&& (bt p ^^^ (-1))) a) n = foN K' n p := by
  refine sm_cong fun a ha => ?_
  by_cases e : a = p
  · rw [if_pos e, if_pos e]
  · rw [if_neg e, if_neg e]
    refine sm_cong fun b hb => ?_
    have eN : dstN K n m a b = dstN K' n (full n) a b := by unfold dstN; rw [hd a b ha e]
    by_cases c : tb (full n &&& (bt p ^^^ (-1))) b = true
    · obtain ⟨c1, c2⟩ := (tb_wo hn hp).mp c
      rw [if_pos c, eN]
      by_cases e2 : a = b
      · subst e2
        rw [if_pos (Or.inr rfl)]
        unfold dstN
        rw [dst_self (by omega) (by omega)]
        rfl
      · rw [if_neg (by rintro (z | z); exact c2 z; exact e2 z)]
    · rw [if_neg c, if_pos]
      refine Or.inl (Classical.byContradiction fun z => c ((tb_wo hn hp).mpr ⟨hb, z⟩))
theorem sub_add_sub {a b c e : Int32} : (a - b) + (c - e) = (a + c) - (b + e) := by
  rw [Int32.sub_eq_add_neg, Int32.sub_eq_add_neg, Int32.sub_eq_add_neg, Int32.neg_add, Int32.sub_eq_add_neg]
  ac_rfl
theorem s_moreWithout {p : Nat} (hA0 : 91 ≤ nx) (hF : Fx h) (hP : InvP h n) (hg : Gr n (h.1 2)) (hp : p < n) : Mk X (d + 2) m_X1_moreWithout [.ref 20, .int (nI p)] h nx sz (RE (moreI (h.1 2) n p) h) := by
  obtain ⟨hn, h0, h1, h2, h20⟩ := hP.np net1
  refine Mk.re fun Q hq => e_X1_moreWithout (c_X1_moreWithout_0 hA0 hF ?_)
  rw [h1, bt_toInt32]
  have hw : ∀ j, tb (full n &&& (bt p ^^^ (-1))) j = true → j < n := fun j hj => ((tb_wo h20 hp).mp hj).1
  obtain ⟨w, ew⟩ : ∃ w, w = full n &&& (bt p ^^^ (-1)) := ⟨_, rfl⟩
  have key : VM X m_X1_moreWithout (d + 2) nx sz Q 19 [some (.ref 20), some (.int (nI p)), some (.int w), some (.int (nI (sm (fun a => if a = p then 0 else sumD (h.1 2) n w w a) 0) - nI (sm (fun a => if a = p then 0 else sumD (h.1 2) n (full n) w a) 0))), some (.int (nI 0))] [] h := by
    refine down_ind (N := n) (P := fun i => VM X m_X1_moreWithout (d + 2) nx sz Q 19 [some (.ref 20), some (.int (nI p)), some (.int w), some (.int (nI (sm (fun a => if a = p then 0 else sumD (h.1 2) n w w a) i) - nI (sm (fun a => if a = p then 0 else sumD (h.1 2) n (full n) w a) i))), some (.int (nI i))] [] h) ?_ (fun i hi q => ?_)
    · have ex : h.1 1 0 ≤ nI n := by rw [h0]; exact Int32.le_refl _
      refine c_X1_moreWithout_19 (d := d + 1) (P46 := fun _ _ => False) hA0 hF RO_rm hcs0 (fun _ => ?_) (fun c => absurd ex c) (fun c => absurd ex c) (fun c => absurd ex c)
      rw [ew, fo_s h20 hp _ (isS (h.1 2) p n) (fun a b ha hap => dst_iso hg h20 hp ha hap b), fo_s h20 hp _ (h.1 2) (fun a b _ _ => rfl)]
      exact hq
    · have e1 : ∀ m, sm (fun a => if a = p then 0 else sumD (h.1 2) n m w a) (i + 1) = sm (fun a => if a = p then 0 else sumD (h.1 2) n m w a) i + (if i = p then 0 else sumD (h.1 2) n m w i) := fun _ => rfl
      rw [e1, e1] at q
      refine c_X1_moreWithout_19 hA0 hF RO_rm hcs0 (fun c => ?_) (fun _ c => ?_) (fun _ _ => s_sumOver (d := d) hA0 hF (hP.np net1) hi (by rw [ew]; exact hw)) ?_
      · rw [h0, le_nI (by omega) (by omega)] at c
        omega
      · have c := nI_inj (by omega) (by omega) c
        rw [if_pos c, if_pos c] at q
        rw [nI_1]
        exact q
      · rintro _ c y g ⟨rfl, rfl⟩
        have c : ¬ i = p := fun z => c (by rw [z])
        rw [if_neg c, if_neg c] at q
        refine c_X1_moreWithout_49 hA0 hF RO_rm hcs0 (P63 := fun y g => y = nI (sumD (h.1 2) n (full n) w i) ∧ h = g) ?_ ?_
        · rw [h1]
          exact s_sumOver (d := d) hA0 hF (hP.np net1) hi (by rw [ew]; exact hw)
        · rintro y g ⟨rfl, rfl⟩
          refine c_X1_moreWithout_66 ?_
          rw [nI_1, sub_add_sub, nI_add, nI_add]
          exact q
  rw [← ew]
  have e0 : nI (sm (fun a => if a = p then 0 else sumD (h.1 2) n w w a) 0) - nI (sm (fun a => if a = p then 0 else sumD (h.1 2) n (full n) w a) 0) = 0 := by
    show nI 0 - nI 0 = 0
    decide
  rw [e0] at key
  exact key
/-- the best of 0 .. k -/
def coF (K : Nat → Int32) (n : Nat) : Nat → Nat × Int32
  | 0 => (0, moreI K n 0)
  | k + 1 => if (coF K n k).2 < moreI K n (k + 1) then (k + 1, moreI K n (k + 1)) else coF K n k
theorem coF_ok {K : Nat → Int32} : ∀ {k : Nat}, (coF K n k).1 ≤ k ∧ (coF K n k).2 = moreI K n (coF K n k).1
  | 0 => ⟨Nat.le_refl _, rfl⟩
  | k + 1 => by
    have ih := coF_ok (K := K) (k := k)
    unfold coF
    split
    · exact ⟨Nat.le_refl _, rfl⟩
    · exact ⟨by omega, ih.2⟩
theorem s_bestCourier (hA0 : 91 ≤ nx) (hF : Fx h) (hP : InvP h n) (hg : Gr n (h.1 2)) : Mk X (d + 3) m_X1_bestCourier [.ref 20] h nx sz (RE (nI (coF (h.1 2) n (n - 1)).1) h) := by
  obtain ⟨hn, h0, h1, h2, h20⟩ := hP.np net1
  refine Mk.re fun Q hq => e_X1_bestCourier (c_X1_bestCourier_0 hA0 RO_rm hcs0 (s_moreWithout (d := d) (p := 0) hA0 hF hP hg (by omega)) ?_)
  rintro y g ⟨rfl, rfl⟩
  refine c_X1_bestCourier_7 ?_
  have key : VM X m_X1_bestCourier (d + 3) nx sz Q 10 [some (.ref 20), some (.int (nI (coF (h.1 2) n 0).1)), some (.int (coF (h.1 2) n 0).2), some (.int (nI (0 + 1))), none] [] h := by
    refine down_ind (N := n - 1) (P := fun k => VM X m_X1_bestCourier (d + 3) nx sz Q 10 [some (.ref 20), some (.int (nI (coF (h.1 2) n k).1)), some (.int (coF (h.1 2) n k).2), some (.int (nI (k + 1))), none] [] h) ?_ (fun k hk q => ?_)
    · have ex : h.1 1 0 ≤ nI (n - 1 + 1) := by rw [h0, show n - 1 + 1 = n by omega]; exact Int32.le_refl _
      exact c_X1_bestCourier_10 (d := d + 2) (P23 := fun _ _ => False) hA0 hF RO_rm hcs0 (fun _ => hq) (fun c => absurd ex c) (fun c => absurd ex c)
    · refine c_X1_bestCourier_10 hA0 hF RO_rm hcs0 (fun c => ?_) (fun _ => s_moreWithout (d := d) (p := k + 1) hA0 hF hP hg (by omega)) ?_
      · rw [h0, le_nI (by omega) (by omega)] at c
        omega
      rintro _ y g ⟨rfl, rfl⟩
      refine c_X1_bestCourier_26 (fun c => ?_) (fun c => ?_)
      · have e : coF (h.1 2) n (k + 1) = coF (h.1 2) n k := if_neg (Int32.not_lt.mpr c)
        rw [e] at q
        rw [nI_1]
        exact q
      · have e : coF (h.1 2) n (k + 1) = (k + 1, moreI (h.1 2) n (k + 1)) := if_pos (Int32.not_le.mp c)
        rw [e] at q
        rw [nI_1]
        exact q
  exact key
def coV (K : Nat → Int32) (n w : Nat) : Int32 := if w = 0 then nI (coF K n (n - 1)).1 else (coF K n (n - 1)).2
theorem s_courier_bad {x : Int32} (hA0 : 91 ≤ nx) (hF : Fx h) (c : x < 0 ∨ ¬ x ≤ 1) : Mk X (d + 1) m_X11_courier [.ref 0, .int x] h nx sz (RE (-1) h) :=
  Mk.re fun Q hq => e_X11_courier (c_X11_courier_0 (d := d) (P15 := fun _ _ => False) hA0 hF RO_rm hcs0 (fun _ => hq) (fun c1 c2 => absurd c (by rintro (z | z); exact c1 z; exact z c2)) (fun c1 c2 => absurd c (by rintro (z | z); exact c1 z; exact z c2)) (fun _ _ => hq))
theorem s_courier {w : Nat} (hA0 : 91 ≤ nx) (hF : Fx h) (hP : InvP h n) (hg : Gr n (h.1 2)) (hw : w ≤ 1) : Mk X (d + 4) m_X11_courier [.ref 0, .int (nI w)] h nx sz (RE (coV (h.1 2) n w) h) := by
  obtain ⟨b1, b2, b3⟩ := nI_01 hw
  have h2 := hP.1
  have co := coF_ok (K := h.1 2) (n := n) (k := n - 1)
  refine Mk.re fun Q hq => e_X11_courier (c_X11_courier_0 hA0 hF RO_rm hcs0 (fun z => absurd z b1) (fun _ _ => s_bestCourier (d := d) hA0 hF hP hg) ?_ (fun _ z => absurd b2 z))
  rintro _ _ y g ⟨rfl, rfl⟩
  unfold coV at hq
  refine c_X11_courier_18 hA0 hF RO_rm hcs0 (fun _ => s_moreWithout (d := d + 1) hA0 hF hP hg (by omega)) ?_ (fun c => ?_)
  · rintro c y g ⟨rfl, rfl⟩
    rw [if_neg (fun z => c (by rw [z]; rfl)), co.2] at hq
    exact c_X11_courier_35 hq
  · have c := nI_inj (b := 0) (by omega) (by decide) c
    rw [if_pos c] at hq
    exact c_X11_courier_35 hq
-- the other side
theorem t_fo52 {Q : Option Value → AH → Prop} {p : Nat} {x2 own : Int32} (hA0 : 91 ≤ nx) (hF : Fx h) (hp : MP h n) (hK : KB (h.1 73) n) (hpn : p < n) (hq : VM X m_X12_farsOfOthers (d + 3) nx sz Q 138 [some (.ref 68), some (.int (nI p)), some (.int x2), some (.int (nI (foN (h.1 73) n p))), some (.int own), some (.int 0), none, none] [] h) : VM X m_X12_farsOfOthers (d + 3) nx sz Q 52 [some (.ref 68), some (.int (nI p)), some (.int x2), some (.int (nI 0)), some (.int own), some (.int (nI 0)), none, none] [] h := by
  obtain ⟨h0, h2, h20⟩ := id hp
  refine down_ind (N := n) (P := fun a => VM X m_X12_farsOfOthers (d + 3) nx sz Q 52 [some (.ref 68), some (.int (nI p)), some (.int x2), some (.int (nI (sm (fun a => if a = p then 0 else sm (fun b => if b = p ∨ a = b then 0 else dstN (h.1 73) n (full n) a b) n) a))), some (.int own), some (.int (nI a)), none, none] [] h) ?_ (fun a ha q => ?_)
  · have ex : h.1 68 1 ≤ nI n := by rw [h0]; exact Int32.le_refl _
    exact c_X12_farsOfOthers_52 hA0 (fun _ => hq) (fun c => absurd ex c)
  · refine c_X12_farsOfOthers_52 hA0 (fun c => ?_) (fun _ => ?_)
    · rw [h0, le_nI (by omega) (by omega)] at c
      omega
    obtain ⟨v, hv⟩ : ∃ v, v = sm (fun a => if a = p then 0 else sm (fun b => if b = p ∨ a = b then 0 else dstN (h.1 73) n (full n) a b) n) a := ⟨_, rfl⟩
    have e1 : sm (fun a => if a = p then 0 else sm (fun b => if b = p ∨ a = b then 0 else dstN (h.1 73) n (full n) a b) n) (a + 1) = v + (if a = p then 0 else sm (fun b => if b = p ∨ a = b then 0 else dstN (h.1 73) n (full n) a b) n) := by rw [hv]; rfl
    rw [e1] at q
    rw [← hv]
    have key : VM X m_X12_farsOfOthers (d + 3) nx sz Q 64 [some (.ref 68), some (.int (nI p)), some (.int x2), some (.int (nI (v + (if a = p then 0 else sm (fun b => if b = p ∨ a = b then 0 else dstN (h.1 73) n (full n) a b) 0)))), some (.int own), some (.int (nI a)), some (.int (nI 0)), none] [] h := by
      refine down_ind (N := n) (P := fun b => VM X m_X12_farsOfOthers (d + 3) nx sz Q 64 [some (.ref 68), some (.int (nI p)), some (.int x2), some (.int (nI (v + (if a = p then 0 else sm (fun b => if b = p ∨ a = b then 0 else dstN (h.1 73) n (full n) a b) b)))), some (.int own), some (.int (nI a)), some (.int (nI b)), none] [] h) ?_ (fun b hb q2 => ?_)
      · have ex : h.1 68 1 ≤ nI n := by rw [h0]; exact Int32.le_refl _
        refine c_X12_farsOfOthers_64 (d := d + 2) (P100 := fun _ _ => False) hA0 RO_rm hcs0 (fun _ => ?_) (fun c => absurd ex c) (fun c => absurd ex c) (fun c => absurd ex c) (fun c => absurd ex c) (fun c => absurd ex c)
        rw [nI_1]
        exact q
      · have e2 : sm (fun b => if b = p ∨ a = b then 0 else dstN (h.1 73) n (full n) a b) (b + 1) = sm (fun b => if b = p ∨ a = b then 0 else dstN (h.1 73) n (full n) a b) b + (if b = p ∨ a = b then 0 else dstN (h.1 73) n (full n) a b) := rfl
        refine c_X12_farsOfOthers_64 hA0 RO_rm hcs0 (fun c => ?_) (fun _ c => ?_) (fun _ c c1 => ?_) (fun _ _ _ _ => t_farOf (d := d) hA0 hF hp ha hb) ?_ (fun _ c c1 c2 => ?_)
        · rw [h0, le_nI (by omega) (by omega)] at c
          omega
        · have c := nI_inj (by omega) (by omega) c
          rw [if_pos c] at q2 ⊢
          rw [nI_1]
          exact q2
        · have c1 := nI_inj (by omega) (by omega) c1
          have c : ¬ a = p := fun z => c (by rw [z])
          rw [if_neg c, e2, if_pos (Or.inl c1)] at q2
          rw [if_neg c, nI_1]
          exact q2
        · rintro _ c c1 c2 y g ⟨rfl, rfl⟩
          have c : ¬ a = p := fun z => c (by rw [z])
          have c1 : ¬ b = p := fun z => c1 (by rw [z])
          have c2 : ¬ a = b := fun z => c2 (by rw [z])
          rw [if_neg c, e2, if_neg (by rintro (z | z); exact c1 z; exact c2 z), ← Nat.add_assoc] at q2
          rw [if_neg c]
          have hdd := dstI_N (K := h.1 73) (m := full n) (a := a) (b := b) h20
          rw [dstI_mask (m := -1) hK (fun j hj => tb_m1f (n := n) (by omega) hj)]
          refine c_X12_farsOfOthers_103 hA0 (fun c => ?_) (fun c => ?_)
          · rcases hdd with ⟨e, -⟩ | ⟨e, -, -⟩
            · exact absurd e c
            · rw [e, nI_1, nI_add]
              exact q2
          · rcases hdd with ⟨-, e⟩ | ⟨-, -, e⟩
            · rw [e] at q2
              rw [h0, nI_1, nI_add]
              exact q2
            · exact absurd c e
        · have c2 := nI_inj (by omega) (by omega) c2
          have c : ¬ a = p := fun z => c (by rw [z])
          rw [if_neg c, e2, if_pos (Or.inr c2)] at q2
          rw [if_neg c, nI_1]
          exact q2
    have e0 : (if a = p then 0 else sm (fun b => if b = p ∨ a = b then 0 else dstN (h.1 73) n (full n) a b) 0) = 0 := by
      split <;> rfl
    rw [e0] at key
    exact key
theorem t_fo0 {p : Nat} (hA0 : 91 ≤ nx) (hF : Fx h) (hp : MP h n) (hg : Gr n (h.1 73)) (hpn : p < n) : Mk X (d + 3) m_X12_farsOfOthers [.ref 68, .int (nI p), .int 0] h nx sz (RE (nI (foN (h.1 73) n p)) h) := by
  obtain ⟨h0, h2, h20⟩ := id hp
  refine Mk.re fun Q hq => e_X12_farsOfOthers (c_X12_farsOfOthers_0 hA0 hF (vin (by omega) (by decide)) ?_)
  have nx0 : ¬ h.1 68 1 ≤ 0 := by rw [h0, nI_le0 (by omega)]; omega
  have go : VM X m_X12_farsOfOthers (d + 3) nx sz Q 52 [some (.ref 68), some (.int (nI p)), some (.int 0), some (.int (nI 0)), some (.int (h.1 73 (nI p).toNatClampNeg)), some (.int (nI 0)), none, none] [] h := by
    refine t_fo52 hA0 hF hp hg.kb hpn ?_
    exact c_X12_farsOfOthers_138 (d := d + 2) (P155 := fun _ _ => False) hA0 RO_rm hcs0 (fun _ => hq) (fun _ _ => hq) (fun _ z => absurd rfl z) (fun _ z => absurd rfl z)
  exact c_X12_farsOfOthers_13 (d := d + 2) (P30 := fun _ _ => False) hA0 RO_rm hcs0 (fun c => absurd c nx0) (fun _ _ => go) (fun _ z => absurd rfl z) (fun _ z => absurd rfl z)
theorem t_fo1 {p : Nat} (hA0 : 91 ≤ nx) (hF : Fx h) (hp : MP h n) (hg : Gr n (h.1 73)) (hpn : p < n) : Mk X (d + 3) m_X12_farsOfOthers [.ref 68, .int (nI p), .int 1] h nx sz (RE (nI (foN (isS (h.1 73) p n) n p)) h) := by
  obtain ⟨h0, h2, h20⟩ := id hp
  have h0' : ∀ f, (setA h 73 f).1 68 1 = nI n := fun f => h0
  have hF' : ∀ f, Fx (setA h 73 f) := fun f => hF
  have z10 : ¬ (1 : Int32) = 0 := by decide
  refine Mk.re fun Q hq => e_X12_farsOfOthers (c_X12_farsOfOthers_0 hA0 hF (vin (by omega) (by decide)) ?_)
  rw [tN (by omega)]
  -- the last loop
  have back : VM X m_X12_farsOfOthers (d + 3) nx sz Q 138 [some (.ref 68), some (.int (nI p)), some (.int 1), some (.int (nI (foN (isS (h.1 73) p n) n p))), some (.int (h.1 73 p)), some (.int (nI 0)), none, none] [] (setA h 73 (joS (h.1 73) (isS (h.1 73) p n) p 0)) := by
    refine down_ind (N := n) (P := fun o => VM X m_X12_farsOfOthers (d + 3) nx sz Q 138 [some (.ref 68), some (.int (nI p)), some (.int 1), some (.int (nI (foN (isS (h.1 73) p n) n p))), some (.int (h.1 73 p)), some (.int (nI o)), none, none] [] (setA h 73 (joS (h.1 73) (isS (h.1 73) p n) p o))) ?_ (fun o ho q => ?_)
    · have ex : (setA h 73 (joS (h.1 73) (isS (h.1 73) p n) p n)).1 68 1 ≤ nI n := by rw [h0']; exact Int32.le_refl _
      rw [joS_end hg h20 hpn, setA_id] at ex ⊢
      exact c_X12_farsOfOthers_138 (d := d + 2) (P155 := fun _ _ => False) hA0 RO_rm hcs0 (fun _ => hq) (fun c => absurd ex c) (fun c => absurd ex c) (fun c => absurd ex c)
    · refine c_X12_farsOfOthers_138 hA0 RO_rm hcs0 (fun c => ?_) (fun _ z => absurd z z10) (fun _ _ => t_has (d := d + 2) (by omega)) ?_
      · rw [h0', le_nI (by omega) (by omega)] at c
        omega
      rintro _ _ y g ⟨rfl, rfl⟩
      refine c_X12_farsOfOthers_158 hA0 RO_rm hcs0 (fun c => c_X12_farsOfOthers_168 ?_) (fun _ => t_join (d := d + 2) hA0 (hF' _) (by omega) (by omega)) ?_
      · have e : joS (h.1 73) (isS (h.1 73) p n) p (o + 1) = joS (h.1 73) (isS (h.1 73) p n) p o := if_neg (by rw [tb_n c]; decide)
        rw [e] at q
        rw [nI_1]
        exact q
      · rintro c g rfl
        refine c_X12_farsOfOthers_168 ?_
        have e : joS (h.1 73) (isS (h.1 73) p n) p (o + 1) = joinK (joS (h.1 73) (isS (h.1 73) p n) p o) p o := if_pos (tb_c c)
        rw [e] at q
        rw [nI_1, setA_A, setA_self]
        exact q
  have mid : VM X m_X12_farsOfOthers (d + 3) nx sz Q 52 [some (.ref 68), some (.int (nI p)), some (.int 1), some (.int (nI 0)), some (.int (h.1 73 p)), some (.int (nI 0)), none, none] [] (setA h 73 (isS (h.1 73) p n)) := by
    refine t_fo52 (h := setA h 73 (isS (h.1 73) p n)) hA0 (hF' _) ⟨h0' _, h2, h20⟩ ?_ hpn ?_
    · rw [setA_self]
      intro i _ j hj
      exact (hg i j ((tb_isS hg h20 hpn (Nat.le_refl n)).mp hj).1).2.1
    · rw [setA_self]
      exact back
  have key : VM X m_X12_farsOfOthers (d + 3) nx sz Q 13 [some (.ref 68), some (.int (nI p)), some (.int 1), some (.int (nI 0)), some (.int (h.1 73 p)), some (.int (nI 0)), none, none] [] (setA h 73 (isS (h.1 73) p 0)) := by
    refine down_ind (N := n) (P := fun o => VM X m_X12_farsOfOthers (d + 3) nx sz Q 13 [some (.ref 68), some (.int (nI p)), some (.int 1), some (.int (nI 0)), some (.int (h.1 73 p)), some (.int (nI o)), none, none] [] (setA h 73 (isS (h.1 73) p o))) ?_ (fun o ho q => ?_)
    · have ex : (setA h 73 (isS (h.1 73) p n)).1 68 1 ≤ nI n := by rw [h0']; exact Int32.le_refl _
      exact c_X12_farsOfOthers_13 (d := d + 2) (P30 := fun _ _ => False) hA0 RO_rm hcs0 (fun _ => mid) (fun c => absurd ex c) (fun c => absurd ex c) (fun c => absurd ex c)
    · refine c_X12_farsOfOthers_13 hA0 RO_rm hcs0 (fun c => ?_) (fun _ z => absurd z z10) (fun _ _ => t_has (d := d + 2) (by omega)) ?_
      · rw [h0', le_nI (by omega) (by omega)] at c
        omega
      rintro _ _ y g ⟨rfl, rfl⟩
      refine c_X12_farsOfOthers_33 hA0 RO_rm hcs0 (fun c => c_X12_farsOfOthers_43 ?_) (fun _ => t_part (d := d + 2) hA0 (hF' _) (by omega) (by omega)) ?_
      · have e : isS (h.1 73) p (o + 1) = isS (h.1 73) p o := if_neg (by rw [tb_n c]; decide)
        rw [e] at q
        rw [nI_1]
        exact q
      · rintro c g rfl
        refine c_X12_farsOfOthers_43 ?_
        have e : isS (h.1 73) p (o + 1) = partK (isS (h.1 73) p o) p o := if_pos (tb_c c)
        rw [e] at q
        rw [nI_1, setA_A, setA_self]
        exact q
  have e0 : setA h 73 (isS (h.1 73) p 0) = h := setA_id
  rw [e0] at key
  exact key
theorem t_courier_bad {x : Int32} (hA0 : 91 ≤ nx) (c : x < 0 ∨ ¬ x ≤ 1) : Mk X (d + 1) m_X12_courier [.ref 68, .int x] h nx sz (RE (-1) (setI h 68 0 0)) := by
  refine Mk.re fun Q hq => e_X12_courier (c_X12_courier_0 hA0 RO_rm hcs0 (t_isIn (d := d)) ?_)
  rintro y0 g ⟨rfl, rfl⟩
  refine c_X12_courier_11 (fun z => absurd (bt4 z) fun q => ?_) (fun _ => hq)
  rcases c with c | c
  · exact q.1 c
  · exact c (Int32.not_lt.mp q.2)
theorem t_courier {w : Nat} (hA0 : 91 ≤ nx) (hF : Fx h) (hP : InvP h n) (hg : Gr n (h.1 73)) (hw : w ≤ 1) : Mk X (d + 4) m_X12_courier [.ref 68, .int (nI w)] h nx sz (RE (coV (h.1 73) n w) (setI h 68 0 0)) := by
  obtain ⟨h0, h2, h20⟩ := hP.mp
  obtain ⟨b1, b2, b3⟩ := nI_01 hw
  have hF0 : Fx (setI h 68 0 0) := hF
  have hp0 : MP (setI h 68 0 0) n := hP.mp
  have h0' : (setI h 68 0 0).1 68 1 = nI n := h0
  refine Mk.re fun Q hq => e_X12_courier (c_X12_courier_0 hA0 RO_rm hcs0 (t_isIn (d := d + 3)) ?_)
  rintro y0 g ⟨rfl, rfl⟩
  refine c_X12_courier_11 (fun _ => ?_) (fun z => absurd z (ne0 ⟨b1, b3⟩))
  unfold coV at hq
  have loop : VM X m_X12_courier (d + 4) nx sz Q 23 [some (.ref 68), some (.int (nI w)), some (.int (nI (coF (h.1 73) n 0).1)), some (.int (coF (h.1 73) n 0).2), some (.int (nI (0 + 1))), none] [] (setI h 68 0 0) := by
    refine down_ind (N := n - 1) (P := fun k => VM X m_X12_courier (d + 4) nx sz Q 23 [some (.ref 68), some (.int (nI w)), some (.int (nI (coF (h.1 73) n k).1)), some (.int (coF (h.1 73) n k).2), some (.int (nI (k + 1))), none] [] (setI h 68 0 0)) ?_ (fun k hk q => ?_)
    · have ex : (setI h 68 0 0).1 68 1 ≤ nI (n - 1 + 1) := by rw [h0', show n - 1 + 1 = n by omega]; exact Int32.le_refl _
      refine c_X12_courier_23 (d := d + 3) (P36 := fun _ _ => False) hA0 RO_rm hcs0 (fun _ c => ?_) (fun _ c => ?_) (fun c => absurd ex c) (fun c => absurd ex c)
      · rwa [if_neg (fun z => c (by rw [z]; rfl))] at hq
      · rwa [if_pos (nI_inj (b := 0) (by omega) (by decide) c)] at hq
    · refine c_X12_courier_23 hA0 RO_rm hcs0 (fun c => ?_) (fun c => ?_) (fun _ => t_fo1 (d := d) (p := k + 1) hA0 hF0 hp0 hg (by omega)) ?_
      · rw [h0', le_nI (by omega) (by omega)] at c
        omega
      · rw [h0', le_nI (by omega) (by omega)] at c
        omega
      rintro _ y g ⟨rfl, rfl⟩
      refine c_X12_courier_39 hA0 RO_rm hcs0 (t_fo0 (d := d) (p := k + 1) hA0 hF0 hp0 hg (by omega)) ?_
      rintro y g ⟨rfl, rfl⟩
      have co := coF_ok (K := h.1 73) (n := n) (k := k)
      refine c_X12_courier_46 (fun c => ?_) (fun _ c => ?_) (fun _ c => ?_)
      · have : ∀ k, k < 20 → ¬ nI k = -1 := by decide
        exact absurd c (this _ (by omega))
      · have e : coF (h.1 73) n (k + 1) = (k + 1, moreI (h.1 73) n (k + 1)) := if_pos c
        rw [e] at q
        rw [nI_1]
        exact q
      · have e : coF (h.1 73) n (k + 1) = coF (h.1 73) n k := if_neg c
        rw [e] at q
        rw [nI_1]
        exact q
  have nx0 : ¬ (setI h 68 0 0).1 68 1 ≤ nI 0 := by rw [h0', le_nI (by omega) (by decide)]; omega
  refine c_X12_courier_23 hA0 RO_rm hcs0 (fun c => absurd c nx0) (fun c => absurd c nx0) (fun _ => t_fo1 (d := d) (p := 0) hA0 hF0 hp0 hg (by omega)) ?_
  rintro _ y g ⟨rfl, rfl⟩
  refine c_X12_courier_39 hA0 RO_rm hcs0 (t_fo0 (d := d) (p := 0) hA0 hF0 hp0 hg (by omega)) ?_
  rintro y g ⟨rfl, rfl⟩
  exact c_X12_courier_46 (fun _ => loop) (fun c => absurd rfl c) (fun c => absurd rfl c)
end OPS
