/-! layFrom; ways of the other side -/
section OPS
variable {X : CX} {d nx sz : Nat} {h : AH} {n : Nat}
def rwN (K : Nat → Int32) (n a b : Nat) : Nat := match dst K n (full n) a b with
  | some k => Wn K n a k b
  | none => 0
/-- as far as step m -/
def lvN (K : Nat → Int32) (n a m b : Nat) : Nat := match dst K n (full n) a b with
  | some k => if k ≤ m then Wn K n a k b else 0
  | none => 0
def LayF (h g : AH) (n : Nat) (K : Nat → Int32) (a : Nat) (f : Nat → Nat) : Prop := g.2.2 = h.2.2 ∧ (∀ c, c ≠ 78 → g.1 c = h.1 c) ∧ (∀ x, (∀ b, b < n → x ≠ 20 * a + b) → g.1 78 x = h.1 78 x ∧ g.2.1 79 x = h.2.1 79 x) ∧ ∀ b, b < n → g.1 78 (20 * a + b) = dstI K n (full n) a b ∧ g.2.1 79 (20 * a + b) = nL (f b)
theorem LayF.set {g : AH} {K : Nat → Int32} {a b v : Nat} {f : Nat → Nat} (l : LayF h g n K a f) (hb : b < n) : LayF h (setL g 79 (20 * a + b) (nL v)) n K a (fun c => if c = b then v else f c) := by
  obtain ⟨l1, l2, l3, l4⟩ := l
  refine ⟨l1, l2, fun x hx => ⟨(l3 x hx).1, ?_⟩, fun c hc => ⟨(l4 c hc).1, ?_⟩⟩
  · show (if 79 = 79 ∧ x = 20 * a + b then _ else g.2.1 79 x) = _
    rw [if_neg (fun z => hx b hb z.2)]
    exact (l3 x hx).2
  · show (if 79 = 79 ∧ 20 * a + c = 20 * a + b then _ else g.2.1 79 (20 * a + c)) = nL (if c = b then v else f c)
    by_cases e : c = b
    · subst e
      rw [if_pos ⟨rfl, rfl⟩, if_pos rfl]
    · rw [if_neg (fun z => by omega), if_neg e]
      exact (l4 c hc).2
theorem LayF.cong {g : AH} {K : Nat → Int32} {a : Nat} {f f' : Nat → Nat} (l : LayF h g n K a f) (e : ∀ b, b < n → f b = f' b) : LayF h g n K a f' :=
  ⟨l.1, l.2.1, l.2.2.1, fun b hb => ⟨(l.2.2.2 b hb).1, by rw [← e b hb]; exact (l.2.2.2 b hb).2⟩⟩
theorem t_farNow {a b : Nat} (hA0 : 91 ≤ nx) (hF : Fx h) (ha : a < 20) (hb : b < 20) : Mk X d m_X12_farNow [.ref 68, .int (nI a), .int (nI b)] h nx sz (RE (h.1 78 (20 * a + b)) h) := by
  refine Mk.re fun Q hq => e_X12_farNow (c_X12_farNow_0 hA0 hF ?_ ?_)
  · rw [e20j]
    exact vin (by omega) (by decide)
  · rw [e20j, tN (by omega)]
    exact hq
theorem t_rowsNow {a b : Nat} (hA0 : 91 ≤ nx) (hF : Fx h) (ha : a < 20) (hb : b < 20) : Mk X d m_X12_rowsNow [.ref 68, .int (nI a), .int (nI b)] h nx sz (RJE (h.2.1 79 (20 * a + b)) h) := by
  refine Mk.rj fun Q hq => e_X12_rowsNow (c_X12_rowsNow_0 hA0 hF ?_ ?_)
  · rw [e20j]
    exact vin (by omega) (by decide)
  · rw [e20j, tN (by omega)]
    exact hq
theorem dstI_iff {K : Nat → Int32} {m : Int32} {a b k : Nat} (hn : n ≤ 20) (hk : k < 20) : dstI K n m a b = nI k ↔ dst K n m a b = some k := by
  unfold dstI
  cases hd : dst K n m a b with
  | none =>
    constructor
    · intro z
      have : ∀ k, k < 20 → ¬ -1 = nI k := by decide
      exact absurd z (this k hk)
    · intro z
      cases z
  | some j =>
    have := (dst_iff.mp hd).1
    constructor
    · intro z
      rw [nI_inj (by omega) (by omega) z]
    · intro z
      cases z
      rfl
theorem dstI_m1 {K : Nat → Int32} {m : Int32} {a b : Nat} (hn : n ≤ 20) : dstI K n m a b = -1 ↔ dst K n m a b = none := by
  unfold dstI
  cases hd : dst K n m a b with
  | none => simp
  | some j =>
    have := (dst_iff.mp hd).1
    constructor
    · intro z
      have : ∀ k, k < 20 → ¬ nI k = -1 := by decide
      exact absurd z (this j (by omega))
    · intro z
      cases z
theorem t_layFrom {a : Nat} (hA0 : 91 ≤ nx) (hF : Fx h) (hp : MP h n) (hg : Gr n (h.1 73)) (ha : a < n) : Mk X (d + 3) m_X12_layFrom [.ref 68, .int (nI a)] h nx sz (RV fun g => LayF h g n (h.1 73) a (rwN (h.1 73) n a)) := by
  obtain ⟨h0, h2, h20⟩ := id hp
  refine e_X12_layFrom (c_X12_layFrom_0 ?_)
  obtain ⟨K, hKe⟩ : ∃ K, K = h.1 73 := ⟨_, rfl⟩
  rw [← hKe] at hg ⊢
  obtain ⟨Q, hQ⟩ : ∃ Q : Option Value → AH → Prop, Q = RV fun g => LayF h g n K a (rwN K n a) := ⟨_, rfl⟩
  rw [← hQ]
  have l68 : ∀ g f, LayF h g n K a f → g.1 68 1 = nI n := fun g f l => by rw [l.2.1 68 (by decide)]; exact h0
  have l73 : ∀ g f, LayF h g n K a f → g.1 73 = K := fun g f l => by rw [l.2.1 73 (by decide), hKe]
  have lF : ∀ g f, LayF h g n K a f → Fx g := fun g f l => hF.l l.1
  -- a level
  have levels : ∀ g, LayF h g n K a (lvN K n a 0) → VM X m_X12_layFrom (d + 3) nx sz Q 56 [some (.ref 68), some (.int (nI a)), some (.int (nI (0 + 1))), none, none] [] g := by
    refine down_ind (N := n - 1) (P := fun m => ∀ g, LayF h g n K a (lvN K n a m) → VM X m_X12_layFrom (d + 3) nx sz Q 56 [some (.ref 68), some (.int (nI a)), some (.int (nI (m + 1))), none, none] [] g) (fun g l => ?_) (fun m hm q g l => ?_)
    · have ex : g.1 68 1 ≤ nI (n - 1 + 1) := by rw [l68 g _ l, show n - 1 + 1 = n by omega]; exact Int32.le_refl _
      refine c_X12_layFrom_56 hA0 (fun _ => ?_) (fun c => absurd ex c)
      rw [hQ]
      refine ⟨rfl, l.cong fun b hb => ?_⟩
      unfold lvN rwN
      cases hd : dst K n (full n) a b with
      | none => rfl
      | some k =>
        have := (dst_iff.mp hd).1
        exact if_pos (by omega)
    · refine c_X12_layFrom_56 hA0 (fun c => ?_) (fun _ => ?_)
      · rw [l68 g _ l, le_nI (by omega) (by omega)] at c
        omega
      have each : ∀ g, LayF h g n K a (fun c => if c < 0 then lvN K n a (m + 1) c else lvN K n a m c) → VM X m_X12_layFrom (d + 3) nx sz Q 66 [some (.ref 68), some (.int (nI a)), some (.int (nI (m + 1))), some (.int (nI 0)), none] [] g := by
        refine down_ind (N := n) (P := fun b => ∀ g, LayF h g n K a (fun c => if c < b then lvN K n a (m + 1) c else lvN K n a m c) → VM X m_X12_layFrom (d + 3) nx sz Q 66 [some (.ref 68), some (.int (nI a)), some (.int (nI (m + 1))), some (.int (nI b)), none] [] g) (fun g l => ?_) (fun b hb q2 g l => ?_)
        · have ex : g.1 68 1 ≤ nI n := by rw [l68 g _ l]; exact Int32.le_refl _
          refine c_X12_layFrom_66 (d := d + 2) (P77 := fun _ _ => False) hA0 RO_rm hcs0 (fun _ => ?_) (fun c => absurd ex c) (fun c => absurd ex c)
          rw [nI_1]
          exact q g (l.cong fun c hc => if_pos hc)
        · refine c_X12_layFrom_66 hA0 RO_rm hcs0 (fun c => ?_) (fun _ => t_farNow (d := d + 2) hA0 (lF g _ l) (by omega) (by omega)) ?_
          · rw [l68 g _ l, le_nI (by omega) (by omega)] at c
            omega
          rintro _ y g' ⟨rfl, rfl⟩
          rw [(l.2.2.2 b hb).1]
          refine c_X12_layFrom_80 (fun c => ?_) (fun c => ?_)
          · have hd := (dstI_iff h20 (by omega)).mp c
            have each2 : ∀ g, LayF h g n K a (fun c => if c = b then sm (fun e => if dst K n (full n) a e = some m ∧ tb (K b) e = true then Wn K n a m e else 0) 0 else if c < b then lvN K n a (m + 1) c else lvN K n a m c) → VM X m_X12_layFrom (d + 3) nx sz Q 90 [some (.ref 68), some (.int (nI a)), some (.int (nI (m + 1))), some (.int (nI b)), some (.int (nI 0))] [] g := by
              refine down_ind (N := n) (P := fun i => ∀ g, LayF h g n K a (fun c => if c = b then sm (fun e => if dst K n (full n) a e = some m ∧ tb (K b) e = true then Wn K n a m e else 0) i else if c < b then lvN K n a (m + 1) c else lvN K n a m c) → VM X m_X12_layFrom (d + 3) nx sz Q 90 [some (.ref 68), some (.int (nI a)), some (.int (nI (m + 1))), some (.int (nI b)), some (.int (nI i))] [] g) (fun g l => ?_) (fun i hi q3 g l => ?_)
              · have ex : g.1 68 1 ≤ nI n := by rw [l68 g _ l]; exact Int32.le_refl _
                refine c_X12_layFrom_90 (d := d + 2) (P107 := fun _ _ => False) hA0 (lF g _ l) RO_rm hcs0 (fun _ => ?_) (fun c => absurd ex c) (fun c => absurd ex c) (fun c => absurd ex c)
                rw [nI_1]
                refine q2 g (l.cong fun c hc => ?_)
                by_cases e : c = b
                · subst e
                  rw [if_pos rfl, if_pos (Nat.lt_succ_self _), ← Wn_level hg h20 ha hb hd]
                  unfold lvN
                  rw [hd]
                  exact (if_pos (Nat.le_refl _)).symm
                · rw [if_neg e]
                  by_cases e2 : c < b
                  · rw [if_pos e2, if_pos (by omega)]
                  · rw [if_neg e2, if_neg (by omega)]
              · have e1 : sm (fun e => if dst K n (full n) a e = some m ∧ tb (K b) e = true then Wn K n a m e else 0) (i + 1) = sm (fun e => if dst K n (full n) a e = some m ∧ tb (K b) e = true then Wn K n a m e else 0) i + (if dst K n (full n) a i = some m ∧ tb (K b) i = true then Wn K n a m i else 0) := rfl
                have skip : ¬ (dst K n (full n) a i = some m ∧ tb (K b) i = true) → VM X m_X12_layFrom (d + 3) nx sz Q 90 [some (.ref 68), some (.int (nI a)), some (.int (nI (m + 1))), some (.int (nI b)), some (.int (nI i + 1))] [] g := fun z => by
                  rw [nI_1]
                  refine q3 g (l.cong fun c hc => ?_)
                  by_cases e : c = b
                  · rw [if_pos e, if_pos e, e1, if_neg z, Nat.add_zero]
                  · rw [if_neg e, if_neg e]
                refine c_X12_layFrom_90 hA0 (lF g _ l) RO_rm hcs0 (fun c => ?_) (fun _ => vin (by omega) (by decide)) (fun _ => t_has (d := d + 2) (by omega)) ?_
                · rw [l68 g _ l, le_nI (by omega) (by omega)] at c
                  omega
                rintro _ y g' ⟨rfl, rfl⟩
                rw [tN (by omega), l73 g _ l]
                refine c_X12_layFrom_110 hA0 RO_rm hcs0 (fun c => skip fun z => by rw [tb_n c] at z; cases z.2) (fun _ => t_farNow (d := d + 2) hA0 (lF g _ l) (by omega) (by omega)) ?_
                rintro c y g' ⟨rfl, rfl⟩
                have c := tb_c c
                rw [(l.2.2.2 i hi).1]
                have e3 : nI (m + 1) - 1 = nI m := nI_sub1 (by omega)
                refine c_X12_layFrom_120 hA0 (lF g _ l) RO_rm hcs0 (fun c2 => skip fun z => c2 (by rw [e3]; exact (dstI_iff h20 (by omega)).mpr z.1)) (fun _ => by rw [e20j]; exact vin (by omega) (by decide)) (fun _ => t_rowsNow (d := d + 2) hA0 (lF g _ l) (by omega) (by omega)) ?_
                rintro c2 y g' ⟨rfl, rfl⟩
                rw [e3] at c2
                have c2 := (dstI_iff h20 (by omega)).mp c2
                have hib : ¬ i = b := fun z => by rw [z] at c2; rw [c2] at hd; cases hd
                have lv : (if i = b then sm (fun e => if dst K n (full n) a e = some m ∧ tb (K b) e = true then Wn K n a m e else 0) i else if i < b then lvN K n a (m + 1) i else lvN K n a m i) = Wn K n a m i := by
                  rw [if_neg hib]
                  have z1 : lvN K n a (m + 1) i = Wn K n a m i := by unfold lvN; rw [c2]; exact if_pos (by omega)
                  have z2 : lvN K n a m i = Wn K n a m i := by unfold lvN; rw [c2]; exact if_pos (by omega)
                  rw [z1, z2]
                  split <;> rfl
                have li : g.2.1 79 (20 * a + i) = nL (Wn K n a m i) := (l.2.2.2 i hi).2.trans (congrArg nL lv)
                have lb : g.2.1 79 (20 * a + b) = nL (sm (fun e => if dst K n (full n) a e = some m ∧ tb (K b) e = true then Wn K n a m e else 0) i) := (l.2.2.2 b hb).2.trans (congrArg nL (if_pos rfl))
                rw [li, e20j, tN (by omega), lb]
                refine c_X12_layFrom_145 hA0 (vin (by omega) (by decide)) ?_
                rw [tN (by omega), nL_add, nI_1]
                have hbit : tb (K b) i = true := c
                have lc : LayF h (setL g 79 (20 * a + b) (nL (sm (fun e => if dst K n (full n) a e = some m ∧ tb (K b) e = true then Wn K n a m e else 0) i + Wn K n a m i))) n K a (fun c => if c = b then sm (fun e => if dst K n (full n) a e = some m ∧ tb (K b) e = true then Wn K n a m e else 0) (i + 1) else if c < b then lvN K n a (m + 1) c else lvN K n a m c) := (l.set (v := sm (fun e => if dst K n (full n) a e = some m ∧ tb (K b) e = true then Wn K n a m e else 0) i + Wn K n a m i) hb).cong fun c' hc => by
                  by_cases e : c' = b
                  · rw [if_pos e, if_pos e, e1, if_pos ⟨c2, hbit⟩]
                  · rw [if_neg e, if_neg e, if_neg e]
                exact q3 _ lc
            refine each2 g (l.cong fun c hc => ?_)
            by_cases e : c = b
            · subst e
              rw [if_neg (Nat.lt_irrefl _), if_pos rfl]
              unfold lvN
              rw [hd]
              exact if_neg (by omega)
            · rw [if_neg e]
          · rw [nI_1]
            refine q2 g (l.cong fun c2 hc => ?_)
            by_cases e : c2 = b
            · subst e
              rw [if_neg (Nat.lt_irrefl _), if_pos (Nat.lt_succ_self _)]
              unfold lvN
              cases hd : dst K n (full n) a c2 with
              | none => rfl
              | some k =>
                have : ¬ k = m + 1 := fun z => c ((dstI_iff h20 (by omega)).mpr (by rw [hd, z]))
                show (if k ≤ m then _ else 0) = (if k ≤ m + 1 then _ else 0)
                by_cases e2 : k ≤ m
                · rw [if_pos e2, if_pos (by omega)]
                · rw [if_neg e2, if_neg (by omega)]
            · by_cases e2 : c2 < b
              · rw [if_pos e2, if_pos (by omega)]
              · rw [if_neg e2, if_neg (by omega)]
      exact each g (l.cong fun c _ => (if_neg (Nat.not_lt_zero c)).symm)
  -- the first loop
  have first : ∀ g : AH, g.2.2 = h.2.2 → (∀ c, c ≠ 78 → g.1 c = h.1 c) → (∀ x, (∀ b, b < n → x ≠ 20 * a + b) → g.1 78 x = h.1 78 x ∧ g.2.1 79 x = h.2.1 79 x) → (∀ b, b < 0 → g.1 78 (20 * a + b) = dstI K n (full n) a b ∧ g.2.1 79 (20 * a + b) = nL (lvN K n a 0 b)) → VM X m_X12_layFrom (d + 3) nx sz Q 2 [some (.ref 68), some (.int (nI a)), some (.int (nI 0)), none, none] [] g := by
    refine down_ind (N := n) (P := fun i => ∀ g : AH, g.2.2 = h.2.2 → (∀ c, c ≠ 78 → g.1 c = h.1 c) → (∀ x, (∀ b, b < n → x ≠ 20 * a + b) → g.1 78 x = h.1 78 x ∧ g.2.1 79 x = h.2.1 79 x) → (∀ b, b < i → g.1 78 (20 * a + b) = dstI K n (full n) a b ∧ g.2.1 79 (20 * a + b) = nL (lvN K n a 0 b)) → VM X m_X12_layFrom (d + 3) nx sz Q 2 [some (.ref 68), some (.int (nI a)), some (.int (nI i)), none, none] [] g) (fun g l1 l2 l3 l4 => ?_) (fun i hi q g l1 l2 l3 l4 => ?_)
    · have e68 : g.1 68 1 = nI n := by rw [l2 68 (by decide)]; exact h0
      have ex : g.1 68 1 ≤ nI n := by rw [e68]; exact Int32.le_refl _
      exact c_X12_layFrom_2 (d := d + 2) (P23 := fun _ _ => False) hA0 (hF.l l1) RO_rm hcs0 (fun _ => levels g ⟨l1, l2, l3, l4⟩) (fun c => absurd ex c) (fun c => absurd ex c)
    · have e68 : g.1 68 1 = nI n := by rw [l2 68 (by decide)]; exact h0
      have e73 : g.1 73 = K := by rw [l2 73 (by decide), hKe]
      refine c_X12_layFrom_2 hA0 (hF.l l1) RO_rm hcs0 (fun c => ?_) (fun _ => t_farOf (d := d) (n := n) hA0 (hF.l l1) ⟨e68, h2, h20⟩ ha hi) ?_
      · rw [e68, le_nI (by omega) (by omega)] at c
        omega
      rintro _ y g' ⟨rfl, rfl⟩
      rw [e73, dstI_mask (m := -1) hg.kb (fun j hj => tb_m1f (n := n) (by omega) hj), e20j]
      have v4 : vp_in (nI (20 * a + i)) 400 := vin (by omega) (by decide)
      have post : ∀ v : Nat, v = lvN K n a 0 i → VM X m_X12_layFrom (d + 3) nx sz Q 2 [some (.ref 68), some (.int (nI a)), some (.int (nI (i + 1))), none, none] [] (setL (setI g 78 (20 * a + i) (dstI K n (full n) a i)) 79 (20 * a + i) (nL v)) := by
        intro v hv
        refine q _ l1 (fun c hc => ?_) (fun x hx => ?_) (fun b hb => ?_)
        · funext z
          show (if c = 78 ∧ z = 20 * a + i then _ else g.1 c z) = _
          rw [if_neg (fun w => hc w.1), l2 c hc]
        · refine ⟨?_, ?_⟩
          · show (if 78 = 78 ∧ x = 20 * a + i then _ else g.1 78 x) = _
            rw [if_neg (fun w => hx i hi w.2)]
            exact (l3 x hx).1
          · show (if 79 = 79 ∧ x = 20 * a + i then _ else g.2.1 79 x) = _
            rw [if_neg (fun w => hx i hi w.2)]
            exact (l3 x hx).2
        · show (if 78 = 78 ∧ 20 * a + b = 20 * a + i then _ else g.1 78 (20 * a + b)) = _ ∧ (if 79 = 79 ∧ 20 * a + b = 20 * a + i then _ else g.2.1 79 (20 * a + b)) = _
          by_cases e : b = i
          · subst e
            rw [if_pos ⟨rfl, rfl⟩, if_pos ⟨rfl, rfl⟩, hv]
            exact ⟨rfl, rfl⟩
          · rw [if_neg (fun w => by omega), if_neg (fun w => by omega)]
            exact l4 b (by omega)
      refine c_X12_layFrom_26 hA0 (hF.l l1) v4 (fun _ => by rw [e20j]; exact v4) (fun c => ?_) (fun _ => by rw [e20j]; exact v4) (fun c => ?_)
      · rw [e20j, tN (by omega), nI_1]
        have c : ¬ i = a := fun z => c (by rw [z])
        refine post 0 ?_
        unfold lvN
        cases hd : dst K n (full n) a i with
        | none => rfl
        | some k =>
          refine (if_neg fun z => c ?_).symm
          have : k = 0 := by omega
          subst this
          exact ((W_0 (by omega)).mp (dst_iff.mp hd).2.1).symm
      · rw [e20j, tN (by omega), nI_1]
        have c := nI_inj (by omega) (by omega) c
        subst c
        refine post 1 ?_
        unfold lvN
        rw [dst_self (by omega) (by omega)]
        show 1 = if 0 ≤ 0 then (if i = i then 1 else 0) else 0
        rw [if_pos (Nat.le_refl _), if_pos rfl]
  exact first h rfl (fun _ _ => rfl) (fun _ _ => ⟨rfl, rfl⟩) (fun b hb => by omega)
end OPS
