/-! dear -/
section OPS
variable {X : CX} {d nx sz : Nat} {h : AH} {n : Nat}
theorem allD_dst {K : Nat → Int32} (hn : n ≤ 20) : allD K n = sm (fun a => sm (fun b => dstN K n (full n) a b) n) n := by
  refine sm_cong fun a _ => sm_cong fun b hb => ?_
  rw [if_pos ((tb_fulln hn).mpr hb)]
theorem Wk_mono {K K' : Nat → Int32} {m : Int32} (hs : ∀ k b, tb (K' k) b = true → tb (K k) b = true) {a : Nat} : ∀ {k b : Nat}, Wk K' n m k a b → Wk K n m k a b := by
  intro k
  induction k with
  | zero => intro b w; exact w
  | succ k ih =>
    intro b w
    rcases W_succ.mp w with h | ⟨h1, i, h2, h3, h4⟩
    · exact W_mono (Nat.le_succ _) (ih h)
    · exact W_succ.mpr (Or.inr ⟨h1, i, h2, ih h3, hs i b h4⟩)
theorem dstN_le {K : Nat → Int32} {m : Int32} {a b : Nat} : dstN K n m a b ≤ n := by
  unfold dstN
  cases hd : dst K n m a b with
  | none => exact Nat.le_refl _
  | some k => exact Nat.le_of_lt (dst_iff.mp hd).1
theorem dstN_mono {K K' : Nat → Int32} {m : Int32} (hs : ∀ k b, tb (K' k) b = true → tb (K k) b = true) {a b : Nat} : dstN K n m a b ≤ dstN K' n m a b := by
  cases hd : dst K' n m a b with
  | none =>
    have : dstN K' n m a b = n := by unfold dstN; rw [hd]; rfl
    rw [this]
    exact dstN_le
  | some k =>
    obtain ⟨k1, k2, k3⟩ := dst_iff.mp hd
    obtain ⟨j, j1, j2⟩ := dst_in k1 (Wk_mono hs k2)
    unfold dstN
    rw [hd, j2]
    exact j1
theorem sm_mono {f g : Nat → Nat} : ∀ {n : Nat}, (∀ i, i < n → f i ≤ g i) → sm f n ≤ sm g n
  | 0, _ => Nat.le_refl _
  | n + 1, h => by
    have := sm_mono (n := n) (fun i hi => h i (by omega))
    have h2 := h n (by omega)
    show sm f n + f n ≤ sm g n + g n
    omega
theorem sm_lt {f g : Nat → Nat} {j : Nat} : ∀ {n : Nat}, (∀ i, i < n → f i ≤ g i) → j < n → f j < g j → sm f n < sm g n
  | 0, _, hj, _ => by omega
  | n + 1, h, hj, hl => by
    show sm f n + f n < sm g n + g n
    have h2 := h n (by omega)
    by_cases e : j = n
    · subst e
      have := sm_mono (n := j) (fun i hi => h i (by omega))
      omega
    · have := sm_lt (n := n) (fun i hi => h i (by omega)) (by omega) hl
      omega
theorem allD_mono {K K' : Nat → Int32} (hn : n ≤ 20) (hs : ∀ k b, tb (K' k) b = true → tb (K k) b = true) : allD K n ≤ allD K' n := by
  rw [allD_dst hn, allD_dst hn]
  exact sm_mono fun a _ => sm_mono fun b _ => dstN_mono hs
theorem allD_le {K : Nat → Int32} (hn : n ≤ 20) : allD K n ≤ 8000 := by
  rw [allD_dst hn]
  have : sm (fun a => sm (fun b => dstN K n (full n) a b) n) n ≤ n * 400 := sm_le fun a _ => by
    have : sm (fun b => dstN K n (full n) a b) n ≤ n * n := sm_le fun b _ => dstN_le
    have : n * n ≤ 20 * 20 := Nat.mul_le_mul hn hn
    omega
  have : n * 400 ≤ 20 * 400 := Nat.mul_le_mul_right _ hn
  omega
theorem part_sub {K : Nat → Int32} {i j : Nat} (hi : i < 32) (hj : j < 32) (hij : i ≠ j) (k b : Nat) (h : tb (partK K i j k) b = true) : tb (K k) b = true := ((tb_part hi hj hij).mp h).1
theorem W_1 {K : Nat → Int32} {m : Int32} {a b : Nat} (ha : a < n) (hn : n ≤ 20) : Wk K n m 1 a b ↔ a = b ∨ (tb m b = true ∧ tb (K a) b = true) := by
  rw [W_succ, W_0 (by omega)]
  refine or_congr Iff.rfl ⟨?_, ?_⟩
  · rintro ⟨h1, i, h2, h3, h4⟩
    have := (W_0 (by omega)).mp h3
    subst this
    exact ⟨h1, h4⟩
  · rintro ⟨h1, h2⟩
    exact ⟨h1, a, ha, (W_0 (by omega)).mpr rfl, h2⟩
theorem loss_pos {K : Nat → Int32} (hg : Gr n K) (hn : n ≤ 20) {i j : Nat} (ht : tb (K i) j = true) : allD K n < allD (partK K i j) n := by
  obtain ⟨hi, hj, hij, -⟩ := hg i j ht
  rw [allD_dst hn, allD_dst hn]
  refine sm_lt (j := i) (fun a _ => sm_mono fun b _ => dstN_mono (part_sub (by omega) (by omega) hij)) hi ?_
  refine sm_lt (j := j) (fun b _ => dstN_mono (part_sub (by omega) (by omega) hij)) hj ?_
  have e1 : dst K n (full n) i j = some 1 := dst_iff.mpr ⟨by omega, (W_1 hi hn).mpr (Or.inr ⟨(tb_fulln hn).mpr hj, ht⟩), fun k hk w => by
    have : k = 0 := by omega
    subst this
    exact hij ((W_0 (by omega)).mp w)⟩
  have e2 : dstN K n (full n) i j = 1 := by unfold dstN; rw [e1]; rfl
  show dstN K n (full n) i j < dstN (partK K i j) n (full n) i j
  rw [e2]
  cases hd : dst (partK K i j) n (full n) i j with
  | none =>
    have : dstN (partK K i j) n (full n) i j = n := by unfold dstN; rw [hd]; rfl
    omega
  | some k =>
    have ek : dstN (partK K i j) n (full n) i j = k := by unfold dstN; rw [hd]; rfl
    obtain ⟨k1, k2, k3⟩ := dst_iff.mp hd
    rw [ek]
    refine Classical.byContradiction fun z => ?_
    have k2 := W_mono (show k ≤ 1 by omega) k2
    rcases (W_1 hi hn).mp k2 with q | ⟨-, q⟩
    · exact hij q
    · exact ((tb_part (by omega) (by omega) hij).mp q).2.1 ⟨rfl, rfl⟩
theorem lossN_nI {K : Nat → Int32} (hg : Gr n K) (hn : n ≤ 20) {i j : Nat} (ht : tb (K i) j = true) : lossN K n i j = nI (allD (partK K i j) n - allD K n) := nI_subN (Nat.le_of_lt (loss_pos hg hn ht))
-- the dearest
def deS (K : Nat → Int32) (n a b : Nat) (s : Option (Nat × Nat)) : Option (Nat × Nat) := if tb (K a) b = true then (match s with
  | none => some (20 * a + b, allD (partK K a b) n - allD K n)
  | some p => if p.2 < allD (partK K a b) n - allD K n then some (20 * a + b, allD (partK K a b) n - allD K n) else some p) else s
def deOk (s : Option (Nat × Nat)) : Prop := ∀ p, s = some p → p.1 < 1000 ∧ p.2 ≤ 8000
theorem deS_ok {K : Nat → Int32} {a b : Nat} {s : Option (Nat × Nat)} (hn : n ≤ 20) (ha : a < n) (hb : b < n) (h : deOk s) : deOk (deS K n a b s) := by
  have hc := allD_le (K := partK K a b) hn
  intro p e
  unfold deS at e
  split at e
  · split at e
    · cases e
      exact ⟨by show 20 * a + b < 1000; omega, by show allD _ n - _ ≤ 8000; omega⟩
    · split at e
      · cases e
        exact ⟨by show 20 * a + b < 1000; omega, by show allD _ n - _ ≤ 8000; omega⟩
      · exact h p e
  · exact h p e
theorem de_ok {K : Nat → Int32} (hn : n ≤ 20) {m : Nat} (hm : m ≤ n) : deOk (prO (deS K n) n none m) := prO_ok (P := deOk) (fun p e => by cases e) (fun a b s h1 h2 h3 => deS_ok hn (by omega) h2 h3) hm
theorem de_oki {K : Nat → Int32} (hn : n ≤ 20) {a m : Nat} (ha : a < n) (hm : a + 1 + m ≤ n) : deOk (prI (deS K n) a (prO (deS K n) n none a) m) := prI_ok (P := deOk) (de_ok hn (by omega)) (fun b s h1 h2 h3 => deS_ok hn (by omega) (by omega) h3)
theorem deB_none {s : Option (Nat × Nat)} (ok : deOk s) : lkB s = -1 ↔ s = none := by
  cases s with
  | none => simp [lkB]
  | some p =>
    constructor
    · intro z
      have : ∀ k, k < 1000 → ¬ nI k = -1 := by decide +kernel
      exact absurd z (this _ (ok p rfl).1)
    · intro z
      cases z
def deV (K : Nat → Int32) (n : Nat) : Int32 := lkB (prO (deS K n) n none n)
theorem s_dearest (hA0 : 91 ≤ nx) (hF : Fx h) (hP : InvP h n) (hg : Gr n (h.1 2)) : Mk X (d + 5) m_X1_dearest [.ref 20] h nx sz (RE (deV (h.1 2) n) h) := by
  obtain ⟨hn, h0, h1, h2, h20⟩ := hP.np net1
  refine Mk.re fun Q hq => e_X1_dearest (c_X1_dearest_0 ?_)
  refine down_ind (N := n) (P := fun a => VM X m_X1_dearest (d + 5) nx sz Q 6 [some (.ref 20), some (.int (lkB (prO (deS (h.1 2) n) n none a))), some (.int (lkM 0 (prO (deS (h.1 2) n) n none a))), some (.int (nI a)), none, none] [] h) ?_ (fun a ha q => ?_)
  · have ex : h.1 1 0 ≤ nI n := by rw [h0]; exact Int32.le_refl _
    exact c_X1_dearest_6 hA0 hF (fun _ => hq) (fun c => absurd ex c)
  · refine c_X1_dearest_6 hA0 hF (fun c => ?_) (fun _ => ?_)
    · rw [h0, le_nI (by omega) (by omega)] at c
      omega
    rw [nI_1]
    refine down_ind (N := n - (a + 1)) (P := fun j => VM X m_X1_dearest (d + 5) nx sz Q 22 [some (.ref 20), some (.int (lkB (prI (deS (h.1 2) n) a (prO (deS (h.1 2) n) n none a) j))), some (.int (lkM 0 (prI (deS (h.1 2) n) a (prO (deS (h.1 2) n) n none a) j))), some (.int (nI a)), some (.int (nI (a + 1 + j))), none] [] h) ?_ (fun j hj q2 => ?_)
    · have ex : h.1 1 0 ≤ nI (a + 1 + (n - (a + 1))) := by rw [h0, show a + 1 + (n - (a + 1)) = n by omega]; exact Int32.le_refl _
      refine c_X1_dearest_22 (d := d + 4) (P41 := fun _ _ => False) hA0 hF RO_rm hcs0 (fun _ => ?_) (fun c => absurd ex c) (fun c => absurd ex c)
      rw [nI_1]
      exact q
    · have ok := de_oki (K := h.1 2) h20 ha (m := j) (by omega)
      have e1 : prI (deS (h.1 2) n) a (prO (deS (h.1 2) n) n none a) (j + 1) = deS (h.1 2) n a (a + 1 + j) (prI (deS (h.1 2) n) a (prO (deS (h.1 2) n) n none a) j) := rfl
      rw [e1] at q2
      generalize prI (deS (h.1 2) n) a (prO (deS (h.1 2) n) n none a) j = s at *
      have hb : a + 1 + j < n := by omega
      rw [show a + 1 + (j + 1) = a + 1 + j + 1 by omega] at q2
      generalize a + 1 + j = b at *
      refine c_X1_dearest_22 hA0 hF RO_rm hcs0 (fun c => ?_) (fun _ => s_tied (d := d + 3) hA0 hF (hP.np net1)) ?_
      · rw [h0, le_nI (by omega) (by omega)] at c
        omega
      rintro _ y g ⟨rfl, rfl⟩
      rw [tieI_nI h20 ha hb]
      have hm0 : 0 ≤ lkM 0 s := by
        cases s with
        | none => exact Int32.le_refl _
        | some p => exact (le_nI (a := 0) (by decide) (by have := (ok p rfl).2; omega)).mpr (Nat.zero_le _)
      by_cases ct : tb (h.1 2 a) b = true
      · have hl := loss_pos hg h20 ct
        have hle := allD_le (K := partK (h.1 2) a b) h20
        refine c_X1_dearest_44 hA0 RO_rm hcs0 (fun c => absurd c (ne0 ct)) (fun c => absurd c (ne0 ct)) (fun _ => s_lossOf (d := d) hA0 hF hP hg ha hb ct) ?_
        rintro _ y g ⟨rfl, rfl⟩
        rw [lossN_nI hg h20 ct]
        refine c_X1_dearest_54 (fun c => ?_) (fun c => ?_)
        · have e : deS (h.1 2) n a b s = s := by
            unfold deS
            rw [if_pos ct]
            cases s with
            | none =>
              have c : nI (allD (partK (h.1 2) a b) n - allD (h.1 2) n) ≤ 0 := c
              rw [nI_le0 (by omega)] at c
              omega
            | some p =>
              have c : nI (allD (partK (h.1 2) a b) n - allD (h.1 2) n) ≤ nI p.2 := c
              rw [le_nI (by omega) (by have := (ok p rfl).2; omega)] at c
              exact if_neg (by omega)
          rw [e] at q2
          rw [nI_1]
          exact q2
        · have e : deS (h.1 2) n a b s = some (20 * a + b, allD (partK (h.1 2) a b) n - allD (h.1 2) n) := by
            unfold deS
            rw [if_pos ct]
            cases s with
            | none => rfl
            | some p =>
              have c : ¬ nI (allD (partK (h.1 2) a b) n - allD (h.1 2) n) ≤ nI p.2 := c
              rw [le_nI (by omega) (by have := (ok p rfl).2; omega)] at c
              exact if_pos (by omega)
          rw [e] at q2
          rw [nI_1, e20j]
          exact q2
      · have e : deS (h.1 2) n a b s = s := if_neg ct
        rw [e] at q2
        refine c_X1_dearest_44 (d := d + 4) (P51 := fun _ _ => False) hA0 RO_rm hcs0 (fun _ _ => ?_) (fun _ c => absurd hm0 c) (fun c => absurd (is0 ct) c) (fun c => absurd (is0 ct) c)
        rw [nI_1]
        exact q2
-- the best gift
def gfS (K L : Nat → Int32) (n a b : Nat) (D : Decidable (okT K L a b)) (s : Option (Nat × Nat)) : Option (Nat × Nat) := if okT K L a b then (match s with
  | none => if allD (joinK K a b) n < allD K n then some (20 * a + b, allD (joinK K a b) n) else none
  | some p => if allD (joinK K a b) n < p.2 then some (20 * a + b, allD (joinK K a b) n) else some p) else s
def gfOk (K : Nat → Int32) (n : Nat) (s : Option (Nat × Nat)) : Prop := ∀ p, s = some p → p.1 < 1000 ∧ p.2 < allD K n
theorem gfS_ok {K L : Nat → Int32} {a b : Nat} {D : Decidable (okT K L a b)} {s : Option (Nat × Nat)} (hn : n ≤ 20) (ha : a < n) (hb : b < n) (h : gfOk K n s) : gfOk K n (gfS K L n a b D s) := by
  intro p e
  unfold gfS at e
  split at e
  · split at e
    · split at e
      next c =>
        cases e
        exact ⟨by show 20 * a + b < 1000; omega, c⟩
      next => cases e
    next p2 =>
      split at e
      next c =>
        cases e
        have := (h p2 rfl).2
        exact ⟨by show 20 * a + b < 1000; omega, by show allD _ n < _; omega⟩
      next => exact h p e
  · exact h p e
theorem gf_ok {K L : Nat → Int32} {D : ∀ a b, Decidable (okT K L a b)} (hn : n ≤ 20) {m : Nat} (hm : m ≤ n) : gfOk K n (prO (fun a b => gfS K L n a b (D a b)) n none m) := prO_ok (P := gfOk K n) (fun p e => by cases e) (fun a b s h1 h2 h3 => gfS_ok hn (by omega) h2 h3) hm
theorem gf_oki {K L : Nat → Int32} {D : ∀ a b, Decidable (okT K L a b)} (hn : n ≤ 20) {a m : Nat} (ha : a < n) (hm : a + 1 + m ≤ n) : gfOk K n (prI (fun a b => gfS K L n a b (D a b)) a (prO (fun a b => gfS K L n a b (D a b)) n none a) m) := prI_ok (P := gfOk K n) (gf_ok hn (by omega)) (fun b s h1 h2 h3 => gfS_ok hn (by omega) (by omega) h3)
def gfV (K L : Nat → Int32) (n : Nat) (D : ∀ a b, Decidable (okT K L a b)) : Int32 := lkB (prO (fun a b => gfS K L n a b (D a b)) n none n)
theorem s_mayJoin {i j : Nat} (hA0 : 91 ≤ nx) (hF : Fx h) (hp : InvP h n) (hi : i < n) (hj : j < n) (D : Decidable (okT (h.1 2) (h.1 3) i j)) : Mk X (d + 3) m_X1_mayJoin [.ref 20, .int (nI i), .int (nI j)] h nx sz (RE (if okT (h.1 2) (h.1 3) i j then 1 else 0) h) := by
  have h20 := hp.2.1
  refine Mk.re fun Q hq => e_X1_mayJoin (c_X1_mayJoin_0 hA0 hF RO_rm hcs0 (s_tied (d := d + 1) hA0 hF (hp.np net1)) ?_)
  rintro y g ⟨rfl, rfl⟩
  have no : ¬ okT (h.1 2) (h.1 3) i j → Q (some (.int 0)) h := fun z => by rwa [if_neg z] at hq
  rw [tieI_nI h20 hi hj]
  refine c_X1_mayJoin_9 hA0 hF RO_rm hcs0 (fun c => no fun z => by have := z.1; rw [show tb (h.1 2 i) j = true from tb_c c] at this; cases this) (fun _ => s_full (d := d) hA0 hF net1 (by omega)) ?_
  rintro c1 y g ⟨rfl, rfl⟩
  refine c_X1_mayJoin_20 hA0 hF RO_rm hcs0 (fun c => no fun z => c (if_pos z.2.1)) (fun _ => s_full (d := d) hA0 hF net1 (by omega)) ?_
  rintro c2 y g ⟨rfl, rfl⟩
  refine c_X1_mayJoin_31 (fun c => no fun z => c (if_pos z.2.2)) (fun c3 => ?_)
  have ok : okT (h.1 2) (h.1 3) i j := by
    refine ⟨tb_n c1, Decidable.byContradiction fun (z : ¬ bc (h.1 2 i) < h.1 3 i) => ?_, Decidable.byContradiction fun (z : ¬ bc (h.1 2 j) < h.1 3 j) => ?_⟩
    · have c2 : (if bc (h.1 2 i) < h.1 3 i then (0 : Int32) else 1) = 0 := c2
      rw [if_neg z] at c2
      cases c2
    · have c3 : (if bc (h.1 2 j) < h.1 3 j then (0 : Int32) else 1) = 0 := c3
      rw [if_neg z] at c3
      cases c3
  rwa [if_pos ok] at hq
theorem tb_sym {K : Nat → Int32} (hg : Gr n K) (a b : Nat) : tb (K a) b = tb (K b) a := by
  rw [Bool.eq_iff_iff]
  exact ⟨fun z => (hg a b z).2.2.2, fun z => (hg b a z).2.2.2⟩
theorem s_sumsWith {i j : Nat} (hA0 : 91 ≤ nx) (hF : Fx h) (hP : InvP h n) (hg : Gr n (h.1 2)) (hi : i < n) (hj : j < n) (hij : i ≠ j) (ht : tb (h.1 2 i) j = false) : Mk X (d + 4) m_X1_sumsWith [.ref 20, .int (nI i), .int (nI j)] h nx sz (RE (nI (allD (joinK (h.1 2) i j) n)) h) := by
  have h20 := hP.2.1
  refine Mk.re fun Q hq => e_X1_sumsWith (c_X1_sumsWith_0 hA0 hF RO_rm hcs0 (s_join (d := d + 3) hA0 hF net1 (by omega) (by omega)) ?_)
  rintro g rfl
  have hF1 : Fx (setA h (1 + 1) (joinK (h.1 (1 + 1)) i j)) := hF
  refine c_X1_sumsWith_9 hA0 hF1 RO_rm hcs0 (s_sums (d := d) (a := 1) (n := n) hA0 hF1 (hP.np net1)) ?_
  rintro y g ⟨rfl, rfl⟩
  refine c_X1_sumsWith_16 hA0 hF1 RO_rm hcs0 (s_part (d := d + 3) hA0 hF1 net1 (by omega) (by omega)) ?_
  rintro g rfl
  refine c_X1_sumsWith_26 ?_
  have e : setA (setA h (1 + 1) (joinK (h.1 (1 + 1)) i j)) (1 + 1) (partK ((setA h (1 + 1) (joinK (h.1 (1 + 1)) i j)).1 (1 + 1)) i j) = h := by
    rw [setA_A, setA_self, part_join (by omega) (by omega) hij ht (by rw [tb_sym hg]; exact ht), setA_id]
  rw [e]
  exact hq
theorem t_giftOf {i j : Nat} (hA0 : 91 ≤ nx) (hF : Fx h) (hP : MP h n) (hg : Gr n (h.1 73)) (hi : i < n) (hj : j < n) (hij : i ≠ j) (ht : tb (h.1 73 i) j = false) : Mk X (d + 5) m_X12_giftOf [.ref 68, .int (nI i), .int (nI j)] h nx sz (RE (nI (allD (h.1 73) n) - nI (allD (joinK (h.1 73) i j) n)) h) := by
  have h20 := hP.2.2
  refine Mk.re fun Q hq => e_X12_giftOf (c_X12_giftOf_0 hA0 RO_rm hcs0 (t_sumOfAll (d := d) hA0 hF hP hg) ?_)
  rintro y g ⟨rfl, rfl⟩
  refine c_X12_giftOf_4 hA0 RO_rm hcs0 (t_join (d := d + 4) hA0 hF (by omega) (by omega)) ?_
  rintro g rfl
  have hF1 : Fx (setA h 73 (joinK (h.1 73) i j)) := hF
  have e73 : (setA h 73 (joinK (h.1 73) i j)).1 73 = joinK (h.1 73) i j := setA_self
  refine c_X12_giftOf_11 hA0 RO_rm hcs0 (t_sumOfAll (d := d) (h := setA h 73 (joinK (h.1 73) i j)) (n := n) hA0 hF1 hP (by rw [e73]; exact hg.join h20 hi hj hij)) ?_
  rintro y g ⟨rfl, rfl⟩
  refine c_X12_giftOf_16 hA0 RO_rm hcs0 (t_part (d := d + 4) hA0 hF1 (by omega) (by omega)) ?_
  rintro g rfl
  refine c_X12_giftOf_25 ?_
  have e : setA (setA h 73 (joinK (h.1 73) i j)) 73 (partK ((setA h 73 (joinK (h.1 73) i j)).1 73) i j) = h := by
    rw [setA_A, e73, part_join (by omega) (by omega) hij ht (by rw [tb_sym hg]; exact ht), setA_id]
  rw [e, e73]
  exact hq
theorem join_sub {K : Nat → Int32} {i j : Nat} (hi : i < 32) (hj : j < 32) (hij : i ≠ j) (k b : Nat) (h : tb (K k) b = true) : tb (joinK K i j k) b = true := (tb_join hi hj hij).mpr (Or.inl h)
def gfM (K : Nat → Int32) (n : Nat) : Option (Nat × Nat) → Nat
  | none => allD K n
  | some p => p.2
theorem s_bestGift (hA0 : 91 ≤ nx) (hF : Fx h) (hP : InvP h n) (hg : Gr n (h.1 2)) (D : ∀ a b, Decidable (okT (h.1 2) (h.1 3) a b)) : Mk X (d + 5) m_X1_bestGift [.ref 20] h nx sz (RE (gfV (h.1 2) (h.1 3) n D) h) := by
  obtain ⟨hn, h0, h1, h2, h20⟩ := hP.np net1
  have hA := allD_le (K := h.1 2) h20
  refine Mk.re fun Q hq => e_X1_bestGift (c_X1_bestGift_0 hA0 hF RO_rm hcs0 (s_sums (d := d + 1) hA0 hF (hP.np net1)) ?_)
  rintro y g ⟨rfl, rfl⟩
  refine c_X1_bestGift_7 ?_
  rw [show nI (sm (fun i => sumD (h.1 (1 + 1)) n (full n) (full n) i) n) = nI (allD (h.1 2) n) from rfl]
  refine down_ind (N := n) (P := fun a => VM X m_X1_bestGift (d + 5) nx sz Q 15 [some (.ref 20), some (.int (nI (allD (h.1 2) n))), some (.int (lkB (prO (fun a b => gfS (h.1 2) (h.1 3) n a b (D a b)) n none a))), some (.int (nI (gfM (h.1 2) n (prO (fun a b => gfS (h.1 2) (h.1 3) n a b (D a b)) n none a)))), some (.int (nI a)), none, none] [] h) ?_ (fun a ha q => ?_)
  · have ex : h.1 1 0 ≤ nI n := by rw [h0]; exact Int32.le_refl _
    exact c_X1_bestGift_15 hA0 hF (fun _ => hq) (fun c => absurd ex c)
  · refine c_X1_bestGift_15 hA0 hF (fun c => ?_) (fun _ => ?_)
    · rw [h0, le_nI (by omega) (by omega)] at c
      omega
    rw [nI_1]
    refine down_ind (N := n - (a + 1)) (P := fun j => VM X m_X1_bestGift (d + 5) nx sz Q 33 [some (.ref 20), some (.int (nI (allD (h.1 2) n))), some (.int (lkB (prI (fun a b => gfS (h.1 2) (h.1 3) n a b (D a b)) a (prO (fun a b => gfS (h.1 2) (h.1 3) n a b (D a b)) n none a) j))), some (.int (nI (gfM (h.1 2) n (prI (fun a b => gfS (h.1 2) (h.1 3) n a b (D a b)) a (prO (fun a b => gfS (h.1 2) (h.1 3) n a b (D a b)) n none a) j)))), some (.int (nI a)), some (.int (nI (a + 1 + j))), none] [] h) ?_ (fun j hj q2 => ?_)
    · have ex : h.1 1 0 ≤ nI (a + 1 + (n - (a + 1))) := by rw [h0, show a + 1 + (n - (a + 1)) = n by omega]; exact Int32.le_refl _
      refine c_X1_bestGift_33 (d := d + 4) (P50 := fun _ _ => False) hA0 hF RO_rm hcs0 (fun _ => ?_) (fun c => absurd ex c) (fun c => absurd ex c)
      rw [nI_1]
      exact q
    · have ok := gf_oki (K := h.1 2) (L := h.1 3) (D := D) h20 ha (m := j) (by omega)
      have e1 : prI (fun a b => gfS (h.1 2) (h.1 3) n a b (D a b)) a (prO (fun a b => gfS (h.1 2) (h.1 3) n a b (D a b)) n none a) (j + 1) = gfS (h.1 2) (h.1 3) n a (a + 1 + j) (D a (a + 1 + j)) (prI (fun a b => gfS (h.1 2) (h.1 3) n a b (D a b)) a (prO (fun a b => gfS (h.1 2) (h.1 3) n a b (D a b)) n none a) j) := rfl
      rw [e1] at q2
      generalize prI (fun a b => gfS (h.1 2) (h.1 3) n a b (D a b)) a (prO (fun a b => gfS (h.1 2) (h.1 3) n a b (D a b)) n none a) j = s at *
      have hb : a + 1 + j < n := by omega
      have hab : a ≠ a + 1 + j := by omega
      rw [show a + 1 + (j + 1) = a + 1 + j + 1 by omega] at q2
      generalize a + 1 + j = b at *
      have hM : gfM (h.1 2) n s ≤ allD (h.1 2) n := by
        cases s with
        | none => exact Nat.le_refl _
        | some p => exact Nat.le_of_lt (ok p rfl).2
      refine c_X1_bestGift_33 hA0 hF RO_rm hcs0 (fun c => ?_) (fun _ => s_mayJoin (d := d + 1) hA0 hF hP ha hb (D a b)) ?_
      · rw [h0, le_nI (by omega) (by omega)] at c
        omega
      rintro _ y g ⟨rfl, rfl⟩
      by_cases ct : okT (h.1 2) (h.1 3) a b
      · have hle := allD_le (K := joinK (h.1 2) a b) h20
        refine c_X1_bestGift_53 hA0 RO_rm hcs0 (fun c => absurd c (ne0 ct)) (fun c => absurd c (ne0 ct)) (fun _ => s_sumsWith (d := d) hA0 hF hP hg ha hb hab ct.1) ?_
        rintro _ y g ⟨rfl, rfl⟩
        refine c_X1_bestGift_64 (fun c => ?_) (fun c => ?_)
        · rw [le_nI (by omega) (by omega)] at c
          have e : gfS (h.1 2) (h.1 3) n a b (D a b) s = s := by
            unfold gfS
            rw [if_pos ct]
            cases s with
            | none =>
              have c : allD (h.1 2) n ≤ _ := c
              exact if_neg (by omega)
            | some p =>
              have c : p.2 ≤ _ := c
              exact if_neg (by omega)
          rw [e] at q2
          rw [nI_1]
          exact q2
        · rw [le_nI (by omega) (by omega)] at c
          have e : gfS (h.1 2) (h.1 3) n a b (D a b) s = some (20 * a + b, allD (joinK (h.1 2) a b) n) := by
            unfold gfS
            rw [if_pos ct]
            cases s with
            | none =>
              have c : ¬ allD (h.1 2) n ≤ _ := c
              exact if_pos (by omega)
            | some p =>
              have c : ¬ p.2 ≤ _ := c
              exact if_pos (by omega)
          rw [e] at q2
          rw [nI_1, e20j]
          exact q2
      · have e : gfS (h.1 2) (h.1 3) n a b (D a b) s = s := if_neg ct
        rw [e] at q2
        refine c_X1_bestGift_53 (d := d + 4) (P61 := fun _ _ => False) hA0 RO_rm hcs0 (fun _ _ => ?_) (fun _ c => ?_) (fun c => absurd (is0 ct) c) (fun c => absurd (is0 ct) c)
        · rw [nI_1]
          exact q2
        · exact absurd ((le_nI (by omega) (by omega)).mpr hM) c
theorem s_dear_bad {x : Int32} (hA0 : 91 ≤ nx) (hF : Fx h) (c0 : ¬ x = 0) (c1 : ¬ x = 1) : Mk X (d + 1) m_X11_dear [.ref 0, .int x] h nx sz (RE (-1) h) :=
  Mk.re fun Q hq => e_X11_dear (c_X11_dear_0 (d := d) (P21 := fun _ _ => False) (P8 := fun _ _ => False) hA0 hF RO_rm hcs0 (fun _ _ => hq) (fun _ z => absurd z c1) (fun _ z => absurd z c1) (fun z => absurd z c0) (fun z => absurd z c0))
theorem s_dear0 (hA0 : 91 ≤ nx) (hF : Fx h) (hP : InvP h n) (hg : Gr n (h.1 2)) : Mk X (d + 6) m_X11_dear [.ref 0, .int 0] h nx sz (RE (deV (h.1 2) n) h) := by
  refine Mk.re fun Q hq => e_X11_dear (c_X11_dear_0 (P21 := fun _ _ => False) hA0 hF RO_rm hcs0 (fun z => absurd rfl z) (fun z => absurd rfl z) (fun z => absurd rfl z) (fun _ => s_dearest (d := d) hA0 hF hP hg) ?_)
  rintro _ y g ⟨rfl, rfl⟩
  exact c_X11_dear_11 hq
theorem s_dear1 (hA0 : 91 ≤ nx) (hF : Fx h) (hP : InvP h n) (hg : Gr n (h.1 2)) (D : ∀ a b, Decidable (okT (h.1 2) (h.1 3) a b)) : Mk X (d + 6) m_X11_dear [.ref 0, .int 1] h nx sz (RE (gfV (h.1 2) (h.1 3) n D) h) := by
  refine Mk.re fun Q hq => e_X11_dear (c_X11_dear_0 (P8 := fun _ _ => False) hA0 hF RO_rm hcs0 (fun _ z => absurd rfl z) (fun _ _ => s_bestGift (d := d) hA0 hF hP hg D) ?_ (fun z => by cases z) (fun z => by cases z))
  rintro _ _ y g ⟨rfl, rfl⟩
  exact c_X11_dear_24 hq
end OPS
