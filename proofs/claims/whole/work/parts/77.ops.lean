/-! hosts; set of the class -/
section OPS
variable {X : CX} {d nx sz : Nat} {h : AH} {n : Nat} {K : Nat → Int32}
def hoF (K : Nat → Int32) (p : Nat) : Int32 := K p ||| bt p
theorem tb_hoF {p q : Nat} (hp : p < 32) : tb (hoF K p) q = true ↔ tb (K p) q = true ∨ q = p := tb_add hp
theorem isA_2 {s : Int32} {f : Nat → Int32} (hg : Gr n K) (hn : n ≤ 20) (hs : inN n s) (hf : ∀ p, p < n → f p = hoF K p) : isA K n 2 s ↔ cov f n s := by
  constructor
  · intro a i hi
    cases q : tb s i with
    | true => exact ⟨i, q, by rw [hf i hi]; exact (tb_hoF (by omega)).mpr (Or.inr rfl)⟩
    | false =>
      have z := (a i hi).2.2 rfl q
      obtain ⟨j, hj, hne⟩ := ne_bit z
      rw [tb_0] at hne
      have t : tb (s &&& K i) j = true := by simpa using hne
      rw [tb_and, Bool.and_eq_true] at t
      have k := hg i j t.2
      exact ⟨j, t.1, by rw [hf j k.2.1]; exact (tb_hoF (by omega)).mpr (Or.inl k.2.2.2)⟩
  · intro a p hp
    refine ⟨fun z => by omega, fun z => by omega, fun _ z e => ?_⟩
    obtain ⟨j, j1, j2⟩ := a p hp
    have hj := hs j j1
    rw [hf j hj, tb_hoF (by omega)] at j2
    rcases j2 with y | y
    · have : tb (s &&& K p) j = tb 0 j := by rw [e]
      rw [tb_and, j1, tb_0, tb_sym hg p j, y] at this
      cases this
    · rw [y, j1] at z
      cases z
theorem mx_bc {f : Nat → Int32} (hn : n ≤ 20) (hf : ∀ p, p < n → inN n (f p)) {w i : Nat} (hw : w ≤ 20) (hi : i < n) : (if nI w < bc (f i) then bc (f i) else nI w) = nI (max w (cnt (f i) n)) := by
  rw [bc_lt hn (hf i hi)]
  have := cnt_le (x := f i) (n := n)
  by_cases c : nI w < nI (cnt (f i) n)
  · rw [if_pos c]
    rw [nI_ltI (by omega) (by omega)] at c
    rw [Nat.max_eq_right (by omega)]
  · rw [if_neg c]
    rw [nI_ltI (by omega) (by omega)] at c
    rw [Nat.max_eq_left (by omega)]
def wdN (f : Nat → Int32) (n : Nat) : Nat → Nat
  | 0 => 1
  | i + 1 => max (wdN f n i) (cnt (f i) n)
theorem wdN_le {f : Nat → Int32} (h1 : 1 ≤ n) : ∀ {k : Nat}, wdN f n k ≤ n
  | 0 => h1
  | k + 1 => Nat.max_le.mpr ⟨wdN_le h1, cnt_le⟩
theorem wdN_ge {f : Nat → Int32} {p : Nat} : ∀ {k : Nat}, p < k → cnt (f p) n ≤ wdN f n k
  | 0, h => by omega
  | k + 1, h => by
    show _ ≤ max (wdN f n k) (cnt (f k) n)
    by_cases e : p = k
    · rw [e]; exact Nat.le_max_right _ _
    · exact Nat.le_trans (wdN_ge (by omega)) (Nat.le_max_left _ _)
theorem cov_full {f : Nat → Int32} (hn : n ≤ 20) (hf : ∀ p, p < n → tb (f p) p = true) : cov f n (full n) := fun i hi => ⟨i, (tb_fulln hn).mpr hi, hf i hi⟩
theorem wt_n (n : Nat) : full n &&& ((0 : Int32) ^^^ (-1)) = full n := by
  apply tb_ext
  intro i hi
  rw [tb_and, tb_not hi, tb_0]
  cases tb (full n) i <;> rfl
theorem s_hosts (hX : nX X = n) (hA0 : 91 ≤ nx) (hF : Fx h) (hP : InvP h n) (hg : Gr n (h.1 2)) : Mk X (d + 22) m_X9_hosts [.ref 21] h nx sz (RI fun y g => Bst n true (fun s => isA (h.1 2) n 2 s ∧ inN n s) y ∧ Sc h g) := by
  obtain ⟨hn, h0, e1, h2, h20⟩ := hP.np net1
  have k22 : kd X 22 = (20, n) := kd_22.trans (by rw [hX])
  refine e_X9_hosts (c_X9_hosts_0 ?_)
  obtain ⟨Q, hQ⟩ : ∃ Q, Q = (RI fun y g => Bst n true (fun s => isA (h.1 2) n 2 s ∧ inN n s) y ∧ Sc h g) := ⟨_, rfl⟩
  rw [← hQ]
  have hob : ∀ p, p < n → inN n (hoF (h.1 2) p) := fun p hp j hj => by
    rcases (tb_hoF (by omega)).mp hj with z | z
    · exact (hg p j z).2.1
    · omega
  -- the heap as far as i
  obtain ⟨H, eH⟩ : ∃ H : Nat → AH, H = fun i => setA h 22 (upto i (hoF (h.1 2)) (h.1 22)) := ⟨_, rfl⟩
  have Hi : ∀ i, H i = setA h 22 (upto i (hoF (h.1 2)) (h.1 22)) := fun i => by rw [eH]
  have H2 : ∀ i, (H i).1 2 = h.1 2 := fun i => by rw [Hi]; rfl
  have H10 : ∀ i, (H i).1 1 0 = nI n := fun i => by rw [Hi]; exact h0
  have H11 : ∀ i, (H i).1 1 1 = full n := fun i => by rw [Hi]; exact e1
  have HF : ∀ i, Fx (H i) := fun i => by rw [Hi]; exact hF
  have HS : ∀ i, Sc h (H i) := fun i => by rw [Hi]; exact Sc.rfl.setA rfl
  have key : VM X m_X9_hosts (d + 22) nx sz Q 4 [some (.ref 21), some (.int (nI (wdN (hoF (h.1 2)) n 0))), some (.int (nI 0)), none] [] (H 0) := by
    refine down_ind (N := n) (P := fun i => VM X m_X9_hosts (d + 22) nx sz Q 4 [some (.ref 21), some (.int (nI (wdN (hoF (h.1 2)) n i))), some (.int (nI i)), none] [] (H i)) ?_ (fun i hi q => ?_)
    · have yes : Int32.ofNat (nX X) ≤ nI n := by rw [hX]; exact Int32.le_refl _
      refine c_X9_hosts_4 (d := d + 21) (P39 := fun _ _ => False) hA0 (HF n) RO_rm hcs0 (fun _ => ?_) (fun z => absurd yes z) (fun z => absurd yes z) (fun z => absurd yes z) (fun z => absurd yes z) (fun z => absurd yes z)
      obtain ⟨g, eg⟩ : ∃ g, g = H n := ⟨_, rfl⟩
      rw [← eg]
      have g22 : ∀ p, p < n → g.1 22 p = hoF (h.1 2) p := fun p hp => by
        rw [eg, Hi]
        show upto n (hoF (h.1 2)) (h.1 22) p = _
        exact upto_lt hp
      have np : NP g 1 n := by rw [eg]; exact ⟨hn, H10 n, H11 n, h2, h20⟩
      have hFg : Fx g := by rw [eg]; exact HF n
      have sg : Sc h g := by rw [eg]; exact HS n
      have fg : FG (g.1 22) n (wdN (hoF (h.1 2)) n n) := by
        refine ⟨fun p hp j hj => ?_, fun p q hp hq hj => ?_, fun p hp => ?_, by have := wdN_le (f := hoF (h.1 2)) (n := n) (by omega) (k := n); omega⟩
        · rw [g22 p hp] at hj
          exact hob p hp j hj
        · rw [g22 p hp, tb_hoF (by omega)] at hj
          rw [g22 q hq, tb_hoF (by omega)]
          rcases hj with z | z
          · exact Or.inl (hg p q z).2.2.2
          · exact Or.inr z.symm
        · rw [g22 p hp]
          exact wdN_ge hp
      have cf : cov (g.1 22) n (full n) := cov_full h20 (fun p hp => by rw [g22 p hp]; exact (tb_hoF (by omega)).mpr (Or.inr rfl))
      have fb : inN n (full n) := fun j hj => (tb_fulln h20).mp hj
      have iff : ∀ s, (cov (g.1 22) n s ∧ inN n s) ↔ (isA (h.1 2) n 2 s ∧ inN n s) := fun s => by
        constructor
        · rintro ⟨a, b⟩
          exact ⟨(isA_2 hg h20 b g22).mpr a, b⟩
        · rintro ⟨a, b⟩
          exact ⟨(isA_2 hg h20 b g22).mp a, b⟩
      have loop : ∀ (k m : Nat), m + k = n → 1 ≤ m → (∀ s, inN n s → cov (g.1 22) n s → m ≤ cnt s n) → VM X m_X9_hosts (d + 22) nx sz Q 54 [some (.ref 21), some (.int (nI (wdN (hoF (h.1 2)) n n))), some (.int (nI m)), none] [] g := by
        intro k
        induction k with
        | zero =>
          intro m hm _ mn
          have hm : m = n := by omega
          subst hm
          have yes : g.1 1 0 ≤ nI m := by rw [np.2.1]; exact Int32.le_refl _
          refine c_X9_hosts_54 (d := d + 21) (P80 := fun _ _ => False) hA0 hFg RO_rm hcs0 (fun _ => ?_) (fun z => absurd yes z) (fun z => absurd yes z)
          rw [np.2.2.1, hQ]
          refine ⟨_, rfl, Bst_cong iff ⟨⟨cf, fb⟩, fun s hs hb => ?_⟩, sg⟩
          have c1 := mn s hs.2 hs.1
          have c2 := cnt_full h20
          rcases bet_iff.mp hb with ⟨e, l⟩ | ⟨-, z⟩ | ⟨z, -⟩
          · have : s = full m := Classical.byContradiction fun hne => by
              have := cnt_strict (n := m) (c := s) (s := full m) fb (fun j hj => (tb_fulln h20).mpr (hs.2 j hj)) (Ne.symm hne)
              omega
            rw [this] at l
            exact lx_irr l
          · omega
          · cases z
        | succ k ih =>
          intro m hm hm1 mn
          have no : ¬ g.1 1 0 ≤ nI m := fun z => by rw [np.2.1, le_nI (by omega) (by omega)] at z; omega
          have pre : CPre (g.1 22) n 0 0 0 m := by
            refine ⟨Nat.zero_le _, fun j hj => (by rw [tb_0] at hj; cases hj), fun i => ?_, fun s hs hc => ?_, by omega⟩
            · rw [tb_0]
              constructor
              · intro z; cases z
              · rintro ⟨p, a, -⟩
                rw [tb_0] at a
                cases a
            · rw [cnt_0]
              have := mn s hs hc
              omega
          refine c_X9_hosts_54 (P80 := fun y g' => CR (g.1 22) n 0 0 m y ∧ g = g') hA0 hFg RO_rm hcs0 (fun z => absurd z no) (fun _ => ?_) ?_
          · have q := s_cover (X := X) (d := d + (20 - n)) (nx := nx) (sz := sz) (r := 22) k22 (ltA hA0 rfl) h20 fg n 0 m 0 0 (by omega) pre (fun i hi => (by rw [tb_0] at hi; cases hi))
            rw [show d + (20 - n) + n + 1 = d + 21 by omega, wt_n] at q
            rw [np.2.2.1]
            exact q
          · rintro _ y g' ⟨cr, rfl⟩
            rcases cr with ⟨rfl, none⟩ | ⟨cy, ly⟩
            · refine c_X9_hosts_83 (fun _ => ?_) (fun z => absurd rfl z)
              rw [nI_1]
              refine ih (m + 1) (by omega) (by omega) (fun s hs hc => ?_)
              have := mn s hs hc
              refine Classical.byContradiction fun z => none s ⟨fun j hj => (by rw [tb_0] at hj; cases hj), fun j hj => Or.inr ⟨Nat.zero_le _, hs j hj⟩, ?_, hc⟩
              rw [cnt_0]
              omega
            · have yb := Cov_lt pre cy
              refine c_X9_hosts_83 (fun z => absurd z (m1_big yb h20)) (fun _ => ?_)
              rw [hQ]
              have c2 := cy.2.2.1
              rw [cnt_0] at c2
              refine ⟨_, rfl, Bst_cong iff ⟨⟨cy.2.2.2, yb⟩, fun s hs hb => ?_⟩, sg⟩
              have c1 := mn s hs.2 hs.1
              rcases bet_iff.mp hb with ⟨e, l⟩ | ⟨-, z⟩ | ⟨z, -⟩
              · have cs : Cov (g.1 22) n 0 0 m s := ⟨fun j hj => (by rw [tb_0] at hj; cases hj), fun j hj => Or.inr ⟨Nat.zero_le _, hs.2 j hj⟩, by rw [cnt_0]; omega, hs.1⟩
                rcases ly s cs with z | z
                · rw [z] at l
                  exact lx_irr l
                · exact lx_asym l z
              · omega
              · cases z
      refine loop (n - 1) 1 (by omega) (Nat.le_refl _) (fun s hs hc => ?_)
      obtain ⟨p, p1, -⟩ := hc 0 (by omega)
      have := cnt_lt (x := 0) (y := s) (n := n) (fun j _ z => by rw [tb_0] at z; cases z) (hs p p1) (tb_0 p) p1
      omega
    · have no : ¬ Int32.ofNat (nX X) ≤ nI i := fun z => by
        rw [hX] at z
        have z : nI n ≤ nI i := z
        rw [le_nI (by omega) (by omega)] at z
        omega
      have ei : (nI i).toNatClampNeg = i := tN (by omega)
      have hw20 : wdN (hoF (h.1 2)) n i ≤ 20 := by have := wdN_le (f := hoF (h.1 2)) (n := n) (by omega) (k := i); omega
      obtain ⟨g, eg⟩ : ∃ g, g = setI (H i) 22 i (hoF (h.1 2) i) := ⟨_, rfl⟩
      have ev : (H i).1 2 (nI i).toNatClampNeg ||| (1 : Int32) <<< (nI i &&& 31) = hoF (h.1 2) i := by rw [ei, H2]; rfl
      refine c_X9_hosts_4 (P39 := fun y g' => y = bc (hoF (h.1 2) i) ∧ g = g') hA0 (HF i) RO_rm hcs0 (fun z => absurd z no) (fun _ => vin (by omega) (by decide)) (fun _ => by rw [hX]; exact vin hi (by omega)) (fun _ => by rw [hX]; exact vin hi (by omega)) (fun _ => ?_) ?_
      · rw [ev, ei, ← eg]
        have : g.1 22 i = hoF (h.1 2) i := by
          rw [eg]
          show (if 22 = 22 ∧ i = i then hoF (h.1 2) i else (H i).1 22 i) = _
          rw [if_pos ⟨rfl, rfl⟩]
        rw [this]
        exact s_bitCount (d := d + 21)
      · rintro _ _ g' ⟨rfl, rfl⟩
        refine c_X9_hosts_42 (d := d + 21) RO_rm hcs0 ?_
        rw [nI_1, mx_bc h20 hob hw20 hi]
        have e : g = H (i + 1) := by
          rw [eg, Hi, Hi, setI_upto]
        rw [e]
        exact q
  have H0 : H 0 = h := by
    rw [Hi, upto_0, setA_id]
  rw [H0] at key
  exact key
theorem s_setOp_bad {x : Int32} (hA0 : 91 ≤ nx) (hF : Fx h) (c : x < 0 ∨ ¬ x ≤ 2) : Mk X (d + 1) m_X11_set [.ref 0, .int x] h nx sz (RE (-1) h) := by
  have e : x.toInt < 0 ∨ 2 < x.toInt := by
    rcases c with c | c
    · rw [Int32.lt_iff_toInt_lt] at c
      exact Or.inl c
    · rw [Int32.le_iff_toInt_le] at c
      have : (2 : Int32).toInt = 2 := by decide
      rw [this] at c
      exact Or.inr (by omega)
  exact Mk.re fun Q hq => e_X11_set (c_X11_set_0 (d := d) (P32 := fun _ _ => False) (P40 := fun _ _ => False) (P48 := fun _ _ => False) hA0 hF RO_rm hcs0 (fun _ => hq) (fun z => by omega) (fun z => by omega) (fun z => by omega) (fun z => by omega) (fun z => by omega) (fun z => by omega))
theorem s_setOp {w : Nat} (hX : nX X = n) (hA0 : 91 ≤ nx) (hF : Fx h) (hP : InvP h n) (hg : Gr n (h.1 2)) (hw : w ≤ 2) : Mk X (d + 23) m_X11_set [.ref 0, .int (nI w)] h nx sz (RI fun y g => Bst n (decide (w = 2)) (fun s => isA (h.1 2) n w s ∧ inN n s) y ∧ Sc h g) := by
  have ew : (nI w).toInt = w := nI_toInt (by omega)
  refine e_X11_set (c_X11_set_0 hA0 hF RO_rm hcs0 (fun z => by rw [ew] at z; omega) (P32 := fun y g => Bst n false (fun s => isA (h.1 2) n 0 s ∧ inN n s) y ∧ Sc h g) (fun _ => s_circle (d := d) hA0 hF hP hg) ?_ (P40 := fun y g => Bst n false (fun s => isA (h.1 2) n 1 s ∧ inN n s) y ∧ Sc h g) (fun _ => s_apartness (d := d) hX hA0 hF hP hg) ?_ (P48 := fun y g => Bst n true (fun s => isA (h.1 2) n 2 s ∧ inN n s) y ∧ Sc h g) (fun _ => s_hosts (d := d) hX hA0 hF hP hg) ?_)
  · rintro z y g p
    have : w = 0 := by rw [ew] at z; omega
    subst this
    exact c_X11_set_35 ⟨_, rfl, p⟩
  · rintro z y g p
    have : w = 1 := by rw [ew] at z; omega
    subst this
    exact c_X11_set_43 ⟨_, rfl, p⟩
  · rintro z y g p
    have : w = 2 := by rw [ew] at z; omega
    subst this
    exact c_X11_set_51 ⟨_, rfl, p⟩
end OPS
