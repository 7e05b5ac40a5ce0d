/-! apart: the class -/
section OPS
variable {X : CX} {d nx sz : Nat} {h : AH} {n : Nat}
def fz (K : Nat → Int32) (n : Nat) : Arc := fun u v => if u < 20 then (decide (u < n) && decide (v = 20 + u)) else (decide (u < 20 + n) && (decide (v < 20) && tb (K (u - 20)) v))
theorem fz_ant {K : Nat → Int32} (hg : Gr n K) (hn : n ≤ 20) : ant (fz K n) := by
  intro a b h1
  unfold fz at h1 ⊢
  by_cases ha : a < 20
  · rw [if_pos ha] at h1
    simp at h1
    rw [if_neg (by omega)]
    cases q : tb (K (b - 20)) a with
    | false => simp
    | true =>
      have := (hg _ _ q).2.2.1
      omega
  · rw [if_neg ha] at h1
    simp at h1
    rw [if_pos h1.2.1]
    by_cases e : a = 20 + b
    · have := (hg _ _ h1.2.2).2.2.1
      omega
    · simp [e]
theorem fz_Rc {K : Nat → Int32} {g : AH} (hg : Gr n K) (hn : n ≤ 20) (hi : ∀ i, i < n → g.2.1 17 i = btL (20 + i) ∧ g.2.1 17 (20 + i) = (K i).toInt64) : Rc g n = fz K n ∧ CLo g n := by
  have bt1 : ∀ u v, u < n → v < 40 → (tbL (g.2.1 17 u) v = true ↔ v = 20 + u) := fun u v hu hv => by
    rw [(hi u hu).1, tbL_bt (by omega) (by omega)]
    simp only [decide_eq_true_eq]
    exact ⟨fun z => z.symm, fun z => z.symm⟩
  have bt2 : ∀ u v, u < n → v < 40 → tbL (g.2.1 17 (20 + u)) v = tb (K u) v := fun u v hu hv => by
    rw [(hi u hu).2, tbL_int (fun j hj => by have := (hg u j hj).2.1; omega) (by omega)]
  refine ⟨?_, fun u hu v hv h1 => ?_⟩
  · funext u v
    rw [Bool.eq_iff_iff, Rc_iff]
    unfold fz
    by_cases hu : u < 20
    · rw [if_pos hu, Bool.and_eq_true, decide_eq_true_eq, decide_eq_true_eq]
      constructor
      · rintro ⟨a, b, c⟩
        have a : u < n := by simp [vdB] at a; omega
        exact ⟨a, (bt1 u v a (vd_40 hn b)).mp c⟩
      · rintro ⟨a, b⟩
        have hb : vdB n v = true := by rw [b]; simp [vdB, a]
        exact ⟨by simp [vdB, a], hb, (bt1 u v a (vd_40 hn hb)).mpr b⟩
    · rw [if_neg hu, Bool.and_eq_true, Bool.and_eq_true, decide_eq_true_eq, decide_eq_true_eq]
      have eu : u = 20 + (u - 20) := by omega
      constructor
      · rintro ⟨a, b, c⟩
        have a : u - 20 < n := by simp [vdB] at a; omega
        rw [eu, bt2 _ v a (vd_40 hn b)] at c
        have := (hg _ _ c).2.1
        exact ⟨by omega, by omega, c⟩
      · rintro ⟨a, b, c⟩
        have := (hg _ _ c).2.1
        refine ⟨by simp [vdB]; omega, by simp [vdB]; omega, ?_⟩
        rw [eu, bt2 _ v (by omega) (by omega)]
        exact c
  · simp [vdB] at hu
    rcases Nat.lt_or_ge u 20 with q | q
    · have := (bt1 u v (by omega) hv).mp h1
      simp [vdB]
      omega
    · rw [show u = 20 + (u - 20) by omega, bt2 _ v (by omega) hv] at h1
      have := (hg _ _ h1).2.1
      simp [vdB]
      omega
theorem fz_out {K : Nat → Int32} {a : Nat} (hg : Gr n K) (hn : n ≤ 20) (ha : a < n) : xc (fz K n) (fun x => decide (x = 20 + a)) < n := by
  refine Nat.lt_of_le_of_lt (xc_le (by omega)) ?_
  have e : ∀ v, fz K n (20 + a) v = true → v < n ∧ v ≠ a := fun v hv => by
    unfold fz at hv
    rw [if_neg (by omega)] at hv
    simp at hv
    have := hg _ _ hv.2.2
    omega
  have z : ∀ v, ¬ (v < n ∧ v ≠ a) → b1 (fz K n (20 + a) v) = 0 := fun v hv => by
    cases q : fz K n (20 + a) v with
    | false => rfl
    | true => exact absurd (e v q) hv
  rw [show 40 = n + (40 - n) by omega, sm_split, sm_zero (f := fun i => b1 (fz K n (20 + a) (n + i))) (fun i _ => z _ (by omega))]
  have := sm_lt (f := fun v => b1 (fz K n (20 + a) v)) (g := fun _ => 1) (j := a) (n := n) (fun i _ => by unfold b1; split <;> omega) ha (by rw [z a (by omega)]; exact Nat.zero_lt_one)
  have e1 : sm (fun _ => 1) n = n := by
    have : ∀ m, sm (fun _ => 1) m = m := by
      intro m
      induction m with
      | zero => rfl
      | succ m ih => show sm _ m + 1 = m + 1; rw [ih]
    exact this n
  omega
theorem s_row52 {Q : Option Value → AH → Prop} {a b : Nat} {K : Nat → Int32} (hA0 : 91 ≤ nx) (hF : Fx h) (hP : InvP h n) (hg : Gr n K) (ha : a < n) (hb : b < n) (fin : ∀ g k, Sc h g → MF (fz K n) (20 + a) b k → Q (some (.int (nI k))) g) : ∀ (m k : Nat) (g : AH), k + m = n → Sc h g → FL (fz K n) (Rc g n) (20 + a) b k → CLo g n → VM X m_X5_rowsApart (d + 1) nx sz Q 52 [some (.ref 13), some (.int (nI a)), some (.int (nI b)), some (.int (nI k))] [] g := by
  intro m
  have hn := hP.2.1
  have hst : 20 + a ≠ b := by omega
  have ea : (20 : Int32) + nI a = nI (20 + a) := by rw [show (20 : Int32) = nI 20 from rfl, nI_add]
  induction m with
  | zero =>
    intro k g hk s f c
    have e1 := f.2 (fun x => decide (x = 20 + a)) (decide_eq_true rfl) (decide_eq_false (fun z => hst z.symm))
    have e2 := fz_out hg hn ha
    omega
  | succ m ih =>
    intro k g hk s f c
    have hFg := hF.sc s
    have h0 : g.1 1 0 = nI n := ((hP.sc s).np net1).2.1
    have no : ¬ g.1 1 0 ≤ nI k := fun z => by rw [h0, le_nI (by omega) (by omega)] at z; omega
    refine c_X5_rowsApart_52 hA0 hFg RO_rm hcs0 (fun z => absurd z no) (fun _ => by
      rw [ea]
      exact s_findRow (d := d) hA0 hFg hn c (by simp [vdB]; omega) (by omega) hst) ?_
    rintro _ y g1 ⟨⟨f2, f1⟩, res⟩
    have s1 : Sc h g1 := s.trans ⟨fun x j hj => by
      have : x ≠ 18 ∧ x ≠ 19 := ⟨fun z => (by rw [z] at hj; cases hj), fun z => (by rw [z] at hj; cases hj)⟩
      rw [f1 x this.1 this.2], fun x j _ => by rw [f2], fun t => by unfold TXT at *; rw [f2]; exact t⟩
    have eR : Rc g1 n = Rc g n := Rc_cong (by rw [f2])
    have c1 : CLo g1 n := c.cong (by rw [f2])
    rcases res with ⟨rfl, w, q, P, r, see, B, hse, hP1, hv⟩ | ⟨rfl, see, q1, q2, q3⟩
    · refine c_X5_rowsApart_72 hA0 RO_rm hcs0 (fun _ => by
        rw [ea]
        exact s_turnRow (d := d) hA0 (hF.sc s1) hn (by rw [eR]; exact B) hP1 hv (by omega) hse c1) (fun _ g2 p2 => ?_) (fun z => by cases z)
      obtain ⟨-, p1, p2, p3, p4⟩ : _ ∧ _ := ⟨trivial, p2⟩
      refine c_X5_rowsApart_86 ?_
      rw [nI_1]
      refine ih (k + 1) g2 (by omega) (s1.trans ⟨fun x j _ => by rw [p1], fun x j _ => by rw [p2], fun t => by unfold TXT at *; rw [p2]; exact t⟩) ?_ p3
      rw [p4, eR]
      exact FL_more f B (by omega) hse
    · refine c_X5_rowsApart_72 (d := d) (P83 := fun _ => False) hA0 RO_rm hcs0 (fun z => absurd rfl z) (fun z => absurd rfl z) (fun _ => fin g1 k s1 (FL_end f q1 q2 q3))
theorem s_rowsApart {a b : Nat} (hA0 : 91 ≤ nx) (hF : Fx h) (hP : InvP h n) (hg : Gr n (h.1 2)) (ha : a < n) (hb : b < n) : Mk X (d + 1) m_X5_rowsApart [.ref 13, .int (nI a), .int (nI b)] h nx sz (RI fun y g => ∃ k, y = nI k ∧ MF (fz (h.1 2) n) (20 + a) b k ∧ Sc h g) := by
  have hn := hP.2.1
  refine e_X5_rowsApart (c_X5_rowsApart_0 ?_)
  have key : ∀ (m i : Nat) (g : AH), i + m = n → g.1 = h.1 → g.2.2 = h.2.2 → (∀ p, p < i → g.2.1 17 p = btL (20 + p) ∧ g.2.1 17 (20 + p) = (h.1 2 p).toInt64) → VM X m_X5_rowsApart (d + 1) nx sz (RI fun y g => ∃ k, y = nI k ∧ MF (fz (h.1 2) n) (20 + a) b k ∧ Sc h g) 2 [some (.ref 13), some (.int (nI a)), some (.int (nI b)), some (.int (nI i))] [] g := by
    intro m
    induction m with
    | zero =>
      intro i g hi g1 g2 hrow
      have hi : i = n := by omega
      subst hi
      have hFg : Fx g := fun k j r hr => by rw [g2]; exact hF k j r hr
      have s : Sc h g := Sc.long g1 g2
      have yes : g.1 1 0 ≤ nI i := by rw [g1, (hP.np net1).2.1]; exact Int32.le_refl _
      refine c_X5_rowsApart_2 hA0 hFg (fun _ => ?_) (fun z => absurd yes z) (fun z => absurd yes z) (fun z => absurd yes z) (fun z => absurd yes z)
      obtain ⟨e1, e2⟩ := fz_Rc hg hn hrow
      refine s_row52 hA0 hF hP hg ha hb (fun g k s m => ⟨_, rfl, k, rfl, m, s⟩) i 0 g (by omega) s ?_ e2
      rw [e1]
      exact FL_0 (fz_ant hg hn)
    | succ m ih =>
      intro i g hi g1 g2 hrow
      have hFg : Fx g := fun k j r hr => by rw [g2]; exact hF k j r hr
      have no : ¬ g.1 1 0 ≤ nI i := fun z => by rw [g1, (hP.np net1).2.1, le_nI (by omega) (by omega)] at z; omega
      have ei : (20 : Int32) + nI i = nI (20 + i) := by rw [show (20 : Int32) = nI 20 from rfl, nI_add]
      refine c_X5_rowsApart_2 hA0 hFg (fun z => absurd z no) (fun _ => vin (by omega) (by decide)) (fun _ => vin (by omega) (by decide)) (fun _ => by rw [ei]; exact vin (by omega) (by decide)) (fun _ => ?_)
      rw [ei, nI_1, tN (by omega), tN (by omega)]
      refine ih (i + 1) _ (by omega) g1 g2 (fun p hp => ?_)
      rw [setL_at, setL_at, setL_at, setL_at]
      by_cases e : p = i
      · subst e
        rw [if_neg (fun z => by omega), if_pos ⟨rfl, rfl⟩, if_pos ⟨rfl, rfl⟩]
        exact ⟨rfl, by rw [g1]⟩
      · rw [if_neg (fun z => by omega), if_neg (fun z => by omega), if_neg (fun z => by omega), if_neg (fun z => by omega)]
        exact hrow p (by omega)
  exact key n 0 h (by omega) rfl rfl (fun p hp => absurd hp (Nat.not_lt_zero _))
theorem s_apart_bad {x y : Int32} (hA0 : 91 ≤ nx) (hF : Fx h) (hp : InvP h n) (c : twoI n x y = 0 ∨ tieI n (h.1 2) x y = 1) : Mk X (d + 2) m_X11_apart [.ref 0, .int x, .int y] h nx sz (RE (-1) h) := by
  refine Mk.re fun Q hq => e_X11_apart (c_X11_apart_0 hA0 hF RO_rm hcs0 (s_hasTwo (d := d) hA0 (hp.np net1)) ?_)
  rintro y0 g ⟨rfl, rfl⟩
  by_cases c2 : twoI n x y = 0
  · exact c_X11_apart_9 (d := d + 1) (P18 := fun _ _ => False) hA0 hF RO_rm hcs0 (fun _ => hq) (fun z => absurd c2 z) (fun z => absurd c2 z)
  have c := c.resolve_left c2
  refine c_X11_apart_9 hA0 hF RO_rm hcs0 (fun z => absurd z c2) (fun _ => s_tied (d := d) hA0 hF (hp.np net1)) ?_
  rintro _ y0 g ⟨rfl, rfl⟩
  have c' : tieI n (h.1 (1 + 1)) x y = 1 := c
  rw [c']
  exact c_X11_apart_21 (d := d + 1) (P32 := fun _ _ => False) hA0 hF RO_rm hcs0 (fun z => by cases z) (fun z => by cases z) (fun _ => hq)
theorem s_apart {a b : Nat} (hA0 : 91 ≤ nx) (hF : Fx h) (hp : InvP h n) (hg : Gr n (h.1 2)) (ha : a < n) (hb : b < n) (hab : a ≠ b) (ht : tb (h.1 2 a) b = false) : Mk X (d + 2) m_X11_apart [.ref 0, .int (nI a), .int (nI b)] h nx sz (RI fun y g => ∃ k, y = nI k ∧ MF (fz (h.1 2) n) (20 + a) b k ∧ Sc h g) := by
  have h20 := hp.2.1
  refine e_X11_apart (c_X11_apart_0 hA0 hF RO_rm hcs0 (s_hasTwo (d := d) hA0 (hp.np net1)) ?_)
  rintro y0 g ⟨rfl, rfl⟩
  rw [twoI_nI (by omega) ha hb hab]
  refine c_X11_apart_9 hA0 hF RO_rm hcs0 (fun z => by cases z) (fun _ => s_tied (d := d) hA0 hF (hp.np net1)) ?_
  rintro _ y0 g ⟨rfl, rfl⟩
  have e : tieI n (h.1 (1 + 1)) (nI a) (nI b) = 0 := by
    rw [tieI_nI h20 ha hb, show h.1 (1 + 1) a = h.1 2 a from rfl, ht]
    rfl
  rw [e]
  refine c_X11_apart_21 hA0 hF RO_rm hcs0 (fun _ => s_rowsApart (d := d) hA0 hF hp hg ha hb) ?_ (fun z => absurd rfl z)
  rintro _ y g ⟨k, rfl, m, s⟩
  exact c_X11_apart_35 ⟨_, rfl, k, rfl, m, s⟩
end OPS
