/-! back, word, out, value -/
section OPS
variable {X : CX} {d nx sz : Nat} {h : AH} {n : Nat}
theorem t_back_bad (hA0 : 91 ≤ nx) (c : h.1 68 46 = 0) : Mk X (d + 2) m_X12_back [.ref 68] h nx sz (RE (-1) (setI h 68 0 0)) :=
  Mk.re fun Q hq => e_X12_back (c_X12_back_0 hA0 (fun c1 => absurd c c1) (fun _ => hq))
theorem t_back (hA0 : 91 ≤ nx) (hF : Fx h) (hp : InvP h n) (c : h.1 68 46 = 1) : Mk X (d + 2) m_X12_back [.ref 68] h nx sz (RE (smI (fun i => bc (upto n (h.1 87) (h.1 73) i)) n / 2) (setA (setA (setA (setI h 68 0 0) 73 (upto n (h.1 87) (h.1 73))) 75 (upto n (h.1 88) (h.1 75))) 76 (upto n (h.1 89) (h.1 76)))) := by
  obtain ⟨h0, h2, h20⟩ := hp.mp
  refine Mk.re fun Q hq => e_X12_back (c_X12_back_0 hA0 (fun _ => ?_) (fun z => by rw [c] at z; cases z))
  have key : VM X m_X12_back (d + 2) nx sz Q 16 [some (.ref 68), some (.int (nI 0))] [] (setA (setA (setA (setI h 68 0 0) 73 (upto 0 (h.1 87) (h.1 73))) 75 (upto 0 (h.1 88) (h.1 75))) 76 (upto 0 (h.1 89) (h.1 76))) := by
    refine down_ind (N := n) (P := fun i => VM X m_X12_back (d + 2) nx sz Q 16 [some (.ref 68), some (.int (nI i))] [] (setA (setA (setA (setI h 68 0 0) 73 (upto i (h.1 87) (h.1 73))) 75 (upto i (h.1 88) (h.1 75))) 76 (upto i (h.1 89) (h.1 76)))) ?_ (fun i hi q => ?_)
    · have ex : h.1 68 1 ≤ nI n := by rw [h0]; exact Int32.le_refl _
      refine c_X12_back_16 hA0 hF RO_rm hcs0 (fun _ => t_ties (d := d + 0) (n := n) hA0 hF ⟨h0, h2, h20⟩) ?_ (fun c => absurd ex c) (fun c => absurd ex c) (fun c => absurd ex c) (fun c => absurd ex c) (fun c => absurd ex c) (fun c => absurd ex c) (fun c => absurd ex c)
      rintro _ y g ⟨rfl, rfl⟩
      exact c_X12_back_70 hq
    · refine c_X12_back_16 (P67 := fun _ _ => False) hA0 hF RO_rm hcs0 (fun c => ?_) (fun c => ?_) (fun _ => vin (by omega) (by decide)) (fun _ => vin (by omega) (by decide)) (fun _ => vin (by omega) (by decide)) (fun _ => vin (by omega) (by decide)) (fun _ => vin (by omega) (by decide)) (fun _ => vin (by omega) (by decide)) (fun _ => ?_)
      · have c : h.1 68 1 ≤ nI i := c
        rw [h0, le_nI (by omega) (by omega)] at c
        omega
      · have c : h.1 68 1 ≤ nI i := c
        rw [h0, le_nI (by omega) (by omega)] at c
        omega
      · rw [nI_1, tN (by omega)]
        rw [← upto_set, ← upto_set, ← upto_set] at q
        refine cast (congrArg (VM X m_X12_back (d + 2) nx sz Q 16 _ _) ?_) q
        refine Prod.ext (funext fun b => funext fun k => ?_) rfl
        by_cases e1 : b = 73
        · subst e1; simp [setA, setI]
        by_cases e2 : b = 75
        · subst e2; simp [setA, setI]
        by_cases e3 : b = 76
        · subst e3; simp [setA, setI]
        simp [setA, setI, e1, e2, e3]
  refine cast (congrArg (VM X m_X12_back (d + 2) nx sz Q 16 _ _) ?_) key
  rw [upto_0, upto_0, upto_0]
  refine Prod.ext (funext fun b => funext fun k => ?_) rfl
  by_cases e1 : b = 73
  · subst e1; simp [setA, setI]
  by_cases e2 : b = 75
  · subst e2; simp [setA, setI]
  by_cases e3 : b = 76
  · subst e3; simp [setA, setI]
  simp [setA, setI, e1, e2, e3]
-- bits of the first n
theorem u_tb {x : Int32} {n : Nat} : (∀ j, n ≤ j → tb x j = false) ↔ u x < 2 ^ n := by
  constructor
  · intro h
    exact Nat.lt_pow_two_of_testBit _ fun j hj => h j hj
  · intro h j hj
    exact Nat.testBit_lt_two_pow (Nat.lt_of_lt_of_le h (Nat.pow_le_pow_right (by decide) hj))
theorem u_nI {m : Nat} (h : m < 2 ^ 31) : u (nI m) = m := by
  have e := nI_toInt h
  unfold u
  have : ((nI m).toInt.toNat) = (nI m).toUInt32.toNat := by
    rw [← Int32.toInt_toBitVec]
    have : (nI m).toBitVec.msb = false := by
      rw [BitVec.msb_eq_false_iff_two_mul_lt]
      have := BitVec.toInt_eq_toNat_cond (nI m).toBitVec
      rw [Int32.toInt_toBitVec, e] at this
      split at this
      · assumption
      · have := (nI m).toBitVec.isLt
        omega
    rw [BitVec.toInt_eq_toNat_of_msb this]
    rfl
  rw [← this, e]
  rfl
theorem u_inj {x y : Int32} (h : u x = u y) : x = y := Int32.toBitVec_inj.mp (congrArg UInt32.toBitVec (UInt32.toNat_inj.mp h))
theorem nI_u {x : Int32} (h : u x < 2 ^ 31) : x = nI (u x) := u_inj (u_nI h).symm
theorem bt_nI {n : Nat} (hn : n ≤ 20) : bt n = nI (2 ^ n) := by
  have : ∀ n, n < 21 → bt n = nI (2 ^ n) := by decide
  exact this n (by omega)
/-- some of the first n, and nobody else -/
def okB (n : Nat) (x : Int32) : Prop := x ≠ 0 ∧ ∀ j, tb x j = true → j < n
theorem okB_s {n : Nat} (hn : n ≤ 20) {x : Int32} : (x ≠ 0 ∧ x &&& (full n ^^^ (-1)) = 0) ↔ okB n x := by
  refine and_congr Iff.rfl ⟨fun h j hj => ?_, fun h => ?_⟩
  · refine Classical.byContradiction fun c => ?_
    have h32 : j < 32 := by
      rcases Nat.lt_or_ge j 32 with q | q
      · exact q
      · rw [tb_32 q] at hj
        cases hj
    have : tb (x &&& (full n ^^^ (-1))) j = true := by
      rw [tb_and, tb_not h32, tb_full (by omega), hj]
      simp [c]
    rw [h, tb_0] at this
    cases this
  · apply tb_ext
    intro j hj
    rw [tb_and, tb_not hj, tb_full (by omega), tb_0]
    cases hx : tb x j with
    | false => rfl
    | true => simp [h j hx]
theorem okB_t {n : Nat} (hn : n ≤ 20) {x : Int32} : (¬ x ≤ 0 ∧ ¬ bt n ≤ x) ↔ okB n x := by
  have hp : 2 ^ n ≤ 2 ^ 20 := Nat.pow_le_pow_right (by decide) hn
  have h20 : (2 : Nat) ^ 20 = 1048576 := by decide
  constructor
  · rintro ⟨h1, h2⟩
    obtain ⟨m, hm, rfl⟩ : ∃ m, m < 2 ^ 31 ∧ x = nI m := by
      refine ⟨x.toInt.toNat, ?_, ?_⟩
      · have := x.toInt_lt
        omega
      · apply Int32.toInt_inj.mp
        have h1 := Int32.not_le.mp h1
        rw [Int32.lt_iff_toInt_lt] at h1
        have h0 : (0 : Int32).toInt = 0 := by decide
        have := x.toInt_lt
        rw [nI_toInt (by omega)]
        omega
    rw [bt_nI hn, le_nI (by omega) (by omega)] at h2
    have h0 : (0 : Int32) = nI 0 := by decide
    rw [h0, le_nI (by omega) (by omega)] at h1
    refine ⟨fun z => ?_, fun j hj => ?_⟩
    · rw [h0] at z
      have := nI_inj hm (by omega) z
      omega
    · refine Classical.byContradiction fun c => ?_
      have := u_tb.mpr (by rw [u_nI hm]; omega : u (nI m) < 2 ^ n) j (by omega)
      rw [this] at hj
      cases hj
  · rintro ⟨h1, h2⟩
    have hu : u x < 2 ^ n := u_tb.mp fun j hj => by
      cases hx : tb x j with
      | false => rfl
      | true =>
        have := h2 j hx
        omega
    have e : x = nI (u x) := nI_u (by omega)
    have h0 : (0 : Int32) = nI 0 := by decide
    rw [e, bt_nI hn, le_nI (by omega) (by omega), h0, le_nI (by omega) (by omega)]
    refine ⟨fun z => h1 ?_, by omega⟩
    rw [e, h0, show u x = 0 by omega]
theorem s_hasBits2 {x : Int32} (hA0 : 91 ≤ nx) (hp : NP h 1 n) (D : Decidable (okB n x)) : Mk X d m_X3_hasBits [.ref 1, .int x] h nx sz (RE (if okB n x then 1 else 0) h) := by
  have e : (if okB n x then (1 : Int32) else 0) = if x ≠ 0 ∧ x &&& (full n ^^^ (-1)) = 0 then 1 else 0 := by
    by_cases c : okB n x
    · rw [if_pos c, if_pos ((okB_s hp.2.2.2.2).mpr c)]
    · rw [if_neg c, if_neg (fun z => c ((okB_s hp.2.2.2.2).mp z))]
  rw [e]
  exact s_hasBits hA0 hp
theorem t_areSome {x : Int32} (hA0 : 91 ≤ nx) (hp : MP h n) (D : Decidable (okB n x)) : Mk X d m_X12_areSome [.ref 68, .int x] h nx sz (RE (if okB n x then 1 else 0) h) := by
  have hb := okB_t (x := x) hp.2.2
  refine Mk.re fun Q hq => e_X12_areSome (c_X12_areSome_0 hA0 (fun c => ?_) (fun c c1 => ?_) (fun c c1 => ?_))
  · rwa [if_neg (fun z => (hb.mpr z).1 c)] at hq
  · rw [hp.1, bt_toInt32] at c1
    rwa [if_neg (fun z => (hb.mpr z).2 c1)] at hq
  · rw [hp.1, bt_toInt32] at c1
    rwa [if_pos (hb.mp ⟨c, c1⟩)] at hq
-- word
theorem s_word_bad {x y : Int32} (hA0 : 91 ≤ nx) (hF : Fx h) (hp : InvP h n) (c : ¬ okB n x ∨ y < 0 ∨ ¬ y ≤ 20) : Mk X (d + 1) m_X11_word [.ref 0, .int x, .int y] h nx sz (RE (-1) h) := by
  have D : Decidable (okB n x) := Classical.propDecidable _
  refine Mk.re fun Q hq => e_X11_word (c_X11_word_0 hA0 hF RO_rm hcs0 (s_hasBits2 (d := d) hA0 (hp.np net1) D) ?_)
  rintro y0 g ⟨rfl, rfl⟩
  refine c_X11_word_8 (fun _ => hq) (fun _ _ => hq) (fun c1 c2 c3 => ?_) (fun _ _ _ => hq)
  rcases c with c | c | c
  · exact absurd (is0 c) c1
  · exact absurd c c2
  · exact absurd c3 c
theorem s_word {x : Int32} {r : Nat} (hA0 : 91 ≤ nx) (hF : Fx h) (hp : InvP h n) (c : okB n x) (hr : r ≤ 20) : Mk X (d + 1) m_X11_word [.ref 0, .int x, .int (nI r)] h nx sz (RE (bl (h.1 2) n (full n) x r) h) := by
  have D : Decidable (okB n x) := Classical.propDecidable _
  refine Mk.re fun Q hq => e_X11_word (c_X11_word_0 hA0 hF RO_rm hcs0 (s_hasBits2 (d := d) hA0 (hp.np net1) D) ?_)
  rintro y0 g ⟨rfl, rfl⟩
  refine c_X11_word_8 (fun z => absurd z (ne0 c)) (fun _ z => ?_) (fun _ _ _ => ?_) (fun _ _ z => ?_)
  · have : ∀ r, r < 21 → ¬ nI r < 0 := by decide
    exact absurd z (this r (by omega))
  · have key : VM X m_X11_word (d + 1) nx sz Q 28 [some (.ref 0), none, some (.int (nI r)), some (.int (bl (h.1 2) n (full n) x 0)), some (.int (nI 0))] [] h := by
      refine down_ind (N := r) (P := fun i => VM X m_X11_word (d + 1) nx sz Q 28 [some (.ref 0), none, some (.int (nI r)), some (.int (bl (h.1 2) n (full n) x i)), some (.int (nI i))] [] h) ?_ (fun i hi q => ?_)
      · exact c_X11_word_28 (P47 := fun _ _ => False) hA0 hF RO_rm hcs0 (fun _ => hq) (fun c => absurd (Int32.le_refl _) c) (fun c => absurd (Int32.le_refl _) c)
      · refine c_X11_word_28 hA0 hF RO_rm hcs0 (fun c => ?_) (fun _ => s_around (d := d) hA0 hF (hp.np net1)) ?_
        · rw [le_nI (by omega) (by omega)] at c
          omega
        · rintro _ y g ⟨rfl, rfl⟩
          refine c_X11_word_50 ?_
          rw [nI_1, (hp.np net1).2.2.1]
          exact q
    exact key
  · have : ∀ r, r < 21 → nI r ≤ 20 := by decide
    exact absurd (this r (by omega)) z
theorem t_word_bad {x y : Int32} (hA0 : 91 ≤ nx) (hp : InvP h n) (c : ¬ okB n x ∨ y < 0 ∨ ¬ y ≤ 20) : Mk X (d + 2) m_X12_word [.ref 68, .int x, .int y] h nx sz (RE (-1) (setI h 68 0 0)) := by
  have D : Decidable (okB n x) := Classical.propDecidable _
  refine Mk.re fun Q hq => e_X12_word (c_X12_word_0 hA0 RO_rm hcs0 (t_areSome (d := d + 1) hA0 (h := setI h 68 0 0) hp.mp D) ?_)
  rintro y0 g ⟨rfl, rfl⟩
  refine c_X12_word_10 RO_rm hcs0 (fun _ => hq) (fun _ => t_isIn (d := d + 1)) ?_
  rintro c1 y0 g ⟨rfl, rfl⟩
  refine c_X12_word_20 (fun c2 => ?_) (fun _ => hq)
  have c2 := bt4 c2
  rcases c with c | c | c
  · exact absurd (is0 c) c1
  · exact absurd c c2.1
  · exact absurd (Int32.not_lt.mp c2.2) c
theorem t_word {x : Int32} {r : Nat} (hA0 : 91 ≤ nx) (hF : Fx h) (hp : InvP h n) (hg : Gr n (h.1 73)) (c : okB n x) (hr : r ≤ 20) : Mk X (d + 2) m_X12_word [.ref 68, .int x, .int (nI r)] h nx sz (RE (bl (h.1 73) n (full n) x r) (setI h 68 0 0)) := by
  have h20 := hp.2.1
  have D : Decidable (okB n x) := Classical.propDecidable _
  have hF0 : Fx (setI h 68 0 0) := hF
  refine Mk.re fun Q hq => e_X12_word (c_X12_word_0 hA0 RO_rm hcs0 (t_areSome (d := d + 1) hA0 (h := setI h 68 0 0) hp.mp D) ?_)
  rintro y0 g ⟨rfl, rfl⟩
  refine c_X12_word_10 RO_rm hcs0 (fun z => absurd z (ne0 c)) (fun _ => t_isIn (d := d + 1)) ?_
  rintro c1 y0 g ⟨rfl, rfl⟩
  have hb : ∀ r, r < 21 → ¬ nI r < 0 ∧ ¬ 20 < nI r := by decide
  refine c_X12_word_20 (fun _ => ?_) (fun z => absurd z (ne0 (hb r (by omega))))
  rw [← bl_mask (m := -1) hg.kb (fun j hj => tb_m1f (by omega) hj)] at hq
  have key : VM X m_X12_word (d + 2) nx sz Q 30 [some (.ref 68), none, some (.int (nI r)), some (.int (bl (h.1 73) n (-1) x 0)), some (.int (nI 0))] [] (setI h 68 0 0) := by
    refine down_ind (N := r) (P := fun i => VM X m_X12_word (d + 2) nx sz Q 30 [some (.ref 68), none, some (.int (nI r)), some (.int (bl (h.1 73) n (-1) x i)), some (.int (nI i))] [] (setI h 68 0 0)) ?_ (fun i hi q => ?_)
    · exact c_X12_word_30 (P40 := fun _ _ => False) hA0 RO_rm hcs0 (fun _ => hq) (fun c => absurd (Int32.le_refl _) c) (fun c => absurd (Int32.le_refl _) c)
    · refine c_X12_word_30 hA0 RO_rm hcs0 (fun c => ?_) (fun _ => t_around (d := d) (h := setI h 68 0 0) hA0 hF0 hp.mp) ?_
      · rw [le_nI (by omega) (by omega)] at c
        omega
      · rintro _ y g ⟨rfl, rfl⟩
        refine c_X12_word_43 ?_
        rw [nI_1, nm1]
        exact q
  exact key
-- out
theorem s_out_bad {x : Int32} (hA0 : 91 ≤ nx) (hF : Fx h) (hp : InvP h n) (c : ¬ okB n x) : Mk X (d + 1) m_X11_out [.ref 0, .int x] h nx sz (RE (-1) h) := by
  have D : Decidable (okB n x) := Classical.propDecidable _
  refine Mk.re fun Q hq => e_X11_out (c_X11_out_0 hA0 hF RO_rm hcs0 (s_hasBits2 (d := d) hA0 (hp.np net1) D) ?_)
  rintro y0 g ⟨rfl, rfl⟩
  exact c_X11_out_8 (P16 := fun _ _ => False) hA0 hF RO_rm hcs0 (fun _ => hq) (fun z => absurd (is0 c) z) (fun z => absurd (is0 c) z)
theorem s_out {x : Int32} (hA0 : 91 ≤ nx) (hF : Fx h) (hp : InvP h n) (c : okB n x) : Mk X (d + 2) m_X11_out [.ref 0, .int x] h nx sz (RE (nI (rds (h.1 2) n x)) h) := by
  have D : Decidable (okB n x) := Classical.propDecidable _
  refine Mk.re fun Q hq => e_X11_out (c_X11_out_0 hA0 hF RO_rm hcs0 (s_hasBits2 (d := d + 1) hA0 (hp.np net1) D) ?_)
  rintro y0 g ⟨rfl, rfl⟩
  refine c_X11_out_8 hA0 hF RO_rm hcs0 (fun z => absurd z (ne0 c)) (fun _ => s_roundsFrom (d := d) hA0 hF (hp.np net1)) ?_
  rintro _ y0 g ⟨rfl, rfl⟩
  exact c_X11_out_19 hq
theorem t_outFrom {x : Int32} (hA0 : 91 ≤ nx) (hF : Fx h) (hp : MP h n) (hg : Gr n (h.1 73)) (hx : ∀ j, tb x j = true → j < n) : Mk X (d + 2) m_X12_outFrom [.ref 68, .int x] h nx sz (RE (nI (rds (h.1 73) n x)) h) := by
  obtain ⟨h0, h2, h20⟩ := id hp
  refine Mk.re fun Q hq => e_X12_outFrom (c_X12_outFrom_0 ?_)
  have hm : ∀ k, bl (h.1 73) n (-1) x k = bl (h.1 73) n (full n) x k := bl_mask hg.kb (fun j hj => tb_m1f (by omega) hj)
  have hend := bl_end (m := full n) hg.kb hx
  refine down_ind (N := n) (P := fun k => (∀ j, j < k → bl (h.1 73) n (full n) x (j + 1) ≠ bl (h.1 73) n (full n) x j) → VM X m_X12_outFrom (d + 2) nx sz Q 4 [some (.ref 68), none, some (.int (bl (h.1 73) n (-1) x k)), some (.int (nI k)), none] [] h) (fun hno => ?_) (fun k hk q hno => ?_) (fun j hj => by omega)
  · exact absurd hend (hno (n - 1) (by omega))
  · refine c_X12_outFrom_4 hA0 RO_rm hcs0 (fun c => ?_) (fun _ => t_around (d := d + 0) hA0 hF hp) ?_
    · rw [h0, nI_ltI (by omega) (by omega)] at c
      omega
    · rintro _ y g ⟨rfl, rfl⟩
      rw [nm1]
      have e : bl (h.1 73) n (-1) x k ||| (arnd (h.1 73) (bl (h.1 73) n (-1) x k) n &&& (-1)) = bl (h.1 73) n (-1) x (k + 1) := rfl
      refine c_X12_outFrom_19 (fun c => ?_) (fun c => ?_)
      · rw [nI_1, e]
        rw [e] at c
        refine q (fun j hj => ?_)
        by_cases e2 : j = k
        · subst e2
          rw [hm, hm] at c
          exact c
        · exact hno j (by omega)
      · rw [e, hm, hm] at c
        have e3 : rds (h.1 73) n x = k := by
          unfold rds
          rw [fstp_some (k := k) (Nat.zero_le _) (by omega) (by simpa using c) (fun j _ hj => by simpa using hno j hj)]
          rfl
        rw [e3] at hq
        exact hq
theorem t_out_bad {x : Int32} (hA0 : 91 ≤ nx) (hp : InvP h n) (c : ¬ okB n x) : Mk X (d + 2) m_X12_out [.ref 68, .int x] h nx sz (RE (-1) (setI h 68 0 0)) := by
  have D : Decidable (okB n x) := Classical.propDecidable _
  refine Mk.re fun Q hq => e_X12_out (c_X12_out_0 hA0 RO_rm hcs0 (t_areSome (d := d + 1) hA0 (h := setI h 68 0 0) hp.mp D) ?_)
  rintro y0 g ⟨rfl, rfl⟩
  exact c_X12_out_10 (P15 := fun _ _ => False) hA0 RO_rm hcs0 (fun _ => hq) (fun z => absurd (is0 c) z) (fun z => absurd (is0 c) z)
theorem t_out {x : Int32} (hA0 : 91 ≤ nx) (hF : Fx h) (hp : InvP h n) (hg : Gr n (h.1 73)) (c : okB n x) : Mk X (d + 3) m_X12_out [.ref 68, .int x] h nx sz (RE (nI (rds (h.1 73) n x)) (setI h 68 0 0)) := by
  have D : Decidable (okB n x) := Classical.propDecidable _
  refine Mk.re fun Q hq => e_X12_out (c_X12_out_0 hA0 RO_rm hcs0 (t_areSome (d := d + 2) hA0 (h := setI h 68 0 0) hp.mp D) ?_)
  rintro y0 g ⟨rfl, rfl⟩
  refine c_X12_out_10 hA0 RO_rm hcs0 (fun z => absurd z (ne0 c)) (fun _ => t_outFrom (d := d) hA0 (h := setI h 68 0 0) hF hp.mp hg c.2) ?_
  rintro _ y0 g ⟨rfl, rfl⟩
  exact c_X12_out_18 hq
end OPS
