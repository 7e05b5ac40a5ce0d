/-! ring, fine -/
section OPS
variable {X : CX} {d nx sz : Nat} {h : AH} {n : Nat}
def okx (n : Nat) (x : Int32) : Prop := ∃ j, x = nI j ∧ okj n j
theorem half_nI {n : Nat} (hn : n ≤ 20) : nI n / 2 = nI (n / 2) ∧ (1 : Int32) <<< (((if nI n / 2 < 10 then nI n / 2 else 10) : Int32) &&& 31) = nI (2 ^ (min 10 (n / 2))) ∧ 2 ^ (min 10 (n / 2)) ≤ 1024 := by
  have : ∀ n, n < 21 → nI n / 2 = nI (n / 2) ∧ (1 : Int32) <<< (((if nI n / 2 < 10 then nI n / 2 else 10) : Int32) &&& 31) = nI (2 ^ (min 10 (n / 2))) ∧ 2 ^ (min 10 (n / 2)) ≤ 1024 := by decide
  exact this n (by omega)
theorem shr_0 {j m : Nat} (hm : m ≤ 10) : (nI j) >>> (nI m &&& 31) = 0 ↔ ∀ i, i < 32 - m → tb (nI j) (m + i) = false := by
  have e : ∀ i, i < 32 - m → tb ((nI j) >>> (nI m &&& 31)) i = tb (nI j) (m + i) := fun i hi => by
    have e1 : ((nI j) >>> (nI m &&& 31)).toBitVec = (nI j).toBitVec.sshiftRight m := by
      show (nI j).toBitVec.sshiftRight ((nI m &&& 31).toBitVec.smod 32).toNat = _
      rw [sh_amt (by omega)]
    unfold tb
    rw [e1, BitVec.getLsbD_sshiftRight]
    have a1 : ¬ 32 ≤ i := by omega
    have a2 : m + i < 32 := by omega
    simp [a1, a2]
  constructor
  · intro h i hi
    rw [← e i hi, h, tb_0]
  · intro h
    apply tb_ext
    intro i hi
    rw [tb_0]
    by_cases c : i < 32 - m
    · rw [e i c, h i c]
    · have e1 : ((nI j) >>> (nI m &&& 31)).toBitVec = (nI j).toBitVec.sshiftRight m := by
        show (nI j).toBitVec.sshiftRight ((nI m &&& 31).toBitVec.smod 32).toNat = _
        rw [sh_amt (by omega)]
      have h31 := h (31 - m) (by omega)
      rw [show m + (31 - m) = 31 by omega] at h31
      unfold tb at h31 ⊢
      rw [e1, BitVec.getLsbD_sshiftRight]
      have hmsb : (nI j).toBitVec.msb = false := by rw [BitVec.msb_eq_getLsbD_last]; exact h31
      have a2 : ¬ m + i < 32 := by omega
      simp [a2, hmsb]
theorem shr_lt {j m : Nat} (hm : m ≤ 10) (hj : j < 2 ^ 31) : (nI j) >>> (nI m &&& 31) = 0 ↔ j < 2 ^ m := by
  rw [shr_0 hm]
  constructor
  · intro h
    rw [← u_nI hj]
    refine u_tb.mp fun i hi => ?_
    by_cases c : i < 32
    · have := h (i - m) (by omega)
      rwa [show m + (i - m) = i by omega] at this
    · exact tb_32 (by omega)
  · intro h i hi
    exact u_tb.mpr (by rw [u_nI hj]; exact h) (m + i) (by omega)
theorem pow_min {j n : Nat} (hn : n ≤ 20) : j < 2 ^ (min 10 (n / 2)) ↔ j < 1024 ∧ j < 2 ^ (n / 2) := by
  have : min 10 (n / 2) = n / 2 := by omega
  rw [this]
  have h1 : 2 ^ (n / 2) ≤ 2 ^ 10 := Nat.pow_le_pow_right (by decide) (by omega)
  have h2 : (2 : Nat) ^ 10 = 1024 := by decide
  omega
theorem s_mayJump {x : Int32} (hA0 : 91 ≤ nx) (h0 : h.1 0 0 = nI n) (hn : n ≤ 20) (D : Decidable (okx n x)) : Mk X d m_X11_mayJump [.ref 0, .int x] h nx sz (RE (if okx n x then 1 else 0) h) := by
  obtain ⟨e1, -, -⟩ := half_nI hn
  refine Mk.re fun Q hq => e_X11_mayJump (c_X11_mayJump_0 hA0 (fun c => ?_) (fun c c1 c2 => ?_) (fun c c1 c2 => ?_) (fun c c1 => ?_))
  · rwa [if_neg] at hq
    rintro ⟨j, rfl, o1, o2⟩
    have := (pow_min hn).mp o2
    rw [nI_le0 (by omega)] at c
    omega
  · obtain ⟨j, j0, j1, rfl⟩ := pos_nI c
    rw [h0, e1, shr_lt (by omega) j1] at c2
    rwa [if_neg] at hq
    rintro ⟨i, i1, o1, o2⟩
    have := (pow_min hn).mp o2
    have := nI_inj j1 (by omega) i1
    omega
  · obtain ⟨j, j0, j1, rfl⟩ := pos_nI c
    rw [h0, e1, shr_lt (by omega) j1] at c2
    rw [show (1024 : Int32) = nI 1024 from rfl, nI_ltI (by omega) (by omega)] at c1
    rwa [if_pos ⟨j, rfl, j0, (pow_min hn).mpr ⟨c1, c2⟩⟩] at hq
  · rwa [if_neg] at hq
    rintro ⟨j, rfl, o1, o2⟩
    have := (pow_min hn).mp o2
    rw [show (1024 : Int32) = nI 1024 from rfl, nI_ltI (by omega) (by omega)] at c1
    omega
theorem t_areJumps {x : Int32} (hA0 : 91 ≤ nx) (hp : MP h n) (D : Decidable (okx n x)) : Mk X (d + 1) m_X12_areJumps [.ref 68, .int x] h nx sz (RE (if okx n x then 1 else 0) h) := by
  obtain ⟨h0, h2, hn⟩ := hp
  obtain ⟨-, e1, e2⟩ := half_nI hn
  refine Mk.re fun Q hq => e_X12_areJumps (c_X12_areJumps_0 (d := d) hA0 RO_rm hcs0 (fun c => ?_) (fun c c1 => ?_) (fun c c1 => ?_))
  · rwa [if_neg] at hq
    rintro ⟨j, rfl, o1, o2⟩
    rw [nI_le0 (by omega)] at c
    omega
  · obtain ⟨j, j0, j1, rfl⟩ := pos_nI c
    rw [h0, e1, le_nI (by omega) j1] at c1
    rwa [if_neg] at hq
    rintro ⟨i, i1, o1, o2⟩
    have := nI_inj j1 (by omega) i1
    omega
  · obtain ⟨j, j0, j1, rfl⟩ := pos_nI c
    rw [h0, e1, le_nI (by omega) j1] at c1
    rwa [if_pos ⟨j, rfl, j0, by omega⟩] at hq
theorem nI_back {p q n : Nat} (h : q ≤ p + n) : nI p - nI q + nI n = nI (p + n - q) := by
  rw [← nI_subN h, ← nI_add, Int32.sub_eq_add_neg, Int32.sub_eq_add_neg, Int32.add_assoc, Int32.add_comm (-nI q), ← Int32.add_assoc]
theorem nI_neg {p q : Nat} (hp : p < 20) (hq : q < 20) : nI p - nI q < 0 ↔ p < q := by
  have : ∀ p, p < 20 → ∀ q, q < 20 → (nI p - nI q < 0 ↔ p < q) := by decide +kernel
  exact this p hp q hq
theorem s_ringRow {J : Int32} {p : Nat} (hA0 : 91 ≤ nx) (h0 : h.1 0 0 = nI n) (h2 : 2 ≤ n) (hn : n ≤ 20) (hp : p < n) : Mk X d m_X11_ringRow [.ref 0, .int J, .int (nI p)] h nx sz (RE (rK n J p) h) := by
  refine Mk.re fun Q hq => e_X11_ringRow (c_X11_ringRow_0 ?_)
  have hM : rM n ≤ 10 ∧ rM n ≤ n - 1 ∧ (rM n = 10 ∨ rM n = n - 1) := by unfold rM; omega
  refine down_ind (N := rM n) (P := fun k => VM X m_X11_ringRow d nx sz Q 5 [some (.ref 0), some (.int J), some (.int (nI p)), some (.int (rrF n J p k)), some (.int (nI (k + 1))), none, none] [] h) ?_ (fun k hk q => ?_)
  · by_cases c10 : 10 < rM n + 1
    · have ex : 10 < nI (rM n + 1) := (nI_ltI (a := 10) (by decide) (by omega)).mpr c10
      exact c_X11_ringRow_5 hA0 (fun _ => hq) (fun c => absurd ex c) (fun c => absurd ex c) (fun c => absurd ex c) (fun c => absurd ex c) (fun c => absurd ex c) (fun c => absurd ex c)
    · have ex : h.1 0 0 ≤ nI (rM n + 1) := by rw [h0, le_nI (by omega) (by omega)]; omega
      exact c_X11_ringRow_5 hA0 (fun _ => hq) (fun _ _ => hq) (fun _ c => absurd ex c) (fun _ c => absurd ex c) (fun _ c => absurd ex c) (fun _ c => absurd ex c) (fun _ c => absurd ex c)
  · have e1 : nI (k + 1) - 1 = nI k := nI_sub1 (by omega)
    have m1 := md (x := p + (k + 1)) (n := n) (by omega)
    have m2 := md (x := p + n - (k + 1)) (n := n) (by omega)
    have yes : tb J k = true → rrF n J p (k + 1) = (rrF n J p k ||| bt ((p + (k + 1)) % n)) ||| bt ((p + n - (k + 1)) % n) := fun z => if_pos z
    refine c_X11_ringRow_5 hA0 (fun c => ?_) (fun _ c => ?_) (fun _ _ c => ?_) (fun _ _ c c1 c2 => ?_) (fun _ _ c c1 c2 => ?_) (fun _ _ c c1 c2 => ?_) (fun _ _ c c1 c2 => ?_)
    · rw [show (10 : Int32) = nI 10 from rfl, nI_ltI (by omega) (by omega)] at c
      omega
    · rw [h0, le_nI (by omega) (by omega)] at c
      omega
    · rw [e1, shr_eq0 (by omega)] at c
      rw [nI_1]
      have e : rrF n J p (k + 1) = rrF n J p k := if_neg (by rw [c]; decide)
      rw [e] at q
      exact q
    · rw [e1, shr_eq0 (by omega)] at c
      rw [h0, nI_add, le_nI (by omega) (by omega)] at c1
      rw [nI_neg (by omega) (by omega)] at c2
      rw [yes (by simpa using c)] at q
      rw [h0, nI_add, nI_subN c1, nI_back (by omega), bt_toInt32, bt_toInt32, nI_1]
      rw [show p + (k + 1) - n = (p + (k + 1)) % n by omega, show p + n - (k + 1) = (p + n - (k + 1)) % n by omega]
      exact q
    · rw [e1, shr_eq0 (by omega)] at c
      rw [h0, nI_add, le_nI (by omega) (by omega)] at c1
      rw [nI_neg (by omega) (by omega)] at c2
      rw [yes (by simpa using c)] at q
      rw [h0, nI_add, nI_subN c1, nI_subN (by omega), bt_toInt32, bt_toInt32, nI_1]
      rw [show p + (k + 1) - n = (p + (k + 1)) % n by omega, show p - (k + 1) = (p + n - (k + 1)) % n by omega]
      exact q
    · rw [e1, shr_eq0 (by omega)] at c
      rw [h0, nI_add, le_nI (by omega) (by omega)] at c1
      rw [nI_neg (by omega) (by omega)] at c2
      rw [yes (by simpa using c)] at q
      rw [h0, nI_add, nI_back (by omega), bt_toInt32, bt_toInt32, nI_1]
      rw [show bt (p + (k + 1)) = bt ((p + (k + 1)) % n) by congr 1; omega, show p + n - (k + 1) = (p + n - (k + 1)) % n by omega]
      exact q
    · rw [e1, shr_eq0 (by omega)] at c
      rw [h0, nI_add, le_nI (by omega) (by omega)] at c1
      rw [nI_neg (by omega) (by omega)] at c2
      rw [yes (by simpa using c)] at q
      rw [nI_add, nI_subN (by omega), bt_toInt32, bt_toInt32, nI_1]
      rw [show bt (p + (k + 1)) = bt ((p + (k + 1)) % n) by congr 1; omega, show p - (k + 1) = (p + n - (k + 1)) % n by omega]
      exact q
theorem setI_upto {a i : Nat} {f g : Nat → Int32} : setI (setA h a (upto i f g)) a i (f i) = setA h a (upto (i + 1) f g) := by
  rw [setI_A, setA_A, setA_self, upto_set]
theorem s_tieRing {J : Int32} {a : Nat} (hA0 : 91 ≤ nx) (hF : Fx h) (ha : IsNet a) (h0 : h.1 0 0 = nI n) (h2 : 2 ≤ n) (hn : n ≤ 20) : Mk X (d + 1) m_X11_tieRing [.ref 0, .ref a, .int J] h nx sz (RVE (setA h (a + 1) (upto n (rK n J) (h.1 (a + 1))))) := by
  have h0' : ∀ f, (setA h (a + 1) f).1 0 0 = nI n := fun f => by rw [setA_get_ne (by omega)]; exact h0
  have hF' : ∀ f, Fx (setA h (a + 1) f) := fun f => hF
  refine Mk.rv (g0 := setA h (a + 1) (upto n (rK n J) (h.1 (a + 1)))) fun Q hq => e_X11_tieRing (c_X11_tieRing_0 ?_)
  have key : VM X m_X11_tieRing (d + 1) nx sz Q 2 [some (.ref 0), some (.ref a), some (.int J), some (.int (nI 0))] [] (setA h (a + 1) (upto 0 (rK n J) (h.1 (a + 1)))) := by
    refine down_ind (N := n) (P := fun i => VM X m_X11_tieRing (d + 1) nx sz Q 2 [some (.ref 0), some (.ref a), some (.int J), some (.int (nI i))] [] (setA h (a + 1) (upto i (rK n J) (h.1 (a + 1))))) ?_ (fun i hi q => ?_)
    · have ex : (setA h (a + 1) (upto n (rK n J) (h.1 (a + 1)))).1 0 0 ≤ nI n := by rw [h0']; exact Int32.le_refl _
      exact c_X11_tieRing_2 (P18 := fun _ _ => False) hA0 (hF' _) ha RO_rm hcs0 (fun _ => hq) (fun c => absurd ex c) (fun c => absurd ex c)
    · refine c_X11_tieRing_2 hA0 (hF' _) ha RO_rm hcs0 (fun c => ?_) (fun _ => s_ringRow (d := d) hA0 (h0' _) h2 hn hi) ?_
      · rw [h0', le_nI (by omega) (by omega)] at c
        omega
      · rintro _ y g ⟨rfl, rfl⟩
        refine c_X11_tieRing_21 hA0 ha (vin (by omega) (by decide)) ?_
        rw [nI_1, tN (by omega), setI_upto]
        exact q
  rwa [upto_0, setA_id] at key
theorem t_ringOf {j : Nat} (hA0 : 91 ≤ nx) (hp : MP h n) (ok : okj n j) : Mk X (d + 1) m_X12_ringOf [.ref 68, .int (nI j)] h nx sz (RE (roF n (nI j) 10) h) := by
  obtain ⟨h0, h2, hn⟩ := hp
  refine Mk.re fun Q hq => e_X12_ringOf (c_X12_ringOf_0 ?_)
  refine down_ind (N := 10) (P := fun k => VM X m_X12_ringOf (d + 1) nx sz Q 4 [some (.ref 68), some (.int (nI j)), some (.int (roF n (nI j) k)), some (.int (nI (k + 1)))] [] h) ?_ (fun k hk q => ?_)
  · have ex : 10 < nI (10 + 1) := by decide
    exact c_X12_ringOf_4 (P15 := fun _ _ => False) RO_rm hcs0 (fun _ => hq) (fun c => absurd ex c) (fun c => absurd ex c)
  · have e1 : nI (k + 1) - 1 = nI k := nI_sub1 (by omega)
    refine c_X12_ringOf_4 RO_rm hcs0 (P15 := fun y g => y = (if tb (nI j) k = true then 1 else 0) ∧ h = g) (fun c => ?_) (fun _ => ?_) ?_
    · rw [show (10 : Int32) = nI 10 from rfl, nI_ltI (by omega) (by omega)] at c
      omega
    · rw [e1]
      exact t_has (d := d) (by omega)
    · rintro _ y g ⟨rfl, rfl⟩
      refine c_X12_ringOf_18 hA0 (fun c => ?_) (fun _ => ?_) (fun c => ?_)
      · have e : roF n (nI j) (k + 1) = roF n (nI j) k := if_neg (by rw [tb_n c]; decide)
        rw [e] at q
        rw [or_0, nI_1]
        exact q
      · rw [h0]
        have : ∀ n, n < 21 → 2 ≤ n → ¬ nI n = 0 := by decide
        exact this n (by omega) h2
      · have hk2 := tb_c c
        obtain ⟨o1, o2⟩ := okj_tb hn ok hk2
        have e : roF n (nI j) (k + 1) = roF n (nI j) k ||| (bt ((k + 1) % n) ||| bt (n - (k + 1))) := if_pos hk2
        rw [e] at q
        have er : nI (k + 1) - nI (k + 1) / nI n * nI n = nI ((k + 1) % n) := by
          have : ∀ n, n < 21 → ∀ k, k < 11 → 2 ≤ n → nI (k + 1) - nI (k + 1) / nI n * nI n = nI ((k + 1) % n) := by decide +kernel
          exact this n (by omega) k (by omega) h2
        rw [h0, er, nI_subN (by omega), bt_toInt32, bt_toInt32, nI_1]
        exact q
theorem t_layRing {B : Int32} (hA0 : 91 ≤ nx) (hF : Fx h) (hp : MP h n) : Mk X (d + 1) m_X12_layRing [.ref 68, .int B] h nx sz (RVE (setA h 73 (upto n (fun p => lrF n B p (n - 1)) (h.1 73)))) := by
  obtain ⟨h0, h2, hn⟩ := hp
  have h0' : ∀ f, (setA h 73 f).1 68 1 = nI n := fun f => h0
  have hF' : ∀ f, Fx (setA h 73 f) := fun f => hF
  refine Mk.rv (g0 := setA h 73 (upto n (fun p => lrF n B p (n - 1)) (h.1 73))) fun Q hq => e_X12_layRing (c_X12_layRing_0 ?_)
  have key : VM X m_X12_layRing (d + 1) nx sz Q 2 [some (.ref 68), some (.int B), some (.int (nI 0)), none] [] (setA h 73 (upto 0 (fun p => lrF n B p (n - 1)) (h.1 73))) := by
    refine down_ind (N := n) (P := fun i => VM X m_X12_layRing (d + 1) nx sz Q 2 [some (.ref 68), some (.int B), some (.int (nI i)), none] [] (setA h 73 (upto i (fun p => lrF n B p (n - 1)) (h.1 73)))) ?_ (fun i hi q => ?_)
    · have ex : (setA h 73 (upto n (fun p => lrF n B p (n - 1)) (h.1 73))).1 68 1 ≤ nI n := by rw [h0']; exact Int32.le_refl _
      exact c_X12_layRing_2 hA0 (hF' _) (fun _ => hq) (fun c => absurd ex c) (fun c => absurd ex c)
    · refine c_X12_layRing_2 hA0 (hF' _) (fun c => ?_) (fun _ => vin (by omega) (by decide)) (fun _ => ?_)
      · rw [h0', le_nI (by omega) (by omega)] at c
        omega
      · have key2 : VM X m_X12_layRing (d + 1) nx sz Q 19 [some (.ref 68), some (.int B), some (.int (nI i)), some (.int (nI (0 + 1)))] [] (setI (setA h 73 (upto i (fun p => lrF n B p (n - 1)) (h.1 73))) 73 i (lrF n B i 0)) := by
          refine down_ind (N := n - 1) (P := fun k => VM X m_X12_layRing (d + 1) nx sz Q 19 [some (.ref 68), some (.int B), some (.int (nI i)), some (.int (nI (k + 1)))] [] (setI (setA h 73 (upto i (fun p => lrF n B p (n - 1)) (h.1 73))) 73 i (lrF n B i k))) ?_ (fun k hk q2 => ?_)
          · have ex : (setI (setA h 73 (upto i (fun p => lrF n B p (n - 1)) (h.1 73))) 73 i (lrF n B i (n - 1))).1 68 1 ≤ nI (n - 1 + 1) := by
              rw [setI_b (by decide), h0', show n - 1 + 1 = n by omega]
              exact Int32.le_refl _
            refine c_X12_layRing_19 (d := d) (P29 := fun _ _ => False) hA0 RO_rm hcs0 (fun _ => ?_) (fun c => absurd ex c) (fun c => absurd ex c)
            rw [nI_1, setI_upto (f := fun p => lrF n B p (n - 1))]
            exact q
          · refine c_X12_layRing_19 hA0 RO_rm hcs0 (fun c => ?_) (fun _ => t_has (d := d) (by omega)) ?_
            · rw [setI_b (by decide), h0', le_nI (by omega) (by omega)] at c
              omega
            · rintro _ y g ⟨rfl, rfl⟩
              refine c_X12_layRing_32 hA0 hF (fun c => ?_) (fun _ => vin (by omega) (by decide)) (fun _ => ?_) (fun _ => vin (by omega) (by decide)) (fun c => ?_)
              · have e : lrF n B i (k + 1) = lrF n B i k := if_neg (by rw [tb_n c]; decide)
                rw [e] at q2
                rw [nI_1]
                exact q2
              · rw [setI_b (by decide), h0']
                have : ∀ n, n < 21 → 2 ≤ n → ¬ nI n = 0 := by decide
                exact this n (by omega) h2
              · have e : lrF n B i (k + 1) = lrF n B i k ||| bt ((i + (k + 1)) % n) := if_pos (tb_c c)
                rw [e] at q2
                have er : nI (i + (k + 1)) - nI (i + (k + 1)) / nI n * nI n = nI ((i + (k + 1)) % n) := by
                  have : ∀ n, n < 21 → ∀ k, k < 40 → 2 ≤ n → nI k - nI k / nI n * nI n = nI (k % n) := by decide +kernel
                  exact this n (by omega) (i + (k + 1)) (by omega) h2
                rw [setI_b (show 68 ≠ 73 by decide), h0', nI_add, er, bt_toInt32, nI_1, tN (by omega)]
                refine cast (congrArg (VM X m_X12_layRing (d + 1) nx sz Q 19 _ _) ?_) q2
                rw [setI_A, setI_A, setI_A, setA_A, setA_A, setA_A, setA_A, setA_self, setA_self]
                congr 1
                funext z
                by_cases ez : z = i <;> simp [ez]
        rw [tN (by omega)]
        exact key2
  rwa [upto_0, setA_id] at key
end OPS
