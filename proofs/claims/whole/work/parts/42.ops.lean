/-! all, mend -/
section OPS
variable {X : CX} {d nx sz : Nat} {h : AH} {n : Nat}
/-- the distance, or nothing -/
def dv (K : Nat → Int32) (n a b : Nat) : Nat := (dst K n (full n) a b).getD 0
def aG (K : Nat → Int32) (n a v : Nat) : Nat → Nat
  | 0 => v
  | b + 1 => max (aG K n a v b) (dv K n a b)
def aF (K : Nat → Int32) (n : Nat) : Nat → Nat
  | 0 => 0
  | a + 1 => aG K n a (aF K n a) a
theorem aG_le {K : Nat → Int32} {a v c : Nat} : ∀ {b : Nat}, aG K n a v b ≤ c ↔ v ≤ c ∧ ∀ j, j < b → dv K n a j ≤ c
  | 0 => by simp [aG]
  | b + 1 => by
    have ih := aG_le (K := K) (a := a) (v := v) (c := c) (b := b)
    show max _ _ ≤ c ↔ _
    rw [Nat.max_le, ih]
    constructor
    · rintro ⟨⟨h1, h2⟩, h3⟩
      refine ⟨h1, fun j hj => ?_⟩
      by_cases e : j = b
      · rw [e]; exact h3
      · exact h2 j (by omega)
    · rintro ⟨h1, h2⟩
      exact ⟨⟨h1, fun j hj => h2 j (by omega)⟩, h2 b (by omega)⟩
theorem aF_le {K : Nat → Int32} {c : Nat} : ∀ {m : Nat}, aF K n m ≤ c ↔ ∀ a, a < m → ∀ b, b < a → dv K n a b ≤ c
  | 0 => by simp [aF]
  | m + 1 => by
    have ih := aF_le (K := K) (c := c) (m := m)
    show aG K n m (aF K n m) m ≤ c ↔ _
    rw [aG_le, ih]
    constructor
    · rintro ⟨h1, h2⟩ a ha b hb
      by_cases e : a = m
      · rw [e]; exact h2 b (by omega)
      · exact h1 a (by omega) b hb
    · intro h1
      exact ⟨fun a ha b hb => h1 a (by omega) b hb, fun b hb => h1 m (by omega) b hb⟩
theorem mxN_lec {f : Nat → Nat} {c : Nat} : ∀ {n : Nat}, mxN f n ≤ c ↔ ∀ i, i < n → f i ≤ c
  | 0 => by simp [mxN]
  | n + 1 => by
    have ih := mxN_lec (f := f) (c := c) (n := n)
    have e : mxN f (n + 1) = max (mxN f n) (f n) := by
      show (if mxN f n < f n then f n else mxN f n) = _
      split <;> omega
    rw [e, Nat.max_le, ih]
    constructor
    · rintro ⟨h1, h2⟩ i hi
      by_cases e : i = n
      · rw [e]; exact h2
      · exact h1 i (by omega)
    · intro h1
      exact ⟨fun i hi => h1 i (by omega), h1 n (by omega)⟩
theorem rds_lec {K : Nat → Int32} {a c : Nat} (hK : KB K n) (h2 : 2 ≤ n) (hn : n ≤ 20) (ha : a < n) : rds K n (bt a) ≤ c ↔ ∀ b, b < n → dv K n a b ≤ c := by
  have hend := bl_end (m := full n) hK (bt_only ha hn)
  obtain ⟨r, hr⟩ : ∃ r, fstp (fun k => decide (bl K n (full n) (bt a) (k + 1) = bl K n (full n) (bt a) k)) 0 n = some r := by
    cases hq : fstp (fun k => decide (bl K n (full n) (bt a) (k + 1) = bl K n (full n) (bt a) k)) 0 n with
    | some r => exact ⟨r, rfl⟩
    | none =>
      have := fstp_spec0 hq (n - 1) (Nat.zero_le _) (by omega)
      rw [decide_eq_false_iff_not] at this
      exact absurd hend this
  have er : rds K n (bt a) = r := by unfold rds; rw [hr]; rfl
  obtain ⟨-, r1, r2, r3⟩ := fstp_spec hr
  have r2 := of_decide_eq_true r2
  have r4 : r ≤ n - 1 := Classical.byContradiction fun z => by omega
  rw [er]
  constructor
  · intro hc b hb
    unfold dv
    cases hd : dst K n (full n) a b with
    | none => exact Nat.zero_le _
    | some k =>
      show k ≤ c
      obtain ⟨k1, k2, k3⟩ := dst_iff.mp hd
      refine Classical.byContradiction fun z => k3 r (by omega) ?_
      have := bl_stop r2 (k - r)
      rw [show r + (k - r) = k by omega] at this
      have k2 : tb (bl K n (full n) (bt a) k) b = true := k2
      rw [this] at k2
      exact k2
  · intro hc
    cases r with
    | zero => exact Nat.zero_le _
    | succ r =>
      have hne := of_decide_eq_false (r3 r (Nat.zero_le _) (by omega))
      obtain ⟨b, hb, hb2⟩ := ne_bit hne
      have b0 : tb (bl K n (full n) (bt a) r) b = false := by
        cases hq : tb (bl K n (full n) (bt a) r) b with
        | false => rfl
        | true => exact absurd ((bl_mono1 hq).trans hq.symm) hb2
      have b1 : Wk K n (full n) (r + 1) a b := by
        show tb (bl K n (full n) (bt a) (r + 1)) b = true
        cases hq : tb (bl K n (full n) (bt a) (r + 1)) b with
        | true => rfl
        | false => exact absurd (hq.trans b0.symm) hb2
      have hbn := W_lt hK ha hn b1
      have e : dst K n (full n) a b = some (r + 1) := dst_iff.mpr ⟨by omega, b1, fun j hj w => by
        have w := W_mono (show j ≤ r by omega) w
        have w : tb (bl K n (full n) (bt a) r) b = true := w
        rw [b0] at w
        cases w⟩
      have := hc b hbn
      unfold dv at this
      rw [e] at this
      exact this
theorem aF_mx {K : Nat → Int32} (hg : Gr n K) (h2 : 2 ≤ n) (hn : n ≤ 20) : mxN (fun i => rds K n (bt i)) n = aF K n n := by
  have dvs : ∀ a b, a < n → b < n → dv K n a b = dv K n b a := fun a b ha hb => by
    unfold dv
    rw [dst_sym hg hn ha hb ((tb_fulln hn).mpr ha) ((tb_fulln hn).mpr hb)]
  have dv0 : ∀ a, a < n → dv K n a a = 0 := fun a ha => by
    unfold dv
    rw [dst_self (by omega) (by omega)]
    rfl
  apply Nat.le_antisymm
  · rw [mxN_lec]
    intro a ha
    rw [rds_lec hg.kb h2 hn ha]
    intro b hb
    have hle := aF_le.mp (Nat.le_refl (aF K n n))
    by_cases c : b < a
    · exact hle a ha b c
    · by_cases e : a = b
      · subst e
        rw [dv0 a ha]
        exact Nat.zero_le _
      · rw [dvs a b ha hb]
        exact hle b hb a (by omega)
  · rw [aF_le]
    intro a ha b hb
    have := mxN_lec.mp (Nat.le_refl (mxN (fun i => rds K n (bt i)) n)) a ha
    exact (rds_lec hg.kb h2 hn ha).mp this b (by omega)
theorem dv_lt {K : Nat → Int32} {a b : Nat} (h2 : 2 ≤ n) : dv K n a b < n := by
  unfold dv
  cases hd : dst K n (full n) a b with
  | none => show 0 < n; omega
  | some k => exact (dst_iff.mp hd).1
def allV (n : Nat) (K : Nat → Int32) (w : Int32) : Int32 := sw w (nI (aF K n n)) (nI (ptF K n n).2) (koF K n n) (smI (fun i => bc (K i)) n / 2) (nI (sm (fun i => sumD K n (full n) (full n) i) n)) (-1)
theorem s_all {w : Int32} (hA0 : 91 ≤ nx) (hF : Fx h) (hp : InvP h n) (hg : Gr n (h.1 2)) : Mk X (d + 4) m_X11_all [.ref 0, .int w] h nx sz (RE (allV n (h.1 2) w) h) := by
  have hP := hp.np net1
  have h20 := hp.2.1
  have h2 := hp.1
  refine Mk.re fun Q hq => ?_
  unfold allV at hq
  refine e_X11_all (c_X11_all_0 hA0 hF RO_rm hcs0 (fun c => by rwa [sw_z c] at hq) (fun _ => s_widest (d := d + 1) hA0 hF hP) ?_ (fun _ => s_parts (d := d + 1) hA0 hF hp) ?_ (fun _ => s_keyOnes (d := d) hA0 hF hp hg) ?_ (fun _ => s_tieCount (d := d + 1) hA0 hF hP) ?_ (fun _ => s_sums (d := d) hA0 hF hP) ?_)
  · rintro c y g ⟨rfl, rfl⟩
    rw [sw_0 c, ← aF_mx hg h2 h20] at hq
    exact c_X11_all_43 hq
  · rintro c y g ⟨rfl, rfl⟩
    rw [sw_1 c] at hq
    exact c_X11_all_51 hq
  · rintro c y g ⟨rfl, rfl⟩
    rw [sw_2 c] at hq
    exact c_X11_all_59 hq
  · rintro c y g ⟨rfl, rfl⟩
    rw [sw_3 c] at hq
    exact c_X11_all_67 hq
  · rintro c y g ⟨rfl, rfl⟩
    rw [sw_4 c] at hq
    exact c_X11_all_75 hq
theorem dstI_dv {K : Nat → Int32} {a b v : Nat} (hv : v < 100) (hn : n ≤ 20) (h2 : 2 ≤ n) : (if nI v < dstI K n (full n) a b then dstI K n (full n) a b else nI v) = nI (max v (dv K n a b)) := by
  have hl := dv_lt (K := K) (a := a) (b := b) h2
  unfold dstI dv at *
  cases hd : dst K n (full n) a b with
  | none =>
    rw [hd] at hl
    show (if nI v < -1 then -1 else nI v) = nI (max v 0)
    have : ∀ v, v < 100 → ¬ nI v < -1 := by decide
    rw [if_neg (this v hv), show max v 0 = v by omega]
  | some k =>
    rw [hd] at hl
    have hl : k < n := hl
    show (if nI v < nI k then nI k else nI v) = nI (max v k)
    by_cases c : v < k
    · rw [if_pos ((nI_ltI (by omega) (by omega)).mpr c), show max v k = k by omega]
    · rw [if_neg (fun z => c ((nI_ltI (by omega) (by omega)).mp z)), show max v k = v by omega]
theorem aG_lt {K : Nat → Int32} {a v b : Nat} (h2 : 2 ≤ n) (hv : v ≤ n) : aG K n a v b ≤ n := aG_le.mpr ⟨hv, fun j _ => Nat.le_of_lt (dv_lt h2)⟩
theorem aF_lt {K : Nat → Int32} {m : Nat} (h2 : 2 ≤ n) : aF K n m ≤ n := aF_le.mpr fun a _ b _ => Nat.le_of_lt (dv_lt h2)
theorem t_all46 {Q : Option Value → AH → Prop} (hA0 : 91 ≤ nx) (hF : Fx h) (hp : MP h n) (hg : Gr n (h.1 73)) (hq : Q (some (.int (nI (aF (h.1 73) n n)))) h) : VM X m_X12_all (d + 4) nx sz Q 46 [some (.ref 68), none, some (.int (nI 0)), some (.int (nI 0)), none] [] h := by
  obtain ⟨h0, h2, h20⟩ := id hp
  refine down_ind (N := n) (P := fun a => VM X m_X12_all (d + 4) nx sz Q 46 [some (.ref 68), none, some (.int (nI (aF (h.1 73) n a))), some (.int (nI a)), none] [] h) ?_ (fun a ha q => ?_)
  · have ex : h.1 68 1 ≤ nI n := by rw [h0]; exact Int32.le_refl _
    exact c_X12_all_46 hA0 (fun _ => hq) (fun c => absurd ex c)
  · refine c_X12_all_46 hA0 (fun c => ?_) (fun _ => ?_)
    · rw [h0, le_nI (by omega) (by omega)] at c
      omega
    · have key : VM X m_X12_all (d + 4) nx sz Q 57 [some (.ref 68), none, some (.int (nI (aG (h.1 73) n a (aF (h.1 73) n a) 0))), some (.int (nI a)), some (.int (nI 0))] [] h := by
        refine down_ind (N := a) (P := fun b => VM X m_X12_all (d + 4) nx sz Q 57 [some (.ref 68), none, some (.int (nI (aG (h.1 73) n a (aF (h.1 73) n a) b))), some (.int (nI a)), some (.int (nI b))] [] h) ?_ (fun b hb q2 => ?_)
        · refine c_X12_all_57 (d := d + 3) (P68 := fun _ _ => False) hA0 RO_rm hcs0 (fun _ => ?_) (fun c => absurd (Int32.le_refl _) c) (fun c => absurd (Int32.le_refl _) c)
          rw [nI_1]
          exact q
        · refine c_X12_all_57 hA0 RO_rm hcs0 (fun c => ?_) (fun _ => t_farOf (d := d + 1) hA0 hF hp ha (by omega)) ?_
          · rw [le_nI (by omega) (by omega)] at c
            omega
          · rintro _ y g ⟨rfl, rfl⟩
            refine c_X12_all_71 (d := d + 3) RO_rm hcs0 ?_
            have hv : aG (h.1 73) n a (aF (h.1 73) n a) b ≤ n := aG_lt h2 (aF_lt h2)
            rw [dstI_mask (m := -1) hg.kb (fun j hj => tb_m1f (n := n) (by omega) hj), dstI_dv (by omega) h20 h2, nI_1]
            exact q2
      exact key
theorem t_all96 {Q : Option Value → AH → Prop} (hA0 : 91 ≤ nx) (hF : Fx h) (hp : MP h n) (hg : Gr n (h.1 73)) (hq : Q (some (.int (koF (h.1 73) n n))) h) : VM X m_X12_all (d + 4) nx sz Q 96 [some (.ref 68), none, some (.int (koF (h.1 73) n 0)), some (.int (nI 0)), none] [] h := by
  obtain ⟨h0, h2, h20⟩ := id hp
  refine down_ind (N := n) (P := fun a => VM X m_X12_all (d + 4) nx sz Q 96 [some (.ref 68), none, some (.int (koF (h.1 73) n a)), some (.int (nI a)), none] [] h) ?_ (fun a ha q => ?_)
  · have ex : h.1 68 1 ≤ nI n := by rw [h0]; exact Int32.le_refl _
    exact c_X12_all_96 (d := d + 3) (P107 := fun _ _ => False) hA0 RO_rm hcs0 (fun _ => hq) (fun c => absurd ex c) (fun c => absurd ex c)
  · refine c_X12_all_96 hA0 RO_rm hcs0 (fun c => ?_) (fun _ => t_cutBy (d := d) hA0 hF hp hg ha) ?_
    · rw [h0, le_nI (by omega) (by omega)] at c
      omega
    · rintro _ y g ⟨rfl, rfl⟩
      have := cutN_lt (K := h.1 73) (p := a) h20
      refine c_X12_all_110 (fun c => ?_) (fun c => ?_)
      · rw [nI_le0 (by omega)] at c
        have e : koF (h.1 73) n (a + 1) = koF (h.1 73) n a := if_pos c
        rw [e] at q
        rw [or_0, nI_1]
        exact q
      · rw [nI_le0 (by omega)] at c
        have e : koF (h.1 73) n (a + 1) = koF (h.1 73) n a ||| bt a := if_neg c
        rw [e] at q
        rw [nI_1, bt_toInt32]
        exact q
theorem t_all137 {Q : Option Value → AH → Prop} (hA0 : 91 ≤ nx) (hF : Fx h) (hp : MP h n) (hg : Gr n (h.1 73)) (hq : Q (some (.int (nI (sm (fun i => sumD (h.1 73) n (full n) (full n) i) n)))) h) : VM X m_X12_all (d + 4) nx sz Q 137 [some (.ref 68), none, some (.int (nI (sm (fun i => sumD (h.1 73) n (full n) (full n) i) 0))), some (.int (nI 0)), none] [] h := by
  obtain ⟨h0, h2, h20⟩ := id hp
  refine down_ind (N := n) (P := fun a => VM X m_X12_all (d + 4) nx sz Q 137 [some (.ref 68), none, some (.int (nI (sm (fun i => sumD (h.1 73) n (full n) (full n) i) a))), some (.int (nI a)), none] [] h) ?_ (fun a ha q => ?_)
  · have ex : h.1 68 1 ≤ nI n := by rw [h0]; exact Int32.le_refl _
    exact c_X12_all_137 (d := d + 3) (P148 := fun _ _ => False) hA0 RO_rm hcs0 (fun _ => hq) (fun c => absurd ex c) (fun c => absurd ex c)
  · refine c_X12_all_137 hA0 RO_rm hcs0 (fun c => ?_) (fun _ => t_sumOf (d := d) hA0 hF hp ha) ?_
    · rw [h0, le_nI (by omega) (by omega)] at c
      omega
    · rintro _ y g ⟨rfl, rfl⟩
      refine c_X12_all_151 ?_
      rw [sumD_all hg.kb h20, nI_add, nI_1]
      exact q
theorem t_sumOfAll (hA0 : 91 ≤ nx) (hF : Fx h) (hp : MP h n) (hg : Gr n (h.1 73)) : Mk X (d + 4) m_X12_sumOfAll [.ref 68] h nx sz (RE (nI (sm (fun i => sumD (h.1 73) n (full n) (full n) i) n)) h) := by
  obtain ⟨h0, h2, h20⟩ := id hp
  refine Mk.re fun Q hq => e_X12_sumOfAll (c_X12_sumOfAll_0 ?_)
  refine down_ind (N := n) (P := fun a => VM X m_X12_sumOfAll (d + 4) nx sz Q 4 [some (.ref 68), some (.int (nI (sm (fun i => sumD (h.1 73) n (full n) (full n) i) a))), some (.int (nI a))] [] h) ?_ (fun a ha q => ?_)
  · have ex : h.1 68 1 ≤ nI n := by rw [h0]; exact Int32.le_refl _
    exact c_X12_sumOfAll_4 (d := d + 3) (P15 := fun _ _ => False) hA0 RO_rm hcs0 (fun _ => hq) (fun c => absurd ex c) (fun c => absurd ex c)
  · refine c_X12_sumOfAll_4 hA0 RO_rm hcs0 (fun c => ?_) (fun _ => t_sumOf (d := d) hA0 hF hp ha) ?_
    · rw [h0, le_nI (by omega) (by omega)] at c
      omega
    · rintro _ y g ⟨rfl, rfl⟩
      refine c_X12_sumOfAll_18 ?_
      rw [sumD_all hg.kb h20, nI_add, nI_1]
      exact q
theorem t_all {w : Int32} (hA0 : 91 ≤ nx) (hF : Fx h) (hp : InvP h n) (hg : Gr n (h.1 73)) : Mk X (d + 4) m_X12_all [.ref 68, .int w] h nx sz (RE (allV n (h.1 73) w) (setI h 68 0 0)) := by
  have hF0 : Fx (setI h 68 0 0) := hF
  have hp0 : MP (setI h 68 0 0) n := hp.mp
  refine Mk.re fun Q hq => ?_
  unfold allV at hq
  refine e_X12_all (c_X12_all_0 hA0 RO_rm hcs0 (fun c => by rwa [sw_z c] at hq) (fun c => ?_) (fun _ => t_partsNow (d := d) hA0 hF0 hp0 hg.kb) ?_ (fun c => ?_) (fun _ => t_ties (d := d + 2) hA0 hF0 hp0) ?_ (fun c => ?_))
  · rw [sw_0 c] at hq
    exact t_all46 hA0 hF0 hp0 hg hq
  · rintro c y g ⟨rfl, rfl⟩
    rw [sw_1 c] at hq
    exact c_X12_all_93 hq
  · rw [sw_2 c] at hq
    exact t_all96 hA0 hF0 hp0 hg hq
  · rintro c y g ⟨rfl, rfl⟩
    rw [sw_3 c] at hq
    exact c_X12_all_134 hq
  · rw [sw_4 c] at hq
    exact t_all137 hA0 hF0 hp0 hg hq
-- mend
/-- how many one may know more -/
def room (K L : Nat → Int32) (n i : Nat) : Nat := (L i).toNatClampNeg - cnt (K i) n
def roomOf (K L : Nat → Int32) (n : Nat) (b : Int32) : Nat := sm (fun i => if tb b i = true then room K L n i else 0) n
theorem room_nI {K L : Nat → Int32} (hL : Lm n K L) (hg : Gr n K) (hn : n ≤ 20) {i : Nat} (hi : i < n) : L i - bc (K i) = nI (room K L n i) := by
  obtain ⟨l, h1, h2, h3⟩ := hL i hi
  unfold room
  rw [hg.cnt hn i, h2, nI_subN h3, tN (by omega)]
theorem roomOf_lt {K L : Nat → Int32} {b : Int32} (hL : Lm n K L) (hn : n ≤ 20) : roomOf K L n b ≤ 180 := by
  have : roomOf K L n b ≤ n * 9 := sm_le fun i hi => by
    obtain ⟨l, h1, h2, h3⟩ := hL i hi
    unfold room
    rw [h2, tN (by omega)]
    split <;> omega
  have : n * 9 ≤ 20 * 9 := Nat.mul_le_mul_right _ hn
  omega
theorem s_roomOf {b : Int32} (hA0 : 91 ≤ nx) (hF : Fx h) (hP : InvP h n) (hg : Gr n (h.1 2)) (hL : Lm n (h.1 2) (h.1 3)) : Mk X (d + 2) m_X1_roomOf [.ref 20, .int b] h nx sz (RE (nI (roomOf (h.1 2) (h.1 3) n b)) h) := by
  obtain ⟨hn, h0, h1, h2, h20⟩ := hP.np net1
  refine Mk.re fun Q hq => e_X1_roomOf (c_X1_roomOf_0 ?_)
  refine down_ind (N := n) (P := fun i => VM X m_X1_roomOf (d + 2) nx sz Q 4 [some (.ref 20), some (.int b), some (.int (nI (sm (fun i => if tb b i = true then room (h.1 2) (h.1 3) n i else 0) i))), some (.int (nI i))] [] h) ?_ (fun i hi q => ?_)
  · have ex : h.1 1 0 ≤ nI n := by rw [h0]; exact Int32.le_refl _
    exact c_X1_roomOf_4 (d := d + 1) (P38 := fun _ _ => False) hA0 hF RO_rm hcs0 (fun _ => hq) (fun c => absurd ex c) (fun c => absurd ex c) (fun c => absurd ex c) (fun c => absurd ex c)
  · have e1 : sm (fun i => if tb b i = true then room (h.1 2) (h.1 3) n i else 0) (i + 1) = sm (fun i => if tb b i = true then room (h.1 2) (h.1 3) n i else 0) i + (if tb b i = true then room (h.1 2) (h.1 3) n i else 0) := rfl
    refine c_X1_roomOf_4 hA0 hF RO_rm hcs0 (fun c => ?_) (fun _ c => ?_) (fun _ _ => vin (by omega) (by decide)) (fun _ _ => s_degree (d := d) hA0 hF hn (by omega)) ?_
    · rw [h0, le_nI (by omega) (by omega)] at c
      omega
    · rw [shr_eq0 (by omega)] at c
      rw [e1, if_neg (by rw [c]; decide)] at q
      rw [nI_1]
      exact q
    · rintro _ c y g ⟨rfl, rfl⟩
      rw [shr_eq0 (by omega)] at c
      rw [e1, if_pos (by simpa using c)] at q
      refine c_X1_roomOf_41 ?_
      rw [tN (by omega), room_nI hL hg h20 hi, nI_add, nI_1]
      exact q
def mendV (K L : Nat → Int32) (n : Nat) : Int32 := if (ptF K n n).2 = 1 then 0 else if ∃ i, i < n ∧ roomOf K L n (rc K n (full n) i) = 0 then -1 else if 2 * ((ptF K n n).2 - 1) ≤ roomOf K L n (full n) then nI ((ptF K n n).2 - 1) else -1
theorem ptF_le {K : Nat → Int32} : ∀ {k : Nat}, (ptF K n k).2 ≤ k
  | 0 => Nat.le_refl _
  | k + 1 => by
    have := ptF_le (K := K) (k := k)
    unfold ptF
    split
    · omega
    · show _ + 1 ≤ _
      omega
theorem ptF_pos {K : Nat → Int32} : ∀ {k : Nat}, 1 ≤ (ptF K n (k + 1)).2
  | 0 => by
    unfold ptF
    rw [if_neg (by show ¬ tb 0 0 = true; rw [tb_0]; decide)]
    exact Nat.le_add_left _ _
  | k + 1 => by
    have := ptF_pos (K := K) (k := k)
    unfold ptF
    split
    · exact this
    · show 1 ≤ _ + 1
      omega
theorem s_mending (hA0 : 91 ≤ nx) (hF : Fx h) (hP : InvP h n) (hg : Gr n (h.1 2)) (hL : Lm n (h.1 2) (h.1 3)) (D : Decidable (∃ i, i < n ∧ roomOf (h.1 2) (h.1 3) n (rc (h.1 2) n (full n) i) = 0)) : Mk X (d + 3) m_X1_mending [.ref 20] h nx sz (RE (mendV (h.1 2) (h.1 3) n) h) := by
  obtain ⟨hn, h0, h1, h2, h20⟩ := hP.np net1
  have p1 : 1 ≤ (ptF (h.1 2) n n).2 := by
    obtain ⟨m, rfl⟩ : ∃ m, n = m + 1 := ⟨n - 1, by omega⟩
    exact ptF_pos
  have p2 := ptF_le (K := h.1 2) (n := n) (k := n)
  refine Mk.re fun Q hq => e_X1_mending (c_X1_mending_0 hA0 RO_rm hcs0 (s_parts (d := d) hA0 hF hP) ?_)
  rintro y g ⟨rfl, rfl⟩
  have e1 : nI (ptF (h.1 2) n n).2 - 1 = nI ((ptF (h.1 2) n n).2 - 1) := nI_subN (b := 1) p1
  refine c_X1_mending_4 (fun c => ?_) (fun c => ?_)
  · rw [e1] at c ⊢
    have c : ¬ (ptF (h.1 2) n n).2 = 1 := fun z => c (by rw [z]; rfl)
    unfold mendV at hq
    rw [if_neg c] at hq
    refine down_ind (N := n) (P := fun i => (∀ j, j < i → roomOf (h.1 2) (h.1 3) n (rc (h.1 2) n (full n) j) ≠ 0) → VM X m_X1_mending (d + 3) nx sz Q 15 [some (.ref 20), some (.int (nI ((ptF (h.1 2) n n).2 - 1))), some (.int (nI i))] [] h) (fun hno => ?_) (fun i hi q hno => ?_) (fun j hj => by omega)
    · have ex : h.1 1 0 ≤ nI n := by rw [h0]; exact Int32.le_refl _
      have hr := roomOf_lt (K := h.1 2) (b := full n) hL h20
      rw [if_neg (by rintro ⟨j, j1, j2⟩; exact hno j j1 j2)] at hq
      refine c_X1_mending_15 (P41 := fun _ _ => False) (P66 := fun y g => y = nI (roomOf (h.1 2) (h.1 3) n (full n)) ∧ h = g) hA0 hF RO_rm hcs0 (fun _ => ?_) ?_ (fun c => absurd ex c) (fun c => absurd ex c)
      · rw [h1]
        exact s_roomOf (d := d) hA0 hF hP hg hL
      rintro _ y g ⟨rfl, rfl⟩
      refine c_X1_mending_69 (fun c => ?_) (fun c => ?_)
      · rw [show (2 : Int32) = nI 2 from rfl, pk_mul, le_nI (by omega) (by omega)] at c
        rwa [if_pos c] at hq
      · rw [show (2 : Int32) = nI 2 from rfl, pk_mul, le_nI (by omega) (by omega)] at c
        rwa [if_neg c] at hq
    · have hr := roomOf_lt (K := h.1 2) (b := rc (h.1 2) n (full n) i) hL h20
      refine c_X1_mending_15 (P66 := fun _ _ => False) (P41 := fun y g => y = rc (h.1 2) n (full n) i ∧ h = g) hA0 hF RO_rm hcs0 (fun c => ?_) (fun c => ?_) (fun _ => ?_) ?_
      · rw [h0, le_nI (by omega) (by omega)] at c
        omega
      · rw [h0, le_nI (by omega) (by omega)] at c
        omega
      · rw [bt_toInt32]
        exact s_reach0 (d := d + 1) hA0 hF hP
      · rintro _ y g ⟨rfl, rfl⟩
        refine c_X1_mending_44 hA0 RO_rm hcs0 (s_roomOf (d := d) hA0 hF hP hg hL) ?_
        rintro y g ⟨rfl, rfl⟩
        refine c_X1_mending_47 (fun c => ?_) (fun c => ?_)
        · rw [nI_1]
          refine q fun j hj => ?_
          by_cases e : j = i
          · rw [e]
            exact fun z => c (by rw [z]; rfl)
          · exact hno j (by omega)
        · have c := nI_inj (b := 0) (by omega) (by decide) c
          rwa [if_pos ⟨i, hi, c⟩] at hq
  · rw [e1] at c
    have c := nI_inj (b := 0) (by omega) (by decide) c
    unfold mendV at hq
    rwa [if_pos (by omega)] at hq
theorem s_mend (hA0 : 91 ≤ nx) (hF : Fx h) (hP : InvP h n) (hg : Gr n (h.1 2)) (hL : Lm n (h.1 2) (h.1 3)) (D : Decidable (∃ i, i < n ∧ roomOf (h.1 2) (h.1 3) n (rc (h.1 2) n (full n) i) = 0)) : Mk X (d + 4) m_X11_mend [.ref 0] h nx sz (RE (mendV (h.1 2) (h.1 3) n) h) := by
  refine Mk.re fun Q hq => e_X11_mend (c_X11_mend_0 hA0 hF RO_rm hcs0 (s_mending (d := d) hA0 hF hP hg hL D) ?_)
  rintro y g ⟨rfl, rfl⟩
  exact c_X11_mend_7 hq
theorem ptF_iff {K : Nat → Int32} (hg : Gr n K) (hn : n ≤ 20) {j : Nat} : ∀ {k : Nat}, k ≤ n → (tb (ptF K n k).1 j = true ↔ ∃ i, i < k ∧ tb (rc K n (full n) i) j = true)
  | 0, _ => by simp [ptF, tb_0]
  | k + 1, hk => by
    have ih := ptF_iff hg hn (j := j) (k := k) (by omega)
    unfold ptF
    by_cases c : tb (ptF K n k).1 k = true
    · rw [if_pos c, ih]
      constructor
      · rintro ⟨i, h1, h2⟩
        exact ⟨i, by omega, h2⟩
      · rintro ⟨i, h1, h2⟩
        by_cases e : i = k
        · subst e
          obtain ⟨i', h3, h4⟩ := (ptF_iff hg hn (j := i) (k := i) (by omega)).mp c
          exact ⟨i', h3, rc_trans hg.kb hn (by omega) (by omega) h4 h2⟩
        · exact ⟨i, by omega, h2⟩
    · rw [if_neg c, tb_or, Bool.or_eq_true, ih]
      constructor
      · rintro (⟨i, h1, h2⟩ | h2)
        · exact ⟨i, by omega, h2⟩
        · exact ⟨k, by omega, h2⟩
      · rintro ⟨i, h1, h2⟩
        by_cases e : i = k
        · subst e
          exact Or.inr h2
        · exact Or.inl ⟨i, by omega, h2⟩
theorem pt_disj {K L : Nat → Int32} (hg : Gr n K) (hn : n ≤ 20) {k : Nat} (hk : k < n) (c : ¬ tb (ptF K n k).1 k = true) : roomOf K L n ((ptF K n k).1 ||| rc K n (full n) k) = roomOf K L n (ptF K n k).1 + roomOf K L n (rc K n (full n) k) := by
  unfold roomOf
  rw [← sm_add]
  refine sm_cong fun j hj => ?_
  rw [tb_or]
  cases h1 : tb (ptF K n k).1 j with
  | false => simp
  | true =>
    cases h2 : tb (rc K n (full n) k) j with
    | false => simp
    | true =>
      obtain ⟨i, h3, h4⟩ := (ptF_iff hg hn (by omega)).mp h1
      refine absurd ((ptF_iff hg hn (by omega)).mpr ⟨i, h3, rc_trans hg.kb hn (by omega) hj h4 (rc_sym hg hn hk hj ((tb_fulln hn).mpr hk) h2)⟩) c
theorem t_mend (hA0 : 91 ≤ nx) (hF : Fx h) (hP : InvP h n) (hg : Gr n (h.1 73)) (hL : Lm n (h.1 73) (h.1 75)) (D : Decidable (∃ i, i < n ∧ roomOf (h.1 73) (h.1 75) n (rc (h.1 73) n (full n) i) = 0)) : Mk X (d + 4) m_X12_mend [.ref 68] h nx sz (RE (mendV (h.1 73) (h.1 75) n) (setI h 68 0 0)) := by
  obtain ⟨h0, h2, h20⟩ := hP.mp
  have hF0 : Fx (setI h 68 0 0) := hF
  have hp0 : MP (setI h 68 0 0) n := hP.mp
  have h0' : (setI h 68 0 0).1 68 1 = nI n := h0
  have p1 : 1 ≤ (ptF (h.1 73) n n).2 := by
    obtain ⟨m, rfl⟩ : ∃ m, n = m + 1 := ⟨n - 1, by omega⟩
    exact ptF_pos
  have p2 := ptF_le (K := h.1 73) (n := n) (k := n)
  refine Mk.re fun Q hq => e_X12_mend (c_X12_mend_0 hA0 RO_rm hcs0 (t_partsNow (d := d) hA0 hF0 hp0 hg.kb) ?_)
  rintro y g ⟨rfl, rfl⟩
  rw [show (setI h 68 0 0).1 73 = h.1 73 from rfl]
  have e1 : nI (ptF (h.1 73) n n).2 - 1 = nI ((ptF (h.1 73) n n).2 - 1) := nI_subN (b := 1) p1
  refine c_X12_mend_9 (fun c => ?_) (fun c => ?_)
  · have c : ¬ (ptF (h.1 73) n n).2 = 1 := fun z => c (by rw [z]; rfl)
    unfold mendV at hq
    rw [if_neg c] at hq
    have key : VM X m_X12_mend (d + 4) nx sz Q 24 [some (.ref 68), some (.int (nI (ptF (h.1 73) n n).2)), some (.int (nI (roomOf (h.1 73) (h.1 75) n (ptF (h.1 73) n 0).1))), some (.int (ptF (h.1 73) n 0).1), some (.int (nI 0)), none, none, none] [] (setI h 68 0 0) := by
      refine down_ind (N := n) (P := fun i => (∀ j, j < i → roomOf (h.1 73) (h.1 75) n (rc (h.1 73) n (full n) j) ≠ 0) → VM X m_X12_mend (d + 4) nx sz Q 24 [some (.ref 68), some (.int (nI (ptF (h.1 73) n n).2)), some (.int (nI (roomOf (h.1 73) (h.1 75) n (ptF (h.1 73) n i).1))), some (.int (ptF (h.1 73) n i).1), some (.int (nI i)), none, none, none] [] (setI h 68 0 0)) (fun hno => ?_) (fun i hi q hno => ?_) (fun j hj => by omega)
      · have ex : (setI h 68 0 0).1 68 1 ≤ nI n := by rw [h0']; exact Int32.le_refl _
        have hr := roomOf_lt (K := h.1 73) (b := (ptF (h.1 73) n n).1) hL h20
        have ef : roomOf (h.1 73) (h.1 75) n (ptF (h.1 73) n n).1 = roomOf (h.1 73) (h.1 75) n (full n) := sm_cong fun j hj => by
          rw [(ptF_iff hg h20 (Nat.le_refl n)).mpr ⟨j, hj, rc_self (by omega)⟩, (tb_fulln h20).mpr hj]
        rw [if_neg (by rintro ⟨j, j1, j2⟩; exact hno j j1 j2), ← ef] at hq
        refine c_X12_mend_24 (d := d + 3) (P36 := fun _ _ => False) hA0 RO_rm hcs0 (fun _ c => ?_) (fun _ c => ?_) (fun c => absurd ex c) (fun c => absurd ex c)
        · rw [e1, show (2 : Int32) = nI 2 from rfl, pk_mul, le_nI (by omega) (by omega)] at c
          rw [e1]
          rwa [if_pos c] at hq
        · rw [e1, show (2 : Int32) = nI 2 from rfl, pk_mul, le_nI (by omega) (by omega)] at c
          rwa [if_neg c] at hq
      · refine c_X12_mend_24 hA0 RO_rm hcs0 (fun c => ?_) (fun c => ?_) (fun _ => t_has (d := d + 3) (by omega)) ?_
        · rw [h0', le_nI (by omega) (by omega)] at c
          omega
        · rw [h0', le_nI (by omega) (by omega)] at c
          omega
        rintro _ y g ⟨rfl, rfl⟩
        refine c_X12_mend_39 hA0 RO_rm hcs0 (fun _ => t_part0 (d := d + 1) hA0 hF0 hp0 hg.kb hi) ?_ (fun c => ?_)
        · rintro c y g ⟨rfl, rfl⟩
          rw [show (setI h 68 0 0).1 73 = h.1 73 from rfl]
          have c : ¬ tb (ptF (h.1 73) n i).1 i = true := by rw [tb_n c]; decide
          have ep : ptF (h.1 73) n (i + 1) = ((ptF (h.1 73) n i).1 ||| rc (h.1 73) n (full n) i, (ptF (h.1 73) n i).2 + 1) := if_neg c
          refine c_X12_mend_55 ?_
          have key2 : VM X m_X12_mend (d + 4) nx sz Q 65 [some (.ref 68), some (.int (nI (ptF (h.1 73) n n).2)), some (.int (nI (roomOf (h.1 73) (h.1 75) n (ptF (h.1 73) n i).1))), some (.int ((ptF (h.1 73) n i).1 ||| rc (h.1 73) n (full n) i)), some (.int (nI i)), some (.int (nI (sm (fun o => if tb (rc (h.1 73) n (full n) i) o = true then room (h.1 73) (h.1 75) n o else 0) 0))), some (.int (rc (h.1 73) n (full n) i)), some (.int (nI 0))] [] (setI h 68 0 0) := by
            refine down_ind (N := n) (P := fun o => VM X m_X12_mend (d + 4) nx sz Q 65 [some (.ref 68), some (.int (nI (ptF (h.1 73) n n).2)), some (.int (nI (roomOf (h.1 73) (h.1 75) n (ptF (h.1 73) n i).1))), some (.int ((ptF (h.1 73) n i).1 ||| rc (h.1 73) n (full n) i)), some (.int (nI i)), some (.int (nI (sm (fun o => if tb (rc (h.1 73) n (full n) i) o = true then room (h.1 73) (h.1 75) n o else 0) o))), some (.int (rc (h.1 73) n (full n) i)), some (.int (nI o))] [] (setI h 68 0 0)) ?_ (fun o ho q2 => ?_)
            · have ex : (setI h 68 0 0).1 68 1 ≤ nI n := by rw [h0']; exact Int32.le_refl _
              have hr := roomOf_lt (K := h.1 73) (b := rc (h.1 73) n (full n) i) hL h20
              refine c_X12_mend_65 (d := d + 3) (P80 := fun _ _ => False) hA0 RO_rm hcs0 (fun _ c1 => ?_) (fun _ c1 => ?_) (fun c => absurd ex c) (fun c => absurd ex c)
              · rw [nI_add, nI_1]
                have c1 : ¬ roomOf (h.1 73) (h.1 75) n (rc (h.1 73) n (full n) i) = 0 := fun z => c1 (congrArg nI z)
                have q := q fun j hj => by
                  by_cases e : j = i
                  · rw [e]; exact c1
                  · exact hno j (by omega)
                rw [ep] at q
                have ed := pt_disj (L := h.1 75) hg h20 hi c
                rw [ed] at q
                exact q
              · have c1 : roomOf (h.1 73) (h.1 75) n (rc (h.1 73) n (full n) i) = 0 := nI_inj (b := 0) (by omega) (by decide) c1
                rwa [if_pos ⟨i, hi, c1⟩] at hq
            · have e2 : sm (fun o => if tb (rc (h.1 73) n (full n) i) o = true then room (h.1 73) (h.1 75) n o else 0) (o + 1) = sm (fun o => if tb (rc (h.1 73) n (full n) i) o = true then room (h.1 73) (h.1 75) n o else 0) o + (if tb (rc (h.1 73) n (full n) i) o = true then room (h.1 73) (h.1 75) n o else 0) := rfl
              refine c_X12_mend_65 hA0 RO_rm hcs0 (fun c => ?_) (fun c => ?_) (fun _ => t_has (d := d + 3) (by omega)) ?_
              · rw [h0', le_nI (by omega) (by omega)] at c
                omega
              · rw [h0', le_nI (by omega) (by omega)] at c
                omega
              rintro _ y g ⟨rfl, rfl⟩
              refine c_X12_mend_83 hA0 hF0 RO_rm hcs0 (fun c1 => ?_) (fun _ => vin (by omega) (by decide)) (fun _ => t_many (d := d + 2) hA0 hF0 (by omega)) ?_
              · rw [e2, if_neg (by rw [tb_n c1]; decide)] at q2
                rw [nI_1, show (0 : Int32) = nI 0 from rfl, nI_add]
                exact q2
              · rintro c1 y g ⟨rfl, rfl⟩
                rw [e2, if_pos (tb_c c1)] at q2
                refine c_X12_mend_99 ?_
                have er := room_nI hL hg h20 ho
                rw [tN (by omega), show (setI h 68 0 0).1 75 o - bc ((setI h 68 0 0).1 73 o) = nI (room (h.1 73) (h.1 75) n o) from er, nI_add, nI_1]
                exact q2
          exact key2
        · have c := tb_c c
          have ep : ptF (h.1 73) n (i + 1) = ptF (h.1 73) n i := if_pos c
          rw [ep] at q
          rw [nI_1]
          refine q fun j hj => ?_
          by_cases e : j = i
          · subst e
            obtain ⟨i', h3, h4⟩ := (ptF_iff hg h20 (by omega)).mp c
            rw [← rc_same hg h20 (by omega) hi ((tb_fulln h20).mpr (by omega)) ((tb_fulln h20).mpr hi) h4]
            exact hno i' h3
          · exact hno j (by omega)
    have ez : roomOf (h.1 73) (h.1 75) n (ptF (h.1 73) n 0).1 = 0 := sm_zero fun j _ => if_neg (by show ¬ tb 0 j = true; rw [tb_0]; decide)
    rw [ez] at key
    exact key
  · have c := nI_inj (b := 1) (by omega) (by decide) c
    unfold mendV at hq
    rwa [if_pos c] at hq
end OPS
