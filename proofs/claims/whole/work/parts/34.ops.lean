/-! value, need -/
section OPS
variable {X : CX} {d nx sz : Nat} {h : AH} {n : Nat}
/-- what one far so many steps is worth -/
def vAt (K : Nat → Int32) (n p : Nat) (M : Nat → Nat) (b : Nat) : Nat := match dst K n (full n) p b with
  | some k => M b / 2 ^ (k - 1)
  | none => 0
def vN (K : Nat → Int32) (n p : Nat) (M : Nat → Nat) : Nat := sm (vAt K n p M) n
theorem shr_nI {m k : Nat} (hm : m ≤ 99) (hk : k ≤ 19) : (nI m) >>> (nI k &&& 31) = nI (m / 2 ^ k) := by
  have : ∀ m, m < 100 → ∀ k, k < 20 → (nI m) >>> (nI k &&& 31) = nI (m / 2 ^ k) := by decide +kernel
  exact this m (by omega) k (by omega)
theorem nI_sub1 {k : Nat} (hk : k < 2 ^ 31 - 1) : nI (k + 1) - 1 = nI k := by
  rw [← nI_1]
  exact Int32.add_sub_cancel _ _
def NeedS (h : AH) (n p : Nat) (M : Nat → Nat) : Prop := (∀ b, b < n → M b ≤ 99 ∧ h.1 (42 + p) b = nI (M b) ∧ tb (h.1 62 p) b = decide (0 < M b) ∧ (0 < M b → p ≠ b)) ∧ ∀ b, tb (h.1 62 p) b = true → b < n
def NeedT (h : AH) (n p : Nat) (M : Nat → Nat) : Prop := ∀ b, b < n → M b ≤ 99 ∧ h.1 83 (20 * p + b) = nI (M b) ∧ (0 < M b → p ≠ b)
theorem kd_much {p : Nat} (hp : p < 20) : kd X (42 + p) = (20, 20) ∧ R0 41 p = some (42 + p) := by
  have : ∀ p, p < 20 → kd0 (42 + p) = (20, 20) ∧ R0 41 p = some (42 + p) := by decide
  exact ⟨(kd_ne (by omega)).trans (this p hp).1, (this p hp).2⟩
theorem s_valueAmong {p k : Nat} {o : Int32} {M : Nat → Nat} (hA0 : 91 ≤ nx) (hF : Fx h) (hP : NP h 1 n) (hp : p < n) (hk : k ≤ 19) (hM : NeedS h n p M) : Mk X d m_X2_valueAmong [.ref 40, .int (nI p), .int o, .int (nI k)] h nx sz (RE (nI (sm (fun i => if tb o i = true then M i / 2 ^ k else 0) n)) h) := by
  obtain ⟨hn, h0, h1, h2, h20⟩ := id hP
  obtain ⟨hk1, hk2⟩ := kd_much (X := X) (p := p) (by omega)
  refine Mk.re fun Q hq => e_X2_valueAmong (c_X2_valueAmong_0 ?_)
  refine down_ind (N := n) (P := fun i => VM X m_X2_valueAmong d nx sz Q 6 [some (.ref 40), some (.int (nI p)), some (.int o), some (.int (nI k)), some (.int (nI (sm (fun i => if tb o i = true then M i / 2 ^ k else 0) i))), some (.int (nI i))] [] h) ?_ (fun i hi q => ?_)
  · have ex : h.1 1 0 ≤ nI n := by rw [h0]; exact Int32.le_refl _
    exact c_X2_valueAmong_6 hA0 hF hk1 (by omega) (fun _ => hq) (fun c => absurd ex c) (fun c => absurd ex c) (fun c => absurd ex c) (fun c => absurd ex c) (fun c => absurd ex c) (fun c => absurd ex c)
  · refine c_X2_valueAmong_6 hA0 hF hk1 (by omega) (fun c => ?_) (fun _ c => ?_) (fun _ _ c => ?_) (fun _ _ _ => vin (by omega) (by decide)) (fun _ _ _ => ?_) (fun _ _ _ => vin (by omega) (by decide)) (fun _ _ c => ?_)
    · rw [h0, le_nI (by omega) (by omega)] at c
      omega
    · subst c
      have z : ∀ i, sm (fun i => if tb 0 i = true then M i / 2 ^ k else 0) i = 0 := by
        intro i
        induction i with
        | zero => rfl
        | succ i ih =>
          show sm _ i + (if tb 0 i = true then M i / 2 ^ k else 0) = 0
          rw [ih, tb_0]
          rfl
      rw [z] at hq ⊢
      exact hq
    · rw [shr_eq0 (by omega)] at c
      rw [nI_1]
      have e : sm (fun i => if tb o i = true then M i / 2 ^ k else 0) (i + 1) = sm (fun i => if tb o i = true then M i / 2 ^ k else 0) i := by
        show sm _ i + (if tb o i = true then M i / 2 ^ k else 0) = _
        rw [c]
        rfl
      rw [e] at q
      exact q
    · rw [tN (by omega)]
      exact hF 41 p _ hk2
    · rw [shr_eq0 (by omega)] at c
      obtain ⟨m1, m2, -, -⟩ := hM.1 i hi
      rw [nI_1, tN (by omega), m2, shr_nI m1 hk, nI_add]
      have e : sm (fun i => if tb o i = true then M i / 2 ^ k else 0) (i + 1) = sm (fun i => if tb o i = true then M i / 2 ^ k else 0) i + M i / 2 ^ k := by
        show sm _ i + (if tb o i = true then M i / 2 ^ k else 0) = _
        rw [if_pos (by simpa using c)]
      rw [e] at q
      exact q
theorem sm_zero {f : Nat → Nat} : ∀ {n : Nat}, (∀ i, i < n → f i = 0) → sm f n = 0
  | 0, _ => rfl
  | n + 1, h => by
    show sm f n + f n = 0
    rw [sm_zero (n := n) (fun i hi => h i (by omega)), h n (by omega)]
theorem vN_0 {K : Nat → Int32} {p : Nat} {M : Nat → Nat} (hn : n ≤ 20) (hp : p < n) (hM : M p = 0) : sm (fun b => if tb (bl K n (full n) (bt p) 0) b = true then vAt K n p M b else 0) n = 0 := by
  refine sm_zero fun b hb => ?_
  split
  next c =>
    have c : tb (bt p) b = true := c
    rw [tb_bt (by omega)] at c
    have c : p = b := by simpa using c
    subst c
    unfold vAt
    rw [hM]
    split <;> simp
  next => rfl
theorem vN_step {K : Nat → Int32} {p k : Nat} {M : Nat → Nat} {w : Int32} (hw : ∀ b, b < n → tb w b = decide (0 < M b)) (hk : k + 1 < n) : sm (fun b => if tb (bl K n (full n) (bt p) k) b = true then vAt K n p M b else 0) n + sm (fun i => if tb (fro K n (full n) (bt p) (k + 1) &&& w) i = true then M i / 2 ^ k else 0) n = sm (fun b => if tb (bl K n (full n) (bt p) (k + 1)) b = true then vAt K n p M b else 0) n := by
  rw [← sm_add]
  refine sm_cong fun b hb => ?_
  rw [tb_and, hw b hb]
  cases h0 : tb (bl K n (full n) (bt p) k) b with
  | true =>
    have h1 := bl_mono1 h0
    have h2 : tb (fro K n (full n) (bt p) (k + 1)) b = false := by
      cases hq : tb (fro K n (full n) (bt p) (k + 1)) b with
      | false => rfl
      | true =>
        have := ((tb_fro _ _).mp hq).2 k rfl
        rw [h0] at this
        cases this
    simp [h1, h2]
  | false =>
    cases h1 : tb (bl K n (full n) (bt p) (k + 1)) b with
    | true =>
      have h2 : tb (fro K n (full n) (bt p) (k + 1)) b = true := by
        refine (tb_fro _ _).mpr ⟨h1, fun k' e => ?_⟩
        have : k' = k := by omega
        subst this
        exact h0
      have h3 : vAt K n p M b = M b / 2 ^ k := by unfold vAt; rw [dst_fro hk h2]; rfl
      rw [h2, h3]
      by_cases hm : 0 < M b
      · simp [hm]
      · have : M b = 0 := by omega
        simp [this]
    | false =>
      have h2 : tb (fro K n (full n) (bt p) (k + 1)) b = false := by
        cases hq : tb (fro K n (full n) (bt p) (k + 1)) b with
        | false => rfl
        | true =>
          have := ((tb_fro _ _).mp hq).1
          rw [h1] at this
          cases this
      simp [h2]
theorem vN_end {K : Nat → Int32} {p k : Nat} {M : Nat → Nat} (hs : ∀ b, b < n → tb (bl K n (full n) (bt p) k) b = false → M b = 0 ∨ dst K n (full n) p b = none) : sm (fun b => if tb (bl K n (full n) (bt p) k) b = true then vAt K n p M b else 0) n = vN K n p M := by
  refine sm_cong fun b hb => ?_
  cases h0 : tb (bl K n (full n) (bt p) k) b with
  | true => rfl
  | false =>
    show 0 = vAt K n p M b
    rcases hs b hb h0 with e | e
    · unfold vAt
      rw [e]
      split <;> simp
    · unfold vAt
      rw [e]
theorem s_valueOf {p : Nat} {M : Nat → Nat} (hA0 : 91 ≤ nx) (hF : Fx h) (hP : NP h 1 n) (hp : p < n) (hM : NeedS h n p M) : Mk X (d + 1) m_X2_valueOf [.ref 40, .int (nI p)] h nx sz (RE (nI (vN (h.1 2) n p M)) h) := by
  obtain ⟨hn, h0, h1, h2, h20⟩ := id hP
  refine Mk.re fun Q hq => e_X2_valueOf (c_X2_valueOf_0 ?_)
  rw [bt_toInt32]
  have mp : M p = 0 := Classical.byContradiction fun c => (hM.1 p hp).2.2.2 (by omega) rfl
  have key : VM X m_X2_valueOf (d + 1) nx sz Q 12 [some (.ref 40), some (.int (nI p)), some (.int (bl (h.1 2) n (full n) (bt p) 0)), some (.int (fro (h.1 2) n (full n) (bt p) 0)), some (.int (nI (sm (fun b => if tb (bl (h.1 2) n (full n) (bt p) 0) b = true then vAt (h.1 2) n p M b else 0) n))), some (.int (nI (0 + 1)))] [] h := by
    refine down_ind (N := n - 1) (P := fun k => VM X m_X2_valueOf (d + 1) nx sz Q 12 [some (.ref 40), some (.int (nI p)), some (.int (bl (h.1 2) n (full n) (bt p) k)), some (.int (fro (h.1 2) n (full n) (bt p) k)), some (.int (nI (sm (fun b => if tb (bl (h.1 2) n (full n) (bt p) k) b = true then vAt (h.1 2) n p M b else 0) n))), some (.int (nI (k + 1)))] [] h) ?_ (fun k hk q => ?_)
    · have ex : h.1 1 0 ≤ nI (n - 1 + 1) := by rw [h0, show n - 1 + 1 = n by omega]; exact Int32.le_refl _
      rw [vN_end (fun b _ c => Or.inr (dst_none (k := n - 1) (fun j h1 h2 => by rw [show j = n - 1 by omega]) c))]
      exact c_X2_valueOf_12 (P60 := fun _ _ => False) hA0 hF RO_rm hcs0 (fun _ => hq) (fun c => absurd ex c) (fun c => absurd ex c) (fun c => absurd ex c) (fun c => absurd ex c) (fun c => absurd ex c)
    · refine c_X2_valueOf_12 hA0 hF RO_rm hcs0 (fun c => ?_) (fun _ c => ?_) (fun _ _ => vin (by omega) (by decide)) (fun _ _ _ => s_around (d := d) hA0 hF hP) ?_ (fun _ _ c => ?_)
      · rw [h0, le_nI (by omega) (by omega)] at c
        omega
      · rw [vN_end (fun b _ c1 => Or.inr (dst_none (fun j h1 h2 => fro_stop c h1) c1))]
        exact hq
      · rintro _ _ _ y g ⟨rfl, rfl⟩
        refine c_X2_valueOf_63 hA0 hF RO_rm hcs0 (vin (by omega) (by decide)) (P80 := fun y g => y = nI (sm (fun i => if tb (fro (h.1 2) n (full n) (bt p) (k + 1) &&& h.1 62 p) i = true then M i / 2 ^ k else 0) n) ∧ h = g) ?_ ?_
        · rw [h1, tN (by omega), nI_sub1 (by omega)]
          exact s_valueAmong (d := d) hA0 hF hP hp (by omega) hM
        · rintro y g ⟨rfl, rfl⟩
          refine c_X2_valueOf_83 ?_
          rw [h1, nI_1, nI_add, vN_step (fun b hb => (hM.1 b hb).2.2.1) (by omega)]
          have e : arnd (h.1 (1 + 1)) (fro (h.1 2) n (full n) (bt p) k) n &&& (full n &&& (bl (h.1 2) n (full n) (bt p) k ^^^ (-1))) = fro (h.1 2) n (full n) (bt p) (k + 1) := rfl
          rw [e, bl_fro]
          exact q
      · rw [tN (by omega)] at c
        rw [vN_end (fun b hb c1 => Or.inl ?_)]
        · exact hq
        · refine Classical.byContradiction fun c2 => ?_
          have : tb (h.1 62 p &&& (bl (h.1 2) n (full n) (bt p) k ^^^ (-1))) b = true := by
            rw [tb_and, tb_not (by omega), c1, (hM.1 b hb).2.2.1]
            simp
            omega
          rw [c, tb_0] at this
          cases this
  rw [vN_0 h20 hp mp] at key
  exact key
theorem t_valueOf {p : Nat} {M : Nat → Nat} (hA0 : 91 ≤ nx) (hF : Fx h) (hP : MP h n) (hK : KB (h.1 73) n) (hp : p < n) (hM : NeedT h n p M) : Mk X (d + 3) m_X12_valueOf [.ref 68, .int (nI p)] h nx sz (RE (nI (vN (h.1 73) n p M)) h) := by
  obtain ⟨h0, h2, h20⟩ := id hP
  refine Mk.re fun Q hq => e_X12_valueOf (c_X12_valueOf_0 ?_)
  refine down_ind (N := n) (P := fun i => VM X m_X12_valueOf (d + 3) nx sz Q 4 [some (.ref 68), some (.int (nI p)), some (.int (nI (sm (vAt (h.1 73) n p M) i))), some (.int (nI i)), none, none] [] h) ?_ (fun i hi q => ?_)
  · have ex : h.1 68 1 ≤ nI n := by rw [h0]; exact Int32.le_refl _
    exact c_X12_valueOf_4 (P33 := fun _ _ => False) hA0 hF RO_rm hcs0 (fun _ => hq) (fun c => absurd ex c) (fun c => absurd ex c) (fun c => absurd ex c) (fun c => absurd ex c)
  · obtain ⟨m1, m2, m3⟩ := hM i hi
    have e20 : (20 : Int32) = nI 20 := by decide
    have ei : (20 * nI p) + nI i = nI (20 * p + i) := by rw [e20, pk_mul, nI_add]
    have e1 : sm (vAt (h.1 73) n p M) (i + 1) = sm (vAt (h.1 73) n p M) i + vAt (h.1 73) n p M i := rfl
    refine c_X12_valueOf_4 hA0 hF RO_rm hcs0 (fun c => ?_) (fun _ => ?_) (fun _ c => ?_) (fun _ c => t_farOf (d := d) hA0 hF hP hp hi) ?_
    · rw [h0, le_nI (by omega) (by omega)] at c
      omega
    · rw [ei]
      exact vin (by omega) (by decide)
    · rw [ei, tN (by omega), m2, show (0 : Int32) = nI 0 from rfl, le_nI (by omega) (by omega)] at c
      rw [show (0 : Int32) = nI 0 from rfl, nI_add, nI_1]
      have : vAt (h.1 73) n p M i = 0 := by
        unfold vAt
        rw [show M i = 0 by omega]
        split <;> simp
      rw [e1, this] at q
      exact q
    · rintro _ c y g ⟨rfl, rfl⟩
      rw [ei, tN (by omega), m2] at c ⊢
      rw [show (0 : Int32) = nI 0 from rfl, le_nI (by omega) (by omega)] at c
      have em := dstI_mask (m := -1) hK (fun j hj => tb_m1f (n := n) (by omega) hj) p i
      have hdd := dstI_N (K := h.1 73) (m := full n) (a := p) (b := i) h20
      rw [em]
      refine c_X12_valueOf_36 (fun c1 => ?_) (fun c1 => ?_)
      · rcases hdd with ⟨e, -⟩ | ⟨e, hlt, -⟩
        · exact absurd e c1
        · cases hd : dst (h.1 73) n (full n) p i with
          | none => unfold dstI at c1; rw [hd] at c1; exact absurd rfl c1
          | some k =>
            have ek : dstN (h.1 73) n (full n) p i = k := by unfold dstN; rw [hd]; rfl
            have hkp : 0 < k := by
              refine Classical.byContradiction fun z => ?_
              have z : k = 0 := by omega
              have := (fstp_spec hd).2.2.1
              subst z
              have : tb (bt p) i = true := this
              rw [tb_bt (by omega)] at this
              exact m3 (by omega) (by simpa using this)
            obtain ⟨j, rfl⟩ : ∃ j, k = j + 1 := ⟨k - 1, by omega⟩
            rw [e, ek, nI_sub1 (by omega), shr_nI m1 (by omega), nI_1, nI_add]
            have : vAt (h.1 73) n p M i = M i / 2 ^ j := by unfold vAt; rw [hd]; rfl
            rw [e1, this] at q
            exact q
      · rw [show (0 : Int32) = nI 0 from rfl, nI_add, nI_1]
        have : vAt (h.1 73) n p M i = 0 := by
          rcases hdd with ⟨e, -⟩ | ⟨-, -, e⟩
          · unfold vAt
            cases hd : dst (h.1 73) n (full n) p i with
            | none => rfl
            | some k =>
              unfold dstI at e
              rw [hd] at e
              have h1 : ∀ k, k < 20 → nI k ≠ -1 := by decide
              exact absurd e (h1 k (by have := (fstp_spec hd).2.1; omega))
          · exact absurd c1 e
        rw [e1, this] at q
        exact q
-- value
theorem s_value_bad {x : Int32} (hA0 : 91 ≤ nx) (hF : Fx h) (hp : InvP h n) (c : hasI n x = 0) : Mk X (d + 2) m_X11_value [.ref 0, .int x] h nx sz (RE (-1) h) := by
  refine Mk.re fun Q hq => e_X11_value (c_X11_value_0 hA0 hF RO_rm hcs0 (s_has (d := d + 1) hA0 (hp.np net1)) ?_)
  rintro y0 g ⟨rfl, rfl⟩
  exact c_X11_value_8 (P16 := fun _ _ => False) hA0 hF RO_rm hcs0 (fun _ => hq) (fun z => absurd c z) (fun z => absurd c z)
theorem s_value {p : Nat} {M : Nat → Nat} (hA0 : 91 ≤ nx) (hF : Fx h) (hp : InvP h n) (hi : p < n) (hM : NeedS h n p M) : Mk X (d + 2) m_X11_value [.ref 0, .int (nI p)] h nx sz (RE (nI (vN (h.1 2) n p M)) h) := by
  have h20 := hp.2.1
  refine Mk.re fun Q hq => e_X11_value (c_X11_value_0 hA0 hF RO_rm hcs0 (s_has (d := d + 1) hA0 (hp.np net1)) ?_)
  rintro y0 g ⟨rfl, rfl⟩
  rw [hasI_nI (by omega) hi]
  refine c_X11_value_8 hA0 hF RO_rm hcs0 (fun z => by cases z) (fun _ => s_valueOf (d := d) hA0 hF (hp.np net1) hi hM) ?_
  rintro _ y0 g ⟨rfl, rfl⟩
  exact c_X11_value_19 hq
theorem t_value_bad {x : Int32} (hA0 : 91 ≤ nx) (hp : InvP h n) (c : hasI n x = 0) : Mk X (d + 2) m_X12_value [.ref 68, .int x] h nx sz (RE (-1) (setI h 68 0 0)) := by
  refine Mk.re fun Q hq => e_X12_value (c_X12_value_0 hA0 RO_rm hcs0 (t_isOne (d := d + 1) (h := setI h 68 0 0) hA0 hp.mp) ?_)
  rintro y0 g ⟨rfl, rfl⟩
  exact c_X12_value_10 (P15 := fun _ _ => False) hA0 RO_rm hcs0 (fun _ => hq) (fun z => absurd c z) (fun z => absurd c z)
theorem t_value {p : Nat} {M : Nat → Nat} (hA0 : 91 ≤ nx) (hF : Fx h) (hp : InvP h n) (hK : KB (h.1 73) n) (hi : p < n) (hM : NeedT h n p M) : Mk X (d + 4) m_X12_value [.ref 68, .int (nI p)] h nx sz (RE (nI (vN (h.1 73) n p M)) (setI h 68 0 0)) := by
  have h20 := hp.2.1
  refine Mk.re fun Q hq => e_X12_value (c_X12_value_0 hA0 RO_rm hcs0 (t_isOne (d := d + 3) (h := setI h 68 0 0) hA0 hp.mp) ?_)
  rintro y0 g ⟨rfl, rfl⟩
  rw [hasI_nI (by omega) hi]
  refine c_X12_value_10 hA0 RO_rm hcs0 (fun z => by cases z) (fun _ => t_valueOf (d := d) (h := setI h 68 0 0) hA0 hF hp.mp hK hi hM) ?_
  rintro _ y0 g ⟨rfl, rfl⟩
  exact c_X12_value_18 hq
end OPS
