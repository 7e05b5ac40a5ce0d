/-! likely, threes -/
def prI {σ : Type} (f : Nat → Nat → σ → σ) (a : Nat) (s : σ) : Nat → σ
  | 0 => s
  | j + 1 => f a (a + 1 + j) (prI f a s j)
def prO {σ : Type} (f : Nat → Nat → σ → σ) (n : Nat) (s : σ) : Nat → σ
  | 0 => s
  | a + 1 => prI f a (prO f n s a) (n - (a + 1))
section OPS
variable {X : CX} {d nx sz : Nat} {h : AH} {n : Nat}
def lkS (K : Nat → Int32) (n a b : Nat) (s : Option (Nat × Nat)) : Option (Nat × Nat) := if tb (K a) b = true then s else match s with
  | none => some (20 * a + b, cnt (K a &&& K b) n)
  | some p => if p.2 < cnt (K a &&& K b) n then some (20 * a + b, cnt (K a &&& K b) n) else some p
def lkB : Option (Nat × Nat) → Int32
  | none => -1
  | some p => nI p.1
def lkM (z : Int32) : Option (Nat × Nat) → Int32
  | none => z
  | some p => nI p.2
def lkOk (s : Option (Nat × Nat)) : Prop := ∀ p, s = some p → p.1 < 1000 ∧ p.2 ≤ 20
theorem lkS_ok {K : Nat → Int32} {a b : Nat} {s : Option (Nat × Nat)} (hn : n ≤ 20) (ha : a < n) (hb : b < n) (h : lkOk s) : lkOk (lkS K n a b s) := by
  have hc := cnt_le (x := K a &&& K b) (n := n)
  intro p e
  unfold lkS at e
  split at e
  · exact h p e
  · split at e
    · cases e
      exact ⟨by show 20 * a + b < 1000; omega, by show cnt _ n ≤ 20; omega⟩
    · split at e
      · cases e
        exact ⟨by show 20 * a + b < 1000; omega, by show cnt _ n ≤ 20; omega⟩
      · exact h p e
theorem prI_ok {σ : Type} {f : Nat → Nat → σ → σ} {P : σ → Prop} {a : Nat} {s : σ} (hs : P s) : ∀ {m : Nat}, (∀ b s, a < b → b < a + 1 + m → P s → P (f a b s)) → P (prI f a s m)
  | 0, _ => hs
  | m + 1, hf => hf _ _ (by omega) (by omega) (prI_ok hs (m := m) (fun b s h1 h2 h3 => hf b s h1 (by omega) h3))
theorem prO_ok {σ : Type} {f : Nat → Nat → σ → σ} {P : σ → Prop} {n : Nat} {s : σ} (hs : P s) (hf : ∀ a b s, a < b → b < n → P s → P (f a b s)) : ∀ {m : Nat}, m ≤ n → P (prO f n s m)
  | 0, _ => hs
  | m + 1, hm => prI_ok (prO_ok hs hf (m := m) (by omega)) (fun b s h1 h2 h3 => hf m b s h1 (by omega) h3)
def lkV (K : Nat → Int32) (n : Nat) : Int32 := lkB (prO (lkS K n) n none n)
theorem lk_ok {K : Nat → Int32} (hn : n ≤ 20) {m : Nat} (hm : m ≤ n) : lkOk (prO (lkS K n) n none m) := prO_ok (P := lkOk) (fun p e => by cases e) (fun a b s h1 h2 h3 => lkS_ok hn (by omega) h2 h3) hm
theorem lk_oki {K : Nat → Int32} (hn : n ≤ 20) {a m : Nat} (ha : a < n) (hm : a + 1 + m ≤ n) : lkOk (prI (lkS K n) a (prO (lkS K n) n none a) m) := prI_ok (P := lkOk) (lk_ok hn (by omega)) (fun b s h1 h2 h3 => lkS_ok hn (by omega) (by omega) h3)
theorem bc_and {K : Nat → Int32} (hg : Gr n K) (hn : n ≤ 20) (a b : Nat) : bc (K a &&& K b) = nI (cnt (K a &&& K b) n) := bc_lt hn (fun j hj => by
  rw [tb_and, Bool.and_eq_true] at hj
  exact (hg a j hj.1).2.1)
theorem s_likeliest (hA0 : 91 ≤ nx) (hF : Fx h) (hP : InvP h n) (hg : Gr n (h.1 2)) : Mk X (d + 2) m_X9_likeliest [.ref 21] h nx sz (RE (lkV (h.1 2) n) h) := by
  obtain ⟨hn, h0, h1, h2, h20⟩ := hP.np net1
  refine Mk.re fun Q hq => e_X9_likeliest (c_X9_likeliest_0 ?_)
  refine down_ind (N := n) (P := fun a => VM X m_X9_likeliest (d + 2) nx sz Q 6 [some (.ref 21), some (.int (lkB (prO (lkS (h.1 2) n) n none a))), some (.int (lkM (-1) (prO (lkS (h.1 2) n) n none a))), some (.int (nI a)), none] [] h) ?_ (fun a ha q => ?_)
  · have ex : h.1 1 0 ≤ nI n := by rw [h0]; exact Int32.le_refl _
    exact c_X9_likeliest_6 hA0 hF (fun _ => hq) (fun c => absurd ex c)
  · refine c_X9_likeliest_6 hA0 hF (fun c => ?_) (fun _ => ?_)
    · rw [h0, le_nI (by omega) (by omega)] at c
      omega
    rw [nI_1]
    refine down_ind (N := n - (a + 1)) (P := fun j => VM X m_X9_likeliest (d + 2) nx sz Q 22 [some (.ref 21), some (.int (lkB (prI (lkS (h.1 2) n) a (prO (lkS (h.1 2) n) n none a) j))), some (.int (lkM (-1) (prI (lkS (h.1 2) n) a (prO (lkS (h.1 2) n) n none a) j))), some (.int (nI a)), some (.int (nI (a + 1 + j)))] [] h) ?_ (fun j hj q2 => ?_)
    · have ex : h.1 1 0 ≤ nI (a + 1 + (n - (a + 1))) := by rw [h0, show a + 1 + (n - (a + 1)) = n by omega]; exact Int32.le_refl _
      refine c_X9_likeliest_22 (d := d + 1) (P41 := fun _ _ => False) hA0 hF RO_rm hcs0 (fun _ => ?_) (fun c => absurd ex c) (fun c => absurd ex c)
      rw [nI_1]
      exact q
    · have ok := lk_oki (K := h.1 2) h20 ha (m := j) (by omega)
      have e1 : prI (lkS (h.1 2) n) a (prO (lkS (h.1 2) n) n none a) (j + 1) = lkS (h.1 2) n a (a + 1 + j) (prI (lkS (h.1 2) n) a (prO (lkS (h.1 2) n) n none a) j) := rfl
      rw [e1] at q2
      generalize prI (lkS (h.1 2) n) a (prO (lkS (h.1 2) n) n none a) j = s at *
      have hb : a + 1 + j < n := by omega
      rw [show a + 1 + (j + 1) = a + 1 + j + 1 by omega] at q2
      generalize a + 1 + j = b at *
      refine c_X9_likeliest_22 hA0 hF RO_rm hcs0 (fun c => ?_) (fun _ => s_tied (d := d) hA0 hF (hP.np net1)) ?_
      · rw [h0, le_nI (by omega) (by omega)] at c
        omega
      rintro _ y g ⟨rfl, rfl⟩
      rw [tieI_nI h20 ha hb]
      refine c_X9_likeliest_44 hA0 hF RO_rm hcs0 (fun c => ?_) (fun _ => s_inCommon (d := d) hA0 hF net1 (by omega) (by omega)) ?_
      · have e : lkS (h.1 2) n a b s = s := if_pos (tb_c c)
        rw [e] at q2
        rw [nI_1]
        exact q2
      rintro c y g ⟨rfl, rfl⟩
      have c : ¬ tb (h.1 2 a) b = true := by rw [show tb (h.1 2 a) b = false from tb_n c]; decide
      have hc := cnt_le (x := h.1 2 a &&& h.1 2 b) (n := n)
      rw [show h.1 (1 + 1) a &&& h.1 (1 + 1) b = h.1 2 a &&& h.1 2 b from rfl, bc_and hg h20]
      refine c_X9_likeliest_57 hA0 hF RO_rm hcs0 (fun c1 => ?_) (fun _ => s_inCommon (d := d) hA0 hF net1 (by omega) (by omega)) ?_
      · have e : lkS (h.1 2) n a b s = s := by
          unfold lkS
          rw [if_neg c]
          cases s with
          | none =>
            exfalso
            have : ∀ k, k < 21 → ¬ nI k ≤ -1 := by decide
            exact this _ (by omega) c1
          | some p =>
            have c1 : nI (cnt (h.1 2 a &&& h.1 2 b) n) ≤ nI p.2 := c1
            rw [le_nI (by omega) (by have := (ok p rfl).2; omega)] at c1
            exact if_neg (by omega)
        rw [e] at q2
        rw [nI_1]
        exact q2
      · rintro c1 y g ⟨rfl, rfl⟩
        refine c_X9_likeliest_79 ?_
        rw [show h.1 (1 + 1) a &&& h.1 (1 + 1) b = h.1 2 a &&& h.1 2 b from rfl, bc_and hg h20, nI_1, e20j]
        have e : lkS (h.1 2) n a b s = some (20 * a + b, cnt (h.1 2 a &&& h.1 2 b) n) := by
          unfold lkS
          rw [if_neg c]
          cases s with
          | none => rfl
          | some p =>
            have c1 : ¬ nI (cnt (h.1 2 a &&& h.1 2 b) n) ≤ nI p.2 := c1
            rw [le_nI (by omega) (by have := (ok p rfl).2; omega)] at c1
            exact if_pos (by omega)
        rw [e] at q2
        exact q2
theorem s_likely (hA0 : 91 ≤ nx) (hF : Fx h) (hP : InvP h n) (hg : Gr n (h.1 2)) : Mk X (d + 3) m_X11_likely [.ref 0] h nx sz (RE (lkV (h.1 2) n) h) := by
  refine Mk.re fun Q hq => e_X11_likely (c_X11_likely_0 hA0 hF RO_rm hcs0 (s_likeliest (d := d) hA0 hF hP hg) ?_)
  rintro y g ⟨rfl, rfl⟩
  exact c_X11_likely_7 hq
theorem lkB_none {s : Option (Nat × Nat)} (ok : lkOk s) : lkB s = -1 ↔ s = none := by
  cases s with
  | none => simp [lkB]
  | some p =>
    constructor
    · intro z
      have : ∀ k, k < 1000 → ¬ nI k = -1 := by decide +kernel
      exact absurd z (this _ (ok p rfl).1)
    · intro z
      cases z
theorem t_likely (hA0 : 91 ≤ nx) (hF : Fx h) (hP : InvP h n) (hg : Gr n (h.1 73)) : Mk X (d + 2) m_X12_likely [.ref 68] h nx sz (RE (lkV (h.1 73) n) (setI h 68 0 0)) := by
  obtain ⟨h0, h2, h20⟩ := hP.mp
  have hF0 : Fx (setI h 68 0 0) := hF
  have h0' : (setI h 68 0 0).1 68 1 = nI n := h0
  refine Mk.re fun Q hq => e_X12_likely (c_X12_likely_0 hA0 ?_)
  refine down_ind (N := n) (P := fun a => VM X m_X12_likely (d + 2) nx sz Q 11 [some (.ref 68), some (.int (lkB (prO (lkS (h.1 73) n) n none a))), some (.int (lkM 0 (prO (lkS (h.1 73) n) n none a))), some (.int (nI a)), none] [] (setI h 68 0 0)) ?_ (fun a ha q => ?_)
  · have ex : (setI h 68 0 0).1 68 1 ≤ nI n := by rw [h0']; exact Int32.le_refl _
    exact c_X12_likely_11 hA0 (fun _ => hq) (fun c => absurd ex c)
  · refine c_X12_likely_11 hA0 (fun c => ?_) (fun _ => ?_)
    · rw [h0', le_nI (by omega) (by omega)] at c
      omega
    rw [nI_1]
    refine down_ind (N := n - (a + 1)) (P := fun j => VM X m_X12_likely (d + 2) nx sz Q 24 [some (.ref 68), some (.int (lkB (prI (lkS (h.1 73) n) a (prO (lkS (h.1 73) n) n none a) j))), some (.int (lkM 0 (prI (lkS (h.1 73) n) a (prO (lkS (h.1 73) n) n none a) j))), some (.int (nI a)), some (.int (nI (a + 1 + j)))] [] (setI h 68 0 0)) ?_ (fun j hj q2 => ?_)
    · have ex : (setI h 68 0 0).1 68 1 ≤ nI (a + 1 + (n - (a + 1))) := by rw [h0', show a + 1 + (n - (a + 1)) = n by omega]; exact Int32.le_refl _
      refine c_X12_likely_24 (d := d + 1) (P41 := fun _ _ => False) hA0 hF0 RO_rm hcs0 (fun _ => ?_) (fun c => absurd ex c) (fun c => absurd ex c) (fun c => absurd ex c)
      rw [nI_1]
      exact q
    · have ok := lk_oki (K := h.1 73) h20 ha (m := j) (by omega)
      have e1 : prI (lkS (h.1 73) n) a (prO (lkS (h.1 73) n) n none a) (j + 1) = lkS (h.1 73) n a (a + 1 + j) (prI (lkS (h.1 73) n) a (prO (lkS (h.1 73) n) n none a) j) := rfl
      rw [e1] at q2
      generalize prI (lkS (h.1 73) n) a (prO (lkS (h.1 73) n) n none a) j = s at *
      have hb : a + 1 + j < n := by omega
      rw [show a + 1 + (j + 1) = a + 1 + j + 1 by omega] at q2
      generalize a + 1 + j = b at *
      refine c_X12_likely_24 hA0 hF0 RO_rm hcs0 (fun c => ?_) (fun _ => vin (by omega) (by decide)) (fun _ => t_has (d := d + 1) (by omega)) ?_
      · rw [h0', le_nI (by omega) (by omega)] at c
        omega
      rintro _ y g ⟨rfl, rfl⟩
      rw [tN (by omega)]
      have tc : ∀ {d1 : Nat}, Mk X (d1 + 1) m_X12_commonOf [.ref 68, .int (nI a), .int (nI b)] (setI h 68 0 0) nx sz (RE (nI (cnt (h.1 73 a &&& h.1 73 b) n)) (setI h 68 0 0)) := by
        intro d1
        rw [← bc_and hg h20]
        exact t_commonOf (h := setI h 68 0 0) hA0 hF0 (by omega) (by omega)
      have hc := cnt_le (x := h.1 73 a &&& h.1 73 b) (n := n)
      refine c_X12_likely_44 hA0 RO_rm hcs0 (fun c => ?_) (fun _ _ => tc (d1 := d)) ?_ (fun _ _ => tc (d1 := d)) ?_
      · have e : lkS (h.1 73) n a b s = s := if_pos (tb_c c)
        rw [e] at q2
        rw [nI_1]
        exact q2
      · rintro c c1 y g ⟨rfl, rfl⟩
        refine c_X12_likely_81 ?_
        have c : ¬ tb (h.1 73 a) b = true := by rw [show tb (h.1 73 a) b = false from tb_n c]; decide
        have c1 := (lkB_none ok).mp c1
        subst c1
        have e : lkS (h.1 73) n a b none = some (20 * a + b, cnt (h.1 73 a &&& h.1 73 b) n) := if_neg c
        rw [e] at q2
        rw [nI_1, e20j]
        exact q2
      · rintro c c1 y g ⟨rfl, rfl⟩
        have c : ¬ tb (h.1 73 a) b = true := by rw [show tb (h.1 73 a) b = false from tb_n c]; decide
        obtain ⟨p, rfl⟩ : ∃ p, s = some p := by
          cases s with
          | none => exact absurd rfl c1
          | some p => exact ⟨p, rfl⟩
        have op := ok p rfl
        refine c_X12_likely_59 hA0 RO_rm hcs0 (fun _ => tc (d1 := d)) ?_ (fun c2 => ?_)
        · rintro c2 y g ⟨rfl, rfl⟩
          have c2 : nI p.2 < nI (cnt (h.1 73 a &&& h.1 73 b) n) := c2
          rw [nI_ltI (by omega) (by omega)] at c2
          have e : lkS (h.1 73) n a b (some p) = some (20 * a + b, cnt (h.1 73 a &&& h.1 73 b) n) := by
            unfold lkS
            rw [if_neg c]
            exact if_pos c2
          rw [e] at q2
          refine c_X12_likely_81 ?_
          rw [nI_1, e20j]
          exact q2
        · have c2 : ¬ nI p.2 < nI (cnt (h.1 73 a &&& h.1 73 b) n) := c2
          rw [nI_ltI (by omega) (by omega)] at c2
          have e : lkS (h.1 73) n a b (some p) = some p := by
            unfold lkS
            rw [if_neg c]
            exact if_neg c2
          rw [e] at q2
          rw [nI_1]
          exact q2
-- threes
def eN (K : Nat → Int32) (a b : Nat) : Nat := if tb (K a) b = true then 1 else 0
def th3 (K : Nat → Int32) (t i j k : Nat) : Nat := if eN K i j + eN K i k + eN K j k = t then 1 else 0
def thN (K : Nat → Int32) (n t : Nat) : Nat := sm (fun i => sm (fun j => sm (fun k => th3 K t i (i + 1 + j) (i + 1 + j + 1 + k)) (n - (i + 1 + j + 1))) (n - (i + 1))) n
def thM (K : Nat → Int32) (n t : Nat) : Nat := sm (fun a => sm (fun b => sm (fun c => th3 K t a b c) b) a) n
theorem sm_from {g : Nat → Nat} {i : Nat} (hi : i < n) : sm (fun j => g (i + 1 + j)) (n - (i + 1)) = sm (fun j => if i < j then g j else 0) n := by
  have e : sm (fun j => if i < j then g j else 0) ((i + 1) + (n - (i + 1))) = _ := sm_split
  rw [show i + 1 + (n - (i + 1)) = n by omega] at e
  rw [e, sm_zero (n := i + 1) (fun j hj => if_neg (by omega)), Nat.zero_add]
  exact sm_cong fun j _ => (if_pos (by omega)).symm
theorem sm_below {g : Nat → Nat} {a : Nat} (ha : a ≤ n) : sm g a = sm (fun j => if j < a then g j else 0) n := by
  have e : sm (fun j => if j < a then g j else 0) (a + (n - a)) = _ := sm_split
  rw [show a + (n - a) = n by omega] at e
  rw [e, sm_zero (n := n - a) (fun j hj => if_neg (by omega)), Nat.add_zero]
  exact sm_cong fun j hj => (if_pos hj).symm
theorem sm_comm {f : Nat → Nat → Nat} {m : Nat} : ∀ {n : Nat}, sm (fun i => sm (fun j => f i j) m) n = sm (fun j => sm (fun i => f i j) n) m
  | 0 => (sm_zero fun _ _ => rfl).symm
  | n + 1 => by
    show sm (fun i => sm (fun j => f i j) m) n + sm (fun j => f n j) m = _
    rw [sm_comm (n := n), ← sm_add]
    rfl
theorem sm_if {P : Prop} [Decidable P] {f : Nat → Nat} {m : Nat} : (if P then sm f m else 0) = sm (fun k => if P then f k else 0) m := by
  by_cases c : P
  · simp only [c, if_true]
  · simp only [c, if_false]
    exact (sm_zero fun _ _ => rfl).symm
theorem thN_full {K : Nat → Int32} {t : Nat} : thN K n t = sm (fun i => sm (fun j => sm (fun k => if i < j then (if j < k then th3 K t i j k else 0) else 0) n) n) n := by
  refine sm_cong fun i hi => ?_
  rw [sm_from (g := fun j => sm (fun k => th3 K t i j (j + 1 + k)) (n - (j + 1))) hi]
  refine sm_cong fun j hj => ?_
  rw [sm_from (g := fun k => th3 K t i j k) hj, sm_if]
theorem thM_full {K : Nat → Int32} {t : Nat} : thM K n t = sm (fun a => sm (fun b => sm (fun c => if b < a then (if c < b then th3 K t a b c else 0) else 0) n) n) n := by
  refine sm_cong fun a ha => ?_
  rw [sm_below (g := fun b => sm (fun c => th3 K t a b c) b) (Nat.le_of_lt ha)]
  refine sm_cong fun b hb => ?_
  rw [sm_below (g := fun c => th3 K t a b c) (Nat.le_of_lt hb), sm_if]
theorem eN_sym {K : Nat → Int32} (hg : Gr n K) (a b : Nat) : eN K a b = eN K b a := by
  have : tb (K a) b = tb (K b) a := by
    rw [Bool.eq_iff_iff]
    exact ⟨fun z => (hg a b z).2.2.2, fun z => (hg b a z).2.2.2⟩
  unfold eN
  rw [this]
theorem th_eq {K : Nat → Int32} {t : Nat} (hg : Gr n K) : thM K n t = thN K n t := by
  rw [thM_full, thN_full]
  have s3 : ∀ a b c, th3 K t a b c = th3 K t c b a := fun a b c => by
    unfold th3
    rw [eN_sym hg a b, eN_sym hg a c, eN_sym hg b c, show eN K b a + eN K c a + eN K c b = eN K c b + eN K c a + eN K b a by omega]
  -- swap the outermost and the innermost
  have e1 : sm (fun a => sm (fun b => sm (fun c => if b < a then (if c < b then th3 K t a b c else 0) else 0) n) n) n = sm (fun b => sm (fun a => sm (fun c => if b < a then (if c < b then th3 K t a b c else 0) else 0) n) n) n := sm_comm
  have e2 : sm (fun i => sm (fun j => sm (fun k => if i < j then (if j < k then th3 K t i j k else 0) else 0) n) n) n = sm (fun j => sm (fun i => sm (fun k => if i < j then (if j < k then th3 K t i j k else 0) else 0) n) n) n := sm_comm
  rw [e1, e2]
  refine sm_cong fun b _ => ?_
  have e3 : sm (fun a => sm (fun c => if b < a then (if c < b then th3 K t a b c else 0) else 0) n) n = sm (fun c => sm (fun a => if b < a then (if c < b then th3 K t a b c else 0) else 0) n) n := sm_comm
  rw [e3]
  refine sm_cong fun c _ => sm_cong fun a _ => ?_
  rw [s3]
  split <;> split <;> rfl
theorem thM_le {K : Nat → Int32} {t : Nat} (hn : n ≤ 20) : thM K n t ≤ 8000 := by
  have : thM K n t ≤ n * 400 := sm_le fun a ha => by
    have : sm (fun b => sm (fun c => th3 K t a b c) b) a ≤ a * 20 := sm_le fun b hb => by
      have : sm (fun c => th3 K t a b c) b ≤ b * 1 := sm_le fun c _ => by
        unfold th3
        split <;> omega
      omega
    have : a * 20 ≤ 20 * 20 := Nat.mul_le_mul_right _ (by omega)
    omega
  have : n * 400 ≤ 20 * 400 := Nat.mul_le_mul_right _ hn
  omega
theorem eN_I {K : Nat → Int32} {a b : Nat} : (if tb (K a) b = true then (1 : Int32) else 0) = nI (eN K a b) := by
  unfold eN
  split <;> rfl
theorem eN_le {K : Nat → Int32} {a b : Nat} : eN K a b ≤ 1 := by
  unfold eN
  split <;> omega
theorem s_threesWith {t : Nat} (hA0 : 91 ≤ nx) (hF : Fx h) (hP : InvP h n) (ht : t ≤ 3) : Mk X d m_X9_threesWith [.ref 21, .int (nI t)] h nx sz (RE (nI (thN (h.1 2) n t)) h) := by
  obtain ⟨hn, h0, h1, h2, h20⟩ := hP.np net1
  refine Mk.re fun Q hq => e_X9_threesWith (c_X9_threesWith_0 ?_)
  refine down_ind (N := n) (P := fun i => VM X m_X9_threesWith d nx sz Q 4 [some (.ref 21), some (.int (nI t)), some (.int (nI (sm (fun i => sm (fun j => sm (fun k => th3 (h.1 2) t i (i + 1 + j) (i + 1 + j + 1 + k)) (n - (i + 1 + j + 1))) (n - (i + 1))) i))), some (.int (nI i)), none, none, none] [] h) ?_ (fun i hi q => ?_)
  · have ex : h.1 1 0 ≤ nI n := by rw [h0]; exact Int32.le_refl _
    exact c_X9_threesWith_4 hA0 hF (fun _ => hq) (fun c => absurd ex c)
  · refine c_X9_threesWith_4 hA0 hF (fun c => ?_) (fun _ => ?_)
    · rw [h0, le_nI (by omega) (by omega)] at c
      omega
    obtain ⟨v, hv⟩ : ∃ v, v = sm (fun i => sm (fun j => sm (fun k => th3 (h.1 2) t i (i + 1 + j) (i + 1 + j + 1 + k)) (n - (i + 1 + j + 1))) (n - (i + 1))) i := ⟨_, rfl⟩
    have e1 : sm (fun i => sm (fun j => sm (fun k => th3 (h.1 2) t i (i + 1 + j) (i + 1 + j + 1 + k)) (n - (i + 1 + j + 1))) (n - (i + 1))) (i + 1) = v + sm (fun j => sm (fun k => th3 (h.1 2) t i (i + 1 + j) (i + 1 + j + 1 + k)) (n - (i + 1 + j + 1))) (n - (i + 1)) := by rw [hv]; rfl
    rw [e1] at q
    rw [← hv, nI_1]
    have key : VM X m_X9_threesWith d nx sz Q 20 [some (.ref 21), some (.int (nI t)), some (.int (nI (v + sm (fun j => sm (fun k => th3 (h.1 2) t i (i + 1 + j) (i + 1 + j + 1 + k)) (n - (i + 1 + j + 1))) 0))), some (.int (nI i)), some (.int (nI (i + 1 + 0))), none, none] [] h := by
      refine down_ind (N := n - (i + 1)) (P := fun j => VM X m_X9_threesWith d nx sz Q 20 [some (.ref 21), some (.int (nI t)), some (.int (nI (v + sm (fun j => sm (fun k => th3 (h.1 2) t i (i + 1 + j) (i + 1 + j + 1 + k)) (n - (i + 1 + j + 1))) j))), some (.int (nI i)), some (.int (nI (i + 1 + j))), none, none] [] h) ?_ (fun j hj q2 => ?_)
      · have ex : h.1 1 0 ≤ nI (i + 1 + (n - (i + 1))) := by rw [h0, show i + 1 + (n - (i + 1)) = n by omega]; exact Int32.le_refl _
        refine c_X9_threesWith_20 hA0 hF (fun _ => ?_) (fun c => absurd ex c)
        rw [nI_1]
        exact q
      · refine c_X9_threesWith_20 hA0 hF (fun c => ?_) (fun _ => ?_)
        · rw [h0, le_nI (by omega) (by omega)] at c
          omega
        rw [show i + 1 + (j + 1) = i + 1 + j + 1 by omega] at q2
        obtain ⟨v2, hv2⟩ : ∃ v2, v2 = v + sm (fun j => sm (fun k => th3 (h.1 2) t i (i + 1 + j) (i + 1 + j + 1 + k)) (n - (i + 1 + j + 1))) j := ⟨_, rfl⟩
        have e2 : v + sm (fun j => sm (fun k => th3 (h.1 2) t i (i + 1 + j) (i + 1 + j + 1 + k)) (n - (i + 1 + j + 1))) (j + 1) = v2 + sm (fun k => th3 (h.1 2) t i (i + 1 + j) (i + 1 + j + 1 + k)) (n - (i + 1 + j + 1)) := by rw [hv2, Nat.add_assoc]; rfl
        rw [e2] at q2
        rw [← hv2, nI_1]
        have hb : i + 1 + j < n := by omega
        generalize i + 1 + j = b at *
        have key3 : VM X m_X9_threesWith d nx sz Q 38 [some (.ref 21), some (.int (nI t)), some (.int (nI (v2 + sm (fun k => th3 (h.1 2) t i b (b + 1 + k)) 0))), some (.int (nI i)), some (.int (nI b)), some (.int (nI (b + 1 + 0))), none] [] h := by
          refine down_ind (N := n - (b + 1)) (P := fun k => VM X m_X9_threesWith d nx sz Q 38 [some (.ref 21), some (.int (nI t)), some (.int (nI (v2 + sm (fun k => th3 (h.1 2) t i b (b + 1 + k)) k))), some (.int (nI i)), some (.int (nI b)), some (.int (nI (b + 1 + k))), none] [] h) ?_ (fun k hk q3 => ?_)
          · have ex : h.1 1 0 ≤ nI (b + 1 + (n - (b + 1))) := by rw [h0, show b + 1 + (n - (b + 1)) = n by omega]; exact Int32.le_refl _
            refine c_X9_threesWith_38 hA0 hF (fun _ => ?_) (fun c => absurd ex c) (fun c => absurd ex c) (fun c => absurd ex c) (fun c => absurd ex c) (fun c => absurd ex c)
            rw [nI_1]
            exact q2
          · have e3 : v2 + sm (fun k => th3 (h.1 2) t i b (b + 1 + k)) (k + 1) = v2 + sm (fun k => th3 (h.1 2) t i b (b + 1 + k)) k + th3 (h.1 2) t i b (b + 1 + k) := (Nat.add_assoc _ _ _).symm
            rw [e3, show b + 1 + (k + 1) = b + 1 + k + 1 by omega] at q3
            have hc : b + 1 + k < n := by omega
            generalize b + 1 + k = c at *
            have l1 := eN_le (K := h.1 2) (a := i) (b := b)
            have l2 := eN_le (K := h.1 2) (a := i) (b := c)
            have l3 := eN_le (K := h.1 2) (a := b) (b := c)
            refine c_X9_threesWith_38 hA0 hF (fun z => ?_) (fun _ => vin (by omega) (by decide)) (fun _ => vin (by omega) (by decide)) (fun _ => vin (by omega) (by decide)) (fun _ z => ?_) (fun _ z => ?_)
            · rw [h0, le_nI (by omega) (by omega)] at z
              omega
            · rw [tN (i := i) (by omega), tN (i := b) (by omega), tb_shr (by omega), tb_shr (by omega), tb_shr (by omega), eN_I, eN_I, eN_I, nI_add, nI_add] at z
              have z : ¬ eN (h.1 2) i b + eN (h.1 2) i c + eN (h.1 2) b c = t := fun w => z (by rw [w])
              have e : th3 (h.1 2) t i b c = 0 := if_neg z
              rw [e] at q3
              rw [show (0 : Int32) = nI 0 from rfl, nI_add, nI_1]
              exact q3
            · rw [tN (i := i) (by omega), tN (i := b) (by omega), tb_shr (by omega), tb_shr (by omega), tb_shr (by omega), eN_I, eN_I, eN_I, nI_add, nI_add] at z
              have z := nI_inj (by omega) (by omega) z
              have e : th3 (h.1 2) t i b c = 1 := if_pos z
              rw [e] at q3
              rw [nI_1, nI_1]
              exact q3
        exact key3
    exact key
end OPS
