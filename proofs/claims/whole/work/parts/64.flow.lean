/-! apart: the other side -/
section OPS
variable {X : CX} {d nx sz : Nat} {h : AH} {n : Nat}
def fm (K : Nat → Int32) (n : Nat) : Arc := fun u v => if u % 2 = 0 then decide (v = u + 1) else (decide (v % 2 = 0) && (decide (v / 2 < n) && tb (K (u / 2)) (v / 2)))
/-- arcs, as the row of booleans has them -/
def Rm (h : AH) : Arc := fun u v => decide (u < 40) && (decide (v < 40) && !decide (h.1 80 (40 * u + v) = 0))
theorem Rm_iff {u v : Nat} : Rm h u v = true ↔ u < 40 ∧ v < 40 ∧ h.1 80 (40 * u + v) ≠ 0 := by simp [Rm]
theorem Rm_cong {g : AH} (e : g.1 80 = h.1 80) : Rm g = Rm h := by unfold Rm; rw [e]
def Ar (g : AH) (A : Arc) : Prop := ∀ u v, u < 40 → v < 40 → g.1 80 (40 * u + v) = if A u v = true then 1 else 0
theorem Ar.set {g : AH} {A A' : Arc} {u0 v0 : Nat} (a : Ar g A) (hu : u0 < 40) (hv : v0 < 40) (e : ∀ u v, A' u v = true ↔ (u = u0 ∧ v = v0) ∨ A u v = true) : Ar (setI g 80 (40 * u0 + v0) 1) A' := by
  intro u v h1 h2
  show (if 80 = 80 ∧ 40 * u + v = 40 * u0 + v0 then 1 else g.1 80 (40 * u + v)) = _
  by_cases c : u = u0 ∧ v = v0
  · rw [if_pos ⟨rfl, by rw [c.1, c.2]⟩, if_pos ((e u v).mpr (Or.inl c))]
  · rw [if_neg (fun z => c (by omega)), a u v h1 h2]
    by_cases q : A u v = true
    · rw [if_pos q, if_pos ((e u v).mpr (Or.inr q))]
    · rw [if_neg q, if_neg (fun z => ((e u v).mp z).elim c q)]
theorem Ar.cong {g : AH} {A A' : Arc} (a : Ar g A) (e : ∀ u v, u < 40 → v < 40 → (A' u v = true ↔ A u v = true)) : Ar g A' := by
  intro u v h1 h2
  rw [a u v h1 h2]
  by_cases q : A u v = true
  · rw [if_pos q, if_pos ((e u v h1 h2).mpr q)]
  · rw [if_neg q, if_neg (fun z => q ((e u v h1 h2).mp z))]
/-- what the other rows are -/
def O80 (h g : AH) : Prop := g.2 = h.2 ∧ ∀ c, c ≠ 80 → g.1 c = h.1 c
theorem O80.set {g : AH} {i : Nat} {x : Int32} (o : O80 h g) : O80 h (setI g 80 i x) := ⟨o.1, fun c hc => by
  funext j
  show (if c = 80 ∧ j = i then x else g.1 c j) = _
  rw [if_neg (fun z => hc z.1), o.2 c hc]⟩
theorem e40 {u v : Nat} : (40 * nI u) + nI v = nI (40 * u + v) := by rw [show (40 : Int32) = nI 40 from rfl, pk_mul, nI_add]
theorem e2n {u : Nat} : (2 : Int32) * nI u = nI (2 * u) := by rw [show (2 : Int32) = nI 2 from rfl, pk_mul]
theorem t_open24 {Q : Option Value → AH → Prop} (hA0 : 91 ≤ nx) (hF : Fx h) (hp : MP h n) (fin : ∀ g, O80 h g → Ar g (fun u v => decide (u < 2 * n) && fm (h.1 73) n u v) → Q none g) : ∀ (m p : Nat) (g : AH), p + m = n → O80 h g → Ar g (fun u v => decide (u < 2 * p) && fm (h.1 73) n u v) → VM X m_X12_openAll (d + 1) nx sz Q 24 [some (.ref 68), some (.int (nI p)), none] [] g := by
  obtain ⟨h0, h2, h20⟩ := hp
  intro m
  induction m with
  | zero =>
    intro p g hm o A
    have hm : p = n := by omega
    subst hm
    have yes : g.1 68 1 ≤ nI p := by rw [o.2 68 (by decide), h0]; exact Int32.le_refl _
    exact c_X12_openAll_24 hA0 (hF.of o.1) (fun _ => fin g o A) (fun z => absurd yes z) (fun z => absurd yes z)
  | succ m ih =>
    intro p g hm o A
    have no : ¬ g.1 68 1 ≤ nI p := fun z => by rw [o.2 68 (by decide), h0, le_nI (by omega) (by omega)] at z; omega
    have ei : (((80 * nI p) + (2 * nI p)) + 1 : Int32) = nI (40 * (2 * p) + (2 * p + 1)) := by
      rw [show (80 : Int32) = nI 80 from rfl, show (2 : Int32) = nI 2 from rfl, pk_mul, pk_mul, nI_add, nI_1]
      congr 1
      omega
    refine c_X12_openAll_24 hA0 (hF.of o.1) (fun z => absurd z no) (fun _ => by rw [ei]; exact vin (by omega) (by decide)) (fun _ => ?_)
    rw [ei, tN (by omega)]
    have key : ∀ (k c : Nat) (g : AH), c + k = n → O80 h g → Ar g (fun u v => (decide (u < 2 * p + 1) && fm (h.1 73) n u v) || (decide (u = 2 * p + 1) && (decide (v % 2 = 0) && (decide (v / 2 < c) && tb (h.1 73 p) (v / 2))))) → VM X m_X12_openAll (d + 1) nx sz Q 50 [some (.ref 68), some (.int (nI p)), some (.int (nI c))] [] g := by
      intro k
      induction k with
      | zero =>
        intro c g hk o A
        have hk : c = n := by omega
        subst hk
        have yes : g.1 68 1 ≤ nI c := by rw [o.2 68 (by decide), h0]; exact Int32.le_refl _
        refine c_X12_openAll_50 (d := d) (P65 := fun _ _ => False) hA0 (hF.of o.1) RO_rm hcs0 (fun _ => ?_) (fun z => absurd yes z) (fun z => absurd yes z) (fun z => absurd yes z)
        rw [nI_1]
        refine ih (p + 1) g (by omega) o (A.cong fun u v _ _ => ?_)
        have e1 : (2 * p + 1) / 2 = p := by omega
        have e2 : (2 * p + 1) % 2 = 1 := by omega
        by_cases c1 : u = 2 * p + 1
        · subst c1
          unfold fm
          rw [e1, e2]
          simp
          omega
        · have : (u < 2 * (p + 1)) ↔ u < 2 * p + 1 := by omega
          simp [c1, this]
      | succ k ihk =>
        intro c g hk o A
        have no : ¬ g.1 68 1 ≤ nI c := fun z => by rw [o.2 68 (by decide), h0, le_nI (by omega) (by omega)] at z; omega
        refine c_X12_openAll_50 hA0 (hF.of o.1) RO_rm hcs0 (fun z => absurd z no) (fun _ => vin (by omega) (by decide)) (fun _ => t_has (d := d) (by omega)) ?_
        rintro _ _ g' ⟨rfl, rfl⟩
        rw [tN (by omega), o.2 73 (by decide)]
        have ej : ((40 * ((2 * nI p) + 1)) + (2 * nI c) : Int32) = nI (40 * (2 * p + 1) + 2 * c) := by
          rw [e2n, e2n, nI_1, e40]
        refine c_X12_openAll_68 hA0 (hF.of o.1) (fun z => ?_) (fun _ => by rw [ej]; exact vin (by omega) (by decide)) (fun z => ?_)
        · have z := tb_n z
          rw [nI_1]
          refine ihk (c + 1) g (by omega) o (A.cong fun u v _ _ => ?_)
          by_cases e : v / 2 = c
          · rw [e, z]
            simp
          · have : v / 2 < c + 1 ↔ v / 2 < c := by omega
            simp [this]
        · have z := tb_c z
          rw [nI_1, ej, tN (by omega)]
          refine ihk (c + 1) _ (by omega) o.set (A.set (by omega) (by omega) fun u v => ?_)
          simp only [Bool.or_eq_true, Bool.and_eq_true, decide_eq_true_eq]
          constructor
          · rintro (a | ⟨a1, a2, a3, a4⟩)
            · exact Or.inr (Or.inl a)
            · by_cases e : v / 2 = c
              · exact Or.inl ⟨a1, by omega⟩
              · exact Or.inr (Or.inr ⟨a1, a2, by omega, a4⟩)
          · rintro (⟨a1, a2⟩ | a | ⟨a1, a2, a3, a4⟩)
            · refine Or.inr ⟨a1, by omega, by omega, ?_⟩
              rw [show v / 2 = c by omega]
              exact z
            · exact Or.inl a
            · exact Or.inr ⟨a1, a2, by omega, a4⟩
    refine key n 0 _ (by omega) o.set (A.set (by omega) (by omega) fun u v => ?_)
    simp only [Bool.or_eq_true, Bool.and_eq_true, decide_eq_true_eq]
    constructor
    · rintro (⟨a1, a2⟩ | ⟨_, _, a3, _⟩)
      · by_cases e : u = 2 * p
        · subst e
          unfold fm at a2
          rw [if_pos (by omega)] at a2
          exact Or.inl ⟨rfl, of_decide_eq_true a2⟩
        · exact Or.inr ⟨by omega, a2⟩
      · omega
    · rintro (⟨a1, a2⟩ | ⟨a1, a2⟩)
      · refine Or.inl ⟨by omega, ?_⟩
        unfold fm
        rw [if_pos (by omega)]
        exact decide_eq_true (by omega)
      · exact Or.inl ⟨by omega, a2⟩
theorem t_openAll (hA0 : 91 ≤ nx) (hF : Fx h) (hp : MP h n) : Mk X (d + 1) m_X12_openAll [.ref 68] h nx sz (RV fun g => O80 h g ∧ Ar g (fun u v => decide (u < 2 * n) && fm (h.1 73) n u v)) := by
  refine e_X12_openAll (c_X12_openAll_0 ?_)
  have key : VM X m_X12_openAll (d + 1) nx sz (RV fun g => O80 h g ∧ Ar g (fun u v => decide (u < 2 * n) && fm (h.1 73) n u v)) 2 [some (.ref 68), some (.int (nI 0)), none] [] (setA h 80 (upto 0 (fun _ => 0) (h.1 80))) := by
    refine down_ind (N := 1600) (P := fun i => VM X m_X12_openAll (d + 1) nx sz (RV fun g => O80 h g ∧ Ar g (fun u v => decide (u < 2 * n) && fm (h.1 73) n u v)) 2 [some (.ref 68), some (.int (nI i)), none] [] (setA h 80 (upto i (fun _ => 0) (h.1 80)))) ?_ (fun i hi q => ?_)
    · have yes : nI 1600 ≤ nI 1600 := Int32.le_refl _
      refine c_X12_openAll_2 hA0 hF (fun _ => ?_) (fun z => absurd yes z) (fun z => absurd yes z)
      refine t_open24 (h := h) hA0 hF hp (fun g o A => ⟨rfl, o, A⟩) n 0 _ (by omega) ⟨rfl, fun c hc => if_neg hc⟩ (fun u v hu hv => ?_)
      show upto 1600 (fun _ => 0) (h.1 80) (40 * u + v) = _
      rw [upto_lt (by omega)]
      simp
    · have no : ¬ nI 1600 ≤ nI i := fun z => by rw [le_nI (by decide) (by omega)] at z; omega
      refine c_X12_openAll_2 hA0 hF (fun z => absurd z no) (fun _ => vin (by omega) (by decide)) (fun _ => ?_)
      rw [nI_1, tN (by omega)]
      have e := setI_upto (h := h) (a := 80) (i := i) (f := fun _ => (0 : Int32)) (g := h.1 80)
      rw [e]
      exact q
  rw [upto_0, setA_id] at key
  exact key
def turn2 (g : AH) (b x : Nat) : AH := setI (setI g 80 (40 * b + x) 0) 80 (40 * x + b) 1
theorem turn2_Rm {g : AH} {b x : Nat} (hb : b < 40) (hx : x < 40) (hbx : b ≠ x) : Rm (turn2 g b x) = flp (Rm g) b x := by
  funext u v
  rw [Bool.eq_iff_iff, Rm_iff]
  unfold flp
  have e1 : (turn2 g b x).1 80 (40 * u + v) = if 40 * u + v = 40 * x + b then 1 else if 40 * u + v = 40 * b + x then 0 else g.1 80 (40 * u + v) := by
    show (if 80 = 80 ∧ 40 * u + v = 40 * x + b then 1 else (if 80 = 80 ∧ 40 * u + v = 40 * b + x then 0 else g.1 80 (40 * u + v))) = _
    simp
  rw [e1]
  by_cases c1 : u = b ∧ v = x
  · rw [if_pos c1, if_neg (by omega), if_pos (by omega)]
    simp
  · rw [if_neg c1]
    by_cases c2 : u = x ∧ v = b
    · rw [if_pos c2, if_pos (by omega)]
      simp
      omega
    · rw [if_neg c2, Rm_iff]
      constructor
      · rintro ⟨a1, a2, a3⟩
        rw [if_neg (by omega), if_neg (by omega)] at a3
        exact ⟨a1, a2, a3⟩
      · rintro ⟨a1, a2, a3⟩
        rw [if_neg (by omega), if_neg (by omega)]
        exact ⟨a1, a2, a3⟩
def O3 (h g : AH) : Prop := g.2 = h.2 ∧ ∀ c, c ≠ 80 → c ≠ 81 → c ≠ 82 → g.1 c = h.1 c
def FJ (h g : AH) (s w : Nat) (q P r : Nat → Nat) (see : Nat → Bool) : Prop :=
  BI (Rm h) s w q P r see ∧ (∀ x, x < 40 → (see x = true → x ≠ s → g.1 81 x = nI (P x)) ∧ (see x = false → g.1 81 x = -1)) ∧ g.1 81 s = nI s ∧ (∀ i, i < w → g.1 82 i = nI (q i)) ∧ g.1 80 = h.1 80 ∧ O3 h g
theorem nI_m1 {x : Nat} (h : x < 2 ^ 31) : nI x ≠ -1 := fun z => by
  have := nI_pos h
  rw [z] at this
  exact this (by decide)
theorem FJ.s81 {g : AH} {s w x : Nat} {q P r : Nat → Nat} {see : Nat → Bool} (f : FJ h g s w q P r see) (hx : x < 40) : g.1 81 x = -1 ↔ see x = false := by
  constructor
  · intro e
    cases hs : see x with
    | false => rfl
    | true =>
      exfalso
      by_cases q0 : x = s
      · subst q0
        rw [f.2.2.1] at e
        exact nI_m1 (by omega) e
      · rw [(f.2.1 x hx).1 hs q0] at e
        have := (f.1.2.2.2.2.2 x hx hs q0).1
        exact nI_m1 (by omega) e
  · exact (f.2.1 x hx).2
theorem t_more153 {Q : Option Value → AH → Prop} {s w : Nat} {q P r : Nat → Nat} {see : Nat → Bool} (hA0 : 91 ≤ nx) (hF : Fx h) (B : BI (Rm h) s w q P r see) (f81 : Nat → Int32) (hP : ∀ x, x < 40 → see x = true → x ≠ s → f81 x = nI (P x)) : ∀ (k x : Nat) (g : AH), r x < k → x < 40 → see x = true → O3 h g → g.1 81 = f81 → (∀ g', O3 h g' → Rm g' = trn P s k x (Rm g) → Q (some (.int 1)) g') → VM X m_X12_oneMore d nx sz Q 153 [some (.ref 68), some (.int (nI s)), none, none, some (.int (nI x)), none] [] g
  | 0, x, g, h2, _, _, _, _, _ => by omega
  | k + 1, x, g, h2, hx, hse, o, e81, hq => by
    have hs := (BI_s B).1
    have hFg : Fx g := hF.of o.1
    by_cases e : x = s
    · subst e
      refine c_X12_oneMore_153 hA0 hFg (fun _ => hq g o ?_) (fun z => absurd rfl z) (fun z => absurd rfl z) (fun z => absurd rfl z) (fun z => absurd rfl z) (fun z => absurd rfl z) (fun z => absurd rfl z)
      unfold trn
      rw [if_pos rfl]
    · obtain ⟨t1, t2, t3, t4⟩ := B.2.2.2.2.2 x hx hse e
      have hne : P x ≠ x := fun z => by rw [z] at t4; omega
      have e1 : g.1 81 (nI x).toNatClampNeg = nI (P x) := by rw [tN (by omega), e81, hP x hx hse e]
      have a1 : (40 * g.1 81 (nI x).toNatClampNeg) + nI x = nI (40 * P x + x) := by rw [e1, e40]
      have a2 : (40 * nI x) + g.1 81 (nI x).toNatClampNeg = nI (40 * x + P x) := by rw [e1, e40]
      refine c_X12_oneMore_153 hA0 hFg (fun z => absurd (nI_inj (by omega) (by omega) z) e) (fun _ => vin hx (by decide)) (fun _ => by rw [a1]; exact vin (by omega) (by decide)) (fun _ => vin hx (by decide)) (fun _ => by rw [a2]; exact vin (by omega) (by decide)) (fun _ => vin hx (by decide)) (fun _ => ?_)
      rw [a1, a2, e1, tN (by omega), tN (by omega)]
      refine t_more153 hA0 hF B f81 hP k (P x) (turn2 g (P x) x) (by omega) t1 t2 ⟨o.1, fun c c1 c2 c3 => ?_⟩ ?_ (fun g' b1 b2 => hq g' b1 ?_)
      · rw [← o.2 c c1 c2 c3]
        funext j
        show (if c = 80 ∧ j = 40 * x + P x then 1 else (if c = 80 ∧ j = 40 * P x + x then 0 else g.1 c j)) = _
        rw [if_neg (fun z => c1 z.1), if_neg (fun z => c1 z.1)]
      · rw [← e81]
        funext j
        show (if 81 = 80 ∧ j = 40 * x + P x then 1 else (if 81 = 80 ∧ j = 40 * P x + x then 0 else g.1 81 j)) = _
        rw [if_neg (fun z => by cases z.1), if_neg (fun z => by cases z.1)]
      · rw [b2, turn2_Rm t1 hx hne]
        show _ = if x = s then _ else _
        rw [if_neg e]
theorem t_more59 {Q : Option Value → AH → Prop} {s t i : Nat} (hA0 : 91 ≤ nx) (hF : Fx h)
    (out : ∀ g w q P r see, FJ h g s w q P r see → i + 1 ≤ w → (∀ a, a < i + 1 → ∀ v, v < 40 → Rm h (q a) v = true → see v = true) → VM X m_X12_oneMore d nx sz Q 40 [some (.ref 68), some (.int (nI s)), some (.int (nI t)), some (.int (nI w)), some (.int (nI (i + 1))), none] [] g) :
    ∀ (k v : Nat) (g : AH) (w : Nat) (q P r : Nat → Nat) (see : Nat → Bool), v + k = 40 → FJ h g s w q P r see → i < w → (∀ a, a < i → ∀ v, v < 40 → Rm h (q a) v = true → see v = true) → (∀ v', v' < v → Rm h (q i) v' = true → see v' = true) → VM X m_X12_oneMore d nx sz Q 59 [some (.ref 68), some (.int (nI s)), some (.int (nI t)), some (.int (nI w)), some (.int (nI i)), some (.int (nI v))] [] g := by
  intro k
  induction k with
  | zero =>
    intro v g w q P r see hk f hi pr pv
    have hk : v = 40 := by omega
    subst hk
    have hFg : Fx g := hF.of f.2.2.2.2.2.1
    have yes : nI 40 ≤ nI 40 := Int32.le_refl _
    refine c_X12_oneMore_59 hA0 hFg (fun _ => ?_) (fun z => absurd yes z) (fun z => absurd yes z) (fun z => absurd yes z) (fun z => absurd yes z) (fun z => absurd yes z) (fun z => absurd yes z) (fun z => absurd yes z) (fun z => absurd yes z) (fun z => absurd yes z)
    rw [nI_1]
    refine out g w q P r see f (by omega) (fun a ha v hv hr => ?_)
    by_cases e : a = i
    · subst e
      exact pv v hv hr
    · exact pr a (by omega) v hv hr
  | succ k ih =>
    intro v g w q P r see hk f hi pr pv
    have hv : v < 40 := by omega
    have hFg : Fx g := hF.of f.2.2.2.2.2.1
    have no : ¬ nI 40 ≤ nI v := fun z => by rw [le_nI (by omega) (by omega)] at z; omega
    have f81 := fun x (hx : x < 40) => f.s81 hx
    obtain ⟨B, fP, fs, fq, f80, o⟩ := id f
    obtain ⟨b1, b2, b3⟩ := B.2.1 i hi
    have hw := BI_w B
    have ei : (nI i).toNatClampNeg = i := tN (by omega)
    have ev : (nI v).toNatClampNeg = v := tN (by omega)
    have ew : (nI w).toNatClampNeg = w := tN (by omega)
    have eq : g.1 82 (nI i).toNatClampNeg = nI (q i) := by rw [ei, fq i hi]
    have ea : (40 * g.1 82 (nI i).toNatClampNeg) + nI v = nI (40 * q i + v) := by rw [eq, e40]
    have e0 : g.1 80 ((40 * g.1 82 (nI i).toNatClampNeg) + nI v).toNatClampNeg = 0 ↔ ¬ Rm h (q i) v = true := by
      rw [ea, tN (by omega), f80, Rm_iff]
      constructor
      · rintro z ⟨_, _, y⟩
        exact y z
      · intro z
        exact Classical.byContradiction fun y => z ⟨b1, hv, y⟩
    have next : (Rm h (q i) v = true → see v = true) → VM X m_X12_oneMore d nx sz Q 59 [some (.ref 68), some (.int (nI s)), some (.int (nI t)), some (.int (nI w)), some (.int (nI i)), some (.int (nI v + 1))] [] g := fun z => by
      rw [nI_1]
      refine ih (v + 1) g w q P r see (by omega) f hi pr (fun v' hv' hr => ?_)
      by_cases e : v' = v
      · rw [e] at hr ⊢
        exact z hr
      · exact pv v' (by omega) hr
    refine c_X12_oneMore_59 hA0 hFg (fun z => absurd z no) (fun _ => vin (by omega) (by decide)) (fun _ => by rw [ea]; exact vin (by omega) (by decide)) (fun _ z => next (fun y => absurd y (e0.mp z))) (fun _ _ => vin hv (by decide)) (fun _ _ _ => vin (by omega) (by decide)) (fun _ _ _ => vin hv (by decide)) (fun _ _ z => ?_) (fun _ z1 z => ?_) (fun _ _ z => ?_)
    · rw [ev] at z
      exact vin (BI_lt B hv ((f81 v hv).mp z)) (by decide)
    · rw [ev] at z
      have m2 := (f81 v hv).mp z
      have hw40 := BI_lt B hv m2
      have hR : Rm h (q i) v = true := Decidable.byContradiction fun y => z1 (e0.mpr y)
      have hsv : ∀ x, see x = true → x ≠ v := fun x hx z => by rw [z, m2] at hx; cases hx
      rw [nI_1, nI_1, ev, ew, eq]
      refine ih (v + 1) _ (w + 1) (up1 q w v) (up1 P v (q i)) (up1 r v w) (upB see v) (by omega) ⟨BI_add B hv m2 hi hR, fun x hx => ⟨fun hse hne => ?_, fun hse => ?_⟩, ?_, fun a ha => ?_, ?_, o.1, fun c c1 c2 c3 => ?_⟩ (by omega) (fun a ha x hx hr => ?_) (fun x hx hr => ?_)
      · show (if 81 = 82 ∧ x = w then nI v else (if 81 = 81 ∧ x = v then nI (q i) else g.1 81 x)) = _
        rw [if_neg (fun z => by cases z.1)]
        by_cases e : x = v
        · subst e
          rw [if_pos ⟨rfl, rfl⟩, up1_s]
        · rw [if_neg (fun z => e z.2), up1_n e]
          rw [upB_n e] at hse
          exact (fP x hx).1 hse hne
      · show (if 81 = 82 ∧ x = w then nI v else (if 81 = 81 ∧ x = v then nI (q i) else g.1 81 x)) = _
        by_cases e : x = v
        · subst e
          rw [upB_s] at hse
          cases hse
        · rw [upB_n e] at hse
          rw [if_neg (fun z => by cases z.1), if_neg (fun z => e z.2)]
          exact (fP x hx).2 hse
      · show (if 81 = 82 ∧ s = w then nI v else (if 81 = 81 ∧ s = v then nI (q i) else g.1 81 s)) = _
        rw [if_neg (fun z => by cases z.1), if_neg (fun z => hsv s (BI_s B).2 z.2)]
        exact fs
      · show (if 82 = 82 ∧ a = w then nI v else (if 82 = 81 ∧ a = v then nI (q i) else g.1 82 a)) = _
        by_cases e : a = w
        · subst e
          rw [if_pos ⟨rfl, rfl⟩, up1_s]
        · rw [if_neg (fun z => e z.2), if_neg (fun z => by cases z.1), up1_n e]
          exact fq a (by omega)
      · rw [← f80]
        funext a
        show (if 80 = 82 ∧ a = w then nI v else (if 80 = 81 ∧ a = v then nI (q i) else g.1 80 a)) = _
        rw [if_neg (fun z => by cases z.1), if_neg (fun z => by cases z.1)]
      · rw [← o.2 c c1 c2 c3]
        funext a
        show (if c = 82 ∧ a = w then nI v else (if c = 81 ∧ a = v then nI (q i) else g.1 c a)) = _
        rw [if_neg (fun z => c3 z.1), if_neg (fun z => c2 z.1)]
      · rw [up1_n (by omega)] at hr
        have := pr a ha x hx hr
        rw [upB_n (hsv _ this)]
        exact this
      · by_cases e : x = v
        · rw [e]
          exact upB_s
        · rw [up1_n (by omega)] at hr
          rw [upB_n e]
          exact pv x (by omega) hr
    · rw [ev] at z
      exact next (fun _ => by
        cases hs : see v with
        | true => rfl
        | false => exact absurd ((f81 v hv).mpr hs) z)
theorem t_more40 {Q : Option Value → AH → Prop} {s t : Nat} (hA0 : 91 ≤ nx) (hF : Fx h) (ht : t < 40)
    (fin : ∀ g w q P r see, FJ h g s w q P r see → see t = true → VM X m_X12_oneMore d nx sz Q 153 [some (.ref 68), some (.int (nI s)), none, none, some (.int (nI t)), none] [] g)
    (fin0 : ∀ g w q P r see, FJ h g s w q P r see → see t = false → (∀ u v, u < 40 → v < 40 → see u = true → Rm h u v = true → see v = true) → Q (some (.int 0)) g) :
    ∀ (k i : Nat) (g : AH) (w : Nat) (q P r : Nat → Nat) (see : Nat → Bool), i + k = 41 → FJ h g s w q P r see → i ≤ w → (∀ a, a < i → ∀ v, v < 40 → Rm h (q a) v = true → see v = true) → VM X m_X12_oneMore d nx sz Q 40 [some (.ref 68), some (.int (nI s)), some (.int (nI t)), some (.int (nI w)), some (.int (nI i)), none] [] g := by
  intro k
  induction k with
  | zero =>
    intro i g w q P r see hk f hi pr
    have := BI_w f.1
    omega
  | succ k ih =>
    intro i g w q P r see hk f hi pr
    have hFg : Fx g := hF.of f.2.2.2.2.2.1
    have hw := BI_w f.1
    have f81 := f.s81 ht
    have et : (nI t).toNatClampNeg = t := tN (by omega)
    have inn : vp_in (nI t) 40 := vin ht (by decide)
    by_cases e : w ≤ i
    · have yes : nI w ≤ nI i := by rw [le_nI (by omega) (by omega)]; exact e
      refine c_X12_oneMore_40 hA0 hFg (fun _ => inn) (fun _ z => ?_) (fun _ z => ?_) (fun z => absurd yes z) (fun z => absurd yes z) (fun z => absurd yes z) (fun z => absurd yes z) (fun z => absurd yes z)
      · rw [et, f81] at z
        exact fin g w q P r see f (by simpa using z)
      · rw [et, f81] at z
        refine fin0 g w q P r see f z (fun u v hu hv hsu hr => ?_)
        obtain ⟨c1, c2⟩ := f.1.2.2.1 u hu hsu
        rw [← c2] at hr
        exact pr (r u) (by omega) v hv hr
    · have no : ¬ nI w ≤ nI i := fun z => by rw [le_nI (by omega) (by omega)] at z; omega
      refine c_X12_oneMore_40 hA0 hFg (fun z => absurd z no) (fun z => absurd z no) (fun z => absurd z no) (fun _ => inn) (fun _ _ => inn) (fun _ z _ => ?_) (fun _ z z2 => absurd z2 z) (fun _ _ => ?_)
      · rw [et, f81] at z
        exact fin g w q P r see f (by simpa using z)
      · exact t_more59 (i := i) hA0 hF (fun g w q P r see f' h1 h3 => ih (i + 1) g w q P r see (by omega) f' h1 h3) 40 0 g w q P r see rfl f (by omega) pr (fun v' z => absurd z (Nat.not_lt_zero _))
theorem t_oneMore {s t : Nat} (hA0 : 91 ≤ nx) (hF : Fx h) (hs : s < 40) (ht : t < 40) : Mk X d m_X12_oneMore [.ref 68, .int (nI s), .int (nI t)] h nx sz (RI fun y g => O3 h g ∧ ((y = 1 ∧ ∃ w q P r see, BI (Rm h) s w q P r see ∧ see t = true ∧ Rm g = trn P s 40 t (Rm h)) ∨ (y = 0 ∧ Rm g = Rm h ∧ ∃ w q P r see, BI (Rm h) s w q P r see ∧ see t = false ∧ ∀ u v, u < 40 → v < 40 → see u = true → Rm h u v = true → see v = true))) := by
  refine e_X12_oneMore (c_X12_oneMore_0 ?_)
  obtain ⟨Q, hQ⟩ : ∃ Q, Q = (RI fun y g => O3 h g ∧ ((y = 1 ∧ ∃ w q P r see, BI (Rm h) s w q P r see ∧ see t = true ∧ Rm g = trn P s 40 t (Rm h)) ∨ (y = 0 ∧ Rm g = Rm h ∧ ∃ w q P r see, BI (Rm h) s w q P r see ∧ see t = false ∧ ∀ u v, u < 40 → v < 40 → see u = true → Rm h u v = true → see v = true))) := ⟨_, rfl⟩
  rw [← hQ]
  have key : VM X m_X12_oneMore d nx sz Q 2 [some (.ref 68), some (.int (nI s)), some (.int (nI t)), some (.int (nI 0)), none, none] [] (setA h 81 (upto 0 (fun _ => -1) (h.1 81))) := by
    refine down_ind (N := 40) (P := fun i => VM X m_X12_oneMore d nx sz Q 2 [some (.ref 68), some (.int (nI s)), some (.int (nI t)), some (.int (nI i)), none, none] [] (setA h 81 (upto i (fun _ => -1) (h.1 81)))) ?_ (fun i hi q => ?_)
    · have yes : nI 40 ≤ nI 40 := Int32.le_refl _
      refine c_X12_oneMore_2 hA0 hF (fun _ => vin hs (by decide)) (fun _ => ?_) (fun z => absurd yes z) (fun z => absurd yes z)
      rw [tN (by omega)]
      refine t_more40 (h := h) (s := s) hA0 hF ht (fun g w q P r see f hse => ?_) (fun g w q P r see f hse hcl => ?_) 41 0 _ 1 (fun _ => s) (fun _ => 0) (fun _ => 0) (fun x => decide (x = s)) rfl ?_ (Nat.zero_le _) (fun a z => absurd z (Nat.not_lt_zero _))
      · have hr := (f.1.2.2.1 t ht hse).1
        have hw := BI_w f.1
        have eR : Rm g = Rm h := Rm_cong f.2.2.2.2.1
        refine t_more153 hA0 hF f.1 (g.1 81) (fun x hx h1 h2 => (f.2.1 x hx).1 h1 h2) 40 t g (by omega) ht hse f.2.2.2.2.2 rfl (fun g' o e => ?_)
        rw [hQ]
        exact ⟨_, rfl, o, Or.inl ⟨rfl, w, q, P, r, see, f.1, hse, by rw [e, eR]⟩⟩
      · rw [hQ]
        exact ⟨_, rfl, f.2.2.2.2.2, Or.inr ⟨rfl, Rm_cong f.2.2.2.2.1, w, q, P, r, see, f.1, hse, hcl⟩⟩
      · have e81 : ∀ x, x < 40 → (setI (setI (setA h 81 (upto 40 (fun _ => -1) (h.1 81))) 81 s (nI s)) 82 0 (nI s)).1 81 x = if x = s then nI s else -1 := fun x hx => by
          show (if 81 = 82 ∧ x = 0 then nI s else (if 81 = 81 ∧ x = s then nI s else upto 40 (fun _ => -1) (h.1 81) x)) = _
          rw [if_neg (fun z => by cases z.1), upto_lt hx]
          by_cases e : x = s
          · rw [if_pos ⟨rfl, e⟩, if_pos e]
          · rw [if_neg (fun z => e z.2), if_neg e]
        refine ⟨BI_0 hs _, fun x hx => ⟨fun h1 h2 => absurd (of_decide_eq_true h1) h2, fun h1 => ?_⟩, ?_, fun a ha => ?_, rfl, rfl, fun c c1 c2 c3 => ?_⟩
        · rw [e81 x hx, if_neg (of_decide_eq_false h1)]
        · rw [e81 s hs, if_pos rfl]
        · show (if 82 = 82 ∧ a = 0 then nI s else _) = _
          rw [if_pos ⟨rfl, by omega⟩]
        · funext a
          show (if c = 82 ∧ a = 0 then nI s else (if c = 81 ∧ a = s then nI s else (setA h 81 (upto 40 (fun _ => -1) (h.1 81))).1 c a)) = _
          rw [if_neg (fun z => c3 z.1), if_neg (fun z => c2 z.1), setA_get_ne c2]
    · have no : ¬ nI 40 ≤ nI i := fun z => by rw [le_nI (by decide) (by omega)] at z; omega
      refine c_X12_oneMore_2 hA0 hF (fun z => absurd z no) (fun z => absurd z no) (fun _ => vin (by omega) (by decide)) (fun _ => ?_)
      rw [nI_1, tN (by omega)]
      have e := setI_upto (h := h) (a := 81) (i := i) (f := fun _ => (-1 : Int32)) (g := h.1 81)
      rw [e]
      exact q
  rw [upto_0, setA_id] at key
  exact key
theorem fm_fz {K : Nat → Int32} {g : AH} (hg : Gr n K) (hn : n ≤ 20) (A : Ar g (fun u v => decide (u < 2 * n) && fm K n u v)) : ∀ u v, u < 40 → v < 40 → Rm g (sg u) (sg v) = fz K n u v := by
  intro u v hu hv
  rw [Bool.eq_iff_iff, Rm_iff, A _ _ (tu_sg hu).2 (tu_sg hv).2]
  have e1 : (sg u < 40 ∧ sg v < 40 ∧ (if (decide (sg u < 2 * n) && fm K n (sg u) (sg v)) = true then (1 : Int32) else 0) ≠ 0) ↔ (sg u < 2 * n ∧ fm K n (sg u) (sg v) = true) := by
    constructor
    · rintro ⟨_, _, z⟩
      have z := bt4 z
      simpa using z
    · rintro ⟨a, b⟩
      refine ⟨(tu_sg hu).2, (tu_sg hv).2, ?_⟩
      rw [if_pos (by simp [a, b])]
      decide
  rw [e1]
  unfold fz fm sg
  by_cases c1 : u < 20
  · rw [if_pos c1, if_pos c1, if_pos (by omega)]
    by_cases c2 : v < 20
    · rw [if_pos c2]
      simp
      omega
    · rw [if_neg c2]
      simp
      omega
  · rw [if_neg c1, if_neg c1, if_neg (by omega)]
    have e2 : (2 * (u - 20) + 1) / 2 = u - 20 := by omega
    by_cases c2 : v < 20
    · rw [if_pos c2, e2, show 2 * v / 2 = v by omega]
      simp only [Bool.and_eq_true, decide_eq_true_eq]
      constructor
      · rintro ⟨a, _, _, b⟩
        exact ⟨by omega, c2, b⟩
      · rintro ⟨a, _, b⟩
        exact ⟨by omega, by omega, (hg _ _ b).2.1, b⟩
    · rw [if_neg c2]
      simp
      omega
theorem MF_cong {R R' : Arc} {s t k : Nat} (e : ∀ u v, u < 40 → v < 40 → R u v = R' u v) (m : MF R s t k) : MF R' s t k := by
  have x : ∀ S, xc R S = xc R' S := fun S => sm_cong fun u hu => sm_cong fun v hv => by rw [e u v hu hv]
  obtain ⟨⟨S, a1, a2, a3⟩, a4⟩ := m
  exact ⟨⟨S, a1, a2, (x S).symm.trans a3⟩, fun S b1 b2 => by rw [← x S]; exact a4 S b1 b2⟩
theorem ant_Rm {K : Nat → Int32} {g : AH} (hg : Gr n K) (hn : n ≤ 20) (A : Ar g (fun u v => decide (u < 2 * n) && fm K n u v)) : ant (Rm g) := by
  intro a b h1
  have ha := (Rm_iff.mp h1).1
  have hb := (Rm_iff.mp h1).2.1
  have e := fm_fz hg hn A
  have e1 := e (tu a) (tu b) (sg_tu ha).2 (sg_tu hb).2
  have e2 := e (tu b) (tu a) (sg_tu hb).2 (sg_tu ha).2
  rw [(sg_tu ha).1, (sg_tu hb).1] at e1 e2
  rw [e2]
  exact fz_ant hg hn _ _ (e1 ▸ h1)
theorem O3.sc {g : AH} (o : O3 h g) : Sc h g := ⟨fun x j hj => by
  have : x ≠ 80 ∧ x ≠ 81 ∧ x ≠ 82 := ⟨fun z => (by rw [z] at hj; cases hj), fun z => (by rw [z] at hj; cases hj), fun z => (by rw [z] at hj; cases hj)⟩
  rw [o.2 x this.1 this.2.1 this.2.2], fun x j _ => by rw [o.1], fun t => by unfold TXT at *; rw [o.1]; exact t⟩
theorem O80.sc {g : AH} (o : O80 h g) : Sc h g := O3.sc ⟨o.1, fun c c1 _ _ => o.2 c c1⟩
theorem t_apart_bad {x y : Int32} (hA0 : 91 ≤ nx) (hF : Fx h) (hp : InvP h n) (c : twoI n x y = 0 ∨ tieI n (h.1 73) x y = 1) : Mk X (d + 2) m_X12_apart [.ref 68, .int x, .int y] h nx sz (RE (-1) (setI h 68 0 0)) := by
  have h20 := hp.2.1
  have hF0 : Fx (setI h 68 0 0) := hF
  refine Mk.re fun Q hq => e_X12_apart (c_X12_apart_0 hA0 RO_rm hcs0 (t_areTwo (d := d) hA0 (h := setI h 68 0 0) hp.mp) ?_)
  rintro y0 g ⟨rfl, rfl⟩
  by_cases c2 : twoI n x y = 0
  · exact c_X12_apart_11 (d := d + 1) (P21 := fun _ _ => False) hA0 hF0 RO_rm hcs0 (fun _ => hq) (fun c1 => absurd c2 c1) (fun c1 => absurd c2 c1) (fun c1 => absurd c2 c1)
  have c := c.resolve_left c2
  obtain ⟨i, j, hi, hj, -, rfl, rfl⟩ := twoI_ne (by omega) c2
  refine c_X12_apart_11 hA0 hF0 RO_rm hcs0 (fun c1 => absurd c1 c2) (fun _ => vin (by omega) (by decide)) (fun _ => t_has (d := d + 1) (by omega)) ?_
  rintro _ y0 g ⟨rfl, rfl⟩
  rw [tieI_nI h20 hi hj] at c
  have e : (if tb ((setI h 68 0 0).1 73 (nI i).toNatClampNeg) j = true then (1 : Int32) else 0) = 1 := by rw [tN (by omega)]; exact c
  rw [e]
  exact c_X12_apart_24 (d := d + 1) (P30 := fun _ => False) hA0 RO_rm hcs0 (fun z => by cases z) (fun z => by cases z) (fun _ => hq)
theorem t_apart {a b : Nat} (hA0 : 91 ≤ nx) (hF : Fx h) (hp : InvP h n) (hg : Gr n (h.1 73)) (ha : a < n) (hb : b < n) (hab : a ≠ b) (ht : tb (h.1 73 a) b = false) : Mk X (d + 2) m_X12_apart [.ref 68, .int (nI a), .int (nI b)] h nx sz (RI fun y g => ∃ k, y = nI k ∧ MF (fz (h.1 73) n) (20 + a) b k ∧ Sc h g) := by
  have h20 := hp.2.1
  have hF0 : Fx (setI h 68 0 0) := hF
  have s0 : Sc h (setI h 68 0 0) := Sc.rfl.setI rfl
  refine e_X12_apart (c_X12_apart_0 hA0 RO_rm hcs0 (t_areTwo (d := d) hA0 (h := setI h 68 0 0) hp.mp) ?_)
  rintro y0 g ⟨rfl, rfl⟩
  rw [twoI_nI (by omega) ha hb hab]
  refine c_X12_apart_11 hA0 hF0 RO_rm hcs0 (fun z => by cases z) (fun _ => vin (by omega) (by decide)) (fun _ => t_has (d := d + 1) (by omega)) ?_
  rintro _ y0 g ⟨rfl, rfl⟩
  have e : (if tb ((setI h 68 0 0).1 73 (nI a).toNatClampNeg) b = true then (1 : Int32) else 0) = 0 := by
    rw [tN (by omega), show (setI h 68 0 0).1 73 a = h.1 73 a from rfl, ht]
    rfl
  rw [e]
  refine c_X12_apart_24 hA0 RO_rm hcs0 (fun _ => t_openAll (d := d) hA0 hF0 (hp.sc s0).mp) ?_ (fun z => absurd rfl z)
  rintro _ g ⟨o, A⟩
  refine c_X12_apart_33 ?_
  have A : Ar g (fun u v => decide (u < 2 * n) && fm (h.1 73) n u v) := A
  have s1 : Sc h g := s0.trans o.sc
  have efz := fm_fz hg h20 A
  have hs : 2 * a + 1 = sg (20 + a) := by unfold sg; rw [if_neg (by omega)]; omega
  have hb2 : 2 * b = sg b := by unfold sg; rw [if_pos (by omega)]
  have hst : 2 * a + 1 ≠ 2 * b := by omega
  obtain ⟨R0, hR0⟩ : ∃ R0, R0 = Rm g := ⟨_, rfl⟩
  obtain ⟨m, hm⟩ : ∃ m, m = xc R0 (fun x => decide (x = 2 * a + 1)) := ⟨_, rfl⟩
  have key : ∀ (f k : Nat) (g : AH), k + f = m + 1 → Sc h g → FL R0 (Rm g) (2 * a + 1) (2 * b) k → VM X m_X12_apart (d + 2) nx sz (RI fun y g => ∃ k, y = nI k ∧ MF (fz (h.1 73) n) (20 + a) b k ∧ Sc h g) 35 [some (.ref 68), some (.int (nI a)), some (.int (nI b)), some (.int (nI k))] [] g := by
    intro f
    induction f with
    | zero =>
      intro k g hk s f
      have e1 := f.2 (fun x => decide (x = 2 * a + 1)) (decide_eq_true rfl) (decide_eq_false (fun z => hst z.symm))
      omega
    | succ f ih =>
      intro k g hk s f
      refine c_X12_apart_35 hA0 RO_rm hcs0 (P44 := _) (by
        rw [e2n, e2n, nI_1]
        exact t_oneMore (d := d + 1) hA0 (hF.sc s) (s := 2 * a + 1) (t := 2 * b) (by omega) (by omega)) ?_
      rintro y g1 ⟨o1, res⟩
      have s1 : Sc h g1 := s.trans o1.sc
      rcases res with ⟨rfl, w, q, P, r, see, B, hse, eR⟩ | ⟨rfl, eR, w, q, P, r, see, B, hse, hcl⟩
      · refine c_X12_apart_47 (fun z => by cases z) (fun _ => ?_)
        rw [nI_1]
        refine ih (k + 1) g1 (by omega) s1 ?_
        rw [eR]
        exact FL_more f B (by omega) hse
      · refine c_X12_apart_47 (fun _ => ⟨_, rfl, k, rfl, ?_, s1⟩) (fun z => absurd rfl z)
        have m := FL_end f (BI_s B).2 hse hcl
        rw [hs, hb2, hR0] at m
        exact MF_cong efz (MF_sg (by omega) (by omega) m)
  exact key (m + 1) 0 g (by omega) s1 (by rw [hR0]; exact FL_0 (ant_Rm hg h20 A))
end OPS
