/-! circle and apartness: the greatest set found first -/
section GR
variable {n : Nat}
def CP (f : Nat → Int32) (s : Int32) : Prop := ∀ p q, tb s p = true → tb s q = true → p ≠ q → tb (f p) q = true
def Fam (f : Nat → Int32) (c o s : Int32) : Prop := CP f s ∧ (∀ j, tb c j = true → tb s j = true) ∧ ∀ j, tb s j = true → tb c j = true ∨ tb o j = true
def GS (n : Nat) (F : Int32 → Prop) (G G' : Int32) : Prop := (G' = G ∨ (F G' ∧ cnt G n < cnt G' n)) ∧ (∀ s, F s → cnt s n ≤ cnt G' n) ∧ (G' ≠ G → ∀ s, F s → cnt s n = cnt G' n → s = G' ∨ lx G' s)
theorem GS_triv {F : Int32 → Prop} {G : Int32} (h : ∀ s, F s → cnt s n ≤ cnt G n) : GS n F G G := ⟨Or.inl rfl, h, fun z => absurd rfl z⟩
theorem GS_join {F F1 F2 : Int32 → Prop} {G G1 G2 : Int32} (h : ∀ s, F s → F1 s ∨ F2 s) (h1 : ∀ s, F1 s → F s) (h2 : ∀ s, F2 s → F s) (hl : ∀ s t, F1 s → F2 t → cnt s n = cnt t n → lx s t) (a : GS n F1 G G1) (b : GS n F2 G1 G2) : GS n F G G2 := by
  obtain ⟨a1, a2, a3⟩ := a
  obtain ⟨b1, b2, b3⟩ := b
  have le1 : cnt G n ≤ cnt G1 n := by
    rcases a1 with rfl | ⟨-, z⟩
    · exact Nat.le_refl _
    · omega
  have le2 : cnt G1 n ≤ cnt G2 n := by
    rcases b1 with rfl | ⟨-, z⟩
    · exact Nat.le_refl _
    · omega
  refine ⟨?_, fun s hs => ?_, fun hne s hs he => ?_⟩
  · rcases b1 with rfl | ⟨z1, z2⟩
    · rcases a1 with rfl | ⟨z1, z2⟩
      · exact Or.inl rfl
      · exact Or.inr ⟨h1 _ z1, z2⟩
    · exact Or.inr ⟨h2 _ z1, by omega⟩
  · rcases h s hs with z | z
    · have := a2 s z
      omega
    · exact b2 s z
  · by_cases e : G2 = G1
    · subst e
      rcases h s hs with z | z
      · exact a3 hne s z he
      · rcases a1 with q | ⟨q, -⟩
        · exact absurd q hne
        · exact Or.inr (hl _ _ q z he.symm)
    · rcases b1 with q | ⟨q1, q2⟩
      · exact absurd q e
      · rcases h s hs with z | z
        · have := a2 s z
          omega
        · exact b3 e s z he
theorem Fam_lt {f : Nat → Int32} {c o s : Int32} (hc : ∀ j, tb c j = true → j < n) (ho : ∀ j, tb o j = true → j < n) (h : Fam f c o s) (j : Nat) (hj : tb s j = true) : j < n := (h.2.2 j hj).elim (hc j) (ho j)
theorem cnt_or {x y : Int32} : ∀ {m : Nat}, cnt (x ||| y) m ≤ cnt x m + cnt y m
  | 0 => Nat.le_refl _
  | m + 1 => by
    have := cnt_or (x := x) (y := y) (m := m)
    unfold cnt
    rw [tb_or]
    cases tb x m <;> cases tb y m <;> simp <;> omega
theorem Fam_cnt {f : Nat → Int32} {c o s : Int32} (h : Fam f c o s) : cnt s n ≤ cnt c n + cnt o n := by
  refine Nat.le_trans (cnt_mono (y := c ||| o) (fun i _ hi => ?_)) cnt_or
  rw [tb_or]
  rcases h.2.2 i hi with z | z
  · rw [z, Bool.true_or]
  · rw [z, Bool.or_true]
theorem cnt_strict {c s : Int32} (hs : ∀ j, tb s j = true → j < n) (h : ∀ j, tb c j = true → tb s j = true) (hne : s ≠ c) : cnt c n < cnt s n := by
  obtain ⟨i, hi, h2⟩ := ne_bit hne
  have h3 : tb s i = true := by
    cases q : tb s i with
    | true => rfl
    | false =>
      rw [q] at h2
      cases r : tb c i with
      | false => rw [r] at h2; exact absurd rfl h2
      | true => rw [h i r] at q; cases q
  have h4 : tb c i = false := by
    cases r : tb c i with
    | false => rfl
    | true => rw [h3, r] at h2; exact absurd rfl h2
  exact cnt_lt (fun j _ => h j) (hs i h3) h4 h3
/-- what holds where a set is grown -/
def PRE (f : Nat → Int32) (n : Nat) (c o : Int32) : Prop := CP f c ∧ (∀ p q, tb c p = true → tb o q = true → tb (f p) q = true ∧ tb (f q) p = true ∧ p < q) ∧ (∀ j, tb c j = true → j < n) ∧ ∀ j, tb o j = true → j < n
theorem tb_wout {x : Int32} {i j : Nat} (hi : i < 32) : tb (x &&& (bt i ^^^ (-1))) j = true ↔ tb x j = true ∧ j ≠ i := by
  rw [tb_and, Bool.and_eq_true]
  constructor
  · rintro ⟨a, b⟩
    have hj : j < 32 := by
      rcases Nat.lt_or_ge j 32 with q | q
      · exact q
      · rw [tb_32 q] at a
        cases a
    rw [tb_not hj, tb_bt hi] at b
    exact ⟨a, fun z => by rw [z, decide_eq_true rfl] at b; cases b⟩
  · rintro ⟨a, b⟩
    have hj : j < 32 := by
      rcases Nat.lt_or_ge j 32 with q | q
      · exact q
      · rw [tb_32 q] at a
        cases a
    rw [tb_not hj, tb_bt hi, decide_eq_false (fun z => b z.symm)]
    exact ⟨a, rfl⟩
theorem PRE.child {f : Nat → Int32} {c o left : Int32} {i : Nat} (hp : PRE f n c o) (fs : ∀ p q, tb (f p) q = true → p < n → q < n → tb (f q) p = true) (hi : i < n) (hn : n ≤ 20) (hl : ∀ j, tb left j = true → tb o j = true ∧ i ≤ j) (hb : tb left i = true) : PRE f n (c ||| bt i) ((left &&& (bt i ^^^ (-1))) &&& f i) := by
  obtain ⟨p1, p2, p3, p4⟩ := hp
  have tc : ∀ j, tb (c ||| bt i) j = true ↔ tb c j = true ∨ j = i := fun j => by
    rw [tb_or, tb_bt (by omega)]
    by_cases e : i = j
    · simp [e]
    · have : ¬ j = i := fun z => e z.symm
      simp [e, this]
  have to : ∀ j, tb ((left &&& (bt i ^^^ (-1))) &&& f i) j = true ↔ (tb left j = true ∧ j ≠ i) ∧ tb (f i) j = true := fun j => by
    rw [tb_and, Bool.and_eq_true, tb_wout (by omega)]
  refine ⟨fun p q hp hq hpq => ?_, fun p q hp hq => ?_, fun j hj => ?_, fun j hj => ?_⟩
  · rcases (tc p).mp hp with a | a <;> rcases (tc q).mp hq with b | b
    · exact p1 p q a b hpq
    · rw [b]
      exact (p2 p i a (hl i hb).1).1
    · rw [a]
      exact (p2 q i b (hl i hb).1).2.1
    · exact absurd (a.trans b.symm) hpq
  · obtain ⟨⟨b1, b2⟩, b3⟩ := (to q).mp hq
    rcases (tc p).mp hp with a | a
    · exact p2 p q a (hl q b1).1
    · subst a
      exact ⟨b3, fs _ _ b3 hi (p4 q (hl q b1).1), by have := (hl q b1).2; omega⟩
  · rcases (tc j).mp hj with a | a
    · exact p3 j a
    · rw [a]; exact hi
  · exact p4 j (hl j ((to j).mp hj).1.1).1
theorem GS_step {f : Nat → Int32} {c o left : Int32} {i : Nat} {G G1 G2 : Int32} (hp : PRE f n c o) (hi : i < n) (hn : n ≤ 20) (hl : ∀ j, tb left j = true → tb o j = true ∧ i ≤ j) (hb : tb left i = true) (a : GS n (Fam f (c ||| bt i) ((left &&& (bt i ^^^ (-1))) &&& f i)) G G1) (b : GS n (Fam f c (left &&& (bt i ^^^ (-1)))) G1 G2) : GS n (Fam f c left) G G2 := by
  obtain ⟨p1, p2, p3, p4⟩ := hp
  have hci : tb c i = false := by
    cases q : tb c i with
    | false => rfl
    | true => have := (p2 i i q (hl i hb).1).2.2; omega
  have tc : ∀ j, tb (c ||| bt i) j = true ↔ tb c j = true ∨ j = i := fun j => by
    rw [tb_or, tb_bt (by omega)]
    by_cases e : i = j
    · simp [e]
    · have : ¬ j = i := fun z => e z.symm
      simp [e, this]
  have to : ∀ j, tb ((left &&& (bt i ^^^ (-1))) &&& f i) j = true ↔ (tb left j = true ∧ j ≠ i) ∧ tb (f i) j = true := fun j => by
    rw [tb_and, Bool.and_eq_true, tb_wout (by omega)]
  refine GS_join (fun s hs => ?_) (fun s hs => ?_) (fun s hs => ?_) (fun s t hs ht he => ?_) a b
  · cases q : tb s i with
    | true =>
      refine Or.inl ⟨hs.1, fun j hj => ?_, fun j hj => ?_⟩
      · rcases (tc j).mp hj with z | z
        · exact hs.2.1 j z
        · rw [z]; exact q
      · by_cases e : j = i
        · exact Or.inl ((tc j).mpr (Or.inr e))
        · rcases hs.2.2 j hj with z | z
          · exact Or.inl ((tc j).mpr (Or.inl z))
          · exact Or.inr ((to j).mpr ⟨⟨z, e⟩, hs.1 i j q hj (Ne.symm e)⟩)
    | false =>
      refine Or.inr ⟨hs.1, hs.2.1, fun j hj => ?_⟩
      rcases hs.2.2 j hj with z | z
      · exact Or.inl z
      · exact Or.inr ((tb_wout (by omega)).mpr ⟨z, fun e => by rw [e, q] at hj; cases hj⟩)
  · refine ⟨hs.1, fun j hj => hs.2.1 j ((tc j).mpr (Or.inl hj)), fun j hj => ?_⟩
    rcases hs.2.2 j hj with z | z
    · rcases (tc j).mp z with y | y
      · exact Or.inl y
      · rw [y]; exact Or.inr hb
    · exact Or.inr ((to j).mp z).1.1
  · refine ⟨hs.1, hs.2.1, fun j hj => ?_⟩
    rcases hs.2.2 j hj with z | z
    · exact Or.inl z
    · exact Or.inr ((tb_wout (by omega)).mp z).1
  · refine ⟨i, hs.2.1 i ((tc i).mpr (Or.inr rfl)), ?_, fun j hj => ?_⟩
    · cases q : tb t i with
      | false => rfl
      | true =>
        rcases ht.2.2 i q with z | z
        · rw [hci] at z; cases z
        · exact absurd rfl ((tb_wout (by omega)).mp z).2
    · have e1 : tb s j = true ↔ tb c j = true := by
        constructor
        · intro z
          rcases hs.2.2 j z with y | y
          · rcases (tc j).mp y with x | x
            · exact x
            · omega
          · have := (hl j ((to j).mp y).1.1).2
            omega
        · intro z
          exact hs.2.1 j ((tc j).mpr (Or.inl z))
      have e2 : tb t j = true ↔ tb c j = true := by
        constructor
        · intro z
          rcases ht.2.2 j z with y | y
          · exact y
          · have := (hl j ((tb_wout (by omega)).mp y).1).2
            omega
        · intro z
          exact ht.2.1 j z
      exact Bool.eq_iff_iff.mpr (e1.trans e2.symm)
/-- first itself, then those that it grows to -/
theorem GS_self {f : Nat → Int32} {c o G G2 : Int32} (hp : PRE f n c o) (b : GS n (Fam f c o) (if cnt c n ≤ cnt G n then G else c) G2) : GS n (Fam f c o) G G2 := by
  have hst : ∀ s, Fam f c o s → s ≠ c → cnt c n < cnt s n := fun s hs hne => cnt_strict (Fam_lt hp.2.2.1 hp.2.2.2 hs) hs.2.1 hne
  have hc1 : cnt c n ≤ cnt (if cnt c n ≤ cnt G n then G else c) n := by
    split
    · assumption
    · exact Nat.le_refl _
  refine GS_join (F1 := fun s => s = c) (F2 := fun s => Fam f c o s ∧ s ≠ c) (G1 := if cnt c n ≤ cnt G n then G else c) (fun s hs => ?_) (fun s hs => ?_) (fun s hs => hs.1) (fun s t hs ht he => ?_) ⟨?_, fun s hs => ?_, fun _ s hs he => ?_⟩ ⟨?_, fun s hs => b.2.1 s hs.1, fun hne s hs => b.2.2 hne s hs.1⟩
  · by_cases e : s = c
    · exact Or.inl e
    · exact Or.inr ⟨hs, e⟩
  · subst hs
    exact ⟨hp.1, fun j hj => hj, fun j hj => Or.inl hj⟩
  · subst hs
    have := hst t ht.1 ht.2
    omega
  · split
    · exact Or.inl rfl
    · exact Or.inr ⟨rfl, by omega⟩
  · rw [hs]
    exact hc1
  · rename_i hne
    rw [hs]
    split at hne
    · exact absurd rfl hne
    · left
      rw [if_neg (by assumption)]
  · rcases b.1 with z | ⟨z1, z2⟩
    · exact Or.inl z
    · exact Or.inr ⟨⟨z1, fun e => by rw [e] at z2; omega⟩, z2⟩
end GR
section OPS
variable {X : CX} {d nx sz : Nat} {h : AH} {n : Nat}
theorem setI_I {a i : Nat} {x y : Int32} : setI (setI h a i x) a i y = setI h a i y := by
  refine Prod.ext (funext fun k => funext fun j => ?_) rfl
  show (if k = a ∧ j = i then y else (if k = a ∧ j = i then x else h.1 k j)) = if k = a ∧ j = i then y else h.1 k j
  by_cases c : k = a ∧ j = i
  · rw [if_pos c, if_pos c]
  · rw [if_neg c, if_neg c, if_neg c]
theorem setI_id {a i : Nat} : setI h a i (h.1 a i) = h := by
  refine Prod.ext (funext fun k => funext fun j => ?_) rfl
  show (if k = a ∧ j = i then h.1 a i else h.1 k j) = h.1 k j
  by_cases c : k = a ∧ j = i
  · rw [if_pos c, c.1, c.2]
  · rw [if_neg c]
theorem s_grow23 {Q : Option Value → AH → Prop} {D dp r N : Nat} {c o : Int32} (hk : kd X r = (20, N)) (hr : r < nx) (hnN : n ≤ N) (hN : N ≤ 20) (fs : ∀ p q, tb (h.1 r p) q = true → p < n → q < n → tb (h.1 r q) p = true) (hp : PRE (h.1 r) n c o) (hd : dp = cnt c n)
    (ih : ∀ (c' o' G : Int32) (dp' : Nat), cnt o' n < cnt o n → PRE (h.1 r) n c' o' → (∀ j, tb G j = true → j < n) → dp' = cnt c' n → dp' + cnt o' n ≤ 20 → Mk X D m_X9_grow [.ref r, .int (nI dp'), .int c', .int o', .int G] h nx sz (RI fun y g => (∀ j, tb y j = true → j < n) ∧ GS n (Fam (h.1 r) c' o') G y ∧ h = g)) :
    ∀ (k i : Nat) (left G : Int32), i + k = n → (∀ j, tb left j = true → tb o j = true ∧ i ≤ j) → cnt c n ≤ cnt G n → dp + cnt left n ≤ 20 → (∀ j, tb G j = true → j < n) → (∀ G', (∀ j, tb G' j = true → j < n) → GS n (Fam (h.1 r) c left) G G' → Q (some (.int G')) h) → VM X m_X9_grow (D + 1) nx sz Q 23 [some (.ref r), some (.int (nI dp)), some (.int c), none, none, some (.int G), some (.int left), some (.int (nI i))] [] h := by
  have h20 : n ≤ 20 := Nat.le_trans hnN hN
  intro k
  induction k with
  | zero =>
    intro i left G hi hl hcG hdl hG fin
    have hlb : ∀ j, tb left j = true → j < n := fun j hj => hp.2.2.2 j (hl j hj).1
    have l0 : cnt left n = 0 := by
      rw [cnt_sm]
      exact sm_zero fun j hj => if_neg fun z => by have := (hl j z).2; omega
    have gs : GS n (Fam (h.1 r) c left) G G := GS_triv fun s hs => by
      have := Fam_cnt (n := n) hs
      omega
    have cG := cnt_le (x := G) (n := n)
    have ltI : nI (cnt G n) < nI (dp + cnt left n) ↔ cnt G n < dp + cnt left n := nI_ltI (by omega) (by omega)
    have nlt : ¬ nI (cnt G n) < nI (dp + cnt left n) := fun z => by rw [ltI] at z; omega
    refine c_X9_grow_23 (d := D) hk hr RO_rm hcs0 (fun _ => fin G hG gs) (fun _ _ => fin G hG gs) (fun _ _ => s_bitCount (d := D)) ?_
    rintro _ _ _ g ⟨rfl, rfl⟩
    refine c_X9_grow_42 (n_r0 := N) RO_rm hcs0 (s_bitCount (d := D)) ?_
    rintro _ g ⟨rfl, rfl⟩
    rw [bc_lt h20 hlb, bc_lt h20 hG, nI_add]
    exact c_X9_grow_48 (d := D) (P94 := fun _ _ => False) hk hr RO_rm hcs0 (fun z => absurd z nlt) (fun z => absurd z nlt) (fun z => absurd z nlt) (fun z => absurd z nlt) (fun _ => fin G hG gs)
  | succ k ihk =>
    intro i left G hi hl hcG hdl hG fin
    have hin : i < n := by omega
    have no : ¬ nI N ≤ nI i := fun z => by
      rw [le_nI (by omega) (by omega)] at z
      omega
    have hlb : ∀ j, tb left j = true → j < n := fun j hj => hp.2.2.2 j (hl j hj).1
    have le20 : (20 : Int32) ≤ nI dp ↔ 20 ≤ dp := le_nI (a := 20) (by decide) (by omega)
    refine c_X9_grow_23 hk hr RO_rm hcs0 (fun z => absurd z no) (fun _ z => ?_) (fun _ _ => s_bitCount (d := D)) ?_
    · rw [le20] at z
      refine fin G hG (GS_triv fun s hs => ?_)
      have := Fam_cnt (n := n) hs
      omega
    rintro _ _ _ g ⟨rfl, rfl⟩
    refine c_X9_grow_42 (n_r0 := N) RO_rm hcs0 (s_bitCount (d := D)) ?_
    rintro _ g ⟨rfl, rfl⟩
    rw [bc_lt h20 hlb, bc_lt h20 hG, nI_add]
    have cG := cnt_le (x := G) (n := n)
    have ltI : nI (cnt G n) < nI (dp + cnt left n) ↔ cnt G n < dp + cnt left n := nI_ltI (by omega) (by omega)
    have next : tb left i = false → VM X m_X9_grow (D + 1) nx sz Q 23 [some (.ref r), some (.int (nI dp)), some (.int c), none, none, some (.int G), some (.int left), some (.int (nI i + 1))] [] h := fun z => by
      rw [nI_1]
      refine ihk (i + 1) left G (by omega) (fun j hj => ⟨(hl j hj).1, ?_⟩) hcG hdl hG fin
      have := (hl j hj).2
      have : j ≠ i := fun y => by rw [y, z] at hj; cases hj
      omega
    refine c_X9_grow_48 hk hr RO_rm hcs0 (fun _ z => next ((shr_eq0 (by omega)).mp z)) (fun _ _ => vin (by omega) (by omega)) (P94 := fun y g => (∀ j, tb y j = true → j < n) ∧ GS n (Fam (h.1 r) (c ||| bt i) ((left &&& (bt i ^^^ (-1))) &&& h.1 r i)) G y ∧ h = g) (fun _ z => ?_) ?_ (fun z => ?_)
    · have hb : tb left i = true := by
        rw [shr_eq0 (by omega)] at z
        simpa using z
      rw [tN (by omega), bt_toInt32, nI_1]
      have hch := hp.child fs hin h20 hl hb
      have lt1 : cnt ((left &&& (bt i ^^^ (-1))) &&& h.1 r i) n < cnt left n := cnt_lt (i := i) (fun j _ hj => by
        rw [tb_and, Bool.and_eq_true, tb_wout (by omega)] at hj
        exact hj.1.1) hin (by
        cases q : tb ((left &&& (bt i ^^^ (-1))) &&& h.1 r i) i with
        | false => rfl
        | true =>
          rw [tb_and, Bool.and_eq_true, tb_wout (by omega)] at q
          exact absurd rfl q.1.2) hb
      have le1 : cnt left n ≤ cnt o n := cnt_mono fun j _ hj => (hl j hj).1
      have hci : tb c i = false := by
        cases q : tb c i with
        | false => rfl
        | true => have := (hp.2.1 i i q (hl i hb).1).2.2; omega
      have e1 := cnt_flip (n := n) (x := c ||| bt i) (y := c) hin (fun j hj => by
        rw [tb_or, tb_bt (by omega), decide_eq_false (fun z => hj z.symm), Bool.or_false])
      rw [tb_or, tb_bt (by omega), decide_eq_true rfl, Bool.or_true, hci, if_neg (by decide), if_pos rfl] at e1
      exact ih (c ||| bt i) ((left &&& (bt i ^^^ (-1))) &&& h.1 r i) G (dp + 1) (by omega) hch hG (by omega) (by omega)
    · rintro _ z y g ⟨hG', gs, rfl⟩
      have hb : tb left i = true := by
        rw [shr_eq0 (by omega)] at z
        simpa using z
      refine c_X9_grow_97 (n_r0 := N) ?_
      rw [nI_1, bt_toInt32]
      have leG : cnt G n ≤ cnt y n := by
        rcases gs.1 with z | ⟨-, z⟩
        · rw [z]; exact Nat.le_refl _
        · omega
      have le2 : cnt (left &&& (bt i ^^^ (-1))) n ≤ cnt left n := cnt_mono fun j _ hj => ((tb_wout (by omega)).mp hj).1
      refine ihk (i + 1) _ y (by omega) (fun j hj => ?_) (by omega) (by omega) hG' (fun G2 h3 h4 => fin G2 h3 (GS_step hp hin h20 hl hb gs h4))
      obtain ⟨j1, j2⟩ := (tb_wout (by omega)).mp hj
      have := (hl j j1).2
      exact ⟨(hl j j1).1, by omega⟩
    · rw [ltI] at z
      refine fin G hG (GS_triv fun s hs => ?_)
      have := Fam_cnt (n := n) hs
      omega
theorem s_grow {r N : Nat} (hk : kd X r = (20, N)) (hr : r < nx) (hnN : n ≤ N) (hN : N ≤ 20) (fs : ∀ p q, tb (h.1 r p) q = true → p < n → q < n → tb (h.1 r q) p = true) : ∀ (m : Nat) (c o G : Int32) (dp : Nat), cnt o n ≤ m → PRE (h.1 r) n c o → (∀ j, tb G j = true → j < n) → dp = cnt c n → dp + cnt o n ≤ 20 → Mk X (d + m + 1) m_X9_grow [.ref r, .int (nI dp), .int c, .int o, .int G] h nx sz (RI fun y g => (∀ j, tb y j = true → j < n) ∧ GS n (Fam (h.1 r) c o) G y ∧ h = g) := by
  have h20 : n ≤ 20 := Nat.le_trans hnN hN
  have main : ∀ (m : Nat) (c o G : Int32) (dp : Nat), cnt o n ≤ m → PRE (h.1 r) n c o → (∀ j, tb G j = true → j < n) → dp = cnt c n → dp + cnt o n ≤ 20 → (∀ (c' o' G : Int32) (dp' : Nat), cnt o' n < cnt o n → PRE (h.1 r) n c' o' → (∀ j, tb G j = true → j < n) → dp' = cnt c' n → dp' + cnt o' n ≤ 20 → Mk X (d + m) m_X9_grow [.ref r, .int (nI dp'), .int c', .int o', .int G] h nx sz (RI fun y g => (∀ j, tb y j = true → j < n) ∧ GS n (Fam (h.1 r) c' o') G y ∧ h = g)) → Mk X (d + m + 1) m_X9_grow [.ref r, .int (nI dp), .int c, .int o, .int G] h nx sz (RI fun y g => (∀ j, tb y j = true → j < n) ∧ GS n (Fam (h.1 r) c o) G y ∧ h = g) := by
    intro m c o G dp hm hp hG hd hdl ih
    refine e_X9_grow (n_r0 := N) (c_X9_grow_0 (n_r0 := N) RO_rm hcs0 (s_bitCount (d := d + m)) ?_)
    rintro _ g ⟨rfl, rfl⟩
    rw [bc_lt h20 hG]
    have c1 := cnt_le (x := c) (n := n)
    have c2 := cnt_le (x := G) (n := n)
    have leI : nI dp ≤ nI (cnt G n) ↔ dp ≤ cnt G n := le_nI (by omega) (by omega)
    have self := fun G2 => GS_self (G := G) (G2 := G2) hp
    refine c_X9_grow_6 (n_r0 := N) (fun z => ?_) (fun z => ?_)
    · rw [leI] at z
      refine s_grow23 hk hr hnN hN fs hp hd ih n 0 o G (by omega) (fun j hj => ⟨hj, Nat.zero_le _⟩) (by omega) hdl hG (fun G' h3 h4 => ⟨G', rfl, h3, self G' ?_, rfl⟩)
      rw [if_pos (by omega)]
      exact h4
    · rw [leI] at z
      refine s_grow23 hk hr hnN hN fs hp hd ih n 0 o c (by omega) (fun j hj => ⟨hj, Nat.zero_le _⟩) (Nat.le_refl _) hdl hp.2.2.1 (fun G' h3 h4 => ⟨G', rfl, h3, self G' ?_, rfl⟩)
      rw [if_neg (by omega)]
      exact h4
  intro m
  induction m with
  | zero => exact fun c o G dp hm hp hG hd hdl => main 0 c o G dp hm hp hG hd hdl (fun c' o' G' dp' lt => by omega)
  | succ m ih =>
    intro c o G dp hm hp hG hd hdl
    exact main (m + 1) c o G dp hm hp hG hd hdl (fun c' o' G' dp' lt hp' hG' hd' hdl' => ih c' o' G' dp' (by omega) hp' hG' hd' hdl')
/-- the first of the greatest -/
theorem GS_bst {F : Int32 → Prop} {G : Int32} (h0 : F 0) (hb : ∀ s, F s → ∀ j, tb s j = true → j < n) (g : GS n F 0 G) : Bst n false F G := by
  obtain ⟨g1, g2, g3⟩ := g
  have hF : F G := by
    rcases g1 with z | ⟨z, -⟩
    · rw [z]; exact h0
    · exact z
  refine ⟨hF, fun s hs hbt => ?_⟩
  rcases bet_iff.mp hbt with ⟨e, l⟩ | ⟨z, -⟩ | ⟨-, z⟩
  · by_cases e0 : G = 0
    · rw [e0] at l
      obtain ⟨i, i1, i2, i3⟩ := l
      rw [e0] at e
      have : cnt (0 : Int32) n = 0 := by rw [cnt_sm]; exact sm_zero fun j _ => by rw [tb_0]; rfl
      have hs0 := g2 s hs
      rw [e0, this] at hs0
      have := cnt_lt (x := 0) (y := s) (n := n) (fun j _ z => by rw [tb_0] at z; cases z) (hb s hs i i1) (tb_0 i) i1
      omega
    · rcases g3 e0 s hs e with z | z
      · rw [z] at l
        exact lx_irr l
      · exact lx_asym l z
  · cases z
  · have := g2 s hs
    omega
end OPS
