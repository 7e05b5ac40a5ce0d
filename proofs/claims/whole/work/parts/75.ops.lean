/-! circle, apartness: the class -/
section OPS
variable {X : CX} {d nx sz : Nat} {h : AH} {n : Nat} {K : Nat → Int32}
def inN (n : Nat) (s : Int32) : Prop := ∀ j, tb s j = true → j < n
theorem isA_0 {s : Int32} (hg : Gr n K) (hn : n ≤ 20) (hs : inN n s) : isA K n 0 s ↔ CP K s := by
  constructor
  · intro a p q hp hq hpq
    have e := (a p (hs p hp)).1 rfl hp
    cases c : tb (K p) q with
    | true => rfl
    | false =>
      have hq32 : q < 32 := by have := hs q hq; omega
      have t : tb (s &&& (K p ^^^ (-1))) q = true := by rw [tb_and, hq, tb_not hq32, c]; rfl
      rw [e] at t
      exact absurd (bt_eq (by have := hs p hp; omega) t) hpq
  · intro a p hp
    refine ⟨fun _ h => ?_, fun z => by omega, fun z => by omega⟩
    apply tb_ext
    intro j hj
    rw [tb_and, tb_not hj, tb_bt (by omega)]
    by_cases e : p = j
    · subst e
      rw [h, decide_eq_true rfl]
      cases c : tb (K p) p with
      | false => rfl
      | true => exact absurd rfl (hg p p c).2.2.1
    · rw [decide_eq_false e]
      cases c : tb s j with
      | false => rfl
      | true => rw [a p j h c e]; rfl
def apF (K : Nat → Int32) (n : Nat) (p : Nat) : Int32 := (full n &&& (K p ^^^ (-1))) &&& (bt p ^^^ (-1))
theorem tb_apF {p q : Nat} (hn : n ≤ 20) (hp : p < n) : tb (apF K n p) q = true ↔ q < n ∧ tb (K p) q = false ∧ q ≠ p := by
  unfold apF
  rw [tb_wout (by omega), tb_and, Bool.and_eq_true, tb_fulln hn]
  constructor
  · rintro ⟨⟨a, b⟩, c⟩
    rw [tb_not (by omega)] at b
    exact ⟨a, by simpa using b, c⟩
  · rintro ⟨a, b, c⟩
    rw [tb_not (by omega), b]
    exact ⟨⟨a, rfl⟩, c⟩
theorem isA_1 {s : Int32} {f : Nat → Int32} (hg : Gr n K) (hn : n ≤ 20) (hs : inN n s) (hf : ∀ p, p < n → f p = apF K n p) : isA K n 1 s ↔ CP f s := by
  constructor
  · intro a p q hp hq hpq
    have hpn := hs p hp
    have e := (a p hpn).2.1 rfl hp
    rw [hf p hpn, tb_apF hn hpn]
    refine ⟨hs q hq, ?_, Ne.symm hpq⟩
    cases c : tb (K p) q with
    | false => rfl
    | true =>
      have t : tb (s &&& K p) q = true := by rw [tb_and, hq, c]; rfl
      rw [e, tb_0] at t
      cases t
  · intro a p hp
    refine ⟨fun z => by omega, fun _ h => ?_, fun z => by omega⟩
    apply tb_ext
    intro j hj
    rw [tb_and, tb_0]
    cases c : tb s j with
    | false => rfl
    | true =>
      cases k : tb (K p) j with
      | false => rfl
      | true =>
        have hne := (hg p j k).2.2.1
        have := a p j h c hne
        rw [hf p hp, tb_apF hn hp, k] at this
        cases this.2.1
theorem cnt_0 : ∀ {m : Nat}, cnt (0 : Int32) m = 0
  | 0 => rfl
  | m + 1 => by
    unfold cnt
    rw [cnt_0 (m := m), tb_0]
    rfl
theorem cnt_full (hn : n ≤ 20) : cnt (full n) n = n := by
  rw [cnt_sm]
  have : ∀ m, m ≤ n → sm (fun i => if tb (full n) i = true then 1 else 0) m = m := by
    intro m
    induction m with
    | zero => intro _; rfl
    | succ m ih =>
      intro hm
      show sm _ m + (if tb (full n) m = true then 1 else 0) = m + 1
      rw [ih (by omega), if_pos ((tb_fulln hn).mpr (by omega))]
  exact this n (Nat.le_refl _)
theorem PRE_0 {f : Nat → Int32} (hn : n ≤ 20) : PRE f n 0 (full n) := ⟨fun p q hp => (by rw [tb_0] at hp; cases hp), fun p q hp => (by rw [tb_0] at hp; cases hp), fun j hj => (by rw [tb_0] at hj; cases hj), fun j hj => (tb_fulln hn).mp hj⟩
theorem Fam_0 {f : Nat → Int32} {s : Int32} (hn : n ≤ 20) : Fam f 0 (full n) s ↔ CP f s ∧ inN n s := by
  constructor
  · rintro ⟨a, -, c⟩
    refine ⟨a, fun j hj => ?_⟩
    rcases c j hj with z | z
    · rw [tb_0] at z; cases z
    · exact (tb_fulln hn).mp z
  · rintro ⟨a, b⟩
    exact ⟨a, fun j hj => (by rw [tb_0] at hj; cases hj), fun j hj => Or.inr ((tb_fulln hn).mpr (b j hj))⟩
theorem Bst_cong {few : Bool} {F F' : Int32 → Prop} {r : Int32} (h : ∀ s, F s ↔ F' s) (b : Bst n few F r) : Bst n few F' r := ⟨(h r).mp b.1, fun s hs => b.2 s ((h s).mpr hs)⟩
theorem GS_fam {f : Nat → Int32} {G : Int32} (hn : n ≤ 20) (g : GS n (Fam f 0 (full n)) 0 G) : Bst n false (fun s => CP f s ∧ inN n s) G :=
  Bst_cong (fun s => Fam_0 hn) (GS_bst ((Fam_0 hn).mpr ⟨fun p q hp => (by rw [tb_0] at hp; cases hp), fun j hj => (by rw [tb_0] at hj; cases hj)⟩) (fun s hs => ((Fam_0 hn).mp hs).2) g)
theorem s_circle (hA0 : 91 ≤ nx) (hF : Fx h) (hP : InvP h n) (hg : Gr n (h.1 2)) : Mk X (d + 22) m_X9_circle [.ref 21] h nx sz (RI fun y g => Bst n false (fun s => isA (h.1 2) n 0 s ∧ inN n s) y ∧ Sc h g) := by
  have h20 := hP.2.1
  refine e_X9_circle (c_X9_circle_0 (P17 := fun y g => (∀ j, tb y j = true → j < n) ∧ GS n (Fam (h.1 2) 0 (full n)) 0 y ∧ h = g) hA0 hF RO_rm hcs0 ?_ ?_)
  · rw [(hP.np net1).2.2.1]
    exact s_grow (d := d) (r := 2) kd_2 (ltA hA0 rfl) h20 (Nat.le_refl 20) (fun p q a _ _ => (hg p q a).2.2.2) 20 0 (full n) 0 0 (by rw [cnt_full h20]; exact h20) (PRE_0 h20) (fun j hj => (by rw [tb_0] at hj; cases hj)) cnt_0.symm (by rw [cnt_full h20]; omega)
  · rintro y g ⟨hb, gs, rfl⟩
    refine c_X9_circle_20 ⟨_, rfl, Bst_cong (fun s => ?_) (GS_fam h20 gs), Sc.rfl⟩
    constructor
    · rintro ⟨a, b⟩
      exact ⟨(isA_0 hg h20 b).mpr a, b⟩
    · rintro ⟨a, b⟩
      exact ⟨(isA_0 hg h20 b).mp a, b⟩
theorem s_apartness (hX : nX X = n) (hA0 : 91 ≤ nx) (hF : Fx h) (hP : InvP h n) (hg : Gr n (h.1 2)) : Mk X (d + 22) m_X9_apartness [.ref 21] h nx sz (RI fun y g => Bst n false (fun s => isA (h.1 2) n 1 s ∧ inN n s) y ∧ Sc h g) := by
  obtain ⟨hn, h0, e1, h2, h20⟩ := hP.np net1
  have k22 : kd X 22 = (20, n) := kd_22.trans (by rw [hX])
  refine e_X9_apartness (c_X9_apartness_0 ?_)
  obtain ⟨Q, hQ⟩ : ∃ Q, Q = (RI fun y g => Bst n false (fun s => isA (h.1 2) n 1 s ∧ inN n s) y ∧ Sc h g) := ⟨_, rfl⟩
  rw [← hQ]
  have key : VM X m_X9_apartness (d + 22) nx sz Q 2 [some (.ref 21), some (.int (nI 0))] [] (setA h 22 (upto 0 (apF (h.1 2) n) (h.1 22))) := by
    refine down_ind (N := n) (P := fun i => VM X m_X9_apartness (d + 22) nx sz Q 2 [some (.ref 21), some (.int (nI i))] [] (setA h 22 (upto i (apF (h.1 2) n) (h.1 22)))) ?_ (fun i hi q => ?_)
    · obtain ⟨h1, eh⟩ : ∃ h1, h1 = setA h 22 (upto n (apF (h.1 2) n) (h.1 22)) := ⟨_, rfl⟩
      rw [← eh]
      have r22 : h1.1 22 = upto n (apF (h.1 2) n) (h.1 22) := by rw [eh]; exact setA_self
      have hfK : ∀ p, p < n → h1.1 22 p = apF (h.1 2) n p := fun p hp => by rw [r22]; exact upto_lt hp
      have hF1 : Fx h1 := by rw [eh]; exact hF
      have e11 : h1.1 1 1 = full n := by rw [eh]; exact e1
      have s1 : Sc h h1 := by rw [eh]; exact Sc.rfl.setA rfl
      have fs : ∀ p q, tb (h1.1 22 p) q = true → p < n → q < n → tb (h1.1 22 q) p = true := fun p q a b c => by
        rw [hfK p b, tb_apF h20 b] at a
        rw [hfK q c, tb_apF h20 c]
        exact ⟨b, by rw [tb_sym hg]; exact a.2.1, Ne.symm a.2.2⟩
      have yes : Int32.ofNat (nX X) ≤ nI n := by rw [hX]; exact Int32.le_refl _
      refine c_X9_apartness_2 (P62 := fun y g => (∀ j, tb y j = true → j < n) ∧ GS n (Fam (h1.1 22) 0 (full n)) 0 y ∧ h1 = g) hA0 hF1 RO_rm hcs0 (fun _ => ?_) ?_ (fun z => absurd yes z) (fun z => absurd yes z) (fun z => absurd yes z)
      · rw [e11]
        exact s_grow (d := d) (r := 22) k22 (ltA hA0 rfl) (Nat.le_refl n) h20 fs 20 0 (full n) 0 0 (by rw [cnt_full h20]; exact h20) (PRE_0 h20) (fun j hj => (by rw [tb_0] at hj; cases hj)) cnt_0.symm (by rw [cnt_full h20]; omega)
      · rintro _ y g ⟨hb, gs, rfl⟩
        refine c_X9_apartness_65 ?_
        rw [hQ]
        refine ⟨_, rfl, Bst_cong (fun s => ?_) (GS_fam h20 gs), s1⟩
        constructor
        · rintro ⟨a, b⟩
          exact ⟨(isA_1 hg h20 b hfK).mpr a, b⟩
        · rintro ⟨a, b⟩
          exact ⟨(isA_1 hg h20 b hfK).mp a, b⟩
    · have no : ¬ Int32.ofNat (nX X) ≤ nI i := fun z => by
        rw [hX] at z
        have z : nI n ≤ nI i := z
        rw [le_nI (by omega) (by omega)] at z
        omega
      refine c_X9_apartness_2 (d := d + 21) (P62 := fun _ _ => False) hA0 hF RO_rm hcs0 (fun z => absurd z no) (fun z => absurd z no) (fun _ => vin (by omega) (by decide)) (fun _ => by rw [hX]; exact vin hi (by omega)) (fun _ => ?_)
      have e3 : ((setA h 22 (upto i (apF (h.1 2) n) (h.1 22))).1 1 1 &&& ((setA h 22 (upto i (apF (h.1 2) n) (h.1 22))).1 2 i ^^^ (-1))) &&& ((1 : Int32) <<< (nI i &&& 31) ^^^ (-1)) = apF (h.1 2) n i := by
        rw [show (setA h 22 (upto i (apF (h.1 2) n) (h.1 22))).1 1 1 = h.1 1 1 from rfl, e1]
        rfl
      rw [nI_1, tN (by omega), e3, setI_upto]
      exact q
  rw [upto_0, setA_id] at key
  exact key
end OPS
