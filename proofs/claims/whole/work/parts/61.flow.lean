/-! rows that share nobody: arcs, cuts, a row turned round, a search -/
def up1 (f : Nat → Nat) (a b : Nat) : Nat → Nat := fun x => if x = a then b else f x
def upB (f : Nat → Bool) (a : Nat) : Nat → Bool := fun x => if x = a then true else f x
theorem up1_s {f : Nat → Nat} {a b : Nat} : up1 f a b a = b := if_pos rfl
theorem up1_n {f : Nat → Nat} {a b x : Nat} (h : x ≠ a) : up1 f a b x = f x := if_neg h
theorem upB_s {f : Nat → Bool} {a : Nat} : upB f a a = true := if_pos rfl
theorem upB_n {f : Nat → Bool} {a x : Nat} (h : x ≠ a) : upB f a x = f x := if_neg h
abbrev Arc : Type := Nat → Nat → Bool
def b1 (b : Bool) : Nat := if b = true then 1 else 0
/-- arcs out of S -/
def xc (R : Arc) (S : Nat → Bool) : Nat := sm (fun u => sm (fun v => b1 (S u && (!S v && R u v))) 40) 40
theorem sm_upd {f g : Nat → Nat} {a : Nat} : ∀ {n : Nat}, a < n → (∀ i, i ≠ a → f i = g i) → sm f n + g a = sm g n + f a
  | 0, h, _ => by omega
  | n + 1, h, e => by
    show sm f n + f n + g a = sm g n + g n + f a
    by_cases q : a = n
    · subst q
      rw [sm_cong (n := a) (fun i hi => e i (by omega))]
      omega
    · have := sm_upd (n := n) (by omega) e
      rw [e n (fun z => q z.symm)]
      omega
theorem sm2_upd {f g : Nat → Nat → Nat} {a b : Nat} (ha : a < 40) (hb : b < 40) (e : ∀ i j, ¬ (i = a ∧ j = b) → f i j = g i j) : sm (fun u => sm (f u) 40) 40 + g a b = sm (fun u => sm (g u) 40) 40 + f a b := by
  have h1 := sm_upd (f := f a) (g := g a) hb (fun j hj => e a j (fun z => hj z.2))
  have h2 := sm_upd (f := fun u => sm (f u) 40) (g := fun u => sm (g u) 40) ha (fun i hi => sm_cong fun j _ => e i j (fun z => hi z.1))
  have h2 : sm (fun u => sm (f u) 40) 40 + sm (g a) 40 = sm (fun u => sm (g u) 40) 40 + sm (f a) 40 := h2
  omega
/-- the arc u v turned round -/
def flp (R : Arc) (u v : Nat) : Arc := fun a b => if a = u ∧ b = v then false else if a = v ∧ b = u then true else R a b
theorem xc_set {R R' : Arc} {S : Nat → Bool} {u v : Nat} (hu : u < 40) (hv : v < 40) (e : ∀ a b, ¬ (a = u ∧ b = v) → R' a b = R a b) : xc R' S + b1 (S u && (!S v && R u v)) = xc R S + b1 (S u && (!S v && R' u v)) :=
  sm2_upd (f := fun u v => b1 (S u && (!S v && R' u v))) (g := fun u v => b1 (S u && (!S v && R u v))) hu hv (fun i j h => by rw [e i j h])
theorem xc_flp {R : Arc} {S : Nat → Bool} {u v : Nat} (hu : u < 40) (hv : v < 40) (huv : u ≠ v) (h1 : R u v = true) (h2 : R v u = false) : xc (flp R u v) S + b1 (S u) = xc R S + b1 (S v) := by
  obtain ⟨R1, e1⟩ : ∃ R1 : Arc, R1 = fun a b => if a = u ∧ b = v then false else R a b := ⟨_, rfl⟩
  have q1 := xc_set (R := R) (R' := R1) (S := S) hu hv (fun a b h => by rw [e1]; exact if_neg h)
  have q2 := xc_set (R := R1) (R' := flp R u v) (S := S) hv hu (fun a b h => by
    rw [e1]
    show (if a = u ∧ b = v then false else if a = v ∧ b = u then true else R a b) = _
    rw [if_neg h])
  have f1 : R1 u v = false := by rw [e1]; exact if_pos ⟨rfl, rfl⟩
  have f2 : R1 v u = false := by
    rw [e1]
    show (if v = u ∧ u = v then false else R v u) = false
    rw [if_neg (fun z => huv z.2), h2]
  have f3 : flp R u v v u = true := by
    show (if v = u ∧ u = v then false else if v = v ∧ u = u then true else R v u) = true
    rw [if_neg (fun z => huv z.2), if_pos ⟨rfl, rfl⟩]
  rw [h1, f1] at q1
  rw [f2, f3] at q2
  revert q1 q2
  cases S u <;> cases S v <;> simp [b1] <;> omega
/-- no arc both ways -/
def ant (R : Arc) : Prop := ∀ a b, R a b = true → R b a = false
theorem ant_flp {R : Arc} {u v : Nat} (h : ant R) (huv : u ≠ v) : ant (flp R u v) := by
  intro a b
  unfold flp
  by_cases c1 : a = u ∧ b = v
  · rw [if_pos c1]
    intro z
    cases z
  · rw [if_neg c1]
    by_cases c2 : a = v ∧ b = u
    · rw [if_pos c2, if_pos ⟨c2.2, c2.1⟩]
      intro _
      rfl
    · rw [if_neg c2, if_neg (fun z => c2 ⟨z.2, z.1⟩), if_neg (fun z => c1 ⟨z.2, z.1⟩)]
      exact h a b
/-- a search: w found, in the row q, each but s from P, the rank r -/
def BI (R : Arc) (s w : Nat) (q P r : Nat → Nat) (see : Nat → Bool) : Prop :=
  q 0 = s ∧ (∀ j, j < w → q j < 40 ∧ see (q j) = true ∧ r (q j) = j) ∧ (∀ x, x < 40 → see x = true → r x < w ∧ q (r x) = x) ∧ w = sm (fun x => b1 (see x)) 40 ∧ 1 ≤ w ∧ ∀ x, x < 40 → see x = true → x ≠ s → P x < 40 ∧ see (P x) = true ∧ R (P x) x = true ∧ r (P x) < r x
theorem sm_1 {s : Nat} : ∀ {n : Nat}, s < n → sm (fun x => b1 (decide (x = s))) n = 1
  | 0, h => by omega
  | n + 1, h => by
    show sm _ n + b1 (decide (n = s)) = 1
    by_cases q : s = n
    · subst q
      rw [sm_zero (fun i hi => by rw [decide_eq_false (by omega)]; rfl), decide_eq_true rfl]
      rfl
    · rw [sm_1 (n := n) (by omega), decide_eq_false (by omega)]
      rfl
theorem BI_0 {R : Arc} {s : Nat} (hs : s < 40) (P : Nat → Nat) : BI R s 1 (fun _ => s) P (fun _ => 0) (fun x => decide (x = s)) :=
  ⟨rfl, fun j hj => ⟨hs, by simp, by show 0 = j; omega⟩, fun x hx e => ⟨Nat.zero_lt_one, (of_decide_eq_true e).symm⟩, (sm_1 hs).symm, Nat.le_refl _, fun x hx e ne => absurd (of_decide_eq_true e) ne⟩
theorem BI_w {R : Arc} {s w : Nat} {q P r : Nat → Nat} {see : Nat → Bool} (B : BI R s w q P r see) : w ≤ 40 := by
  rw [B.2.2.2.1]
  have := sm_le (f := fun x => b1 (see x)) (c := 1) (n := 40) (fun i _ => by unfold b1; split <;> omega)
  omega
theorem BI_lt {R : Arc} {s w v : Nat} {q P r : Nat → Nat} {see : Nat → Bool} (B : BI R s w q P r see) (hv : v < 40) (h : see v = false) : w < 40 := by
  rw [B.2.2.2.1]
  have := sm_lt (f := fun x => b1 (see x)) (g := fun _ => 1) (j := v) (n := 40) (fun i _ => by unfold b1; split <;> omega) hv (by rw [h]; exact Nat.zero_lt_one)
  have e : sm (fun _ => 1) 40 = 40 := by decide
  omega
theorem BI_s {R : Arc} {s w : Nat} {q P r : Nat → Nat} {see : Nat → Bool} (B : BI R s w q P r see) : s < 40 ∧ see s = true := by
  have := B.2.1 0 (by have := B.2.2.2.2.1; omega)
  rw [B.1] at this
  exact ⟨this.1, this.2.1⟩
theorem BI_add {R : Arc} {s w v j : Nat} {q P r : Nat → Nat} {see : Nat → Bool} (B : BI R s w q P r see) (hv : v < 40) (h : see v = false) (hj : j < w) (hR : R (q j) v = true) : BI R s (w + 1) (up1 q w v) (up1 P v (q j)) (up1 r v w) (upB see v) := by
  have hs := BI_s B
  obtain ⟨a, b, c, e, f, k⟩ := B
  have hvs : ∀ x, see x = true → x ≠ v := fun x hx z => by rw [z, h] at hx; cases hx
  refine ⟨by rw [up1_n (by omega), a], fun i hi => ?_, fun x hx hse => ?_, ?_, by omega, fun x hx hse hne => ?_⟩
  · by_cases i = w
    next q0 =>
      subst q0
      rw [up1_s]
      exact ⟨hv, upB_s, up1_s⟩
    next q0 =>
      obtain ⟨b1, b2, b3⟩ := b i (by omega)
      rw [up1_n q0, upB_n (hvs _ b2), up1_n (hvs _ b2)]
      exact ⟨b1, b2, b3⟩
  · by_cases q0 : x = v
    · subst q0
      rw [up1_s, up1_s]
      exact ⟨by omega, rfl⟩
    · rw [upB_n q0] at hse
      obtain ⟨c1, c2⟩ := c x hx hse
      rw [up1_n q0, up1_n (by omega)]
      exact ⟨by omega, c2⟩
  · have := sm_upd (f := fun x => b1 (upB see v x)) (g := fun x => b1 (see x)) hv (fun i hi => by rw [upB_n hi])
    rw [h, upB_s, ← e] at this
    simp [b1] at this
    have e2 : sm (fun x => b1 (upB see v x)) 40 = w + 1 := by simpa [b1] using this
    rw [e2]
  · by_cases q0 : x = v
    · subst q0
      obtain ⟨b1, b2, b3⟩ := b j hj
      rw [up1_s, up1_s, up1_n (hvs _ b2), upB_n (hvs _ b2), b3]
      exact ⟨b1, b2, hR, hj⟩
    · rw [upB_n q0] at hse
      obtain ⟨k1, k2, k3, k4⟩ := k x hx hse hne
      rw [up1_n q0, up1_n q0, up1_n (hvs _ k2), upB_n (hvs _ k2)]
      exact ⟨k1, k2, k3, k4⟩
/-- the row from s to x turned round -/
def trn (P : Nat → Nat) (s : Nat) : Nat → Nat → Arc → Arc
  | 0, _, R => R
  | k + 1, x, R => if x = s then R else trn P s k (P x) (flp R (P x) x)
theorem trn_ok {P r : Nat → Nat} {s : Nat} {see : Nat → Bool} (ht : ∀ x, x < 40 → see x = true → x ≠ s → P x < 40 ∧ see (P x) = true ∧ r (P x) < r x) : ∀ (k x : Nat) (R : Arc), r x < k → x < 40 → see x = true → ant R → (∀ y, y < 40 → see y = true → y ≠ s → r y ≤ r x → R (P y) y = true) → ant (trn P s k x R) ∧ ∀ S, xc (trn P s k x R) S + b1 (S s) = xc R S + b1 (S x)
  | 0, x, R, h, _, _, _, _ => by omega
  | k + 1, x, R, h, hx, hse, ha, hR => by
    unfold trn
    by_cases q : x = s
    · rw [if_pos q, q]
      exact ⟨ha, fun S => rfl⟩
    · rw [if_neg q]
      obtain ⟨t1, t2, t3⟩ := ht x hx hse q
      have hne : P x ≠ x := fun z => by rw [z] at t3; omega
      have h1 := hR x hx hse q (Nat.le_refl _)
      obtain ⟨i1, i2⟩ := trn_ok ht k (P x) (flp R (P x) x) (by omega) t1 t2 (ant_flp ha hne) (fun y hy hys hyn hyr => by
        obtain ⟨u1, u2, u3⟩ := ht y hy hys hyn
        show (if P y = P x ∧ y = x then false else if P y = x ∧ y = P x then true else R (P y) y) = true
        rw [if_neg (fun z => by rw [z.2] at hyr; omega), if_neg (fun z => by rw [z.1] at u3; omega)]
        exact hR y hy hys hyn (by omega))
      refine ⟨i1, fun S => ?_⟩
      have e1 := i2 S
      have e2 := xc_flp (S := S) t1 hx hne h1 (ha _ _ h1)
      omega
/-- k is what every cut holds at least, and one just so -/
def MF (R : Arc) (s t k : Nat) : Prop := (∃ S : Nat → Bool, S s = true ∧ S t = false ∧ xc R S = k) ∧ ∀ S : Nat → Bool, S s = true → S t = false → k ≤ xc R S
theorem MF_one {R : Arc} {s t k l : Nat} (a : MF R s t k) (b : MF R s t l) : k = l := by
  obtain ⟨⟨S, a1, a2, a3⟩, a4⟩ := a
  obtain ⟨⟨T, b1, b2, b3⟩, b4⟩ := b
  have h1 := a4 T b1 b2
  have h2 := b4 S a1 a2
  omega
/-- k rows have been turned round -/
def FL (R0 R : Arc) (s t k : Nat) : Prop := ant R ∧ ∀ S : Nat → Bool, S s = true → S t = false → xc R S + k = xc R0 S
theorem FL_0 {R : Arc} {s t : Nat} (h : ant R) : FL R R s t 0 := ⟨h, fun S _ _ => rfl⟩
theorem FL_more {R0 R : Arc} {s t k w : Nat} {q P r : Nat → Nat} {see : Nat → Bool} (f : FL R0 R s t k) (B : BI R s w q P r see) (ht : t < 40) (hs : see t = true) : FL R0 (trn P s 40 t R) s t (k + 1) := by
  have hw := BI_w B
  obtain ⟨-, -, c, -, -, g⟩ := B
  obtain ⟨h1, h2⟩ := trn_ok (P := P) (r := r) (s := s) (see := see) (fun x hx hse hn => ⟨(g x hx hse hn).1, (g x hx hse hn).2.1, (g x hx hse hn).2.2.2⟩) 40 t R (by have := (c t ht hs).1; omega) ht hs f.1 (fun y hy hys hyn _ => (g y hy hys hyn).2.2.1)
  refine ⟨h1, fun S a b => ?_⟩
  have e1 := h2 S
  have e2 := f.2 S a b
  rw [a, b] at e1
  simp [b1] at e1
  omega
theorem FL_end {R0 R : Arc} {s t k : Nat} {see : Nat → Bool} (f : FL R0 R s t k) (h1 : see s = true) (h2 : see t = false) (hc : ∀ u v, u < 40 → v < 40 → see u = true → R u v = true → see v = true) : MF R0 s t k := by
  refine ⟨⟨see, h1, h2, ?_⟩, fun S a b => by have := f.2 S a b; omega⟩
  have e := f.2 see h1 h2
  have z : xc R see = 0 := sm_zero fun u hu => sm_zero fun v hv => by
    cases q1 : see u with
    | false => rfl
    | true =>
      cases q2 : R u v with
      | false => simp [b1]
      | true =>
        rw [hc u v hu hv q1 q2]
        rfl
  omega
/-! the other numbering -/
def sg (u : Nat) : Nat := if u < 20 then 2 * u else 2 * (u - 20) + 1
theorem sm_2 {f : Nat → Nat} : ∀ {m : Nat}, sm f (2 * m) = sm (fun i => f (2 * i)) m + sm (fun i => f (2 * i + 1)) m
  | 0 => rfl
  | m + 1 => by
    show sm f (2 * m) + f (2 * m) + f (2 * m + 1) = sm (fun i => f (2 * i)) m + f (2 * m) + (sm (fun i => f (2 * i + 1)) m + f (2 * m + 1))
    rw [sm_2 (m := m)]
    omega
theorem sm_sg {f : Nat → Nat} : sm (fun u => f (sg u)) 40 = sm f 40 := by
  rw [show sm f 40 = sm f (2 * 20) from rfl, sm_2, show sm (fun u => f (sg u)) 40 = sm (fun u => f (sg u)) (20 + 20) from rfl, sm_split]
  have e1 : sm (fun u => f (sg u)) 20 = sm (fun i => f (2 * i)) 20 := sm_cong fun i hi => by
    show f (if i < 20 then _ else _) = _
    rw [if_pos hi]
  have e2 : sm (fun i => f (sg (20 + i))) 20 = sm (fun i => f (2 * i + 1)) 20 := sm_cong fun i hi => by
    show f (if 20 + i < 20 then _ else _) = _
    rw [if_neg (by omega), show 20 + i - 20 = i by omega]
  rw [e1, e2]
theorem xc_sg {R : Arc} {S : Nat → Bool} : xc (fun u v => R (sg u) (sg v)) (fun u => S (sg u)) = xc R S := by
  unfold xc
  rw [← sm_sg (f := fun u => sm (fun v => b1 (S u && (!S v && R u v))) 40)]
  exact sm_cong fun u _ => sm_sg (f := fun v => b1 (S (sg u) && (!S v && R (sg u) v)))
theorem xc_cong {R : Arc} {S S' : Nat → Bool} (h : ∀ u, u < 40 → S u = S' u) : xc R S = xc R S' :=
  sm_cong fun u hu => sm_cong fun v hv => by rw [h u hu, h v hv]
def tu (u : Nat) : Nat := if u % 2 = 0 then u / 2 else 20 + u / 2
theorem tu_sg {u : Nat} (h : u < 40) : tu (sg u) = u ∧ sg u < 40 := by
  have : ∀ u, u < 40 → tu (sg u) = u ∧ sg u < 40 := by decide
  exact this u h
theorem sg_tu {u : Nat} (h : u < 40) : sg (tu u) = u ∧ tu u < 40 := by
  have : ∀ u, u < 40 → sg (tu u) = u ∧ tu u < 40 := by decide
  exact this u h
theorem MF_sg {R : Arc} {s t k : Nat} (hs : s < 40) (ht : t < 40) (h : MF R (sg s) (sg t) k) : MF (fun u v => R (sg u) (sg v)) s t k := by
  obtain ⟨⟨S, a1, a2, a3⟩, a4⟩ := h
  refine ⟨⟨fun u => S (sg u), a1, a2, xc_sg.trans a3⟩, fun S b1 b2 => ?_⟩
  have := a4 (fun u => S (tu u)) (by rw [(tu_sg hs).1]; exact b1) (by rw [(tu_sg ht).1]; exact b2)
  rw [← xc_sg (R := R) (S := fun u => S (tu u))] at this
  rwa [xc_cong (S' := S) (fun u hu => by rw [(tu_sg hu).1])] at this
theorem xc_le {R : Arc} {s : Nat} (hs : s < 40) : xc R (fun x => decide (x = s)) ≤ sm (fun v => b1 (R s v)) 40 := by
  have e : xc R (fun x => decide (x = s)) = sm (fun v => b1 (decide (s = s) && (!decide (v = s) && R s v))) 40 := sm_one hs (fun j _ hj => sm_zero fun v _ => by
    show b1 (decide (j = s) && (!decide (v = s) && R j v)) = 0
    rw [decide_eq_false hj]
    rfl)
  rw [e]
  refine sm_mono fun v _ => ?_
  cases R s v <;> simp [b1]
  split <;> omega
/-! bits of longs -/
def tbL (x : Int64) (i : Nat) : Bool := x.toBitVec.getLsbD i
def btL (i : Nat) : Int64 := (1 : Int64) <<< (((nI i : Int32)).toInt64 &&& 63)
theorem tbL_and (x y : Int64) (i : Nat) : tbL (x &&& y) i = (tbL x i && tbL y i) := by simp [tbL]
theorem tbL_or (x y : Int64) (i : Nat) : tbL (x ||| y) i = (tbL x i || tbL y i) := by simp [tbL]
theorem tbL_xor (x y : Int64) (i : Nat) : tbL (x ^^^ y) i = (tbL x i ^^ tbL y i) := by simp [tbL]
theorem tbL_0 (i : Nat) : tbL 0 i = false := by simp [tbL]
theorem tbL_m1 {i : Nat} (h : i < 64) : tbL (-1) i = true := by
  have : ∀ j, j < 64 → tbL (-1) j = true := by decide
  exact this i h
theorem tbL_not {x : Int64} {i : Nat} (h : i < 64) : tbL (x ^^^ (-1)) i = !tbL x i := by rw [tbL_xor, tbL_m1 h]; simp
theorem tbL_bt {i j : Nat} (hi : i < 40) (hj : j < 64) : tbL (btL i) j = decide (i = j) := by
  have : ∀ a, a < 40 → ∀ b, b < 64 → tbL (btL a) b = decide (a = b) := by decide +kernel
  exact this i hi j hj
theorem tbL_ext {x y : Int64} (h : ∀ i, i < 64 → tbL x i = tbL y i) : x = y := by
  apply Int64.toBitVec_inj.mp
  apply BitVec.eq_of_getLsbD_eq
  intro i hi
  exact h i hi
theorem and_btL {x : Int64} {i : Nat} (hi : i < 40) : x &&& btL i = 0 ↔ tbL x i = false := by
  constructor
  · intro h
    have : tbL (x &&& btL i) i = tbL 0 i := by rw [h]
    rw [tbL_and, tbL_bt hi (by omega), tbL_0, decide_eq_true rfl, Bool.and_true] at this
    exact this
  · intro h
    apply tbL_ext
    intro j hj
    rw [tbL_and, tbL_bt hi hj, tbL_0]
    by_cases e : i = j
    · subst e
      rw [h, Bool.false_and]
    · rw [decide_eq_false e, Bool.and_false]
theorem lg_bt {x : Int64} {i : Nat} (hi : i < 40) : lg_cmp (x &&& btL i) 0 = 0 ↔ tbL x i = false := lg_0.trans (and_btL hi)
theorem tbL_int {x : Int32} {i : Nat} (hx : ∀ j, tb x j = true → j < 20) (hi : i < 64) : tbL x.toInt64 i = tb x i := by
  have e : x.toInt64.toBitVec = x.toBitVec.signExtend 64 := rfl
  have hm : x.toBitVec.msb = false := by
    rw [BitVec.msb_eq_getLsbD_last]
    cases q : x.toBitVec.getLsbD (32 - 1) with
    | false => rfl
    | true => have := hx 31 q; omega
  unfold tbL
  rw [e, BitVec.getLsbD_signExtend, hm]
  by_cases h : i < 32
  · simp [h, hi, tb]
  · rw [tb_32 (by omega)]
    simp [h]
