/-! a rule's text: what it means to read it -/
section RT
/-- nothing and the place of the fault, or words and the place behind -/
abbrev Res : Type := Option (List Nat) × Nat
def bnd (r : Res) (f : List Nat → Nat → Res) : Res := match r.1 with
  | none => (none, r.2)
  | some c => f c r.2
theorem bnd_none {r : Res} {f : List Nat → Nat → Res} (h : r.1 = none) : bnd r f = (none, r.2) := by unfold bnd; rw [h]
theorem bnd_some {r : Res} {f : List Nat → Nat → Res} {c : List Nat} (h : r.1 = some c) : bnd r f = f c r.2 := by unfold bnd; rw [h]
def isD (s : Nat) : Bool := decide (48 ≤ s) && decide (s ≤ 57)
def mulS (s : Nat) : Option Nat := if s = 42 then some 4 else if s = 47 then some 5 else none
def addS (s : Nat) : Option Nat := if s = 43 then some 2 else if s = 45 then some 3 else none
def cmpS (s : Nat) : Option Nat := if s = 60 then some 7 else if s = 61 then some 6 else if s = 62 then some 8 else none
def andS (s : Nat) : Option Nat := if s = 38 then some 9 else none
def orS (s : Nat) : Option Nat := if s = 124 then some 10 else none
def ltrL : List Nat := [116, 102, 107, 99, 98, 97, 100, 111, 114]
def ltr (s : Nat) : Option Nat := ltrL.findIdx? (fun c => c == s)
def opl : Option Nat → List Nat
  | none => []
  | some w => [w]
/-- at most so many digits -/
def NM (T : Nat → Nat) (ln : Nat) : Nat → Nat → Nat → Nat × Nat
  | 0, v, a => (v, a)
  | f + 1, v, a => if isD (sgn T ln a) = true then NM T ln f (10 * v + (sgn T ln a - 48)) (a + 1) else (v, a)
def numF (T : Nat → Nat) (ln q : Nat) : Res := if isD (sgn T ln (NM T ln 4 0 q).2) = true then (none, (NM T ln 4 0 q).2) else (some [16 * (NM T ln 4 0 q).1], (NM T ln 4 0 q).2)
/-- what closes -/
def clsF (T : Nat → Nat) (ln s : Nat) (r : Res) : Res := bnd r fun c b => if sgn T ln (pb T ln b) = s then (some c, pb T ln b + 1) else (none, pb T ln b)
def atomF (T : Nat → Nat) (ln : Nat) (inn : Option (Nat → Res)) (a : Nat) : Res :=
  if isD (sgn T ln (pb T ln a)) = true then numF T ln (pb T ln a) else
  match ltr (sgn T ln (pb T ln a)) with
  | some k => (some [16 * k + 1], pb T ln a + 1)
  | none => if sgn T ln (pb T ln a) = 91 then (match inn with
      | none => (none, pb T ln a)
      | some f => clsF T ln 93 (f (pb T ln a + 1))) else (none, pb T ln a)
/-- one, and more of them with a sign between -/
def LPf (T : Nat → Nat) (ln : Nat) (el : Nat → Res) (sg : Nat → Option Nat) : Nat → Res → Option Nat → Res
  | 0, r, _ => r
  | f + 1, r, pd => bnd r fun c b => match sg (sgn T ln (pb T ln b)) with
    | some w => bnd (LPf T ln el sg f (el (pb T ln b + 1)) (some w)) fun c' b' => (some (c ++ opl pd ++ c'), b')
    | none => (some (c ++ opl pd), pb T ln b)
def termF (T : Nat → Nat) (ln : Nat) (inn : Option (Nat → Res)) (a : Nat) : Res := LPf T ln (atomF T ln inn) mulS 200 (atomF T ln inn a) none
def sumF (T : Nat → Nat) (ln : Nat) (inn : Option (Nat → Res)) (a : Nat) : Res := LPf T ln (termF T ln inn) addS 200 (termF T ln inn a) none
def innN (T : Nat → Nat) (ln : Nat) : Nat → Option (Nat → Res)
  | 0 => none
  | k + 1 => some (sumF T ln (innN T ln k))
/-- a sum, k more brackets may open in it -/
def sumN (T : Nat → Nat) (ln k : Nat) : Nat → Res := sumF T ln (innN T ln k)
def cmpF (T : Nat → Nat) (ln k b : Nat) : Res := match cmpS (sgn T ln (pb T ln b)) with
  | none => (none, pb T ln b)
  | some w => bnd (sumN T ln k (pb T ln b + 1)) fun c' b' => (some (c' ++ [w]), b')
def andF (T : Nat → Nat) (ln : Nat) (u : Nat → Res) (r : Res) : Res := LPf T ln u andS 200 r none
def condF (T : Nat → Nat) (ln : Nat) (u : Nat → Res) (r : Res) : Res := LPf T ln (fun a => andF T ln u (u a)) orS 200 (andF T ln u r) none
def unitF (T : Nat → Nat) (ln k : Nat) (iu : Option (Nat → Res)) (a : Nat) : Res :=
  if sgn T ln (pb T ln a) = 33 then (match iu with
    | none => (none, pb T ln a)
    | some u => bnd (u (pb T ln a + 1)) fun c b => (some (c ++ [11]), b))
  else if sgn T ln (pb T ln a) = 40 then (match iu with
    | none => (none, pb T ln a)
    | some u => clsF T ln 41 (condF T ln u (u (pb T ln a + 1))))
  else bnd (sumN T ln k (pb T ln a)) fun c b => bnd (cmpF T ln k b) fun c' b' => (some (c ++ c'), b')
def uN (T : Nat → Nat) (ln : Nat) : Nat → Nat → Res
  | 0, a => unitF T ln 0 none a
  | k + 1, a => unitF T ln (k + 1) (some (uN T ln k)) a
def cdN (T : Nat → Nat) (ln k : Nat) (r : Res) : Res := condF T ln (uN T ln k) r
/-- a condition's rest: the sum it guards -/
def gdF (T : Nat → Nat) (ln : Nat) (r : Res) : Res := bnd r fun c b => if sgn T ln (pb T ln b) = 63 then (bnd (sumN T ln 6 (pb T ln b + 1)) fun c' b' => (some (c ++ [12] ++ c' ++ [13]), b')) else (none, pb T ln b)
/-- a clause's body -/
def bodF (T : Nat → Nat) (ln a : Nat) : Res := if sgn T ln (pb T ln a) = 33 ∨ sgn T ln (pb T ln a) = 40 then gdF T ln (cdN T ln 6 (uN T ln 6 (pb T ln a))) else
  bnd (sumN T ln 6 (pb T ln a)) fun c b => if (cmpS (sgn T ln (pb T ln b))).isSome = true then gdF T ln (bnd (cdN T ln 6 (cmpF T ln 6 b)) fun c' b' => (some (c ++ c'), b')) else (some (c ++ [13]), b)
def clauF (T : Nat → Nat) (ln a : Nat) : Res := if sgn T ln (pb T ln a) = 121 then
    (if sgn T ln (pb T ln (pb T ln a + 1)) = 58 then bodF T ln (pb T ln (pb T ln a + 1) + 1) else (none, pb T ln (pb T ln a + 1)))
  else (none, pb T ln a)
def clsN (T : Nat → Nat) (ln : Nat) : Nat → Nat → Res
  | 0, a => clauF T ln a
  | f + 1, a => bnd (clauF T ln a) fun c b => if sgn T ln (pb T ln b) = 59 then (bnd (clsN T ln f (pb T ln b + 1)) fun c' b' => (some (c ++ c'), b')) else (some c, pb T ln b)
/-- the text read whole -/
def ruF (T : Nat → Nat) (ln : Nat) : Res := bnd (clsN T ln 200 0) fun c b => if b < ln then (none, b) else (some c, b)
/-- where it ends, and how many words -/
def Gd (p : Nat → Prop) (ln a m : Nat) (r : Res) : Prop := r.2 ≤ ln ∧ ∀ c, r.1 = some c → a + c.length ≤ r.2 + m ∧ a < r.2 ∧ ∀ w, w ∈ c → p w
theorem Gd.bad {p : Nat → Prop} {ln a m q : Nat} (h : q ≤ ln) : Gd p ln a m (none, q) := ⟨h, fun c e => by cases e⟩
theorem Gd.mono {p p' : Nat → Prop} {ln a m m' : Nat} {r : Res} (g : Gd p ln a m r) (h : m ≤ m') (hp : ∀ w, p w → p' w) : Gd p' ln a m' r := ⟨g.1, fun c e => ⟨by have := (g.2 c e).1; omega, (g.2 c e).2.1, fun w hw => hp w ((g.2 c e).2.2 w hw)⟩⟩
theorem Gd.bnd {p : Nat → Prop} {ln a m : Nat} {r : Res} {f : List Nat → Nat → Res} (h : r.2 ≤ ln) (g : ∀ c, r.1 = some c → Gd p ln a m (f c r.2)) : Gd p ln a m (bnd r f) := by
  cases e : r.1 with
  | none =>
    rw [bnd_none e]
    exact Gd.bad h
  | some c =>
    rw [bnd_some e]
    exact g c e
theorem Gd.pb {ln b : Nat} {T : Nat → Nat} (h : b ≤ ln) : pb T ln b ≤ ln := (pb_le h).2.1
variable {T : Nat → Nat} {ln : Nat}
theorem cls_gd {p : Nat → Prop} {a a0 s m : Nat} {r : Res} (hs : 0 < s) (ha : a0 ≤ a + 1) (g : Gd p ln a m r) : Gd p ln a0 m (clsF T ln s r) := by
  refine Gd.bnd g.1 (fun c e => ?_)
  obtain ⟨g1, g2, g3⟩ := g.2 c e
  obtain ⟨b1, b2, b3⟩ := pb_le (T := T) (ln := ln) (a := r.2) g.1
  by_cases q : sgn T ln (pb T ln r.2) = s
  · rw [if_pos q]
    have := sgn_pos (T := T) (ln := ln) (a := pb T ln r.2) (by omega)
    refine ⟨by show pb T ln r.2 + 1 ≤ ln; omega, fun c' e' => ?_⟩
    cases e'
    exact ⟨by show a0 + c.length ≤ pb T ln r.2 + 1 + m; omega, by show a0 < pb T ln r.2 + 1; omega, g3⟩
  · rw [if_neg q]
    exact Gd.bad b2
theorem LP_gd {p : Nat → Prop} {el : Nat → Res} {sg : Nat → Option Nat} (he : ∀ a, a ≤ ln → Gd p ln a 0 (el a)) (hs : ∀ s w, sg s = some w → p w ∧ 0 < s) : ∀ (f a : Nat) (r : Res) (pd : Option Nat), Gd p ln a 0 r → (∀ w, pd = some w → p w) → Gd p ln a (opl pd).length (LPf T ln el sg f r pd)
  | 0, a, r, pd, g, hp => g.mono (Nat.zero_le _) (fun _ h => h)
  | f + 1, a, r, pd, g, hp => by
    unfold LPf
    refine Gd.bnd g.1 (fun c e => ?_)
    obtain ⟨g1, g2, g3⟩ := g.2 c e
    obtain ⟨b1, b2, b3⟩ := pb_le (T := T) (ln := ln) (a := r.2) g.1
    have ho : ∀ w, w ∈ opl pd → p w := fun w hw => by
      cases pd with
      | none => cases hw
      | some x =>
        have : w = x := List.mem_singleton.mp hw
        rw [this]
        exact hp x rfl
    cases q : sg (sgn T ln (pb T ln r.2)) with
    | none =>
      refine ⟨b2, fun c' e' => ?_⟩
      cases e'
      refine ⟨?_, by show a < pb T ln r.2; omega, fun w hw => ?_⟩
      · show a + (c ++ opl pd).length ≤ pb T ln r.2 + _
        rw [List.length_append]
        omega
      · rcases List.mem_append.mp hw with hw | hw
        · exact g3 w hw
        · exact ho w hw
    | some x =>
      obtain ⟨x1, x2⟩ := hs _ _ q
      have l1 := sgn_pos x2
      have ih := LP_gd he hs f (pb T ln r.2 + 1) _ (some x) (he _ (by omega)) (fun w hw => by cases hw; exact x1)
      refine Gd.bnd ih.1 (fun c1 e1 => ?_)
      obtain ⟨i1, i2, i3⟩ := ih.2 c1 e1
      refine ⟨ih.1, fun c' e' => ?_⟩
      cases e'
      have i1 : pb T ln r.2 + 1 + c1.length ≤ (LPf T ln el sg f (el (pb T ln r.2 + 1)) (some x)).2 + 1 := i1
      refine ⟨?_, ?_, fun w hw => ?_⟩
      · show a + (c ++ opl pd ++ c1).length ≤ (LPf T ln el sg f (el (pb T ln r.2 + 1)) (some x)).2 + _
        rw [List.length_append, List.length_append]
        omega
      · show a < (LPf T ln el sg f (el (pb T ln r.2 + 1)) (some x)).2
        omega
      · rcases List.mem_append.mp hw with hw | hw
        · rcases List.mem_append.mp hw with hw | hw
          · exact g3 w hw
          · exact ho w hw
        · exact i3 w hw
/-- words of sums and conditions -/
def pS (w : Nat) : Prop := w % 16 < 12 ∧ w < 2 ^ 20
theorem isD_iff {s : Nat} : isD s = true ↔ 48 ≤ s ∧ s ≤ 57 := by
  unfold isD
  rw [Bool.and_eq_true, decide_eq_true_eq, decide_eq_true_eq]
theorem NM_ok : ∀ (f v a m : Nat), v < 10 ^ m → v < 10 ^ m ∧ (NM T ln f v a).1 < 10 ^ (m + f) ∧ a ≤ (NM T ln f v a).2 ∧ (a ≤ ln → (NM T ln f v a).2 ≤ ln)
  | 0, v, a, m, h => ⟨h, h, Nat.le_refl _, id⟩
  | f + 1, v, a, m, h => by
    unfold NM
    by_cases q : isD (sgn T ln a) = true
    · rw [if_pos q]
      have q := isD_iff.mp q
      have l := sgn_pos (T := T) (ln := ln) (a := a) (by omega)
      obtain ⟨-, i2, i3, i4⟩ := NM_ok f (10 * v + (sgn T ln a - 48)) (a + 1) (m + 1) (by rw [Nat.pow_succ]; omega)
      exact ⟨h, by rw [show m + (f + 1) = m + 1 + f by omega]; exact i2, by omega, fun _ => i4 (by omega)⟩
    · rw [if_neg q]
      exact ⟨h, Nat.lt_of_lt_of_le h (Nat.pow_le_pow_right (by decide) (by omega)), Nat.le_refl _, id⟩
theorem num_gd {a q : Nat} (h : a ≤ q) (hq : isD (sgn T ln q) = true) : Gd pS ln a 0 (numF T ln q) := by
  have l := sgn_pos (T := T) (ln := ln) (a := q) (by have := isD_iff.mp hq; omega)
  obtain ⟨-, i2, i3, i4⟩ := NM_ok (T := T) (ln := ln) 3 (10 * 0 + (sgn T ln q - 48)) (q + 1) 1 (by have := isD_iff.mp hq; omega)
  have e : NM T ln 4 0 q = NM T ln 3 (10 * 0 + (sgn T ln q - 48)) (q + 1) := if_pos hq
  have i4 := i4 (by omega)
  rw [← e] at i2 i3 i4
  unfold numF
  split
  · exact Gd.bad i4
  · refine ⟨i4, fun c e => ?_⟩
    cases e
    refine ⟨by show a + 1 ≤ (NM T ln 4 0 q).2 + 0; omega, by show a < (NM T ln 4 0 q).2; omega, fun w hw => ?_⟩
    rw [List.mem_singleton.mp hw]
    exact ⟨by omega, by omega⟩
theorem ltr_ok {s k : Nat} (h : ltr s = some k) : k < 9 ∧ 0 < s := by
  have : ∀ s k, ltr s = some k → k < 9 ∧ ltrL[k]? = some s := fun s k h => by
    unfold ltr at h
    rw [List.findIdx?_eq_some_iff_getElem] at h
    obtain ⟨h1, h2, -⟩ := h
    refine ⟨h1, ?_⟩
    rw [List.getElem?_eq_getElem h1]
    exact congrArg some (eq_of_beq h2)
  obtain ⟨h1, h2⟩ := this s k h
  refine ⟨h1, ?_⟩
  have : ∀ k, k < 9 → ∀ s, ltrL[k]? = some s → 0 < s := by
    intro k hk s hs
    have : ∀ k, k < 9 → 0 < (ltrL[k]?).getD 0 := by decide
    have := this k hk
    rw [hs] at this
    exact this
  exact this k h1 s h2
theorem atom_gd {inn : Option (Nat → Res)} (hi : ∀ f, inn = some f → ∀ a, a ≤ ln → Gd pS ln a 0 (f a)) {a : Nat} (ha : a ≤ ln) : Gd pS ln a 0 (atomF T ln inn a) := by
  obtain ⟨p1, p2, p3⟩ := pb_le (T := T) (ln := ln) (a := a) ha
  unfold atomF
  by_cases q : isD (sgn T ln (pb T ln a)) = true
  · rw [if_pos q]
    exact num_gd p1 q
  · rw [if_neg q]
    cases e : ltr (sgn T ln (pb T ln a)) with
    | some k =>
      obtain ⟨k1, k2⟩ := ltr_ok e
      have l := sgn_pos k2
      refine ⟨by show pb T ln a + 1 ≤ ln; omega, fun c e' => ?_⟩
      cases e'
      refine ⟨by show a + 1 ≤ pb T ln a + 1 + 0; omega, by show a < pb T ln a + 1; omega, fun w hw => ?_⟩
      rw [List.mem_singleton.mp hw]
      exact ⟨by omega, by omega⟩
    | none =>
      show Gd pS ln a 0 (if sgn T ln (pb T ln a) = 91 then _ else _)
      by_cases q2 : sgn T ln (pb T ln a) = 91
      · rw [if_pos q2]
        have l := sgn_pos (T := T) (ln := ln) (a := pb T ln a) (by omega)
        cases inn with
        | none => exact Gd.bad p2
        | some f => exact cls_gd (by decide) (by omega) (hi f rfl _ (by omega))
      · rw [if_neg q2]
        exact Gd.bad p2
theorem mul_ok {s w : Nat} (h : mulS s = some w) : pS w ∧ 0 < s := by
  unfold mulS at h
  split at h
  · cases h; exact ⟨⟨by decide, by decide⟩, by omega⟩
  · split at h
    · cases h; exact ⟨⟨by decide, by decide⟩, by omega⟩
    · cases h
theorem add_ok {s w : Nat} (h : addS s = some w) : pS w ∧ 0 < s := by
  unfold addS at h
  split at h
  · cases h; exact ⟨⟨by decide, by decide⟩, by omega⟩
  · split at h
    · cases h; exact ⟨⟨by decide, by decide⟩, by omega⟩
    · cases h
theorem cmp_ok {s w : Nat} (h : cmpS s = some w) : pS w ∧ 0 < s := by
  unfold cmpS at h
  split at h
  · cases h; exact ⟨⟨by decide, by decide⟩, by omega⟩
  · split at h
    · cases h; exact ⟨⟨by decide, by decide⟩, by omega⟩
    · split at h
      · cases h; exact ⟨⟨by decide, by decide⟩, by omega⟩
      · cases h
theorem and_ok {s w : Nat} (h : andS s = some w) : pS w ∧ 0 < s := by
  unfold andS at h
  split at h
  · cases h; exact ⟨⟨by decide, by decide⟩, by omega⟩
  · cases h
theorem or_ok {s w : Nat} (h : orS s = some w) : pS w ∧ 0 < s := by
  unfold orS at h
  split at h
  · cases h; exact ⟨⟨by decide, by decide⟩, by omega⟩
  · cases h
theorem term_gd {inn : Option (Nat → Res)} (hi : ∀ f, inn = some f → ∀ a, a ≤ ln → Gd pS ln a 0 (f a)) {a : Nat} (ha : a ≤ ln) : Gd pS ln a 0 (termF T ln inn a) :=
  LP_gd (fun _ h => atom_gd hi h) (fun _ _ h => mul_ok h) 200 a _ none (atom_gd hi ha) (fun w h => by cases h)
theorem sum_gd {inn : Option (Nat → Res)} (hi : ∀ f, inn = some f → ∀ a, a ≤ ln → Gd pS ln a 0 (f a)) {a : Nat} (ha : a ≤ ln) : Gd pS ln a 0 (sumF T ln inn a) :=
  LP_gd (fun _ h => term_gd hi h) (fun _ _ h => add_ok h) 200 a _ none (term_gd hi ha) (fun w h => by cases h)
theorem inn_gd : ∀ (k : Nat) (f : Nat → Res), innN T ln k = some f → ∀ a, a ≤ ln → Gd pS ln a 0 (f a)
  | 0, f, h, a, ha => by cases h
  | k + 1, f, h, a, ha => by
    cases h
    exact sum_gd (inn_gd k) ha
theorem sumN_gd {k a : Nat} (ha : a ≤ ln) : Gd pS ln a 0 (sumN T ln k a) := sum_gd (inn_gd k) ha
theorem cmp_gd {k b : Nat} (hb : b ≤ ln) : Gd pS ln b 0 (cmpF T ln k b) := by
  obtain ⟨p1, p2, p3⟩ := pb_le (T := T) (ln := ln) (a := b) hb
  unfold cmpF
  cases e : cmpS (sgn T ln (pb T ln b)) with
  | none => exact Gd.bad p2
  | some w =>
    obtain ⟨w1, w2⟩ := cmp_ok e
    have l := sgn_pos w2
    have g := sumN_gd (T := T) (ln := ln) (k := k) (a := pb T ln b + 1) (by omega)
    refine Gd.bnd g.1 (fun c e => ?_)
    obtain ⟨g1, g2, g3⟩ := g.2 c e
    refine ⟨g.1, fun c' e' => ?_⟩
    cases e'
    refine ⟨?_, ?_, fun w hw => ?_⟩
    · show b + (c ++ [_]).length ≤ (sumN T ln k (pb T ln b + 1)).2 + 0
      rw [List.length_append]
      show b + (c.length + 1) ≤ _
      omega
    · show b < (sumN T ln k (pb T ln b + 1)).2
      omega
    · rcases List.mem_append.mp hw with hw | hw
      · exact g3 w hw
      · rw [List.mem_singleton.mp hw]
        exact w1
theorem and_gd {u : Nat → Res} (hu : ∀ a, a ≤ ln → Gd pS ln a 0 (u a)) {a : Nat} {r : Res} (hr : Gd pS ln a 0 r) : Gd pS ln a 0 (andF T ln u r) :=
  LP_gd hu (fun _ _ h => and_ok h) 200 a _ none hr (fun w h => by cases h)
theorem cond_gd {u : Nat → Res} (hu : ∀ a, a ≤ ln → Gd pS ln a 0 (u a)) {a : Nat} {r : Res} (hr : Gd pS ln a 0 r) : Gd pS ln a 0 (condF T ln u r) :=
  LP_gd (fun _ h => and_gd hu (hu _ h)) (fun _ _ h => or_ok h) 200 a _ none (and_gd hu hr) (fun w h => by cases h)
theorem unit_gd {k : Nat} {iu : Option (Nat → Res)} (hi : ∀ f, iu = some f → ∀ a, a ≤ ln → Gd pS ln a 0 (f a)) {a : Nat} (ha : a ≤ ln) : Gd pS ln a 0 (unitF T ln k iu a) := by
  obtain ⟨p1, p2, p3⟩ := pb_le (T := T) (ln := ln) (a := a) ha
  unfold unitF
  by_cases q1 : sgn T ln (pb T ln a) = 33
  · rw [if_pos q1]
    have l := sgn_pos (T := T) (ln := ln) (a := pb T ln a) (by omega)
    cases iu with
    | none => exact Gd.bad p2
    | some u =>
      have g := hi u rfl (pb T ln a + 1) (by omega)
      refine Gd.bnd g.1 (fun c e => ?_)
      obtain ⟨g1, g2, g3⟩ := g.2 c e
      refine ⟨g.1, fun c' e' => ?_⟩
      cases e'
      refine ⟨?_, ?_, fun w hw => ?_⟩
      · show a + (c ++ [_]).length ≤ (u (pb T ln a + 1)).2 + 0
        rw [List.length_append]
        show a + (c.length + 1) ≤ _
        omega
      · show a < (u (pb T ln a + 1)).2
        omega
      · rcases List.mem_append.mp hw with hw | hw
        · exact g3 w hw
        · rw [List.mem_singleton.mp hw]
          exact ⟨by decide, by decide⟩
  · rw [if_neg q1]
    by_cases q2 : sgn T ln (pb T ln a) = 40
    · rw [if_pos q2]
      have l := sgn_pos (T := T) (ln := ln) (a := pb T ln a) (by omega)
      cases iu with
      | none => exact Gd.bad p2
      | some u => exact cls_gd (by decide) (by omega) (cond_gd (hi u rfl) (hi u rfl (pb T ln a + 1) (by omega)))
    · rw [if_neg q2]
      have g := sumN_gd (T := T) (ln := ln) (k := k) (a := pb T ln a) p2
      refine Gd.bnd g.1 (fun c e => ?_)
      obtain ⟨g1, g2, g3⟩ := g.2 c e
      have g' := cmp_gd (T := T) (ln := ln) (k := k) (b := (sumN T ln k (pb T ln a)).2) g.1
      refine Gd.bnd g'.1 (fun c' e' => ?_)
      obtain ⟨i1, i2, i3⟩ := g'.2 c' e'
      refine ⟨g'.1, fun c2 e2 => ?_⟩
      cases e2
      refine ⟨?_, ?_, fun w hw => ?_⟩
      · show a + (c ++ c').length ≤ (cmpF T ln k (sumN T ln k (pb T ln a)).2).2 + 0
        rw [List.length_append]
        omega
      · show a < (cmpF T ln k (sumN T ln k (pb T ln a)).2).2
        omega
      · rcases List.mem_append.mp hw with hw | hw
        · exact g3 w hw
        · exact i3 w hw
theorem uN_gd : ∀ (k a : Nat), a ≤ ln → Gd pS ln a 0 (uN T ln k a)
  | 0, a, ha => unit_gd (fun f e => by cases e) ha
  | k + 1, a, ha => unit_gd (fun f e a ha => by cases e; exact uN_gd k a ha) ha
end RT
