/-! rule text: the class's small steps -/
section RC
theorem wd_nI {v s : Nat} (hv : v < 2 ^ 16) (hs : s < 16) : (nI v <<< ((4 : Int32) &&& 31)) ||| nI s = nI (16 * v + s) := by
  have e1 : nI v <<< ((4 : Int32) &&& 31) = nI (16 * v) := by
    apply u_inj
    rw [u_nI (by omega)]
    show ((nI v).toBitVec <<< (((4 : Int32) &&& 31).toBitVec.smod 32)).toNat = _
    rw [show ((4 : Int32) &&& 31).toBitVec.smod 32 = 4#32 by decide, BitVec.shiftLeft_eq', BitVec.toNat_shiftLeft]
    have : (nI v).toBitVec.toNat = v := u_nI (by omega)
    rw [this, Nat.shiftLeft_eq, show (4#32).toNat = 4 from rfl]
    omega
  rw [e1, or_nI (by omega) (by omega)]
  congr 1
  have := Nat.shiftLeft_add_eq_or_of_lt (i := 4) (b := s) (by omega) v
  rw [Nat.shiftLeft_eq, show v * 2 ^ 4 = 16 * v by omega] at this
  exact this.symm
theorem dg_f : ∀ s, s < 256 → (nI s < 48 → isD s = false) ∧ (¬ nI s < 48 → 57 < nI s → isD s = false) ∧ (¬ nI s < 48 → ¬ 57 < nI s → isD s = true) := by decide +kernel
theorem cmp_f : ∀ s, s < 256 → ((nI s).toInt < 60 ∨ 62 < (nI s).toInt → cmpS s = none) ∧ ((nI s).toInt = 60 → cmpS s = some 7) ∧ ((nI s).toInt = 61 → cmpS s = some 6) ∧ ((nI s).toInt = 62 → cmpS s = some 8) := by decide +kernel
theorem getD_l : ∀ (c c' : List Nat) (i : Nat), i < c.length → (c ++ c').getD i 0 = c.getD i 0
  | [], _, _, h => by cases h
  | _ :: _, _, 0, _ => rfl
  | _ :: c, c', i + 1, h => getD_l c c' i (Nat.lt_of_succ_lt_succ h)
theorem getD_r : ∀ (c : List Nat) (x : Nat), (c ++ [x]).getD c.length 0 = x
  | [], _ => rfl
  | _ :: c, x => getD_r c x
def CodeOK (h : AH) (c : List Nat) : Prop := h.1 27 2 = nI c.length ∧ ∀ i, i < c.length → h.1 28 i = nI (c.getD i 0)
def F27 (h g : AH) : Prop := g.2 = h.2 ∧ ∀ c j, c ≠ 28 → ¬ (c = 27 ∧ 2 ≤ j ∧ j ≤ 4) → g.1 c j = h.1 c j
theorem F27.txt {h g : AH} {T : Nat → Nat} {ln : Nat} (a : F27 h g) (t : Txt h T ln) : Txt g T ln := by
  obtain ⟨t1, t2, t3, t4⟩ := t
  exact ⟨t1, by rw [a.2 23 1 (by decide) (by decide)]; exact t2, t3, fun i hi => by rw [a.2 24 i (by decide) (by omega)]; exact t4 i hi⟩
theorem F27.set {h g : AH} {j : Nat} {x : Int32} (a : F27 h g) (hj : 2 ≤ j ∧ j ≤ 4) : F27 h (setI g 27 j x) := ⟨a.1, fun c k h1 h2 => by
  show (if c = 27 ∧ k = j then x else g.1 c k) = _
  rw [if_neg (fun z => h2 ⟨z.1, by omega, by omega⟩)]
  exact a.2 c k h1 h2⟩
theorem F27.set28 {h g : AH} {j : Nat} {x : Int32} (a : F27 h g) : F27 h (setI g 28 j x) := ⟨a.1, fun c k h1 h2 => by
  show (if c = 28 ∧ k = j then x else g.1 c k) = _
  rw [if_neg (fun z => h1 z.1)]
  exact a.2 c k h1 h2⟩
/-- read as far as a, words c; and: a fault at p -/
def Oc (h0 g : AH) (ln a : Nat) (c : List Nat) : Prop := F27 h0 g ∧ a ≤ ln ∧ g.1 27 3 = nI a ∧ g.1 27 4 = 0 ∧ CodeOK g c
def Wz (g : AH) : Prop := ∃ z, z ≤ 200 ∧ g.1 27 2 = nI z
def Dm (h0 g : AH) (T : Nat → Nat) (ln p : Nat) : Prop := F27 h0 g ∧ p ≤ ln ∧ g.1 27 3 = nI p ∧ (g.1 27 4 = 1 ∨ (g.1 27 4 = 0 ∧ isD (sgn T ln p) = true)) ∧ Wz g
def Wr (h0 g : AH) (ln p : Nat) : Prop := F27 h0 g ∧ p ≤ ln ∧ g.1 27 3 = nI p ∧ g.1 27 4 = 1 ∧ Wz g
theorem Wr.dm {h0 g : AH} {T : Nat → Nat} {ln p : Nat} (w : Wr h0 g ln p) : Dm h0 g T ln p := ⟨w.1, w.2.1, w.2.2.1, Or.inl w.2.2.2.1, w.2.2.2.2⟩
def RcP (h0 : AH) (T : Nat → Nat) (ln : Nat) (c : List Nat) (r : Res) (g : AH) : Prop := match r.1 with
  | none => Dm h0 g T ln r.2
  | some c' => Oc h0 g ln r.2 (c ++ c')
theorem RcP.bad {h0 g : AH} {T : Nat → Nat} {ln : Nat} {c : List Nat} {r : Res} (e : r.1 = none) (d : Dm h0 g T ln r.2) : RcP h0 T ln c r g := by
  unfold RcP
  rw [e]
  exact d
theorem RcP.ok {h0 g : AH} {T : Nat → Nat} {ln : Nat} {c c' : List Nat} {r : Res} (e : r.1 = some c') (d : Oc h0 g ln r.2 (c ++ c')) : RcP h0 T ln c r g := by
  unfold RcP
  rw [e]
  exact d
theorem RcP.of_none {h0 g : AH} {T : Nat → Nat} {ln : Nat} {c : List Nat} {r : Res} (e : r.1 = none) (d : RcP h0 T ln c r g) : Dm h0 g T ln r.2 := by
  unfold RcP at d
  rw [e] at d
  exact d
theorem RcP.of_some {h0 g : AH} {T : Nat → Nat} {ln : Nat} {c c' : List Nat} {r : Res} (e : r.1 = some c') (d : RcP h0 T ln c r g) : Oc h0 g ln r.2 (c ++ c') := by
  unfold RcP at d
  rw [e] at d
  exact d
end RC
section OPS
variable {X : CX} {d nx sz : Nat} {h h0 : AH} {T : Nat → Nat} {ln a p : Nat} {c : List Nat}
theorem s_isDg {s : Nat} (hs : s ≤ 255) : Mk X d m_X7_isDigit [.int (nI s)] h nx sz (RE (if isD s = true then 1 else 0) h) := by
  obtain ⟨l1, l2, l3⟩ := dg_f s (by omega)
  refine Mk.re fun Q hq => e_X7_isDigit (c_X7_isDigit_0 (fun z => ?_) (fun z z2 => ?_) (fun z z2 => ?_))
  · rw [l1 z] at hq
    exact hq
  · rw [l2 z z2] at hq
    exact hq
  · rw [l3 z z2] at hq
    exact hq
theorem s_comparing {s : Nat} (hs : s ≤ 255) : Mk X d m_X7_comparing [.int (nI s)] h nx sz (RE (ovI (cmpS s)) h) := by
  obtain ⟨l1, l2, l3, l4⟩ := cmp_f s (by omega)
  refine Mk.re fun Q hq => e_X7_comparing (c_X7_comparing_0 (fun z => ?_) (fun z => ?_) (fun z => ?_) (fun z => ?_))
  · rw [l1 z] at hq
    exact hq
  · rw [l2 z] at hq
    exact hq
  · rw [l3 z] at hq
    exact hq
  · rw [l4 z] at hq
    exact hq
theorem s_adding {s : Nat} (hs : s ≤ 255) : Mk X d m_X7_adding [.int (nI s)] h nx sz (RE (ovI (addS s)) h) := by
  have e1 : nI s = 43 ↔ s = 43 := nI_eq (b := 43) (by omega) (by decide)
  have e2 : nI s = 45 ↔ s = 45 := nI_eq (b := 45) (by omega) (by decide)
  refine Mk.re fun Q hq => e_X7_adding (c_X7_adding_0 (fun z z2 => ?_) (fun z z2 => ?_) (fun z => ?_)) <;> unfold addS at hq
  · rw [if_neg (fun y => z (e1.mpr y)), if_neg (fun y => z2 (e2.mpr y))] at hq
    exact hq
  · rw [if_neg (fun y => z (e1.mpr y)), if_pos (e2.mp z2)] at hq
    exact hq
  · rw [if_pos (e1.mp z)] at hq
    exact hq
theorem s_multiplying {s : Nat} (hs : s ≤ 255) : Mk X d m_X7_multiplying [.int (nI s)] h nx sz (RE (ovI (mulS s)) h) := by
  have e1 : nI s = 42 ↔ s = 42 := nI_eq (b := 42) (by omega) (by decide)
  have e2 : nI s = 47 ↔ s = 47 := nI_eq (b := 47) (by omega) (by decide)
  refine Mk.re fun Q hq => e_X7_multiplying (c_X7_multiplying_0 (fun z z2 => ?_) (fun z z2 => ?_) (fun z => ?_)) <;> unfold mulS at hq
  · rw [if_neg (fun y => z (e1.mpr y)), if_neg (fun y => z2 (e2.mpr y))] at hq
    exact hq
  · rw [if_neg (fun y => z (e1.mpr y)), if_pos (e2.mp z2)] at hq
    exact hq
  · rw [if_pos (e1.mp z)] at hq
    exact hq
theorem Oc.at {b : Nat} (o : Oc h0 h ln a c) (hb : b ≤ ln) : Oc h0 (setI h 27 3 (nI b)) ln b c := ⟨o.1.set (by decide), hb, rfl, o.2.2.2.1, o.2.2.2.2⟩
theorem Oc.wz (o : Oc h0 h ln a c) (hc : c.length ≤ 200) : Wz h := ⟨c.length, hc, o.2.2.2.2.1⟩
theorem Oc.wr (o : Oc h0 h ln a c) (hc : c.length ≤ 200) : Wr h0 (setI h 27 4 1) ln a := ⟨o.1.set (by decide), o.2.1, o.2.2.1, rfl, o.wz hc⟩
theorem Dm.wr (o : Dm h0 h T ln p) : Wr h0 (setI h 27 4 1) ln p := ⟨o.1.set (by decide), o.2.1, o.2.2.1, rfl, o.2.2.2.2⟩
theorem Oc.dm (o : Oc h0 h ln a c) (hc : c.length ≤ 200) (hd : isD (sgn T ln a) = true) : Dm h0 h T ln a := ⟨o.1, o.2.1, o.2.2.1, Or.inr ⟨o.2.2.2.1, hd⟩, o.wz hc⟩
theorem s_next (hA0 : 91 ≤ nx) (hF : Fx h0) (t : Txt h0 T ln) (o : Oc h0 h ln a c) : Mk X (d + 1) m_X7_next [.ref 27] h nx sz (RI fun y g => y = nI (sgn T ln (pb T ln a)) ∧ Oc h0 g ln (pb T ln a) c) := by
  have hFh := hF.of o.1.1
  have th := o.1.txt t
  obtain ⟨b1, b2, b3⟩ := pb_le (T := T) (ln := ln) (a := a) o.2.1
  refine e_X7_next (c_X7_next_0 hA0 hFh RO_rm hcs0 (fun _ => by rw [o.2.2.1]; exact s_pastBlanks (d := d) hA0 hFh th o.2.1) ?_ (fun z => absurd o.2.2.2.1 z))
  rintro _ _ g ⟨rfl, rfl⟩
  have o2 := o.at (b := pb T ln a) b2
  refine c_X7_next_21 hA0 hFh RO_rm hcs0 (s_sign (d := d) hA0 (hF.of o2.1.1) (o2.1.txt t) b2) ?_
  rintro _ g ⟨rfl, rfl⟩
  exact c_X7_next_35 ⟨_, rfl, rfl, o2⟩
theorem s_next_dm (hA0 : 91 ≤ nx) (hF : Fx h0) (t : Txt h0 T ln) (o : Dm h0 h T ln p) : Mk X (d + 1) m_X7_next [.ref 27] h nx sz (RI fun y g => (∃ s, s ≤ 255 ∧ y = nI s ∧ (s = 0 ∨ isD s = true)) ∧ g = h) := by
  have hFh := hF.of o.1.1
  have th := o.1.txt t
  rcases o.2.2.2.1 with w | ⟨w, q⟩
  · refine e_X7_next (c_X7_next_0 (d := d) (P18 := fun _ _ => False) hA0 hFh RO_rm hcs0 (fun z => by rw [w] at z; cases z) (fun z => by rw [w] at z; cases z) (fun _ => ⟨_, rfl, ⟨0, by decide, rfl, Or.inl rfl⟩, rfl⟩))
  · have qd := isD_iff.mp q
    have l := sgn_pos (T := T) (ln := ln) (a := p) (by omega)
    have ep : pb T ln p = p := pb_stop (Or.inr (by
      unfold sgn at qd
      rw [if_pos l] at qd
      omega))
    refine e_X7_next (c_X7_next_0 hA0 hFh RO_rm hcs0 (fun _ => by rw [o.2.2.1]; exact s_pastBlanks (d := d) hA0 hFh th o.2.1) ?_ (fun z => absurd w z))
    rintro _ _ g ⟨rfl, rfl⟩
    rw [ep]
    refine c_X7_next_21 hA0 hFh RO_rm hcs0 ?_ (P32 := fun y g => y = nI (sgn T ln p) ∧ h = g) ?_
    · rw [← o.2.2.1, setI_id]
      rw [o.2.2.1]
      exact s_sign (d := d) hA0 hFh th o.2.1
    rintro _ g ⟨rfl, rfl⟩
    exact c_X7_next_35 ⟨_, rfl, ⟨_, sgn_le t.2.2.1, rfl, Or.inr q⟩, rfl⟩
theorem s_expect {s : Nat} (hA0 : 91 ≤ nx) (hF : Fx h0) (t : Txt h0 T ln) (o : Oc h0 h ln a c) (hc : c.length ≤ 200) (h1 : 0 < s) (h2 : s ≤ 255) : Mk X (d + 2) m_X7_expect [.ref 27, .int (nI s)] h nx sz (RV fun g => if sgn T ln (pb T ln a) = s then Oc h0 g ln (pb T ln a + 1) c else Wr h0 g ln (pb T ln a)) := by
  refine e_X7_expect (c_X7_expect_0 hA0 RO_rm hcs0 (s_next (d := d) hA0 hF t o) ?_)
  rintro _ g ⟨rfl, o⟩
  have hs := sgn_le (a := pb T ln a) t.2.2.1
  have es : nI (sgn T ln (pb T ln a)) = nI s ↔ sgn T ln (pb T ln a) = s := nI_eq (by omega) (by omega)
  refine c_X7_expect_4 hA0 (fun z => ⟨rfl, ?_⟩) (fun z => ⟨rfl, ?_⟩)
  · rw [es] at z
    show if sgn T ln (pb T ln a) = s then _ else _
    rw [if_neg z]
    exact o.wr hc
  · rw [es] at z
    show if sgn T ln (pb T ln a) = s then _ else _
    rw [if_pos z, o.2.2.1, nI_1]
    have := sgn_pos (T := T) (ln := ln) (a := pb T ln a) (by omega)
    exact o.at (by omega)
theorem s_expect_dm {s : Nat} (hA0 : 91 ≤ nx) (hF : Fx h0) (t : Txt h0 T ln) (o : Dm h0 h T ln p) (h1 : 0 < s) (h2 : s ≤ 255) (h3 : isD s = false) : Mk X (d + 2) m_X7_expect [.ref 27, .int (nI s)] h nx sz (RV fun g => Wr h0 g ln p) := by
  refine e_X7_expect (c_X7_expect_0 hA0 RO_rm hcs0 (s_next_dm (d := d) hA0 hF t o) ?_)
  rintro _ g ⟨⟨s', q1, rfl, q3⟩, rfl⟩
  have es : nI s' = nI s ↔ s' = s := nI_eq (by omega) (by omega)
  refine c_X7_expect_4 hA0 (fun z => ⟨rfl, o.wr⟩) (fun z => ?_)
  rw [es] at z
  subst z
  rcases q3 with q | q
  · omega
  · rw [h3] at q
    cases q
theorem s_write {s v : Nat} (hA0 : 91 ≤ nx) (hF : Fx h0) (o : Oc h0 h ln a c) (hc : c.length < 200) (hv : v < 2 ^ 16) (hs : s < 16) : Mk X d m_X7_write [.ref 27, .int (nI s), .int (nI v)] h nx sz (RV fun g => Oc h0 g ln a (c ++ [16 * v + s])) := by
  obtain ⟨c1, c2⟩ := o.2.2.2.2
  have no : ¬ (200 : Int32) ≤ h.1 27 2 := fun z => by
    rw [c1] at z
    have z : nI 200 ≤ nI c.length := z
    rw [le_nI (by decide) (by omega)] at z
    omega
  refine e_X7_write (c_X7_write_0 hA0 (hF.of o.1.1) (fun z => absurd z no) (fun _ => by rw [c1]; exact vin hc (by decide)) (fun _ => ⟨rfl, ?_⟩))
  rw [c1, tN (by omega), wd_nI hv hs, nI_1]
  refine ⟨(o.1.set (by decide)).set28, o.2.1, o.2.2.1, o.2.2.2.1, ?_, fun i hi => ?_⟩
  · rw [List.length_append]
    rfl
  · rw [List.length_append] at hi
    have hi : i < c.length + 1 := hi
    show (if 28 = 28 ∧ i = c.length then nI (16 * v + s) else (if 28 = 27 ∧ i = 2 then nI (c.length + 1) else h.1 28 i)) = _
    by_cases q : i = c.length
    · rw [if_pos ⟨rfl, q⟩, q, getD_r]
    · rw [if_neg (fun z => q z.2), if_neg (fun z => by cases z.1), getD_l _ _ _ (by omega)]
      exact c2 i (by omega)
theorem s_write_dm {x1 x2 : Int32} (hA0 : 91 ≤ nx) (hF : Fx h0) (o : Dm h0 h T ln p) : Mk X d m_X7_write [.ref 27, .int x1, .int x2] h nx sz (RV fun g => Dm h0 g T ln p) := by
  obtain ⟨z, z1, z2⟩ := o.2.2.2.2
  refine e_X7_write (c_X7_write_0 hA0 (hF.of o.1.1) (fun _ => ⟨rfl, o⟩) (fun q => ?_) (fun q => ⟨rfl, (o.1.set (by decide)).set28, o.2.1, o.2.2.1, o.2.2.2.1, z + 1, ?_, ?_⟩))
  · rw [z2] at q ⊢
    have q : ¬ nI 200 ≤ nI z := q
    rw [le_nI (by decide) (by omega)] at q
    exact vin (by omega) (by decide)
  · rw [z2] at q
    have q : ¬ nI 200 ≤ nI z := q
    rw [le_nI (by decide) (by omega)] at q
    omega
  · refine Eq.trans (b := h.1 27 2 + 1) rfl ?_
    rw [z2, nI_1]
theorem s_number (hA0 : 91 ≤ nx) (hF : Fx h0) (t : Txt h0 T ln) (o : Oc h0 h ln a c) (hc : c.length ≤ a) (hq : isD (sgn T ln a) = true) : Mk X (d + 1) m_X7_number [.ref 27] h nx sz (RV fun g => RcP h0 T ln c (numF T ln a) g) := by
  have l := sgn_pos (T := T) (ln := ln) (a := a) (by have := isD_iff.mp hq; omega)
  have l2 := t.1
  refine e_X7_number (c_X7_number_0 ?_)
  obtain ⟨Q, hQ⟩ : ∃ Q, Q = (RV fun g => RcP h0 T ln c (numF T ln a) g) := ⟨_, rfl⟩
  rw [← hQ]
  have fin : ∀ (v b : Nat) (g : AH), NM T ln 4 0 a = (v, b) → Oc h0 g ln b (c ++ [16 * v + 0]) → RcP h0 T ln c (numF T ln a) g := fun v b g e og => by
    have e1 : (NM T ln 4 0 a).2 = b := by rw [e]
    have e2 : (NM T ln 4 0 a).1 = v := by rw [e]
    unfold numF
    rw [e1, e2]
    by_cases q : isD (sgn T ln b) = true
    · rw [if_pos q]
      exact RcP.bad rfl (og.dm (by rw [List.length_append]; show c.length + 1 ≤ 200; omega) q)
    · rw [if_neg q]
      exact RcP.ok rfl og
  have key : ∀ (f i v b : Nat) (g : AH), i + f = 4 → v < 10 ^ i → NM T ln f v b = NM T ln 4 0 a → Oc h0 g ln b c → VM X m_X7_number (d + 1) nx sz Q 4 [some (.ref 27), some (.int (nI v)), some (.int (nI i))] [] g := by
    intro f
    induction f with
    | zero =>
      intro i v b g hi hv e og
      have hi : i = 4 := by omega
      subst hi
      have yes : (4 : Int32) ≤ nI 4 := Int32.le_refl _
      refine c_X7_number_4 (P17 := fun _ _ => False) hA0 (hF.of og.1.1) RO_rm hcs0 (fun _ => s_write (s := 0) (v := v) hA0 hF og (by omega) (by omega) (by decide)) ?_ (fun z => absurd yes z) (fun z => absurd yes z)
      rintro _ g' r
      refine c_X7_number_68 ?_
      rw [hQ]
      exact ⟨rfl, fin v b g' e.symm r⟩
    | succ f ih =>
      intro i v b g hi hv e og
      have no : ¬ (4 : Int32) ≤ nI i := fun z => by
        have z : nI 4 ≤ nI i := z
        rw [le_nI (by decide) (by omega)] at z
        omega
      have h4 : v < 10 ^ 4 := Nat.lt_of_lt_of_le hv (Nat.pow_le_pow_right (by decide) (by omega))
      have hFg := hF.of og.1.1
      have tg := og.1.txt t
      have hs := sgn_le (a := b) t.2.2.1
      refine c_X7_number_4 (P65 := fun _ => False) hA0 hFg RO_rm hcs0 (fun z => absurd z no) (fun z => absurd z no) (fun _ => by rw [og.2.2.1]; exact s_sign (d := d) hA0 hFg tg og.2.1) ?_
      rintro _ _ g' ⟨rfl, rfl⟩
      refine c_X7_number_20 RO_rm hcs0 (s_isDg (d := d) hs) ?_
      rintro _ g' ⟨rfl, rfl⟩
      unfold NM at e
      by_cases q : isD (sgn T ln b) = true
      · rw [if_pos q] at e ⊢
        have qd := isD_iff.mp q
        have lb := sgn_pos (T := T) (ln := ln) (a := b) (by omega)
        refine c_X7_number_23 (P65 := fun _ => False) hA0 hFg RO_rm hcs0 (fun z => by cases z) (fun z => by cases z) (fun _ => by rw [og.2.2.1]; exact s_sign (d := d) hA0 hFg tg og.2.1) ?_
        rintro _ _ g' ⟨rfl, rfl⟩
        refine c_X7_number_41 hA0 ?_
        have ev : (10 : Int32) * nI v + nI (sgn T ln b) - 48 = nI (10 * v + (sgn T ln b - 48)) := by
          rw [show (10 : Int32) = nI 10 from rfl, pk_mul, nI_add, show (48 : Int32) = nI 48 from rfl, pk_sub (by omega)]
          congr 1
          omega
        rw [ev, og.2.2.1, nI_1, nI_1]
        exact ih (i + 1) _ (b + 1) _ (by omega) (by rw [Nat.pow_succ]; omega) e (og.at (by omega))
      · rw [if_neg q] at e ⊢
        refine c_X7_number_23 (P38 := fun _ _ => False) hA0 hFg RO_rm hcs0 (fun _ => s_write (s := 0) (v := v) hA0 hF og (by omega) (by omega) (by decide)) ?_ (fun z => absurd rfl z) (fun z => absurd rfl z)
        rintro _ g' r
        refine c_X7_number_68 ?_
        rw [hQ]
        exact ⟨rfl, fin v b g' e.symm r⟩
  exact key 4 0 0 a h rfl (by decide) rfl o
end OPS
