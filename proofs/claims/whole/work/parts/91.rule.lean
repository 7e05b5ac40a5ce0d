/-! rule text: what the words are worth; the other side's small steps -/
section SW
def bdL (j : Int64) : Int32 := ((if (if j < 1000000 then j else 1000000) < (-1000000) then (-1000000) else (if j < 1000000 then j else 1000000)) : Int64).toInt32
def opV (s : Nat) (l r : Int32) : Int32 := if s = 2 then bdL (l.toInt64 + r.toInt64) else if s = 3 then bdL (l.toInt64 - r.toInt64) else if s = 4 then bdL (l.toInt64 * r.toInt64) else if s = 5 then (if r = 0 then 0 else bdL (l.toInt64 / r.toInt64)) else if s = 6 then (if l = r then 1 else 0) else if s = 7 then (if l < r then 1 else 0) else if s = 8 then (if r < l then 1 else 0) else if s = 9 then l &&& r else l ||| r
def toV (p : Nat → Int32) (w : Nat) : Int32 := if w % 16 = 0 then nI (w / 16) else p (w / 16)
def notT : List Int32 → List Int32
  | [] => []
  | x :: t => (1 - x) :: t
def opT (s : Nat) : List Int32 → List Int32
  | r :: l :: t => opV s l r :: t
  | t => t
/-- what words are worth -/
def wG (p : Nat → Int32) : List Nat → List Int32 → Bool → Option Int32
  | [], _, _ => none
  | w :: cs, st, true => wG p cs st (decide (w % 16 ≠ 13))
  | w :: cs, st, false => if w % 16 = 13 then some (st.headD 0) else if w % 16 = 12 then wG p cs [] (decide (st.headD 1 = 0)) else if w % 16 ≤ 1 then wG p cs (if st.length < 48 then toV p w :: st else st) false else if w % 16 = 11 then wG p cs (notT st) false else wG p cs (opT (w % 16) st) false
/-- words that push v, m places high at most -/
def SP (p : Nat → Int32) (m : Nat) (c : List Nat) (v : Int32) : Prop := ∀ st rest, st.length + m ≤ 48 → wG p (c ++ rest) st false = wG p rest (v :: st) false
variable {p : Nat → Int32} {m m' : Nat} {c c' : List Nat} {v v' : Int32}
theorem SP.mono (h : SP p m c v) (hm : m ≤ m') : SP p m' c v := fun st rest hs => h st rest (by omega)
theorem SP_push {w : Nat} (h : w % 16 ≤ 1) : SP p 1 [w] (toV p w) := fun st rest hs => by
  show (if w % 16 = 13 then _ else _) = _
  rw [if_neg (by omega), if_neg (by omega), if_pos h, if_pos (by omega)]
  rfl
theorem SP_op {s : Nat} (h : SP p m c v) (h' : SP p m' c' v') (hm : m' < m) (h2 : 2 ≤ s) (h10 : s ≤ 10) : SP p m (c ++ (c' ++ [s])) (opV s v v') := fun st rest hs => by
  rw [List.append_assoc, List.append_assoc, h st _ hs, h' (v :: st) _ (by show st.length + 1 + m' ≤ 48; omega)]
  show (if s % 16 = 13 then _ else _) = _
  rw [show s % 16 = s by omega, if_neg (by omega), if_neg (by omega), if_neg (by omega), if_neg (by omega)]
  rfl
theorem SP_not (h : SP p m c v) : SP p m (c ++ [11]) (1 - v) := fun st rest hs => by
  rw [List.append_assoc, h st _ hs]
  rfl
theorem wG_skip : ∀ (c rest : List Nat) (st : List Int32), (∀ w, w ∈ c → w % 16 ≠ 13) → wG p (c ++ rest) st true = wG p rest st true
  | [], _, _, _ => rfl
  | w :: c, rest, st, h => by
    show wG p (c ++ rest) st (decide (w % 16 ≠ 13)) = _
    rw [decide_eq_true (h w (List.mem_cons_self ..))]
    exact wG_skip c rest st (fun x hx => h x (List.mem_cons_of_mem _ hx))
end SW
section OPS
variable {X : CX} {D d nx sz : Nat} {h h0 : AH} {T : Nat → Nat} {rt b0 ln a k q : Nat} {c : List Nat}
def FM (h g : AH) : Prop := g.2 = h.2 ∧ ∀ c j, ¬ (c = 68 ∧ 11 ≤ j ∧ j ≤ 13) → g.1 c j = h.1 c j
theorem FM.set {g : AH} {j : Nat} {x : Int32} (a : FM h g) (h1 : 11 ≤ j) (h2 : j ≤ 13) : FM h (setI g 68 j x) := ⟨a.1, fun c k hk => by
  show (if c = 68 ∧ k = j then x else g.1 c k) = _
  rw [if_neg (fun z => hk ⟨z.1, by omega, by omega⟩)]
  exact a.2 c k hk⟩
theorem FM.mtx {g : AH} (a : FM h g) (m : Mtx h rt b0 T ln) : Mtx g rt b0 T ln := m.of (by rw [a.1]) (a.2 68 9 (by omega)) (a.2 68 10 (by omega)) (funext fun j => a.2 69 j (by omega)) (funext fun j => a.2 70 j (by omega))
/-- read as far as a, k more brackets may open; and: a fault at q -/
def Om (h0 g : AH) (ln a k : Nat) : Prop := FM h0 g ∧ a ≤ ln ∧ g.1 68 11 = nI a ∧ g.1 68 12 = -1 ∧ g.1 68 13 = nI (6 - k)
def Fm (h0 g : AH) (ln q : Nat) : Prop := FM h0 g ∧ q ≤ ln ∧ g.1 68 12 = nI q
theorem Om.at {b : Nat} (o : Om h0 h ln a k) (hb : b ≤ ln) : Om h0 (setI h 68 11 (nI b)) ln b k := ⟨o.1.set (by decide) (by decide), hb, rfl, o.2.2.2.1, o.2.2.2.2⟩
theorem Om.fl (o : Om h0 h ln a k) : Fm h0 (setI h 68 12 (nI a)) ln a := ⟨o.1.set (by decide) (by decide), o.2.1, rfl⟩
theorem Fm.ne (t : ln ≤ 200) (o : Fm h0 h ln q) : ¬ h.1 68 12 = -1 := by
  rw [o.2.2]
  exact nI_m1 (by have := o.2.1; omega)
def MPr (h0 : AH) (p : Nat → Int32) (ln m k : Nat) (r : Res) (y : Int32) (g : AH) : Prop := match r.1 with
  | none => Fm h0 g ln r.2
  | some c => Om h0 g ln r.2 k ∧ SP p m c y
section
variable {p : Nat → Int32} {g : AH} {m : Nat} {r : Res} {y : Int32}
theorem MPr.bad (e : r.1 = none) (f : Fm h0 g ln r.2) : MPr h0 p ln m k r y g := by
  unfold MPr
  rw [e]
  exact f
theorem MPr.ok (e : r.1 = some c) (f : Om h0 g ln r.2 k) (s : SP p m c y) : MPr h0 p ln m k r y g := by
  unfold MPr
  rw [e]
  exact ⟨f, s⟩
theorem MPr.of_none (e : r.1 = none) (d : MPr h0 p ln m k r y g) : Fm h0 g ln r.2 := by
  unfold MPr at d
  rw [e] at d
  exact d
theorem MPr.of_some (e : r.1 = some c) (d : MPr h0 p ln m k r y g) : Om h0 g ln r.2 k ∧ SP p m c y := by
  unfold MPr at d
  rw [e] at d
  exact d
end
theorem t_lookO (hA0 : 91 ≤ nx) (M : Mtx h0 rt b0 T ln) (o : Om h0 h ln a k) : Mk X d m_X12_look [.ref 68] h nx sz (RI fun y g => y = lkI (sgn T ln (pb T ln a)) ∧ g = setI h 68 11 (nI (pb T ln a)) ∧ Om h0 g ln (pb T ln a) k) := by
  have := t_look (X := X) (d := d) (nx := nx) (sz := sz) hA0 (o.1.mtx M) o.2.1 o.2.2.1
  obtain ⟨b1, b2, b3⟩ := pb_le (T := T) (ln := ln) (a := a) o.2.1
  have e : (RI fun y g => y = lkI (sgn T ln (pb T ln a)) ∧ g = setI h 68 11 (nI (pb T ln a)) ∧ Om h0 g ln (pb T ln a) k) = RE (lkI (sgn T ln (pb T ln a))) (setI h 68 11 (nI (pb T ln a))) := by
    refine funext fun r => funext fun g => propext ⟨?_, ?_⟩
    · rintro ⟨y, e1, e2, e3, e4⟩
      exact ⟨y, e1, e2, e3.symm⟩
    · rintro ⟨y, e1, e2, e3⟩
      subst e3
      exact ⟨y, e1, e2, rfl, o.at b2⟩
  rw [e]
  exact this
theorem t_failsO (hA0 : 91 ≤ nx) (o : Om h0 h ln a k) : Mk X d m_X12_fails [.ref 68] h nx sz (RI fun y g => y = 0 ∧ g = setI h 68 12 (nI a) ∧ Fm h0 g ln a) := t_fails_0 hA0 o.2.2.1 o.2.2.2.1 ⟨_, rfl, rfl, rfl, o.fl⟩
theorem t_failsF (hA0 : 91 ≤ nx) (t : ln ≤ 200) (o : Fm h0 h ln q) : Mk X d m_X12_fails [.ref 68] h nx sz (RI fun y g => y = 0 ∧ Fm h0 g ln q) :=
  e_X12_fails (c_X12_fails_0 hA0 (fun _ => ⟨_, rfl, rfl, o⟩) (fun z => absurd z (o.ne t)))
theorem t_takes {s : Nat} (hA0 : 91 ≤ nx) (M : Mtx h0 rt b0 T ln) (o : Om h0 h ln a k) (h1 : 0 < s) (h2 : s ≤ 255) : Mk X (d + 1) m_X12_takes [.ref 68, .int (nI s)] h nx sz (RI fun y g => if sgn T ln (pb T ln a) = s then y = 1 ∧ Om h0 g ln (pb T ln a + 1) k else y = 0 ∧ Fm h0 g ln (pb T ln a)) := by
  refine e_X12_takes (c_X12_takes_0 (d := d) (P17 := fun _ _ => False) hA0 RO_rm hcs0 (fun z => absurd o.2.2.2.1 z) (fun z => absurd o.2.2.2.1 z) (fun _ => t_lookO (d := d) hA0 M o) ?_)
  rintro _ _ g ⟨rfl, -, o⟩
  have hs := sgn_le (a := pb T ln a) M.2.2.2.2.2.1
  have es := lkI_eq hs h1 h2
  refine c_X12_takes_12 hA0 RO_rm hcs0 (fun z => ⟨_, rfl, ?_⟩) (fun _ => t_failsO (d := d) hA0 o) ?_
  · show if sgn T ln (pb T ln a) = s then _ else _
    have z := es.mp z
    have l := sgn_pos (T := T) (ln := ln) (a := pb T ln a) (by omega)
    rw [if_pos z, o.2.2.1, nI_1]
    exact ⟨rfl, o.at (by omega)⟩
  · rintro z _ g ⟨rfl, -, f⟩
    refine c_X12_takes_20 ⟨_, rfl, ?_⟩ rfl
    show if sgn T ln (pb T ln a) = s then _ else _
    rw [if_neg (fun y => z (es.mpr y))]
    exact ⟨rfl, f⟩
theorem t_takesF {x1 : Int32} (hA0 : 91 ≤ nx) (t : ln ≤ 200) (o : Fm h0 h ln q) : Mk X (d + 1) m_X12_takes [.ref 68, .int x1] h nx sz (RI fun y g => y = 0 ∧ Fm h0 g ln q) := by
  refine e_X12_takes (c_X12_takes_0 (d := d) (P9 := fun _ _ => False) hA0 RO_rm hcs0 (fun _ => t_failsF (d := d) hA0 t o) ?_ (fun z => absurd z (o.ne t)) (fun z => absurd z (o.ne t)))
  rintro _ _ g ⟨rfl, f⟩
  exact c_X12_takes_20 ⟨_, rfl, rfl, f⟩ rfl
theorem t_goesIn0 (hA0 : 91 ≤ nx) (o : Om h0 h ln a 0) : Mk X (d + 1) m_X12_goesIn [.ref 68] h nx sz (RI fun y g => y = 0 ∧ Fm h0 g ln a) := by
  have e : h.1 68 13 = 6 := o.2.2.2.2
  refine e_X12_goesIn (c_X12_goesIn_0 hA0 RO_rm hcs0 (fun z => absurd e z) (fun _ => t_failsO (d := d) hA0 o) ?_)
  rintro _ _ g ⟨rfl, -, f⟩
  exact c_X12_goesIn_13 ⟨_, rfl, rfl, f⟩ rfl
theorem t_goesIn (hA0 : 91 ≤ nx) (o : Om h0 h ln a (k + 1)) (hk : k + 1 ≤ 6) (ha : a < ln) : Mk X (d + 1) m_X12_goesIn [.ref 68] h nx sz (RI fun y g => y = 1 ∧ Om h0 g ln (a + 1) k) := by
  have e : ¬ h.1 68 13 = 6 := fun z => by
    rw [o.2.2.2.2] at z
    have := nI_inj (b := 6) (by omega) (by decide) z
    omega
  refine e_X12_goesIn (c_X12_goesIn_0 (d := d) (P10 := fun _ _ => False) hA0 RO_rm hcs0 (fun _ => ⟨_, rfl, rfl, ?_⟩) (fun z => absurd z e) (fun z => absurd z e))
  refine ⟨(o.1.set (by decide) (by decide)).set (by decide) (by decide), ha, ?_, o.2.2.2.1, ?_⟩
  · show h.1 68 11 + 1 = _
    rw [o.2.2.1, nI_1]
  · show h.1 68 13 + 1 = _
    rw [o.2.2.2.2, nI_1]
    congr 1
    omega
theorem byt_dg : ∀ b, b < 256 → (byt b < 48 → isD b = false) ∧ (¬ byt b < 48 → 57 < byt b → isD b = false) ∧ (¬ byt b < 48 → ¬ 57 < byt b → isD b = true) := by decide +kernel
theorem t_isDgM {a : Nat} (hA0 : 91 ≤ nx) (m : Mtx h rt b0 T ln) (ha : a ≤ ln) (e : h.1 68 11 = nI a) : Mk X d m_X12_isDigit [.ref 68] h nx sz (RE (if isD (sgn T ln a) = true then 1 else 0) h) := by
  obtain ⟨N, hN, hb, hN2, h91⟩ := m.kd (X := X)
  have m4 := m.2.2.2.1
  have le : h.1 68 10 ≤ h.1 68 11 ↔ ln ≤ a := by
    rw [m.2.2.1, e]
    exact le_nI (by omega) (by omega)
  have ei : h.1 68 9 + h.1 68 11 = nI (b0 + a) := by rw [m.2.1, e, nI_add]
  refine Mk.re fun Q hq => e_X12_isDigit ?_
  by_cases q : ln ≤ a
  · have es : sgn T ln a = 0 := if_neg (by omega)
    have e0 : isD 0 = false := rfl
    rw [es, e0] at hq
    exact c_X12_isDigit_0 hA0 m.1 hN (by omega) (fun _ => hq) (fun z => absurd (le.mpr q) z) (fun z => absurd (le.mpr q) z) (fun z => absurd (le.mpr q) z) (fun z => absurd (le.mpr q) z) (fun z => absurd (le.mpr q) z)
  · have es : sgn T ln a = T a := if_pos (by omega)
    rw [es] at hq
    have iv : vp_in (h.1 68 9 + h.1 68 11) N := by
      rw [ei]
      exact vin (by omega) (by omega)
    have er : h.1 rt (h.1 68 9 + h.1 68 11).toNatClampNeg = byt (T a) := by
      rw [ei, tN (by omega)]
      exact m.2.2.2.2.2.2 a (by omega)
    obtain ⟨l1, l2, l3⟩ := byt_dg (T a) (by have := m.2.2.2.2.2.1 a (by omega); omega)
    refine c_X12_isDigit_0 hA0 m.1 hN (by omega) (fun z => absurd (le.mp z) q) (fun _ => iv) (fun _ z => ?_) (fun _ _ => iv) (fun _ z z2 => ?_) (fun _ z z2 => ?_)
    · rw [er] at z
      rw [l1 z] at hq
      exact hq
    · rw [er] at z z2
      rw [l2 z z2] at hq
      exact hq
    · rw [er] at z z2
      rw [l3 z z2] at hq
      exact hq
theorem t_within {j : Int64} : Mk X (d + 1) m_X12_within [.long j] h nx sz (RE (bdL j) h) := Mk.re fun Q hq => e_X12_within (c_X12_within_0 (d := d) RO_rm hcs0 hq)
def amI (r : Nat) (x : Int32) : Bool := (List.range (strN.getD r 0)).any fun i => decide ((strB.getD r []).getD i 0 = x)
theorem am_0 : ∀ s, s < 256 → (amI 0 (lkI s) = (ltr s).isSome ∧ amI 1 (lkI s) = decide (s = 121)) := by decide +kernel
theorem t_isAmong {r : Nat} {x : Int32} (hr : r < 3) : Mk X (d + 4) m_X12_isAmong [.ref (10000 + r), .int x] h nx sz (RE (if amI r x = true then 1 else 0) h) := by
  have hN : strN.getD r 0 ≤ 11 := by
    have : ∀ r, r < 3 → strN.getD r 0 ≤ 11 := by decide
    exact this r hr
  refine Mk.re fun Q hq => e_X12_isAmong (c_X12_isAmong_0 ?_)
  have key : ∀ (k i : Nat), i + k = strN.getD r 0 → (∀ j, j < i → (strB.getD r []).getD j 0 ≠ x) → VM X m_X12_isAmong (d + 4) nx sz Q 2 [some (.ref (10000 + r)), some (.int x), some (.int (nI i))] [] h := by
    intro k
    induction k with
    | zero =>
      intro i hi hj
      refine c_X12_isAmong_2 RO_rm hcs0 hr (s_lengthS (d := d + 2) hr) ?_
      rintro _ g ⟨rfl, rfl⟩
      have yes : Int32.ofNat (strN.getD r 0) ≤ nI i := by
        show nI (strN.getD r 0) ≤ nI i
        rw [le_nI (by omega) (by omega)]
        omega
      refine c_X12_isAmong_7 (d := d + 3) (P12 := fun _ _ => False) RO_rm hcs0 hr (fun _ => ?_) (fun z => absurd yes z) (fun z => absurd yes z)
      have e : amI r x = false := by
        unfold amI
        rw [List.any_eq_false]
        intro j hj'
        have hj' := List.mem_range.mp hj'
        rw [decide_eq_true_eq]
        exact hj j (by omega)
      rw [e] at hq
      exact hq
    | succ k ih =>
      intro i hi hj
      refine c_X12_isAmong_2 RO_rm hcs0 hr (s_lengthS (d := d + 2) hr) ?_
      rintro _ g ⟨rfl, rfl⟩
      have no : ¬ Int32.ofNat (strN.getD r 0) ≤ nI i := fun z => by
        have z : nI (strN.getD r 0) ≤ nI i := z
        rw [le_nI (by omega) (by omega)] at z
        omega
      refine c_X12_isAmong_7 RO_rm hcs0 hr (fun z => absurd z no) (fun _ => s_charAt (d := d) hr (by omega)) ?_
      rintro _ _ g ⟨rfl, rfl⟩
      refine c_X12_isAmong_15 (fun z => ?_) (fun z => ?_)
      · rw [nI_1]
        refine ih (i + 1) (by omega) (fun j hj' => ?_)
        by_cases e : j = i
        · rw [e]
          exact z
        · exact hj j (by omega)
      · have e : amI r x = true := by
          unfold amI
          rw [List.any_eq_true]
          exact ⟨i, List.mem_range.mpr (by omega), decide_eq_true z⟩
        rw [e] at hq
        exact hq
  exact key (strN.getD r 0) 0 (by omega) (fun j hj => by omega)
end OPS
