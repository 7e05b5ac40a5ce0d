/-! text: both sides -/
section OPS
variable {X : CX} {d D nx sz : Nat} {h h0 : AH} {T : Nat → Nat} {p : Nat → Int32} {rt b0 ln a k q n : Nat} {c : List Nat}
theorem cpy_at {f g : Nat → Int32} {m i : Nat} : va_cpy f g 0 0 m i = if i < m then f i else g i := by
  unfold va_cpy
  by_cases q : i < m
  · rw [if_pos q, if_pos ⟨Nat.zero_le _, by omega⟩]
    congr 1
    omega
  · rw [if_neg q, if_neg (fun z => q (by omega))]
theorem s_add8 {r m : Nat} (hA0 : 91 ≤ nx) (hF : Fx h) (hr : r < 6) (hm : m ≤ 200) (e : h.1 29 4 = nI r) : Mk X (d + 1) m_X8_add [.ref 29, .ref 28, .int (nI m)] h nx sz (RE (nI r) (setI (setI (setA h (31 + r) (va_cpy (h.1 28) (h.1 (31 + r)) 0 0 m)) 37 r (nI m)) 29 4 (nI (r + 1)))) := by
  have hk : kd X (31 + r) = (20, 200) := by
    have : ∀ r, r < 6 → kd0 (31 + r) = (20, 200) := by decide
    exact (kd_ne (by omega)).trans (this r hr)
  have hR0 : R0 30 r = some (31 + r) := by
    have : ∀ r, r < 6 → R0 30 r = some (31 + r) := by decide +kernel
    exact this r hr
  have tm : (nI m).toNatClampNeg = m := tN (by omega)
  have e' : (setA h (31 + r) (va_cpy (h.1 28) (h.1 (31 + r)) 0 0 m)).1 29 4 = nI r := by
    rw [setA_get_ne (by omega)]
    exact e
  refine Mk.re fun Q hq => e_X8_add (c_X8_add_0 (d := d) (ra10 := 31 + r) hA0 hF hk (by omega) RO_rm hcs0 (by rw [e]; exact vin hr (by decide)) (by rw [e, tN (by omega)]; exact hF 30 r (31 + r) hR0) (by decide) (by decide) (nI_pos (by omega)) (by rw [tm]; omega) (by rw [tm]; omega) (by rw [tm, e']; exact vin hr (by decide)) ?_)
  rw [tm, e', tN (by omega)]
  have e2 : (setI (setA h (31 + r) (va_cpy (h.1 28) (h.1 (31 + r)) 0 0 m)) 37 r (nI m)).1 29 4 = nI r := by
    rw [setI_b (by decide)]
    exact e'
  rw [e2, nI_1]
  exact hq
theorem s_text_bad {x : Int32} (hA0 : 91 ≤ nx) (hF : Fx h) (z0 : ¬ x = 0) (z1 : ¬ x = 1) : Mk X (d + 1) m_X11_text [.ref 0, .int x] h nx sz (RE (-1) h) :=
  Mk.re fun Q hq => e_X11_text (c_X11_text_0 (d := d) (P73 := fun _ _ => False) (P8 := fun _ _ => False) hA0 hF RO_rm hcs0 (fun _ _ => hq) (fun _ z => absurd z z1) (fun _ z => absurd z z1) (fun _ z => absurd z z1) (fun z => absurd z z0) (fun z => absurd z z0))
theorem s_text_full {r : Nat} (hA0 : 91 ≤ nx) (hF : Fx h) (e : h.1 29 4 = nI r) (hr : r = 6) : Mk X (d + 1) m_X11_text [.ref 0, .int 1] h nx sz (RE (-1) h) := by
  have y6 : (6 : Int32) ≤ h.1 29 4 := by
    rw [e, hr]
    exact Int32.le_refl _
  exact Mk.re fun Q hq => e_X11_text (c_X11_text_0 (d := d) (P73 := fun _ _ => False) (P8 := fun _ _ => False) hA0 hF RO_rm hcs0 (fun _ z => absurd rfl z) (fun _ _ _ => hq) (fun _ _ z => absurd y6 z) (fun _ _ z => absurd y6 z) (fun z => by cases z) (fun z => by cases z))
def S0P (h : AH) (T : Nat → Nat) (ln n : Nat) (y : Int32) (g' : AH) : Prop := ∃ g, F26 h g ∧ r26 g (ntV T ln n (h.1 3)).2 ∧ if (ntV T ln n (h.1 3)).1 = none then y = smI (fun i => bc (cp (g.1 26) (g.1 2) i)) n / 2 ∧ g' = setA (setI g 23 1 0) 2 (cp (g.1 26) (g.1 2)) else y = -1 ∧ g' = g
theorem ntV_le {L : Nat → Int32} : ∀ x, (ntV T ln n L).1 = some x → x ≤ ln ∨ True := fun _ _ => Or.inr trivial
theorem s_text0 (hA0 : 91 ≤ nx) (hF : Fx h) (hP : NP h 1 n) (t : Txt h T ln) (hf : ∀ x, (ntV T ln n (h.1 3)).1 = some x → x ≤ 200) : Mk X (d + 4) m_X11_text [.ref 0, .int 0] h nx sz (RI (S0P h T ln n)) := by
  refine e_X11_text (c_X11_text_0 (P73 := fun _ _ => False) hA0 hF RO_rm hcs0 (fun z => absurd rfl z) (fun z => absurd rfl z) (fun z => absurd rfl z) (fun z => absurd rfl z) (fun _ => s_readNet (d := d) hA0 hF hP t) ?_)
  rintro _ _ g ⟨rfl, f, r⟩
  have hFg := hF.of f.1
  cases e : (ntV T ln n (h.1 3)).1 with
  | none =>
    have np : NP (setA (setI g 23 1 0) 2 (cp (g.1 26) (g.1 2))) 1 n := by
      obtain ⟨p1, p2, p3, p4, p5⟩ := hP
      exact ⟨p1, (congrFun (f.2 1 (by decide)) 0).trans p2, (congrFun (f.2 1 (by decide)) 1).trans p3, p4, p5⟩
    refine c_X11_text_11 (P73 := fun _ _ => False) hA0 hFg RO_rm hcs0 (fun z => absurd rfl z) (fun z => absurd rfl z) (fun z => absurd rfl z) (fun z => absurd rfl z) (fun _ => s_tieCount (d := d + 1) hA0 (hFg.of rfl) np) ?_
    rintro _ _ g' ⟨rfl, rfl⟩
    refine c_X11_text_51 ⟨_, rfl, g, f, r, ?_⟩
    rw [if_pos e]
    exact ⟨rfl, rfl⟩
  | some x =>
    have nm : ¬ ovI (some x) = -1 := nI_m1 (by have := hf x e; omega)
    refine c_X11_text_11 (d := d + 3) (P73 := fun _ _ => False) (P48 := fun _ _ => False) hA0 hFg RO_rm hcs0 (fun _ _ => ⟨_, rfl, g, f, r, ?_⟩) (fun _ z => by cases z) (fun _ z => by cases z) (fun _ z => by cases z) (fun z => absurd z nm) (fun z => absurd z nm)
    rw [if_neg (fun z => by rw [e] at z; cases z)]
    exact ⟨rfl, rfl⟩
def S1P (h : AH) (T : Nat → Nat) (ln r : Nat) (y : Int32) (g' : AH) : Prop := ∃ g, F27 h g ∧ match (ruF T ln).1 with
  | none => y = -1 ∧ g' = g
  | some c => y = nI r ∧ CodeOK g c ∧ c.length ≤ 200 ∧ g' = setI (setI (setA (setI g 23 1 0) (31 + r) (va_cpy (g.1 28) (g.1 (31 + r)) 0 0 c.length)) 37 r (nI c.length)) 29 4 (nI (r + 1))
theorem s_text1 {r : Nat} (hA0 : 91 ≤ nx) (hF : Fx h) (t : Txt h T ln) (e : h.1 29 4 = nI r) (hr : r < 6) : Mk X (D + 21) m_X11_text [.ref 0, .int 1] h nx sz (RI (S1P h T ln r)) := by
  have n6 : ¬ (6 : Int32) ≤ h.1 29 4 := fun z => by
    rw [e] at z
    have z : nI 6 ≤ nI r := z
    rw [le_nI (by decide) (by omega)] at z
    omega
  refine e_X11_text (c_X11_text_0 (P8 := fun _ _ => False) hA0 hF RO_rm hcs0 (fun _ z => absurd rfl z) (fun _ _ z => absurd z n6) (fun _ _ _ => s_readR (D := D) hA0 hF t) ?_ (fun z => by cases z) (fun z => by cases z))
  rintro _ _ _ y g ⟨f, w⟩
  have hFg := hF.of f.1
  obtain ⟨Q, hQ⟩ : ∃ Q, Q = (RI (S1P h T ln r)) := ⟨_, rfl⟩
  rw [← hQ]
  have fin : ∀ y g', S1P h T ln r y g' → Q (some (.int y)) g' := fun y g' z => by rw [hQ]; exact ⟨_, rfl, z⟩
  cases e2 : (ruF T ln).1 with
  | none =>
    rw [e2] at w
    have w : y = nI (ruF T ln).2 := w
    have nm : ¬ y = -1 := by
      rw [w]
      exact nI_m1 (by have := (ruF_gd (T := T) (ln := ln)).1; have := t.1; omega)
    refine c_X11_text_76 (d := D + 20) (P106 := fun _ _ => False) hA0 hFg RO_rm hcs0 (fun _ => fin _ _ ⟨g, f, ?_⟩) (fun z => absurd z nm) (fun z => absurd z nm)
    rw [e2]
    exact ⟨rfl, rfl⟩
  | some c =>
    rw [e2] at w
    obtain ⟨rfl, w2, w3⟩ := w
    have e29 : (setI g 23 1 0).1 29 4 = nI r := (f.2 29 4 (by decide) (by omega)).trans e
    refine c_X11_text_76 hA0 hFg RO_rm hcs0 (fun z => absurd rfl z) (fun _ => by rw [w2.1]; exact s_add8 (d := D + 19) (h := setI g 23 1 0) hA0 (hFg.of rfl) hr w3 e29) ?_
    rintro _ _ g' ⟨rfl, rfl⟩
    refine c_X11_text_109 (fin _ _ ⟨g, f, ?_⟩)
    rw [e2]
    refine ⟨rfl, w2, w3, ?_⟩
    rw [show (setI g 23 1 0).1 28 = g.1 28 from rfl, show (setI g 23 1 0).1 (31 + r) = g.1 (31 + r) from funext fun j => setI_b (by omega)]
end OPS
