/-! post: send, comes, both sides -/
section PO
def gol (c : List Nat) (K : Nat → Int32) (n t fr : Nat) : Bool × List Nat := goL c K n t 60 fr (fun k => if k = fr then 1 else 0)
theorem gol_len {c : List Nat} {K : Nat → Int32} {n t fr : Nat} : (gol c K n t fr).2.length ≤ 60 := goL_len _ _ _
def sndV (m n : Nat) (K : Nat → Int32) (C : Nat → List Nat) (x1 x2 x3 x4 : Int32) : Int32 :=
  if hasI m x1 = 0 then -1 else if twoI n x2 x3 = 0 then -1 else
    if x4 = -1 then (if (gol (C x1.toNatClampNeg) K n x3.toNatClampNeg x2.toNatClampNeg).1 = true then nI (gol (C x1.toNatClampNeg) K n x3.toNatClampNeg x2.toNatClampNeg).2.length else -1)
    else if x4 < 0 ∨ nI (gol (C x1.toNatClampNeg) K n x3.toNatClampNeg x2.toNatClampNeg).2.length < x4 then -1 else nI ((x2.toNatClampNeg :: (gol (C x1.toNatClampNeg) K n x3.toNatClampNeg x2.toNatClampNeg).2).getD x4.toNatClampNeg 0)
theorem in_rng {len : Nat} {x : Int32} (hl : len < 2 ^ 30) (a : ¬ x < 0) (b : ¬ nI len < x) : ∃ k, k ≤ len ∧ x = nI k := by
  have c : ¬ nI (len + 1) ≤ x := fun z => by
    have := Int32.le_trans z (Int32.not_lt.mp b)
    rw [le_nI (by omega) (by omega)] at this
    omega
  have : hasI (len + 1) x = 1 := by
    unfold hasI
    rw [if_pos ⟨a, c⟩]
  obtain ⟨k, hk, e⟩ := (hasI_1 (by omega)).mp this
  exact ⟨k, by omega, e⟩
/-- of all pairs: how many come, or the gifts of those that come -/
def cmF (c : List Nat) (K : Nat → Int32) (n : Nat) (w : Bool) (a b : Nat) : Int32 := if a = b then 0 else if (gol c K n b a).1 = true then (if w = true then nI (gol c K n b a).2.length else 1) else 0
def cmV (c : List Nat) (K : Nat → Int32) (n : Nat) (w : Bool) : Int32 := smI (fun a => smI (cmF c K n w a) n) n
def cmsV (m n : Nat) (K : Nat → Int32) (C : Nat → List Nat) (x1 x2 : Int32) : Int32 :=
  if hasI m x1 = 0 then -1 else if x2 = 0 then cmV (C x1.toNatClampNeg) K n false else if x2 = 1 then cmV (C x1.toNatClampNeg) K n true else -1
theorem x01 {x : Int32} (h1 : x ≤ 1) (h2 : ¬ x = 1) (h0 : ¬ x < 0) : x = 0 := by
  have e : ¬ nI 1 < x := Int32.not_lt.mpr h1
  obtain ⟨k, hk, rfl⟩ := in_rng (len := 1) (by decide) h0 e
  have : k = 0 ∨ k = 1 := by omega
  rcases this with rfl | rfl
  · rfl
  · exact absurd rfl h2
end PO
section OPS
variable {X : CX} {d D nx sz : Nat} {h h0 : AH} {p : Nat → Int32} {n m : Nat} {T : Nat → Nat → Nat} {ln : Nat → Nat} {C : Nat → List Nat}
theorem s_ruleHas {x : Int32} (hA0 : 91 ≤ nx) (h0 : h.1 29 4 = nI m) : Mk X d m_X8_has [.ref 29, .int x] h nx sz (RE (hasI m x) h) := by
  refine e_X8_has (c_X8_has_0 hA0 (fun c => ⟨_, rfl, ?_, rfl⟩) (fun c c1 => ⟨_, rfl, ?_, rfl⟩) (fun c c1 => ⟨_, rfl, ?_, rfl⟩)) <;> unfold hasI
  · rw [if_neg (fun z => z.1 c)]
  · rw [if_neg (fun z => z.2 (by rw [← h0]; exact c1))]
  · rw [if_pos ⟨c, by rw [← h0]; exact c1⟩]
theorem t_isRule {x : Int32} (hA0 : 91 ≤ nx) (h0 : h.1 68 8 = nI m) : Mk X d m_X12_isRule [.ref 68, .int x] h nx sz (RE (hasI m x) h) := by
  refine e_X12_isRule (c_X12_isRule_0 hA0 (fun c => ⟨_, rfl, ?_, rfl⟩) (fun c c1 => ⟨_, rfl, ?_, rfl⟩) (fun c c1 => ⟨_, rfl, ?_, rfl⟩)) <;> unfold hasI
  · rw [if_neg (fun z => z.1 c)]
  · rw [if_neg (fun z => z.2 (by rw [← h0]; exact c1))]
  · rw [if_pos ⟨c, by rw [← h0]; exact c1⟩]
theorem s_send {x1 x2 x3 x4 : Int32} (hA0 : 91 ≤ nx) (hF : Fx h) (hP : InvP h n) (hK : KB (h.1 2) n) (hm : m ≤ 6) (h29 : h.1 29 4 = nI m) (hC : ∀ r, r < m → CodA h r (C r)) : Mk X (d + 6) m_X11_send [.ref 0, .int x1, .int x2, .int x3, .int x4] h nx sz (RI fun y g => y = sndV m n (h.1 2) C x1 x2 x3 x4 ∧ Sc h g) := by
  have h20 := hP.2.1
  refine e_X11_send (c_X11_send_0 hA0 hF RO_rm hcs0 (s_ruleHas (d := d + 5) hA0 h29) ?_)
  rintro _ g ⟨rfl, rfl⟩
  by_cases a : hasI m x1 = 0
  · refine c_X11_send_8 (d := d + 5) (P17 := fun _ _ => False) hA0 hF RO_rm hcs0 (fun _ => ⟨_, rfl, ?_, Sc.rfl⟩) (fun z => absurd a z) (fun z => absurd a z)
    unfold sndV
    rw [if_pos a]
  refine c_X11_send_8 hA0 hF RO_rm hcs0 (fun z => absurd z a) (fun _ => s_hasTwo (d := d + 4) hA0 (hP.np net1)) ?_
  rintro _ _ g ⟨rfl, rfl⟩
  by_cases b : twoI n x2 x3 = 0
  · refine c_X11_send_20 (d := d + 5) (P32 := fun _ _ => False) hA0 hF RO_rm hcs0 (fun z => absurd b z) (fun z => absurd b z) (fun _ => ⟨_, rfl, ?_, Sc.rfl⟩)
    unfold sndV
    rw [if_neg a, if_pos b]
  obtain ⟨r, hr, rfl⟩ := hasI_ne (by omega) a
  obtain ⟨fr, t, hf, ht, hft, rfl, rfl⟩ := twoI_ne (by omega) b
  refine c_X11_send_20 hA0 hF RO_rm hcs0 (fun _ => s_carry (d := d) hA0 hF (hP.np net1) hK hf ht (by omega) (hC r hr)) ?_ (fun z => absurd z b)
  rintro _ _ g ⟨s, rfl, e63, e0, ej⟩
  have e : sndV m n (h.1 2) C (nI r) (nI fr) (nI t) x4 = if x4 = -1 then (if (gol (C r) (h.1 2) n t fr).1 = true then nI (gol (C r) (h.1 2) n t fr).2.length else -1)
    else if x4 < 0 ∨ nI (gol (C r) (h.1 2) n t fr).2.length < x4 then -1 else nI ((fr :: (gol (C r) (h.1 2) n t fr).2).getD x4.toNatClampNeg 0) := by
    unfold sndV
    rw [if_neg a, if_neg b, tN (by omega), tN (by omega), tN (by omega)]
  rw [e]
  have hl := gol_len (c := C r) (K := h.1 2) (n := n) (t := t) (fr := fr)
  have e63 : g.1 63 4 = nI (gol (C r) (h.1 2) n t fr).2.length := e63
  have ej : ∀ j, j < (gol (C r) (h.1 2) n t fr).2.length → g.1 65 (j + 1) = nI ((gol (C r) (h.1 2) n t fr).2.getD j 0) := ej
  show VM X m_X11_send (d + 6) nx sz _ 35 [some (.ref 0), none, none, none, some (.int x4), none] [.int (if (gol (C r) (h.1 2) n t fr).1 = true then 1 else 0)] g
  generalize gol (C r) (h.1 2) n t fr = G at hl e63 ej ⊢
  refine c_X11_send_35 hA0 (hF.sc s) (fun w z => ⟨_, rfl, ?_, s⟩) (fun w z1 z2 => ⟨_, rfl, ?_, s⟩) (fun w z1 z2 => ?_) (fun w z1 z2 => ⟨_, rfl, ?_, s⟩) (fun w z => ⟨_, rfl, ?_, s⟩) (fun w z => ⟨_, rfl, ?_, s⟩)
  · rw [if_neg w, if_pos (Or.inl z)]
  · rw [if_neg w, if_pos (Or.inr (by rw [← e63]; exact z2))]
  · rw [e63] at z2
    obtain ⟨k, hk, rfl⟩ := in_rng (by omega) z1 z2
    exact vin (by omega) (by decide)
  · rw [e63] at z2
    rw [if_neg w, if_neg (fun q => q.elim z1 z2)]
    obtain ⟨k, hk, rfl⟩ := in_rng (by omega) z1 z2
    rw [tN (by omega)]
    cases k with
    | zero => exact e0
    | succ k => exact ej k hk
  · rw [if_pos w, if_neg (bt3 z)]
  · rw [if_pos w, if_pos (bt4 z)]
    exact e63
theorem t_send {x1 x2 x3 x4 : Int32} (hA0 : 91 ≤ nx) (hF : Fx h) (hP : InvP h n) (hm : m ≤ 6) (h68 : h.1 68 8 = nI m) (hC : ∀ r, r < m → RulA h r (T r) (ln r) (C r)) : Mk X (D + 35) m_X12_send [.ref 68, .int x1, .int x2, .int x3, .int x4] h nx sz (RI fun y g => y = sndV m n (h.1 73) C x1 x2 x3 x4 ∧ Sc h g) := by
  have h20 := hP.2.1
  have hs : Sc h (setI h 68 0 0) := Sc.rfl.setI rfl
  have hP1 : MP (setI h 68 0 0) n := hP.mp
  refine e_X12_send (c_X12_send_0 hA0 RO_rm hcs0 (t_isRule (d := D + 34) hA0 h68) ?_)
  rintro _ g ⟨rfl, rfl⟩
  by_cases a : hasI m x1 = 0
  · refine c_X12_send_10 (d := D + 34) (P16 := fun _ _ => False) hA0 RO_rm hcs0 (fun _ => ⟨_, rfl, ?_, hs⟩) (fun z => absurd a z) (fun z => absurd a z)
    unfold sndV
    rw [if_pos a]
  refine c_X12_send_10 hA0 RO_rm hcs0 (fun z => absurd z a) (fun _ => t_areTwo (d := D + 33) hA0 hP1) ?_
  rintro _ _ g ⟨rfl, rfl⟩
  by_cases b : twoI n x2 x3 = 0
  · refine c_X12_send_19 (d := D + 34) (P28 := fun _ _ => False) hA0 RO_rm hcs0 (fun z => absurd b z) (fun z => absurd b z) (fun _ => ⟨_, rfl, ?_, hs⟩)
    unfold sndV
    rw [if_neg a, if_pos b]
  obtain ⟨r, hr, rfl⟩ := hasI_ne (by omega) a
  obtain ⟨fr, t, hf, ht, hft, rfl, rfl⟩ := twoI_ne (by omega) b
  refine c_X12_send_19 hA0 RO_rm hcs0 (fun _ => t_goes (D := D) hA0 (hF.sc hs) hP1 hf ht hft (by omega) ((hC r hr).sc hs)) ?_ (fun z => absurd z b)
  rintro _ _ g ⟨s, rfl, e63, e0, ej⟩
  have s := hs.trans s
  have e : sndV m n (h.1 73) C (nI r) (nI fr) (nI t) x4 = if x4 = -1 then (if (gol (C r) (h.1 73) n t fr).1 = true then nI (gol (C r) (h.1 73) n t fr).2.length else -1)
    else if x4 < 0 ∨ nI (gol (C r) (h.1 73) n t fr).2.length < x4 then -1 else nI ((fr :: (gol (C r) (h.1 73) n t fr).2).getD x4.toNatClampNeg 0) := by
    unfold sndV
    rw [if_neg a, if_neg b, tN (by omega), tN (by omega), tN (by omega)]
  rw [e]
  have hl := gol_len (c := C r) (K := h.1 73) (n := n) (t := t) (fr := fr)
  have e63 : g.1 68 41 = nI (gol (C r) (h.1 73) n t fr).2.length := e63
  have ej : ∀ j, j < (gol (C r) (h.1 73) n t fr).2.length → g.1 86 (j + 1) = nI ((gol (C r) (h.1 73) n t fr).2.getD j 0) := ej
  show VM X m_X12_send (D + 35) nx sz _ 31 [some (.ref 68), none, none, none, some (.int x4), none] [.int (if (gol (C r) (h.1 73) n t fr).1 = true then 1 else 0)] g
  generalize gol (C r) (h.1 73) n t fr = G at hl e63 ej ⊢
  refine c_X12_send_31 hA0 RO_rm hcs0 (fun _ => by rw [e63]; exact t_isIn (d := D + 34)) ?_ (fun w z => ⟨_, rfl, ?_, s⟩) (fun w z => ⟨_, rfl, ?_, s⟩)
  · rintro w _ g ⟨rfl, rfl⟩
    refine c_X12_send_63 hA0 (hF.sc s) (fun z => ⟨_, rfl, ?_, s⟩) (fun z => ?_) (fun z => ⟨_, rfl, ?_, s⟩)
    · have z := bt3 z
      rw [if_neg w, if_pos]
      by_cases q : x4 < 0
      · exact Or.inl q
      · exact Or.inr (Decidable.byContradiction fun q2 => z ⟨q, q2⟩)
    · obtain ⟨z1, z2⟩ := bt4 z
      obtain ⟨k, hk, rfl⟩ := in_rng (by omega) z1 z2
      exact vin (by omega) (by decide)
    · obtain ⟨z1, z2⟩ := bt4 z
      rw [if_neg w, if_neg (fun q => q.elim z1 z2)]
      obtain ⟨k, hk, rfl⟩ := in_rng (by omega) z1 z2
      rw [tN (by omega)]
      cases k with
      | zero => exact e0
      | succ k => exact ej k hk
  · rw [if_pos w, if_neg (bt3 z)]
  · rw [if_pos w, if_pos (bt4 z)]
    exact e63
end OPS
