/-! texts: bytes, blanks, feeding -/
section TX
def pbK (T : Nat → Nat) : Nat → Nat → Nat
  | 0, a => a
  | k + 1, a => if T a = 32 then pbK T k (a + 1) else a
/-- the first place from a on that is no blank, or the end -/
def pb (T : Nat → Nat) (ln a : Nat) : Nat := pbK T (ln - a) a
theorem pb_blank {T : Nat → Nat} {ln a : Nat} (h : a < ln) (e : T a = 32) : pb T ln a = pb T ln (a + 1) := by
  unfold pb
  rw [show ln - a = (ln - (a + 1)) + 1 by omega]
  exact if_pos e
theorem pb_stop {T : Nat → Nat} {ln a : Nat} (h : ln ≤ a ∨ T a ≠ 32) : pb T ln a = a := by
  unfold pb
  cases k : ln - a with
  | zero => rfl
  | succ k => exact if_neg (h.resolve_left (by omega))
theorem pb_ok {T : Nat → Nat} {ln : Nat} : ∀ (k a : Nat), a + k = ln → a ≤ pb T ln a ∧ pb T ln a ≤ ln ∧ (pb T ln a < ln → T (pb T ln a) ≠ 32)
  | 0, a, h => by
    rw [pb_stop (Or.inl (by omega))]
    exact ⟨Nat.le_refl _, by omega, fun z => by omega⟩
  | k + 1, a, h => by
    by_cases c : T a = 32
    · rw [pb_blank (by omega) c]
      obtain ⟨h1, h2, h3⟩ := pb_ok (T := T) (ln := ln) k (a + 1) (by omega)
      exact ⟨by omega, h2, h3⟩
    · rw [pb_stop (Or.inr c)]
      exact ⟨Nat.le_refl _, by omega, fun _ => c⟩
theorem pb_le {T : Nat → Nat} {ln a : Nat} (h : a ≤ ln) : a ≤ pb T ln a ∧ pb T ln a ≤ ln ∧ (pb T ln a < ln → T (pb T ln a) ≠ 32) := pb_ok (ln - a) a (by omega)
theorem pb_pb {T : Nat → Nat} {ln a : Nat} (h : a ≤ ln) : pb T ln (pb T ln a) = pb T ln a := by
  obtain ⟨h1, h2, h3⟩ := pb_le (T := T) h
  refine pb_stop ?_
  rcases Nat.lt_or_ge (pb T ln a) ln with q | q
  · exact Or.inr (h3 q)
  · exact Or.inl q
/-- the byte there, 0 behind the last -/
def sgn (T : Nat → Nat) (ln a : Nat) : Nat := if a < ln then T a else 0
def Byt (T : Nat → Nat) (ln : Nat) : Prop := ∀ i, i < ln → 1 ≤ T i ∧ T i ≤ 255
theorem sgn_le {T : Nat → Nat} {ln a : Nat} (h : Byt T ln) : sgn T ln a ≤ 255 := by
  unfold sgn
  split
  · exact (h a (by assumption)).2
  · exact Nat.zero_le _
theorem byt_f : ∀ b, b < 256 → byt b &&& 255 = nI b ∧ (byt b = 32 ↔ b = 32) ∧ ((¬ byt b < 48 ∧ ¬ 57 < byt b) ↔ (48 ≤ b ∧ b ≤ 57)) ∧ (48 ≤ b ∧ b ≤ 57 → byt b = nI b) ∧ (byt b).toInt8.toInt32 = byt b := by decide +kernel
/-- the class's text -/
def Txt (h : AH) (T : Nat → Nat) (ln : Nat) : Prop := ln ≤ 200 ∧ h.1 23 1 = nI ln ∧ Byt T ln ∧ ∀ i, i < ln → h.1 24 i = nI (T i)
/-- bytes of an int -/
def bN (x : Int32) (k : Nat) : Nat := u x / 2 ^ (8 * k) % 256
theorem bN_lt {x : Int32} {k : Nat} : bN x k < 256 := Nat.mod_lt _ (by decide)
theorem us_bN {x : Int32} {k : Nat} (hk : k < 4) : (us x (nI (8 * k))) &&& 255 = nI (bN x k) := by
  have e : (us x (nI (8 * k))).toBitVec.toNat = u x / 2 ^ (8 * k) := by
    have e1 : ∀ k, k < 4 → ((nI (8 * k)).toUInt32 &&& Int32.toUInt32 31) = UInt32.ofNat (8 * k) := by decide
    show ((x.toUInt32 >>> ((nI (8 * k)).toUInt32 &&& Int32.toUInt32 31)).toInt32).toBitVec.toNat = _
    rw [e1 k hk]
    have e2 : (UInt32.ofNat (8 * k)).toNat % 32 = 8 * k := by
      have : ∀ k, k < 4 → (UInt32.ofNat (8 * k)).toNat % 32 = 8 * k := by decide
      exact this k hk
    show (x.toUInt32 >>> UInt32.ofNat (8 * k)).toNat = _
    rw [UInt32.toNat_shiftRight, e2, Nat.shiftRight_eq_div_pow]
    rfl
  rw [pk_and (us x (nI (8 * k))) 8 (by decide), e]
  rfl
theorem sh_bN {x : Int32} {k : Nat} (hk : k < 4) : (x >>> (nI (8 * k) &&& 31)) &&& 255 = nI (bN x k) := by
  apply tb_ext
  intro i hi
  have e1 : tb (x >>> (nI (8 * k) &&& 31)) i = x.toBitVec.getLsbD (8 * k + i) ∨ 8 ≤ i := by
    by_cases q : i < 8
    · left
      show (x.toBitVec.sshiftRight ((nI (8 * k) &&& 31).toBitVec.smod 32).toNat).getLsbD i = _
      rw [sh_amt (by omega), BitVec.getLsbD_sshiftRight]
      have : 8 * k + i < 32 := by omega
      simp [this, hi]
    · exact Or.inr (by omega)
  have e2 : tb (255 : Int32) i = decide (i < 8) := by
    have : ∀ i, i < 32 → tb (255 : Int32) i = decide (i < 8) := by decide
    exact this i hi
  rw [tb_and, e2, tb_nI (by have := bN_lt (x := x) (k := k); omega)]
  unfold bN
  rw [show (256 : Nat) = 2 ^ 8 from rfl, Nat.testBit_mod_two_pow, Nat.testBit_div_two_pow]
  rcases e1 with e1 | e1
  · rw [e1, Bool.and_comm]
    congr 1
    show x.toBitVec.getLsbD (8 * k + i) = (u x).testBit (i + 8 * k)
    rw [Nat.add_comm i]
    rfl
  · rw [decide_eq_false (by omega), Bool.and_false, Bool.false_and]
theorem sh_by {x : Int32} {k : Nat} (hk : k < 4) : (x >>> (nI (8 * k) &&& 31)).toInt8.toInt32 = byt (bN x k) := by
  have h := sh_bN (x := x) hk
  have g : ∀ y : Int32, (y &&& 255).toInt8 = y.toInt8 := fun y => by
    apply Int8.toBitVec_inj.mp
    show (y.toBitVec &&& (255 : Int32).toBitVec).signExtend 8 = y.toBitVec.signExtend 8
    apply BitVec.eq_of_getLsbD_eq
    intro i hi
    have e2 : (255 : Int32).toBitVec.getLsbD i = true := by
      have : ∀ i, i < 8 → (255 : Int32).toBitVec.getLsbD i = true := by decide
      exact this i hi
    have h32 : i < 32 := by omega
    rw [BitVec.getLsbD_signExtend, BitVec.getLsbD_signExtend, if_pos h32, if_pos h32, BitVec.getLsbD_and, e2, Bool.and_true]
  unfold byt
  rw [← h, g]
def cn1 (b : Nat) : Nat := if b = 0 then 0 else 1
/-- how many of its bytes are not 0 -/
def cn4 (x : Int32) : Nat := cn1 (bN x 3) + cn1 (bN x 2) + cn1 (bN x 1) + cn1 (bN x 0)
abbrev TT : Type := Nat × (Nat → Nat)
def ap1 (s : TT) (b : Nat) : TT := if b = 0 then s else (s.1 + 1, up1 s.2 s.1 b)
def ap4 (s : TT) (x : Int32) : TT := ap1 (ap1 (ap1 (ap1 s (bN x 3)) (bN x 2)) (bN x 1)) (bN x 0)
theorem ap1_len {s : TT} {b : Nat} : (ap1 s b).1 = s.1 + cn1 b := by
  unfold ap1 cn1
  split <;> rfl
theorem ap4_len {s : TT} {x : Int32} : (ap4 s x).1 = s.1 + cn4 x := by
  unfold ap4 cn4
  rw [ap1_len, ap1_len, ap1_len, ap1_len]
  omega
theorem ap1_byt {s : TT} {b : Nat} (hb : b < 256) (h : Byt s.2 s.1) : Byt (ap1 s b).2 (ap1 s b).1 := by
  unfold ap1
  by_cases c : b = 0
  · rw [if_pos c]
    exact h
  · rw [if_neg c]
    intro i hi
    show 1 ≤ up1 s.2 s.1 b i ∧ _
    have hi : i < s.1 + 1 := hi
    by_cases e : i = s.1
    · subst e
      show 1 ≤ up1 s.2 s.1 b s.1 ∧ up1 s.2 s.1 b s.1 ≤ 255
      rw [up1_s]
      omega
    · show 1 ≤ up1 s.2 s.1 b i ∧ up1 s.2 s.1 b i ≤ 255
      rw [up1_n e]
      exact h i (by omega)
end TX
section OPS
variable {X : CX} {d nx sz : Nat} {h : AH} {n : Nat}
theorem s_pastBlanks {T : Nat → Nat} {ln a : Nat} (hA0 : 91 ≤ nx) (hF : Fx h) (t : Txt h T ln) (ha : a ≤ ln) : Mk X d m_X10_pastBlanks [.ref 23, .int (nI a)] h nx sz (RE (nI (pb T ln a)) h) := by
  obtain ⟨l2, l3, l4, l5⟩ := t
  refine Mk.re fun Q hq => e_X10_pastBlanks (c_X10_pastBlanks_0 ?_)
  have key : ∀ (k i : Nat), i + k = ln → pb T ln i = pb T ln a → VM X m_X10_pastBlanks d nx sz Q 2 [some (.ref 23), none, some (.int (nI i))] [] h := by
    intro k
    induction k with
    | zero =>
      intro i hi e
      have hi : i = ln := by omega
      subst hi
      rw [pb_stop (Or.inl (Nat.le_refl _))] at e
      rw [← e] at hq
      have yes : h.1 23 1 ≤ nI i := by rw [l3]; exact Int32.le_refl _
      exact c_X10_pastBlanks_2 hA0 hF (fun z => absurd z (nI_pos (by omega))) (fun _ _ => by rw [l3]; exact hq) (fun _ z => absurd yes z) (fun _ z => absurd yes z) (fun _ z => absurd yes z)
    | succ k ih =>
      intro i hi e
      have no : ¬ h.1 23 1 ≤ nI i := fun z => by rw [l3, le_nI (by omega) (by omega)] at z; omega
      have ei : (nI i).toNatClampNeg = i := tN (by omega)
      obtain ⟨b1, b2⟩ := l4 i (by omega)
      have e32 : h.1 24 i = 32 ↔ T i = 32 := by
        rw [l5 i (by omega)]
        exact nI_eq (b := 32) (by omega) (by decide)
      refine c_X10_pastBlanks_2 hA0 hF (fun z => absurd z (nI_pos (by omega))) (fun _ z => absurd z no) (fun _ _ => vin (by omega) (by decide)) (fun _ _ z => ?_) (fun _ _ z => ?_)
      · rw [ei, e32] at z
        rw [nI_1]
        exact ih (i + 1) (by omega) (by rw [← pb_blank (by omega) z]; exact e)
      · rw [ei, e32] at z
        rw [pb_stop (Or.inr z)] at e
        rw [e]
        exact hq
  exact key (ln - a) a (by omega) rfl
theorem s_sign {T : Nat → Nat} {ln a : Nat} (hA0 : 91 ≤ nx) (hF : Fx h) (t : Txt h T ln) (ha : a ≤ ln) : Mk X d m_X10_sign [.ref 23, .int (nI a)] h nx sz (RE (nI (sgn T ln a)) h) := by
  obtain ⟨l2, l3, l4, l5⟩ := t
  have le : h.1 23 1 ≤ nI a ↔ ln ≤ a := by rw [l3]; exact le_nI (by omega) (by omega)
  refine Mk.re fun Q hq => e_X10_sign (c_X10_sign_0 hA0 hF (fun z => absurd z (nI_pos (by omega))) (fun _ z => ?_) (fun _ z => ?_) (fun _ z => ?_))
  · rw [le] at z
    unfold sgn at hq
    rw [if_neg (by omega)] at hq
    exact hq
  · rw [le] at z
    exact vin (by omega) (by decide)
  · rw [le] at z
    rw [tN (by omega), l5 a (by omega)]
    unfold sgn at hq
    rw [if_pos (by omega)] at hq
    exact hq
theorem sh8 : ∀ k, k < 4 → nI (8 * (k + 1)) + (-8) = nI (8 * k) := by decide
theorem s_filled {x : Int32} : Mk X d m_X10_filled [.int x] h nx sz (RE (nI (cn4 x)) h) := by
  refine Mk.re fun Q hq => e_X10_filled (c_X10_filled_0 ?_)
  have step : ∀ (k c : Nat), k < 4 → VM X m_X10_filled d nx sz Q 5 [some (.int x), some (.int (nI (c + cn1 (bN x k)))), some (.int (nI (8 * k) + (-8)))] [] h → VM X m_X10_filled d nx sz Q 5 [some (.int x), some (.int (nI c)), some (.int (nI (8 * k)))] [] h := fun k c hk q => by
    have e := us_bN (x := x) hk
    have z0 : nI (bN x k) = 0 ↔ bN x k = 0 := nI_eq (b := 0) (by have := bN_lt (x := x) (k := k); omega) (by decide)
    refine c_X10_filled_5 (fun z => absurd z (nI_pos (by omega))) (fun _ z => ?_) (fun _ z => ?_)
    · have z := z0.mp (e.symm.trans z)
      unfold cn1 at q
      rw [if_pos z] at q
      rw [Int32.add_zero]
      exact q
    · have z : ¬ bN x k = 0 := fun y => z (e.trans (z0.mpr y))
      unfold cn1 at q
      rw [if_neg z] at q
      rw [nI_1]
      exact q
  refine step 3 0 (by decide) ?_
  rw [sh8 2 (by decide)]
  refine step 2 _ (by decide) ?_
  rw [sh8 1 (by decide)]
  refine step 1 _ (by decide) ?_
  rw [sh8 0 (by decide)]
  refine step 0 _ (by decide) ?_
  have e : nI (8 * 0) + (-8) < 0 := by decide
  refine c_X10_filled_5 (fun _ => ?_) (fun z => absurd e z) (fun z => absurd e z)
  have : 0 + cn1 (bN x 3) + cn1 (bN x 2) + cn1 (bN x 1) + cn1 (bN x 0) = cn4 x := by unfold cn4; omega
  rw [this]
  exact hq
theorem t_bytesIn {x : Int32} : Mk X d m_X12_bytesIn [.int x] h nx sz (RE (nI (cn4 x)) h) := by
  refine Mk.re fun Q hq => e_X12_bytesIn (c_X12_bytesIn_0 ?_)
  have step : ∀ (k c : Nat), k < 4 → VM X m_X12_bytesIn d nx sz Q 5 [some (.int x), some (.int (nI (c + cn1 (bN x k)))), some (.int (nI (8 * k) + (-8)))] [] h → VM X m_X12_bytesIn d nx sz Q 5 [some (.int x), some (.int (nI c)), some (.int (nI (8 * k)))] [] h := fun k c hk q => by
    have e := sh_bN (x := x) hk
    have z0 : nI (bN x k) = 0 ↔ bN x k = 0 := nI_eq (b := 0) (by have := bN_lt (x := x) (k := k); omega) (by decide)
    refine c_X12_bytesIn_5 (fun z => absurd z (nI_pos (by omega))) (fun _ z => ?_) (fun _ z => ?_)
    · have z := z0.mp (e.symm.trans z)
      unfold cn1 at q
      rw [if_pos z] at q
      rw [Int32.add_zero]
      exact q
    · have z : ¬ bN x k = 0 := fun y => z (e.trans (z0.mpr y))
      unfold cn1 at q
      rw [if_neg z] at q
      rw [nI_1]
      exact q
  refine step 3 0 (by decide) ?_
  rw [sh8 2 (by decide)]
  refine step 2 _ (by decide) ?_
  rw [sh8 1 (by decide)]
  refine step 1 _ (by decide) ?_
  rw [sh8 0 (by decide)]
  refine step 0 _ (by decide) ?_
  have e : nI (8 * 0) + (-8) < 0 := by decide
  refine c_X12_bytesIn_5 (fun _ => ?_) (fun z => absurd e z) (fun z => absurd e z)
  have : 0 + cn1 (bN x 3) + cn1 (bN x 2) + cn1 (bN x 1) + cn1 (bN x 0) = cn4 x := by unfold cn4; omega
  rw [this]
  exact hq
/-- only the class's text has changed -/
def Fs (h g : AH) : Prop := g.2 = h.2 ∧ ∀ c j, ¬ (c = 23 ∧ j = 1) → c ≠ 24 → g.1 c j = h.1 c j
theorem Fs.rfl : Fs h h := ⟨Eq.refl _, fun _ _ _ _ => Eq.refl _⟩
theorem Fs.trans {g k : AH} (a : Fs h g) (b : Fs g k) : Fs h k := ⟨b.1.trans a.1, fun c j x y => (b.2 c j x y).trans (a.2 c j x y)⟩
def TxH (h : AH) (s : TT) : Prop := Txt h s.2 s.1
theorem s_add {x : Int32} {s : TT} (hA0 : 91 ≤ nx) (hF : Fx h) (t : TxH h s) (hl : s.1 + cn4 x ≤ 200) : Mk X d m_X10_add [.ref 23, .int x] h nx sz (RV fun g => Fs h g ∧ TxH g (ap4 s x)) := by
  refine e_X10_add (c_X10_add_0 ?_)
  obtain ⟨Q, hQ⟩ : ∃ Q, Q = (RV fun g => Fs h g ∧ TxH g (ap4 s x)) := ⟨_, rfl⟩
  rw [← hQ]
  have step : ∀ (k : Nat) (s : TT) (g : AH), k < 4 → Fs h g → TxH g s → s.1 + cn1 (bN x k) ≤ 200 → (∀ g', Fs h g' → TxH g' (ap1 s (bN x k)) → VM X m_X10_add d nx sz Q 3 [some (.ref 23), some (.int x), some (.int (nI (8 * k) + (-8))), none] [] g') → VM X m_X10_add d nx sz Q 3 [some (.ref 23), some (.int x), some (.int (nI (8 * k))), none] [] g := fun k s g hk fs t hl q => by
    have e := us_bN (x := x) hk
    have hb := bN_lt (x := x) (k := k)
    have z0 : nI (bN x k) = 0 ↔ bN x k = 0 := nI_eq (b := 0) (by omega) (by decide)
    obtain ⟨t1, t2, t3, t4⟩ := id t
    have hFg := hF.of fs.1
    refine c_X10_add_3 hA0 hFg (fun z => absurd z (nI_pos (by omega))) (fun _ z => ?_) (fun _ z z2 => ?_) (fun _ z z2 => ?_) (fun _ z z2 => ?_)
    · have z := z0.mp (e.symm.trans z)
      refine q g fs ?_
      unfold ap1
      rw [if_pos z]
      exact t
    · exfalso
      have z : ¬ bN x k = 0 := fun y => z (e.trans (z0.mpr y))
      unfold cn1 at hl
      rw [if_neg z] at hl
      rw [t2] at z2
      have z2 : nI 200 ≤ nI s.1 := z2
      rw [le_nI (by decide) (by omega)] at z2
      omega
    · have z : ¬ bN x k = 0 := fun y => z (e.trans (z0.mpr y))
      unfold cn1 at hl
      rw [if_neg z] at hl
      rw [t2]
      exact vin (by omega) (by decide)
    · have z : ¬ bN x k = 0 := fun y => z (e.trans (z0.mpr y))
      unfold cn1 at hl
      rw [if_neg z] at hl
      have e' : (x.toUInt32 >>> ((nI (8 * k)).toUInt32 &&& Int32.toUInt32 31)).toInt32 &&& 255 = nI (bN x k) := e
      rw [e', t2, nI_1, tN (by omega)]
      have eb : ap1 s (bN x k) = (s.1 + 1, up1 s.2 s.1 (bN x k)) := if_neg z
      refine q _ ⟨fs.1, fun c j c1 c2 => ?_⟩ ?_
      · show (if c = 24 ∧ j = s.1 then nI (bN x k) else (if c = 23 ∧ j = 1 then nI (s.1 + 1) else g.1 c j)) = _
        rw [if_neg (fun y => c2 y.1), if_neg c1]
        exact fs.2 c j c1 c2
      · have bb := ap1_byt (s := s) hb t3
        rw [eb] at bb ⊢
        refine ⟨by show s.1 + 1 ≤ 200; omega, rfl, bb, fun i hi => ?_⟩
        have hi : i < s.1 + 1 := hi
        show (if 24 = 24 ∧ i = s.1 then nI (bN x k) else (if 24 = 23 ∧ i = 1 then nI (s.1 + 1) else g.1 24 i)) = nI (up1 s.2 s.1 (bN x k) i)
        by_cases q : i = s.1
        · rw [if_pos ⟨rfl, q⟩, q, up1_s]
        · rw [if_neg (fun y => q y.2), if_neg (fun y => by cases y.1), up1_n q]
          exact t4 i (by omega)
  unfold cn4 at hl
  refine step 3 s h (by decide) Fs.rfl t (by omega) (fun g1 f1 t1 => ?_)
  rw [sh8 2 (by decide)]
  refine step 2 _ g1 (by decide) f1 t1 (by rw [ap1_len]; omega) (fun g2 f2 t2 => ?_)
  rw [sh8 1 (by decide)]
  refine step 1 _ g2 (by decide) f2 t2 (by rw [ap1_len, ap1_len]; omega) (fun g3 f3 t3 => ?_)
  rw [sh8 0 (by decide)]
  refine step 0 _ g3 (by decide) f3 t3 (by rw [ap1_len, ap1_len, ap1_len]; omega) (fun g4 f4 t4 => ?_)
  have e : nI (8 * 0) + (-8) < 0 := by decide
  refine c_X10_add_3 hA0 (hF.of f4.1) (fun _ => ?_) (fun z => absurd e z) (fun z => absurd e z) (fun z => absurd e z) (fun z => absurd e z)
  rw [hQ]
  exact ⟨rfl, f4, t4⟩
/-- the other side's text -/
def MxH (h : AH) (s : TT) : Prop := s.1 ≤ 200 ∧ h.1 68 7 = nI s.1 ∧ Byt s.2 s.1 ∧ ∀ i, i < s.1 → h.1 69 i = byt (s.2 i)
def Ft (h g : AH) : Prop := g.2 = h.2 ∧ ∀ c j, ¬ (c = 68 ∧ j = 7) → c ≠ 69 → g.1 c j = h.1 c j
theorem Ft.rfl : Ft h h := ⟨Eq.refl _, fun _ _ _ _ => Eq.refl _⟩
theorem Ft.trans {g k : AH} (a : Ft h g) (b : Ft g k) : Ft h k := ⟨b.1.trans a.1, fun c j x y => (b.2 c j x y).trans (a.2 c j x y)⟩
theorem t_put {x : Int32} {s : TT} (hA0 : 91 ≤ nx) (hF : Fx h) (t : MxH h s) (hl : s.1 + cn4 x ≤ 200) : Mk X d m_X12_put [.ref 68, .int x] h nx sz (RV fun g => Ft h g ∧ MxH g (ap4 s x)) := by
  refine e_X12_put (c_X12_put_0 ?_)
  obtain ⟨Q, hQ⟩ : ∃ Q, Q = (RV fun g => Ft h g ∧ MxH g (ap4 s x)) := ⟨_, rfl⟩
  rw [← hQ]
  have step : ∀ (k : Nat) (s : TT) (g : AH), k < 4 → Ft h g → MxH g s → s.1 + cn1 (bN x k) ≤ 200 → (∀ g', Ft h g' → MxH g' (ap1 s (bN x k)) → VM X m_X12_put d nx sz Q 3 [some (.ref 68), some (.int x), some (.int (nI (8 * k) + (-8)))] [] g') → VM X m_X12_put d nx sz Q 3 [some (.ref 68), some (.int x), some (.int (nI (8 * k)))] [] g := fun k s g hk fs t hl q => by
    have e := sh_bN (x := x) hk
    have e2 := sh_by (x := x) hk
    have hb := bN_lt (x := x) (k := k)
    have z0 : nI (bN x k) = 0 ↔ bN x k = 0 := nI_eq (b := 0) (by omega) (by decide)
    obtain ⟨t1, t2, t3, t4⟩ := id t
    have hFg := hF.of fs.1
    refine c_X12_put_3 hA0 hFg (fun z => absurd z (nI_pos (by omega))) (fun _ z => ?_) (fun _ z => ?_) (fun _ z => ?_)
    · have z : ¬ bN x k = 0 := fun y => z (e.trans (z0.mpr y))
      unfold cn1 at hl
      rw [if_neg z] at hl
      rw [t2]
      exact vin (by omega) (by decide)
    · have z : ¬ bN x k = 0 := fun y => z (e.trans (z0.mpr y))
      unfold cn1 at hl
      rw [if_neg z] at hl
      rw [e2, t2, nI_1, tN (by omega)]
      have eb : ap1 s (bN x k) = (s.1 + 1, up1 s.2 s.1 (bN x k)) := if_neg z
      refine q _ ⟨fs.1, fun c j c1 c2 => ?_⟩ ?_
      · show (if c = 68 ∧ j = 7 then nI (s.1 + 1) else (if c = 69 ∧ j = s.1 then byt (bN x k) else g.1 c j)) = _
        rw [if_neg c1, if_neg (fun y => c2 y.1)]
        exact fs.2 c j c1 c2
      · have bb := ap1_byt (s := s) hb t3
        rw [eb] at bb ⊢
        refine ⟨by show s.1 + 1 ≤ 200; omega, rfl, bb, fun i hi => ?_⟩
        have hi : i < s.1 + 1 := hi
        show (if 69 = 68 ∧ i = 7 then nI (s.1 + 1) else (if 69 = 69 ∧ i = s.1 then byt (bN x k) else g.1 69 i)) = byt (up1 s.2 s.1 (bN x k) i)
        rw [if_neg (fun y => by cases y.1)]
        by_cases q : i = s.1
        · rw [if_pos ⟨rfl, q⟩, q, up1_s]
        · rw [if_neg (fun y => q y.2), up1_n q]
          exact t4 i (by omega)
    · have z := z0.mp (e.symm.trans z)
      refine q g fs ?_
      unfold ap1
      rw [if_pos z]
      exact t
  unfold cn4 at hl
  refine step 3 s h (by decide) Ft.rfl t (by omega) (fun g1 f1 t1 => ?_)
  rw [sh8 2 (by decide)]
  refine step 2 _ g1 (by decide) f1 t1 (by rw [ap1_len]; omega) (fun g2 f2 t2 => ?_)
  rw [sh8 1 (by decide)]
  refine step 1 _ g2 (by decide) f2 t2 (by rw [ap1_len, ap1_len]; omega) (fun g3 f3 t3 => ?_)
  rw [sh8 0 (by decide)]
  refine step 0 _ g3 (by decide) f3 t3 (by rw [ap1_len, ap1_len, ap1_len]; omega) (fun g4 f4 t4 => ?_)
  have e : nI (8 * 0) + (-8) < 0 := by decide
  refine c_X12_put_3 hA0 (hF.of f4.1) (fun _ => ?_) (fun z => absurd e z) (fun z => absurd e z) (fun z => absurd e z)
  rw [hQ]
  exact ⟨rfl, f4, t4⟩
/-- five fed -/
def cn20 (a b c e f : Int32) : Nat := cn4 a + cn4 b + cn4 c + cn4 e + cn4 f
def ap20 (s : TT) (a b c e f : Int32) : TT := ap4 (ap4 (ap4 (ap4 (ap4 s a) b) c) e) f
def fdV (s : TT) (a b c e f : Int32) : Int32 := if s.1 + cn20 a b c e f ≤ 200 then nI (ap20 s a b c e f).1 else -1
theorem cn4_le {x : Int32} : cn4 x ≤ 4 := by
  have : ∀ b, cn1 b ≤ 1 := fun b => by unfold cn1; split <;> omega
  have h0 := this (bN x 0)
  have h1 := this (bN x 1)
  have h2 := this (bN x 2)
  have h3 := this (bN x 3)
  unfold cn4
  omega
theorem s_feed {a b c e f : Int32} {s : TT} (hA0 : 91 ≤ nx) (hF : Fx h) (t : TxH h s) : Mk X (d + 1) m_X11_feed [.ref 0, .int a, .int b, .int c, .int e, .int f] h nx sz (RI fun y g => y = fdV s a b c e f ∧ Fs h g ∧ TxH g (if s.1 + cn20 a b c e f ≤ 200 then ap20 s a b c e f else s)) := by
  have ha := cn4_le (x := a)
  have hb := cn4_le (x := b)
  have hc := cn4_le (x := c)
  have he := cn4_le (x := e)
  have hf := cn4_le (x := f)
  have t1 := t.1
  refine e_X11_feed (c_X11_feed_0 RO_rm hcs0 (s_filled (d := d)) ?_)
  rintro _ g ⟨rfl, rfl⟩
  refine c_X11_feed_4 RO_rm hcs0 (s_filled (d := d)) ?_
  rintro _ g ⟨rfl, rfl⟩
  refine c_X11_feed_8 RO_rm hcs0 (s_filled (d := d)) ?_
  rintro _ g ⟨rfl, rfl⟩
  refine c_X11_feed_13 RO_rm hcs0 (s_filled (d := d)) ?_
  rintro _ g ⟨rfl, rfl⟩
  refine c_X11_feed_19 RO_rm hcs0 (s_filled (d := d)) ?_
  rintro _ g ⟨rfl, rfl⟩
  rw [nI_add, nI_add, nI_add]
  have le : h.1 23 1 + (nI (cn4 a + cn4 b + cn4 c + cn4 e) + nI (cn4 f)) ≤ 200 ↔ s.1 + cn20 a b c e f ≤ 200 := by
    rw [t.2.1, nI_add, nI_add]
    unfold cn20
    exact le_nI (b := 200) (by omega) (by decide)
  by_cases q : s.1 + cn20 a b c e f ≤ 200
  · have yes := le.mpr q
    unfold cn20 at q
    refine c_X11_feed_25 hA0 hF RO_rm hcs0 (fun _ => s_add (d := d) hA0 hF t (by omega)) ?_ (fun z => absurd yes z)
    rintro _ g1 ⟨f1, t1⟩
    refine c_X11_feed_54 hA0 (hF.of f1.1) RO_rm hcs0 (s_add (d := d) hA0 (hF.of f1.1) t1 (by rw [ap4_len]; omega)) ?_
    rintro g2 ⟨f2, t2⟩
    have f2 := f1.trans f2
    refine c_X11_feed_62 hA0 (hF.of f2.1) RO_rm hcs0 (s_add (d := d) hA0 (hF.of f2.1) t2 (by rw [ap4_len, ap4_len]; omega)) ?_
    rintro g3 ⟨f3, t3⟩
    have f3 := f2.trans f3
    refine c_X11_feed_70 hA0 (hF.of f3.1) RO_rm hcs0 (s_add (d := d) hA0 (hF.of f3.1) t3 (by rw [ap4_len, ap4_len, ap4_len]; omega)) ?_
    rintro g4 ⟨f4, t4⟩
    have f4 := f3.trans f4
    refine c_X11_feed_79 hA0 (hF.of f4.1) RO_rm hcs0 (s_add (d := d) hA0 (hF.of f4.1) t4 (by rw [ap4_len, ap4_len, ap4_len, ap4_len]; omega)) ?_
    rintro g5 ⟨f5, t5⟩
    have f5 := f4.trans f5
    have q' : s.1 + cn20 a b c e f ≤ 200 := by unfold cn20; omega
    refine c_X11_feed_88 hA0 (hF.of f5.1) ⟨_, rfl, ?_, f5, by rw [if_pos q']; exact t5⟩
    unfold fdV
    rw [if_pos q', t5.2.1]
    rfl
  · refine c_X11_feed_25 (d := d) (P51 := fun _ => False) hA0 hF RO_rm hcs0 (fun z => absurd (le.mp z) q) (fun z => absurd (le.mp z) q) (fun _ => ⟨_, rfl, ?_, Fs.rfl, by rw [if_neg q]; exact t⟩)
    unfold fdV
    rw [if_neg q]
theorem t_feed {a b c e f : Int32} {s : TT} (hA0 : 91 ≤ nx) (hF : Fx h) (t : MxH h s) : Mk X (d + 1) m_X12_feed [.ref 68, .int a, .int b, .int c, .int e, .int f] h nx sz (RI fun y g => y = fdV s a b c e f ∧ Ft (setI h 68 0 0) g ∧ MxH g (if s.1 + cn20 a b c e f ≤ 200 then ap20 s a b c e f else s)) := by
  have ha := cn4_le (x := a)
  have hb := cn4_le (x := b)
  have hc := cn4_le (x := c)
  have he := cn4_le (x := e)
  have hf := cn4_le (x := f)
  have t1 := t.1
  obtain ⟨h0, eh⟩ : ∃ h0, h0 = setI h 68 0 0 := ⟨_, rfl⟩
  have t0 : MxH h0 s := by rw [eh]; exact t
  have hF0 : Fx h0 := by rw [eh]; exact hF
  refine e_X12_feed (c_X12_feed_0 hA0 RO_rm hcs0 (t_bytesIn (d := d)) ?_)
  rintro _ g ⟨rfl, rfl⟩
  rw [← eh]
  refine c_X12_feed_13 RO_rm hcs0 (t_bytesIn (d := d)) ?_
  rintro _ g ⟨rfl, rfl⟩
  refine c_X12_feed_18 RO_rm hcs0 (t_bytesIn (d := d)) ?_
  rintro _ g ⟨rfl, rfl⟩
  refine c_X12_feed_23 RO_rm hcs0 (t_bytesIn (d := d)) ?_
  rintro _ g ⟨rfl, rfl⟩
  refine c_X12_feed_29 RO_rm hcs0 (t_bytesIn (d := d)) ?_
  rintro _ g ⟨rfl, rfl⟩
  rw [t.2.1, nI_add, nI_add, nI_add, nI_add]
  have le : nI (s.1 + cn4 a + cn4 b + cn4 c + cn4 e) + nI (cn4 f) ≤ 200 ↔ s.1 + cn20 a b c e f ≤ 200 := by
    rw [nI_add]
    unfold cn20
    have := le_nI (a := s.1 + cn4 a + cn4 b + cn4 c + cn4 e + cn4 f) (b := 200) (by omega) (by decide)
    constructor
    · intro z
      have := this.mp z
      omega
    · intro z
      exact this.mpr (by omega)
  by_cases q : s.1 + cn20 a b c e f ≤ 200
  · have yes := le.mpr q
    unfold cn20 at q
    refine c_X12_feed_35 hA0 RO_rm hcs0 (fun _ => t_put (d := d) hA0 hF0 t0 (by omega)) ?_ (fun z => absurd yes z)
    rintro _ g1 ⟨f1, t1⟩
    refine c_X12_feed_49 hA0 RO_rm hcs0 (t_put (d := d) hA0 (hF0.of f1.1) t1 (by rw [ap4_len]; omega)) ?_
    rintro g2 ⟨f2, t2⟩
    have f2 := f1.trans f2
    refine c_X12_feed_54 hA0 RO_rm hcs0 (t_put (d := d) hA0 (hF0.of f2.1) t2 (by rw [ap4_len, ap4_len]; omega)) ?_
    rintro g3 ⟨f3, t3⟩
    have f3 := f2.trans f3
    refine c_X12_feed_59 hA0 RO_rm hcs0 (t_put (d := d) hA0 (hF0.of f3.1) t3 (by rw [ap4_len, ap4_len, ap4_len]; omega)) ?_
    rintro g4 ⟨f4, t4⟩
    have f4 := f3.trans f4
    refine c_X12_feed_65 hA0 RO_rm hcs0 (t_put (d := d) hA0 (hF0.of f4.1) t4 (by rw [ap4_len, ap4_len, ap4_len, ap4_len]; omega)) ?_
    rintro g5 ⟨f5, t5⟩
    have f5 := f4.trans f5
    have q' : s.1 + cn20 a b c e f ≤ 200 := by unfold cn20; omega
    refine c_X12_feed_71 hA0 ⟨_, rfl, ?_, f5, by rw [if_pos q']; exact t5⟩
    unfold fdV
    rw [if_pos q', t5.2.1]
    rfl
  · refine c_X12_feed_35 (d := d) (P46 := fun _ => False) hA0 RO_rm hcs0 (fun z => absurd (le.mp z) q) (fun z => absurd (le.mp z) q) (fun _ => ⟨_, rfl, ?_, Ft.rfl, by rw [if_neg q]; exact t0⟩)
    unfold fdV
    rw [if_neg q]
end OPS
