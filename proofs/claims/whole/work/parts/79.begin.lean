/-! begin of the other side -/
section OPS
variable {X : CX} {d nx sz : Nat} {h : AH} {n : Nat}
noncomputable def mbF (K : Nat → Int32) (n k : Nat) : Nat → Option Nat
  | 0 => none
  | i + 1 => @ite _ (cnt (nI (i + 1)) n = k ∧ ∀ r, mbF K n k i = some r → bg K n (i + 1) r) (Classical.propDecidable _) (some (i + 1)) (mbF K n k i)
theorem mb_ok {K : Nat → Int32} {k : Nat} (hn : n ≤ 20) : ∀ i, i < 2 ^ n → (mbF K n k i = none ∧ ∀ t, 1 ≤ t → t ≤ i → cnt (nI t) n ≠ k) ∨ ∃ r, mbF K n k i = some r ∧ 1 ≤ r ∧ r ≤ i ∧ cnt (nI r) n = k ∧ ∀ t, 1 ≤ t → t ≤ i → cnt (nI t) n = k → t = r ∨ bg K n r t
  | 0, _ => Or.inl ⟨rfl, fun t a b => by omega⟩
  | i + 1, hi => by
    have h31 := p20 hn
    have ih := mb_ok (K := K) (k := k) hn i (by omega)
    unfold mbF
    by_cases c : cnt (nI (i + 1)) n = k ∧ ∀ r, mbF K n k i = some r → bg K n (i + 1) r
    · rw [if_pos c]
      refine Or.inr ⟨i + 1, rfl, by omega, Nat.le_refl _, c.1, fun t a b e => ?_⟩
      by_cases q : t = i + 1
      · exact Or.inl q
      · right
        rcases ih with ⟨-, z⟩ | ⟨r, r1, r2, r3, r4, r5⟩
        · exact absurd e (z t a (by omega))
        · rcases r5 t a (by omega) e with y | y
          · rw [y]; exact c.2 r r1
          · exact bg_trans (c.2 r r1) y
    · rw [if_neg c]
      rcases ih with ⟨z1, z⟩ | ⟨r, r1, r2, r3, r4, r5⟩
      · refine Or.inl ⟨z1, fun t a b e => ?_⟩
        by_cases q : t = i + 1
        · rw [q] at e
          exact c ⟨e, fun r hr => by rw [z1] at hr; cases hr⟩
        · exact z t a (by omega) e
      · refine Or.inr ⟨r, r1, r2, by omega, r4, fun t a b e => ?_⟩
        by_cases q : t = i + 1
        · right
          rw [q] at e ⊢
          rcases bg_tot (K := K) (n := n) (a := i + 1) (b := r) (by omega) (by omega) (by omega) with y | y
          · exact absurd ⟨e, fun r' hr => by rw [r1] at hr; cases hr; exact y⟩ c
          · exact y
        · exact r5 t a (by omega) e
theorem mb_bgv {K : Nat → Int32} {k : Nat} (hn : n ≤ 20) (hk : 1 ≤ k) : BGV K n k (ovI (mbF K n k (2 ^ n - 1))) := by
  have hp := Nat.two_pow_pos n
  have t1 : ∀ t, cnt (nI t) n = k → 1 ≤ t := fun t e => by
    cases t with
    | zero =>
      have : cnt (nI 0) n = 0 := cnt_0
      omega
    | succ t => omega
  rcases mb_ok (K := K) (k := k) hn (2 ^ n - 1) (by omega) with ⟨z1, z⟩ | ⟨r, r1, r2, r3, r4, r5⟩
  · rw [z1]
    exact Or.inl ⟨rfl, fun t ht e => z t (t1 t e) (by omega) e⟩
  · rw [r1]
    exact Or.inr ⟨r, rfl, by omega, r4, fun t ht e => r5 t (t1 t e) (by omega) e⟩
theorem t_heardFrom {s : Nat} (hA0 : 91 ≤ nx) (hF : Fx h) (hp : MP h n) (hg : Gr n (h.1 73)) (hs : s < 2 ^ n) : Mk X (d + 2) m_X12_heardFrom [.ref 68, .int (nI s)] h nx sz (RE (nI (hdN (h.1 73) n s)) h) := by
  obtain ⟨h0, h2, h20⟩ := id hp
  have sb := bits_of_lt h20 hs
  refine Mk.re fun Q hq => e_X12_heardFrom (c_X12_heardFrom_0 ?_)
  refine down_ind (N := n) (P := fun i => VM X m_X12_heardFrom (d + 2) nx sz Q 4 [some (.ref 68), none, some (.int (bl (h.1 73) n (full n) (nI s) i)), some (.int (nI i))] [] h) ?_ (fun i hi q => ?_)
  · have yes : h.1 68 1 ≤ nI n := by rw [h0]; exact Int32.le_refl _
    refine c_X12_heardFrom_4 (P16 := fun _ _ => False) hA0 RO_rm hcs0 (fun _ => s_bitCount (d := d + 1)) ?_ (fun z => absurd yes z) (fun z => absurd yes z)
    rintro _ _ g ⟨rfl, rfl⟩
    refine c_X12_heardFrom_31 ?_
    rw [bl_all hg.kb sb (by omega : n - 1 ≤ n), bc_lt h20 (fun j hj => bl_in hg.kb sb _ _ hj)]
    exact hq
  · have no : ¬ h.1 68 1 ≤ nI i := fun z => by rw [h0, le_nI (by omega) (by omega)] at z; omega
    refine c_X12_heardFrom_4 (P28 := fun _ _ => False) (P16 := fun y g => y = arnd (h.1 73) (bl (h.1 73) n (full n) (nI s) i) n &&& ((0 : Int32) ^^^ (-1)) ∧ h = g) hA0 RO_rm hcs0 (fun z => absurd z no) (fun z => absurd z no) (fun _ => t_around (d := d) (s := bl (h.1 73) n (full n) (nI s) i) (w := 0) hA0 hF hp) ?_
    rintro _ _ g ⟨rfl, rfl⟩
    refine c_X12_heardFrom_19 ?_
    have e : bl (h.1 73) n (full n) (nI s) i ||| (arnd (h.1 73) (bl (h.1 73) n (full n) (nI s) i) n &&& ((0 : Int32) ^^^ (-1))) = bl (h.1 73) n (full n) (nI s) (i + 1) := by
      show _ = bl (h.1 73) n (full n) (nI s) i ||| (arnd (h.1 73) (bl (h.1 73) n (full n) (nI s) i) n &&& full n)
      congr 1
      apply tb_ext
      intro j hj
      rw [tb_and, tb_and, nm1, tb_m1 hj]
      cases c : tb (arnd (h.1 73) (bl (h.1 73) n (full n) (nI s) i) n) j with
      | false => rfl
      | true =>
        obtain ⟨p, p1, p2, p3⟩ := tb_arnd.mp c
        rw [(tb_fulln h20).mpr (hg p j p3).2.1]
    rw [nI_1, e]
    exact q
theorem t_begin_bad {x : Int32} (hA0 : 91 ≤ nx) (c : x < 1 ∨ ¬ x ≤ 3) : Mk X (d + 1) m_X12_begin [.ref 68, .int x] h nx sz (RE (-1) (setI h 68 0 0)) := by
  refine Mk.re fun Q hq => e_X12_begin (c_X12_begin_0 hA0 RO_rm hcs0 (t_isIn (d := d)) ?_)
  rintro y g ⟨rfl, rfl⟩
  rw [if_neg (fun z => c.elim z.1 (fun q => q (Int32.not_lt.mp z.2)))]
  exact c_X12_begin_11 hA0 (fun _ => hq) (fun z => absurd rfl z) (fun z => absurd rfl z)
theorem t_begin {k : Nat} (hA0 : 91 ≤ nx) (hF : Fx h) (hP : InvP h n) (hg : Gr n (h.1 73)) (hk1 : 1 ≤ k) (hk : k ≤ 3) : Mk X (d + 4) m_X12_begin [.ref 68, .int (nI k)] h nx sz (RI fun y g => BGV (h.1 73) n k y ∧ setI h 68 0 0 = g) := by
  obtain ⟨h0, h2, h20⟩ := hP.mp
  have h31 := p20 h20
  obtain ⟨k1, k2⟩ := nI_13 hk1 hk
  obtain ⟨g, eg⟩ : ∃ g, g = setI h 68 0 0 := ⟨_, rfl⟩
  have mp : MP g n := by rw [eg]; exact hP.mp
  have hFg : Fx g := by rw [eg]; exact hF
  have g73 : g.1 73 = h.1 73 := by rw [eg]; rfl
  have hgg : Gr n (g.1 73) := by rw [g73]; exact hg
  obtain ⟨Q, hQ⟩ : ∃ Q, Q = (RI fun y g => BGV (h.1 73) n k y ∧ setI h 68 0 0 = g) := ⟨_, rfl⟩
  rw [← hQ]
  refine e_X12_begin (c_X12_begin_0 hA0 RO_rm hcs0 (t_isIn (d := d + 3)) ?_)
  rintro y g' ⟨rfl, rfl⟩
  rw [if_pos ⟨k1, k2⟩, ← eg]
  obtain ⟨B, hB⟩ : ∃ B, B = mbF (h.1 73) n k := ⟨_, rfl⟩
  have Bb : ∀ i r, i < 2 ^ n → B i = some r → r < 2 ^ n ∧ cnt (nI r) n = k := fun i r hi e => by
    rw [hB] at e
    rcases mb_ok (K := h.1 73) (k := k) h20 i hi with ⟨z, -⟩ | ⟨r', r1, r2, r3, r4, -⟩
    · rw [z] at e; cases e
    · rw [r1] at e
      cases e
      exact ⟨by omega, r4⟩
  have hpow := Nat.two_pow_pos n
  have key : ∀ (f i : Nat), i + f = 2 ^ n - 1 → VM X m_X12_begin (d + 4) nx sz Q 34 [some (.ref 68), some (.int (nI k)), some (.int (ovI (B i))), some (.int (nI (match B i with | none => 0 | some r => hdN (h.1 73) n r))), some (.int (nI (match B i with | none => 0 | some r => rdN (h.1 73) n r))), some (.int (nI (i + 1))), none, none, none] [] g := by
    intro f
    induction f with
    | zero =>
      intro i hi
      have hi : i = 2 ^ n - 1 := by omega
      have yes : (1 : Int32) <<< ((g.1 68 1) &&& 31) ≤ nI (i + 1) := by
        rw [mp.1, bt_toInt32, bt_nI h20, show i + 1 = 2 ^ n by omega]
        exact Int32.le_refl _
      refine c_X12_begin_34 (d := d + 3) (P47 := fun _ _ => False) hA0 RO_rm hcs0 (fun _ => ?_) (fun z => absurd yes z) (fun z => absurd yes z)
      rw [hQ]
      refine ⟨_, rfl, ?_, eg.symm⟩
      rw [hB, hi]
      exact mb_bgv h20 hk1
    | succ f ih =>
      intro i hi
      have hi2 : i + 1 < 2 ^ n := by omega
      have no : ¬ (1 : Int32) <<< ((g.1 68 1) &&& 31) ≤ nI (i + 1) := fun z => by
        rw [mp.1, bt_toInt32, bt_nI h20, le_nI h31 (by omega)] at z
        omega
      have hbi := bits_of_lt h20 hi2
      have c20 := cnt_le (x := nI (i + 1)) (n := n)
      have nxt := ih (i + 1) (by omega)
      have eB : B (i + 1) = @ite _ (cnt (nI (i + 1)) n = k ∧ ∀ r, B i = some r → bg (h.1 73) n (i + 1) r) (Classical.propDecidable _) (some (i + 1)) (B i) := by rw [hB]; rfl
      have keep : ¬ (cnt (nI (i + 1)) n = k ∧ ∀ r, B i = some r → bg (h.1 73) n (i + 1) r) → VM X m_X12_begin (d + 4) nx sz Q 34 [some (.ref 68), some (.int (nI k)), some (.int (ovI (B i))), some (.int (nI (match B i with | none => 0 | some r => hdN (h.1 73) n r))), some (.int (nI (match B i with | none => 0 | some r => rdN (h.1 73) n r))), some (.int (nI (i + 1) + 1)), none, none, none] [] g := fun z => by
        rw [eB, if_neg z] at nxt
        rw [nI_1]
        exact nxt
      have take : (cnt (nI (i + 1)) n = k ∧ ∀ r, B i = some r → bg (h.1 73) n (i + 1) r) → VM X m_X12_begin (d + 4) nx sz Q 34 [some (.ref 68), some (.int (nI k)), some (.int (nI (i + 1))), some (.int (nI (hdN (h.1 73) n (i + 1)))), some (.int (nI (rdN (h.1 73) n (i + 1)))), some (.int (nI (i + 1) + 1)), none, none, none] [] g := fun z => by
        rw [eB, if_pos z] at nxt
        rw [nI_1]
        exact nxt
      refine c_X12_begin_34 hA0 RO_rm hcs0 (fun z => absurd z no) (fun _ => s_bitCount (d := d + 3)) ?_
      rintro _ _ g' ⟨rfl, rfl⟩
      rw [bc_lt h20 hbi]
      have ek : nI (cnt (nI (i + 1)) n) = nI k ↔ cnt (nI (i + 1)) n = k := nI_eq (by omega) (by omega)
      refine c_X12_begin_50 hA0 RO_rm hcs0 (fun _ => t_heardFrom (d := d + 1) hA0 hFg mp hgg hi2) ?_ (fun z => keep (fun y => z (ek.mpr y.1)))
      rintro z1 _ g' ⟨rfl, rfl⟩
      have z1 := ek.mp z1
      refine c_X12_begin_63 hA0 RO_rm hcs0 (t_outFrom (d := d + 1) hA0 hFg mp hgg hbi) ?_
      rintro _ g' ⟨rfl, rfl⟩
      rw [g73]
      have erd : nI (rds (h.1 73) n (nI (i + 1))) = nI (rdN (h.1 73) n (i + 1)) := rfl
      rw [erd]
      cases e : B i with
      | none =>
        have tk := take ⟨z1, fun r hr => by rw [e] at hr; cases hr⟩
        exact c_X12_begin_71 (d := d + 3) (P108 := fun _ _ => False) RO_rm hcs0 (fun _ => tk) (fun z => absurd rfl z) (fun z => absurd rfl z) (fun z => absurd rfl z) (fun z => absurd rfl z) (fun z => absurd rfl z) (fun z => absurd rfl z)
      | some r =>
        rw [e] at keep take
        obtain ⟨r1, r2⟩ := Bb i r (by omega) e
        have hr31 : r < 2 ^ 31 := Nat.lt_trans r1 h31
        have nr : ¬ ovI (some r) = -1 := nI_m1 hr31
        have a1 : hdN (h.1 73) n r ≤ 20 := Nat.le_trans cnt_le h20
        have a2 : hdN (h.1 73) n (i + 1) ≤ 20 := Nat.le_trans cnt_le h20
        have a3 : rdN (h.1 73) n r ≤ 20 := Nat.le_trans rds_le h20
        have a4 : rdN (h.1 73) n (i + 1) ≤ 20 := Nat.le_trans rds_le h20
        have lt1 : nI (hdN (h.1 73) n r) < nI (hdN (h.1 73) n (i + 1)) ↔ hdN (h.1 73) n r < hdN (h.1 73) n (i + 1) := nI_ltI (by omega) (by omega)
        have eq1 : nI (hdN (h.1 73) n (i + 1)) = nI (hdN (h.1 73) n r) ↔ hdN (h.1 73) n (i + 1) = hdN (h.1 73) n r := nI_eq (by omega) (by omega)
        have lt2 : nI (rdN (h.1 73) n (i + 1)) < nI (rdN (h.1 73) n r) ↔ rdN (h.1 73) n (i + 1) < rdN (h.1 73) n r := nI_ltI (by omega) (by omega)
        have eq2 : nI (rdN (h.1 73) n (i + 1)) = nI (rdN (h.1 73) n r) ↔ rdN (h.1 73) n (i + 1) = rdN (h.1 73) n r := nI_eq (by omega) (by omega)
        have tk : bg (h.1 73) n (i + 1) r → VM X m_X12_begin (d + 4) nx sz Q 34 [some (.ref 68), some (.int (nI k)), some (.int (nI (i + 1))), some (.int (nI (hdN (h.1 73) n (i + 1)))), some (.int (nI (rdN (h.1 73) n (i + 1)))), some (.int (nI (i + 1) + 1)), none, none, none] [] g := fun z => take ⟨z1, fun r' hr => by cases hr; exact z⟩
        have kp := fun (z : ¬ bg (h.1 73) n (i + 1) r) => keep (fun y => z (y.2 r rfl))
        have D : Decidable (bet n true (nI (i + 1)) (nI r)) := Classical.propDecidable _
        have hbr := bits_of_lt h20 r1
        have q4 := t_isBetter (X := X) (d := d + 2) (h := g) (nx := nx) (sz := sz) (few := true) h20 hbi hbr D
        have e1 : (if (true = true) then (1 : Int32) else 0) = 1 := rfl
        rw [e1] at q4
        have bl : bet n true (nI (i + 1)) (nI r) ↔ lx (nI (i + 1)) (nI r) := by
          unfold bet
          rw [if_pos (z1.trans r2.symm)]
        refine c_X12_begin_71 RO_rm hcs0 (fun z => absurd z nr) (fun _ z => tk (Or.inl (lt1.mp z))) (fun _ z z2 => kp (fun y => ?_)) (fun _ z z2 z3 => tk (Or.inr ⟨eq1.mp z2, Or.inl (lt2.mp z3)⟩)) (fun _ z z2 z3 z4 => kp (fun y => ?_)) (fun _ _ _ _ _ => q4) ?_
        · rcases y with y | ⟨y, -⟩
          · exact z (lt1.mpr y)
          · exact z2 (eq1.mpr y)
        · rcases y with y | ⟨-, y | ⟨y, -⟩⟩
          · exact z (lt1.mpr y)
          · exact z3 (lt2.mpr y)
          · exact z4 (eq2.mpr y)
        · rintro _ z z2 z3 z4 _ g' ⟨rfl, rfl⟩
          refine c_X12_begin_111 (fun w => kp (fun y => ?_)) (fun w => tk (Or.inr ⟨eq1.mp z2, Or.inr ⟨eq2.mp z4, bl.mp (bt4 w)⟩⟩))
          rcases y with y | ⟨-, y | ⟨-, y⟩⟩
          · exact z (lt1.mpr y)
          · exact z3 (lt2.mpr y)
          · exact bt3 w (bl.mpr y)
  have k0 := key (2 ^ n - 1) 0 (by omega)
  have eB0 : B 0 = none := by rw [hB]; rfl
  rw [eB0] at k0
  by_cases hkn : k ≤ n
  · have yes : nI k ≤ g.1 68 1 := by rw [mp.1, le_nI (by omega) (by omega)]; exact hkn
    exact c_X12_begin_11 hA0 (fun z => by cases z) (fun _ _ => k0) (fun _ z => absurd yes z)
  · have no : ¬ nI k ≤ g.1 68 1 := by rw [mp.1, le_nI (by omega) (by omega)]; exact hkn
    refine c_X12_begin_11 hA0 (fun z => by cases z) (fun _ z => absurd z no) (fun _ _ => ?_)
    rw [hQ]
    refine ⟨_, rfl, Or.inl ⟨rfl, fun t _ e => ?_⟩, eg.symm⟩
    have := cnt_le (x := nI t) (n := n)
    omega
end OPS
