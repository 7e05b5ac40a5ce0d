/-! over of the other side -/
theorem lg_0 {x y : Int64} : lg_cmp x y = 0 ↔ x = y := by
  unfold lg_cmp
  by_cases c : x > y
  · rw [if_pos c]
    constructor
    · intro z
      cases z
    · intro z
      rw [z] at c
      exact absurd c (Int64.lt_irrefl)
  · rw [if_neg c]
    by_cases e : x = y
    · rw [if_pos e]
      exact ⟨fun _ => e, fun _ => rfl⟩
    · rw [if_neg e]
      constructor
      · intro z
        cases z
      · intro z
        exact absurd z e
theorem nL_inj {a b : Nat} (ha : a < 2 ^ 63) (hb : b < 2 ^ 63) (e : nL a = nL b) : a = b := by
  have := congrArg Int64.toInt e
  unfold nL at this
  rw [Int64.toInt_ofNat_of_lt ha, Int64.toInt_ofNat_of_lt hb] at this
  omega
section OPS
variable {X : CX} {d nx sz : Nat} {h : AH} {n : Nat}
theorem Wn_63 {K : Nat → Int32} (hn : n ≤ 20) (hd : ∀ b, b < n → cnt (K b) n ≤ 9) {a b k : Nat} (hk : k < n) (hb : b < n) : Wn K n a k b < 2 ^ 63 := by
  have h1 := Wn_le hn hd (a := a) (k := k) hb
  have h2 : 9 ^ k ≤ 9 ^ 19 := Nat.pow_le_pow_right (by decide) (by omega)
  have h3 : 9 ^ 19 < 2 ^ 63 := by decide
  omega
theorem t_over_bad {x y w : Int32} (hA0 : 91 ≤ nx) (hp : InvP h n) (c : ¬ (hasI n x = 1 ∧ hasI n y = 1)) : Mk X (d + 1) m_X12_over [.ref 68, .int x, .int y, .int w] h nx sz (RE (-1) (setI h 68 0 0)) := by
  refine Mk.re fun Q hq => e_X12_over (c_X12_over_0 hA0 RO_rm hcs0 (t_isOne (d := d) (h := setI h 68 0 0) hA0 hp.mp) ?_)
  rintro y0 g ⟨rfl, rfl⟩
  refine c_X12_over_10 hA0 RO_rm hcs0 (fun _ => hq) (fun _ => t_isOne (d := d) (h := setI h 68 0 0) hA0 hp.mp) ?_
  rintro c1 y0 g ⟨rfl, rfl⟩
  have c1 := hasI_0.resolve_left c1
  have c2 : hasI n y = 0 := hasI_0.resolve_right (fun z => c ⟨c1, z⟩)
  exact c_X12_over_18 (P24 := fun _ _ => False) RO_rm hcs0 (fun _ => hq) (fun z => absurd c2 z) (fun z => absurd c2 z)
/-- the bit of i -/
def ovP (K : Nat → Int32) (n a b D : Nat) (w : Int32) (i : Nat) : Prop := (w = 0 ∧ onA K n a b D i) ∨ (w = 1 ∧ onS K n a b D i)
theorem t_over58 {g : AH} {Q : Option Value → AH → Prop} {a b D : Nat} {w : Int32} {K : Nat → Int32} (hw : w = 0 ∨ w = 1) (hA0 : 91 ≤ nx) (hF : Fx g) (h0 : g.1 68 1 = nI n) (h2 : 2 ≤ n) (h20 : n ≤ 20) (hg : Gr n K) (hd9 : ∀ b, b < n → cnt (K b) n ≤ 9) (ha : a < n) (hb : b < n) (hD : dst K n (full n) a b = some D) (la : ∀ i, i < n → g.1 78 (20 * a + i) = dstI K n (full n) a i ∧ g.2.1 79 (20 * a + i) = nL (rwN K n a i)) (lb : ∀ i, i < n → g.1 78 (20 * b + i) = dstI K n (full n) b i ∧ g.2.1 79 (20 * b + i) = nL (rwN K n b i)) (De : ∀ i, Decidable (ovP K n a b D w i)) (hq : Q (some (.int (bF (ovP K n a b D w) De n))) g) : VM X m_X12_over (d + 4) nx sz Q 58 [some (.ref 68), some (.int (nI a)), some (.int (nI b)), some (.int w), some (.int 0), some (.int (nI 0))] [] g := by
  have D1 := (dst_iff.mp hD).1
  have eD : dstI K n (full n) a b = nI D := by unfold dstI; rw [hD]
  have z01 : ¬ (0 : Int32) = 1 := by decide
  have z10 : ¬ (1 : Int32) = 0 := by decide
  refine down_ind (N := n) (P := fun i => VM X m_X12_over (d + 4) nx sz Q 58 [some (.ref 68), some (.int (nI a)), some (.int (nI b)), some (.int w), some (.int (bF (ovP K n a b D w) De i)), some (.int (nI i))] [] g) ?_ (fun i hi q => ?_)
  · have ex : g.1 68 1 ≤ nI n := by rw [h0]; exact Int32.le_refl _
    exact c_X12_over_58 (d := d + 3) (P83 := fun _ _ => False) hA0 RO_rm hcs0 (fun _ => hq) (fun c => absurd ex c) (fun c => absurd ex c) (fun c => absurd ex c) (fun c => absurd ex c)
  · have skip : ¬ ovP K n a b D w i → VM X m_X12_over (d + 4) nx sz Q 58 [some (.ref 68), some (.int (nI a)), some (.int (nI b)), some (.int w), some (.int (bF (ovP K n a b D w) De i)), some (.int (nI i + 1))] [] g := fun z => by
      have e : bF (ovP K n a b D w) De (i + 1) = bF (ovP K n a b D w) De i := if_neg z
      rw [e] at q
      rw [nI_1]
      exact q
    have take : ovP K n a b D w i → VM X m_X12_over (d + 4) nx sz Q 58 [some (.ref 68), some (.int (nI a)), some (.int (nI b)), some (.int w), some (.int (bF (ovP K n a b D w) De i ||| ((1 : Int32) <<< (nI i &&& 31)))), some (.int (nI i + 1))] [] g := fun z => by
      have e : bF (ovP K n a b D w) De (i + 1) = bF (ovP K n a b D w) De i ||| bt i := if_pos z
      rw [e] at q
      rw [nI_1, bt_toInt32]
      exact q
    refine c_X12_over_58 hA0 RO_rm hcs0 (fun c => ?_) (fun _ c => skip ?_) (fun _ _ c => skip ?_) (fun _ _ _ => t_farNow (d := d + 3) hA0 hF (by omega) (by omega)) ?_
    · rw [h0, le_nI (by omega) (by omega)] at c
      omega
    · have c := nI_inj (by omega) (by omega) c
      rintro (⟨-, z⟩ | ⟨-, z⟩) <;> exact z.1 c
    · have c := nI_inj (by omega) (by omega) c
      rintro (⟨-, z⟩ | ⟨-, z⟩) <;> exact z.2.1 c
    rintro _ ca cb y g' ⟨rfl, rfl⟩
    have ca : i ≠ a := fun z => ca (by rw [z])
    have cb : i ≠ b := fun z => cb (by rw [z])
    rw [(la i hi).1]
    refine c_X12_over_86 hA0 RO_rm hcs0 (fun c => skip ?_) (fun _ => t_farNow (d := d + 3) hA0 hF (by omega) (by omega)) ?_
    · have c := (dstI_m1 h20).mp c
      rintro (⟨-, z⟩ | ⟨-, -, -, j, k, z1, -⟩)
      · exact z.2.2 (on_none hg h20 ha hb hi hD (fun j k z1 => by rw [c] at z1; cases z1))
      · rw [c] at z1
        cases z1
    rintro c y g' ⟨rfl, rfl⟩
    obtain ⟨j, j1, j2, j3⟩ := dst_nI h20 c
    obtain ⟨k, k1⟩ := conn hg h20 ha hb j2 hD
    have k2 : dstI K n (full n) b i = nI k := by unfold dstI; rw [k1]
    have k3 := (dst_iff.mp k1).1
    rw [(la i hi).1, j3]
    refine c_X12_over_97 hA0 RO_rm hcs0 (t_farNow (d := d + 3) hA0 hF (by omega) (by omega)) ?_
    rintro y g' ⟨rfl, rfl⟩
    rw [(lb i hi).1, k2]
    refine c_X12_over_104 hA0 RO_rm hcs0 (t_farNow (d := d + 3) hA0 hF (by omega) (by omega)) ?_
    rintro y g' ⟨rfl, rfl⟩
    rw [(la b hb).1, eD, nI_add]
    refine c_X12_over_111 hA0 RO_rm hcs0 (fun c1 c2 => take ?_) (fun _ _ => t_rowsNow (d := d + 3) hA0 hF (by omega) (by omega)) ?_ (fun c1 => skip ?_)
    · have c1 := nI_inj (by omega) (by omega) c1
      exact Or.inr ⟨c2, ca, cb, j, k, j2, k1, c1⟩
    · rintro c1 c2 y g' ⟨rfl, rfl⟩
      have c1 := nI_inj (by omega) (by omega) c1
      have c2 := hw.resolve_right c2
      refine c_X12_over_129 hA0 RO_rm hcs0 (t_rowsNow (d := d + 3) hA0 hF (by omega) (by omega)) ?_
      rintro y g' ⟨rfl, rfl⟩
      refine c_X12_over_136 hA0 RO_rm hcs0 (t_rowsNow (d := d + 3) hA0 hF (by omega) (by omega)) ?_
      rintro y g' ⟨rfl, rfl⟩
      have r1 : rwN K n a i = Wn K n a j i := by unfold rwN; rw [j2]
      have r2 : rwN K n b i = Wn K n b k i := by unfold rwN; rw [k1]
      have r3 : rwN K n a b = Wn K n a (j + k) b := by unfold rwN; rw [hD, c1]
      have hD' : dst K n (full n) a b = some (j + k) := by rw [hD, c1]
      have on := on_all hg h20 ha hb hi ca cb j2 k1 hD'
      have b1 : Wn K n a (j + k) b < 2 ^ 63 := Wn_63 h20 hd9 (by omega) hb
      have b2 : Wn K n a j i * Wn K n b k i ≤ Wn K n a (j + k) b := by
        rw [Wn_sym hg h20 hb hi]
        exact Wn_prod_le h20 ha hb hi
      rw [(la i hi).2, (lb i hi).2, (la b hb).2, r1, r2, r3, nL_mul]
      have oni : ovP K n a b D w i ↔ Wn K n a j i * Wn K n b k i = Wn K n a (j + k) b := by
        constructor
        · rintro (⟨-, z⟩ | ⟨z, -⟩)
          · exact on.mpr (by rw [c1]; exact z.2.2)
          · rw [c2] at z
            exact absurd z z01
        · intro z
          exact Or.inl ⟨c2, ca, cb, by rw [← c1]; exact on.mp z⟩
      refine c_X12_over_143 (fun z => skip fun y => z ?_) (fun z => take ?_)
      · rw [lg_0, oni.mp y]
      · rw [lg_0] at z
        exact oni.mpr (nL_inj (by omega) b1 z)
    · have c1 : ¬ j + k = D := fun z => c1 (by rw [z])
      rintro (⟨-, z⟩ | ⟨-, -, -, j', k', z1, z2, z3⟩)
      · exact z.2.2 (on_none hg h20 ha hb hi hD (fun j' k' z1 z2 => by
          rw [j2] at z1
          rw [k1] at z2
          cases z1
          cases z2
          exact c1))
      · rw [j2] at z1
        rw [k1] at z2
        cases z1
        cases z2
        exact c1 z3
end OPS
