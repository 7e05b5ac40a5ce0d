/-! SevenTownModel: small methods, and its walks -/
def MP (h : AH) (n : Nat) : Prop := h.1 68 1 = nI n ∧ 2 ≤ n ∧ n ≤ 20
section MOD
variable {X : CX} {d nx sz : Nat} {h : AH} {n : Nat}
theorem t_isIn {x lo hi : Int32} : Mk X d m_X12_isIn [.int x, .int lo, .int hi] h nx sz (RE (if ¬ x < lo ∧ ¬ hi < x then 1 else 0) h) :=
  e_X12_isIn (c_X12_isIn_0 (fun c => ⟨_, rfl, by rw [if_neg (fun z => z.1 c)], rfl⟩) (fun _ c => ⟨_, rfl, by rw [if_neg (fun z => z.2 c)], rfl⟩) (fun c1 c2 => ⟨_, rfl, by rw [if_pos ⟨c1, c2⟩], rfl⟩))
theorem t_has {x : Int32} {i : Nat} (hi : i < 32) : Mk X d m_X12_has [.int x, .int (nI i)] h nx sz (RE (if tb x i then 1 else 0) h) :=
  e_X12_has (c_X12_has_0 (fun c => ⟨_, rfl, by rw [shr_eq1 hi] at c; rw [if_neg c], rfl⟩) (fun c => ⟨_, rfl, by rw [shr_eq1 hi] at c; rw [if_pos c], rfl⟩))
theorem t_isOne {x : Int32} (hA0 : 91 ≤ nx) (hp : MP h n) : Mk X d m_X12_isOne [.ref 68, .int x] h nx sz (RE (hasI n x) h) := by
  obtain ⟨h0, -, -⟩ := hp
  refine e_X12_isOne (c_X12_isOne_0 hA0 (fun c => ⟨_, rfl, ?_, rfl⟩) (fun c c1 => ⟨_, rfl, ?_, rfl⟩) (fun c c1 => ⟨_, rfl, ?_, rfl⟩)) <;> unfold hasI
  · rw [if_neg (fun z => z.1 c)]
  · rw [if_neg (fun z => z.2 (by rw [← h0]; exact c1))]
  · rw [if_pos ⟨c, by rw [← h0]; exact c1⟩]
theorem t_areTwo {x y : Int32} (hA0 : 91 ≤ nx) (hp : MP h n) : Mk X (d + 1) m_X12_areTwo [.ref 68, .int x, .int y] h nx sz (RE (twoI n x y) h) := by
  refine e_X12_areTwo (c_X12_areTwo_0 hA0 RO_rm hcs0 (t_isOne (d := d) hA0 hp) ?_)
  rintro y1 g ⟨rfl, rfl⟩
  refine c_X12_areTwo_5 hA0 RO_rm hcs0 (fun c => ⟨_, rfl, ?_, rfl⟩) (fun _ => t_isOne (d := d) hA0 hp) ?_
  · unfold twoI
    rw [if_neg (fun z => by rw [z.1] at c; cases c)]
  rintro c1 y2 g ⟨rfl, rfl⟩
  have c1 : hasI n x = 1 := (hasI_0).resolve_left c1
  refine c_X12_areTwo_13 (fun c => ⟨_, rfl, ?_, rfl⟩) (fun _ c => ⟨_, rfl, ?_, rfl⟩) (fun c2 c => ⟨_, rfl, ?_, rfl⟩) <;> unfold twoI
  · rw [if_neg (fun z => by rw [z.2.1] at c; cases c)]
  · rw [if_neg (fun z => z.2.2 c)]
  · rw [if_pos ⟨c1, hasI_0.resolve_left c2, c⟩]
theorem t_many {i : Nat} (hA0 : 91 ≤ nx) (hF : Fx h) (hi : i < 20) : Mk X (d + 1) m_X12_many [.ref 68, .int (nI i)] h nx sz (RE (bc (h.1 73 i)) h) := by
  refine e_X12_many (c_X12_many_0 hA0 hF RO_rm hcs0 (vin hi (by decide)) (s_bitCount (d := d)) ?_)
  rintro y g ⟨rfl, rfl⟩
  refine c_X12_many_9 ⟨_, rfl, ?_, rfl⟩
  rw [tN (by omega)]
theorem t_ties (hA0 : 91 ≤ nx) (hF : Fx h) (hp : MP h n) : Mk X (d + 1) m_X12_ties [.ref 68] h nx sz (RE (smI (fun i => bc (h.1 73 i)) n / 2) h) := by
  obtain ⟨h0, h2, h20⟩ := hp
  refine Mk.re fun Q hq => e_X12_ties (c_X12_ties_0 ?_)
  refine down_ind (N := n) (P := fun i => VM X m_X12_ties (d + 1) nx sz Q 4 [some (.ref 68), some (.int (smI (fun i => bc (h.1 73 i)) i)), some (.int (nI i))] [] h) ?_ (fun i hi q => ?_)
  · have ex : h.1 68 1 ≤ nI n := by rw [h0]; exact Int32.le_refl _
    exact c_X12_ties_4 (P19 := fun _ _ => False) hA0 hF RO_rm hcs0 (fun _ => hq) (fun c => absurd ex c) (fun c => absurd ex c) (fun c => absurd ex c)
  · refine c_X12_ties_4 hA0 hF RO_rm hcs0 (fun c => ?_) (fun _ => vin (by omega) (by decide)) (fun _ => s_bitCount (d := d)) ?_
    · rw [h0, le_nI (by omega) (by omega)] at c
      omega
    · rintro _ y g ⟨rfl, rfl⟩
      refine c_X12_ties_22 ?_
      rw [nI_1, tN (by omega)]
      exact q
theorem or_0 {x : Int32} : x ||| 0 = x := by
  apply tb_ext
  intro j _
  rw [tb_or, tb_0, Bool.or_false]
theorem t_around {s w : Int32} (hA0 : 91 ≤ nx) (hF : Fx h) (hp : MP h n) : Mk X (d + 1) m_X12_around [.ref 68, .int s, .int w] h nx sz (RE (arnd (h.1 73) s n &&& (w ^^^ (-1))) h) := by
  obtain ⟨h0, h2, h20⟩ := hp
  refine Mk.re fun Q hq => e_X12_around (c_X12_around_0 ?_)
  refine down_ind (N := n) (P := fun i => VM X m_X12_around (d + 1) nx sz Q 5 [some (.ref 68), some (.int s), some (.int w), some (.int (arnd (h.1 73) s i)), some (.int (nI i))] [] h) ?_ (fun i hi q => ?_)
  · have ex : h.1 68 1 ≤ nI n := by rw [h0]; exact Int32.le_refl _
    exact c_X12_around_5 (P18 := fun _ _ => False) hA0 RO_rm hcs0 (fun _ => hq) (fun c => absurd ex c) (fun c => absurd ex c)
  · refine c_X12_around_5 hA0 RO_rm hcs0 (fun c => ?_) (fun _ => t_has (d := d) (by omega)) ?_
    · rw [h0, le_nI (by omega) (by omega)] at c
      omega
    · rintro _ y g ⟨rfl, rfl⟩
      refine c_X12_around_21 hA0 hF (fun c => ?_) (fun _ => vin (by omega) (by decide)) (fun c => ?_)
      · have e : arnd (h.1 73) s (i + 1) = arnd (h.1 73) s i := if_neg (fun z => by rw [if_pos z] at c; cases c)
        rw [e] at q
        rw [nI_1, or_0]
        exact q
      · have e : arnd (h.1 73) s (i + 1) = arnd (h.1 73) s i ||| h.1 73 i := if_pos (by
          cases hb : tb s i with
          | true => rfl
          | false => rw [hb] at c; exact absurd rfl c)
        rw [e] at q
        rw [nI_1, tN (by omega)]
        exact q
theorem t_partOf {i : Nat} {w : Int32} (hA0 : 91 ≤ nx) (hF : Fx h) (hp : MP h n) (hK : KB (h.1 73) n) (hi : i < n) : Mk X (d + 2) m_X12_partOf [.ref 68, .int (nI i), .int w] h nx sz (RE (bl (h.1 73) n (w ^^^ (-1)) (bt i) (n - 1)) h) := by
  obtain ⟨h0, h2, h20⟩ := id hp
  have hf : ∀ j, tb (bt i) j = true → j < n := fun j hj => by
    rw [tb_bt (by omega)] at hj
    have : i = j := by simpa using hj
    omega
  refine Mk.re fun Q hq => e_X12_partOf (c_X12_partOf_0 hA0 RO_rm hcs0 (t_around (d := d) hA0 hF hp) ?_)
  rintro y g ⟨rfl, rfl⟩
  refine c_X12_partOf_11 ?_
  rw [bt_toInt32]
  have e : ∀ k, bl (h.1 73) n (w ^^^ (-1)) (bt i) k ||| (arnd (h.1 73) (bl (h.1 73) n (w ^^^ (-1)) (bt i) k) n &&& (w ^^^ (-1))) = bl (h.1 73) n (w ^^^ (-1)) (bt i) (k + 1) := fun _ => rfl
  have e0 := e 0
  have e1 : bl (h.1 73) n (w ^^^ (-1)) (bt i) 0 = bt i := rfl
  rw [e1] at e0
  rw [e0]
  have hend := bl_end (m := w ^^^ (-1)) hK hf
  have key : VM X m_X12_partOf (d + 2) nx sz Q 14 [some (.ref 68), none, some (.int w), some (.int (bl (h.1 73) n (w ^^^ (-1)) (bt i) 0)), some (.int (bl (h.1 73) n (w ^^^ (-1)) (bt i) (0 + 1)))] [] h := by
    refine down_ind (N := n - 1) (P := fun k => VM X m_X12_partOf (d + 2) nx sz Q 14 [some (.ref 68), none, some (.int w), some (.int (bl (h.1 73) n (w ^^^ (-1)) (bt i) k)), some (.int (bl (h.1 73) n (w ^^^ (-1)) (bt i) (k + 1)))] [] h) ?_ (fun k hk q => ?_)
    · exact c_X12_partOf_14 (P27 := fun _ _ => False) hA0 RO_rm hcs0 (fun _ => hq) (fun c => absurd hend c) (fun c => absurd hend c)
    · refine c_X12_partOf_14 hA0 RO_rm hcs0 (fun c => ?_) (fun _ => t_around (d := d) hA0 hF hp) ?_
      · have := bl_stop c (n - 1 - k)
        rw [show k + (n - 1 - k) = n - 1 by omega] at this
        rw [← this]
        exact hq
      · rintro _ y g ⟨rfl, rfl⟩
        refine c_X12_partOf_30 ?_
        rw [e]
        exact q
  exact key
theorem nm1 : (0 : Int32) ^^^ (-1) = -1 := by decide
theorem t_farOf {i j : Nat} (hA0 : 91 ≤ nx) (hF : Fx h) (hp : MP h n) (hi : i < n) (hj : j < n) : Mk X (d + 2) m_X12_farOf [.ref 68, .int (nI i), .int (nI j)] h nx sz (RE (dstI (h.1 73) n (-1) i j) h) := by
  obtain ⟨h0, h2, h20⟩ := id hp
  refine Mk.re fun Q hq => e_X12_farOf (c_X12_farOf_0 ?_)
  rw [bt_toInt32]
  refine down_ind (N := n) (P := fun k => (∀ z, z < k → tb (bl (h.1 73) n (-1) (bt i) z) j = false) → VM X m_X12_farOf (d + 2) nx sz Q 7 [some (.ref 68), none, some (.int (nI j)), some (.int (bl (h.1 73) n (-1) (bt i) k)), some (.int (nI k))] [] h) (fun hno => ?_) (fun k hk q hno => ?_) (fun z hz => by omega)
  · have ex : h.1 68 1 ≤ nI n := by rw [h0]; exact Int32.le_refl _
    have e : dstI (h.1 73) n (-1) i j = -1 := by
      unfold dstI dst
      rw [fstp_none (fun z _ hz => hno z (by omega))]
    rw [e] at hq
    exact c_X12_farOf_7 (P18 := fun _ _ => False) hA0 RO_rm hcs0 (fun _ => hq) (fun c => absurd ex c) (fun c => absurd ex c)
  · refine c_X12_farOf_7 hA0 RO_rm hcs0 (fun c => ?_) (fun _ => t_has (d := d + 1) (by omega)) ?_
    · rw [h0, le_nI (by omega) (by omega)] at c
      omega
    · rintro _ y g ⟨rfl, rfl⟩
      refine c_X12_farOf_21 hA0 RO_rm hcs0 (fun _ => t_around (d := d) hA0 hF hp) ?_ (fun c => ?_)
      · rintro c y g ⟨rfl, rfl⟩
        refine c_X12_farOf_34 ?_
        rw [nm1, nI_1]
        have e : ∀ k, bl (h.1 73) n (-1) (bt i) k ||| (arnd (h.1 73) (bl (h.1 73) n (-1) (bt i) k) n &&& (-1)) = bl (h.1 73) n (-1) (bt i) (k + 1) := fun _ => rfl
        rw [e]
        refine q (fun z hz => ?_)
        by_cases ez : z = k
        · subst ez
          cases hb : tb (bl (h.1 73) n (-1) (bt i) z) j with
          | false => rfl
          | true => rw [hb] at c; cases c
        · exact hno z (by omega)
      · have e : dstI (h.1 73) n (-1) i j = nI k := by
          unfold dstI dst
          rw [fstp_some (k := k) (Nat.zero_le _) (by omega) (by
            cases hb : tb (bl (h.1 73) n (-1) (bt i) k) j with
            | true => rfl
            | false => rw [hb] at c; exact absurd rfl c) (fun z _ hz => hno z hz)]
        rw [e] at hq
        exact hq
/-- masks that agree on the first n -/
theorem bl_mask {K : Nat → Int32} {n : Nat} {m m' f : Int32} (hK : KB K n) (hm : ∀ j, j < n → tb m j = tb m' j) : ∀ k, bl K n m f k = bl K n m' f k
  | 0 => rfl
  | k + 1 => by
    show bl K n m f k ||| (arnd K (bl K n m f k) n &&& m) = bl K n m' f k ||| (arnd K (bl K n m' f k) n &&& m')
    rw [bl_mask hK hm k]
    congr 1
    apply tb_ext
    intro j _
    rw [tb_and, tb_and]
    cases ha : tb (arnd K (bl K n m' f k) n) j with
    | false => rfl
    | true =>
      obtain ⟨i, h1, -, h3⟩ := tb_arnd.mp ha
      rw [hm j (hK i h1 j h3)]
theorem tb_m1f {n j : Nat} (hn : n ≤ 31) (hj : j < n) : tb (-1) j = tb (full n) j := by
  rw [tb_m1 (by omega), tb_full hn]
  simp [hj]
theorem dst_mask {K : Nat → Int32} {n : Nat} {m m' : Int32} (hK : KB K n) (hm : ∀ j, j < n → tb m j = tb m' j) (a b : Nat) : dst K n m a b = dst K n m' a b := by
  unfold dst
  congr 1
  funext k
  rw [bl_mask hK hm]
theorem dstI_mask {K : Nat → Int32} {n : Nat} {m m' : Int32} (hK : KB K n) (hm : ∀ j, j < n → tb m j = tb m' j) (a b : Nat) : dstI K n m a b = dstI K n m' a b := by
  unfold dstI
  rw [dst_mask hK hm]
theorem dstI_N {K : Nat → Int32} {n : Nat} {m : Int32} {a b : Nat} (hn : n ≤ 20) : (dstI K n m a b = -1 ∧ dstN K n m a b = n) ∨ (dstI K n m a b = nI (dstN K n m a b) ∧ dstN K n m a b < n ∧ dstI K n m a b ≠ -1) := by
  unfold dstI dstN
  cases hd : dst K n m a b with
  | none => exact Or.inl ⟨rfl, rfl⟩
  | some k =>
    have := (fstp_spec hd).2.1
    refine Or.inr ⟨rfl, by show k < n; omega, fun z => ?_⟩
    have h1 : ∀ k, k < 20 → nI k ≠ -1 := by decide
    exact h1 k (by omega) z
theorem t_sumOf {i : Nat} (hA0 : 91 ≤ nx) (hF : Fx h) (hp : MP h n) (hi : i < n) : Mk X (d + 3) m_X12_sumOf [.ref 68, .int (nI i)] h nx sz (RE (nI (sm (fun b => dstN (h.1 73) n (-1) i b) n)) h) := by
  obtain ⟨h0, h2, h20⟩ := id hp
  refine Mk.re fun Q hq => e_X12_sumOf (c_X12_sumOf_0 ?_)
  refine down_ind (N := n) (P := fun k => VM X m_X12_sumOf (d + 3) nx sz Q 4 [some (.ref 68), some (.int (nI i)), some (.int (nI (sm (fun b => dstN (h.1 73) n (-1) i b) k))), some (.int (nI k)), none] [] h) ?_ (fun k hk q => ?_)
  · have ex : h.1 68 1 ≤ nI n := by rw [h0]; exact Int32.le_refl _
    exact c_X12_sumOf_4 (P15 := fun _ _ => False) hA0 RO_rm hcs0 (fun _ => hq) (fun c => absurd ex c) (fun c => absurd ex c)
  · refine c_X12_sumOf_4 hA0 RO_rm hcs0 (fun c => ?_) (fun _ => t_farOf (d := d) hA0 hF hp hi hk) ?_
    · rw [h0, le_nI (by omega) (by omega)] at c
      omega
    · rintro _ y g ⟨rfl, rfl⟩
      have hdd := dstI_N (K := h.1 73) (m := -1) (a := i) (b := k) h20
      refine c_X12_sumOf_18 hA0 (fun c => ?_) (fun c => ?_)
      · rcases hdd with ⟨e, -⟩ | ⟨e, -, -⟩
        · exact absurd e c
        · rw [e, nI_1, nI_add]
          exact q
      · rcases hdd with ⟨-, e⟩ | ⟨-, -, e⟩
        · rw [h0, nI_1, nI_add]
          have : sm (fun b => dstN (h.1 73) n (-1) i b) (k + 1) = sm (fun b => dstN (h.1 73) n (-1) i b) k + n := by
            show _ + dstN (h.1 73) n (-1) i k = _
            rw [e]
          rw [this] at q
          exact q
        · exact absurd c e
end MOD
