/-! SevenTown.Net: measure, copy; java.util.Arrays.fill -/
section NET
variable {X : CX} {d nx sz : Nat} {h : AH} {a n : Nat}
theorem s_fill {r N : Nat} {v : Int32} (hk : kd X r = (20, N)) (hl : r < nx) (hN : N < 2 ^ 31) : Mk X d m_J7_fill_53178 [.ref r, .int v] h nx sz (RV fun g => g.2 = h.2 ∧ (∀ b, b ≠ r → g.1 b = h.1 b) ∧ (∀ i, i < N → g.1 r i = v) ∧ ∀ i, N ≤ i → g.1 r i = h.1 r i) := by
  refine e_J7_fill_53178 (n_r0 := N) (c_J7_fill_53178_0 (n_r0 := N) hk hl ?_)
  have key : ∀ k i, i + k = N → ∀ g : AH, g.2 = h.2 → (∀ b, b ≠ r → g.1 b = h.1 b) → (∀ j, j < i → g.1 r j = v) → (∀ j, i ≤ j → g.1 r j = h.1 r j) → VM X m_J7_fill_53178 d nx sz (RV fun g => g.2 = h.2 ∧ (∀ b, b ≠ r → g.1 b = h.1 b) ∧ (∀ i, i < N → g.1 r i = v) ∧ ∀ i, N ≤ i → g.1 r i = h.1 r i) 5 [some (.ref r), some (.int v), some (.int (nI i)), some (.int (Int32.ofNat N))] [] g := by
    intro k
    induction k with
    | zero =>
      intro i hi g g1 g2 g3 g4
      have : i = N := by omega
      subst this
      exact c_J7_fill_53178_5 hk hl (fun _ => ⟨rfl, g1, g2, g3, g4⟩) (fun c => absurd (Int32.le_refl _) c) (fun c => absurd (Int32.le_refl _) c)
    | succ k ih =>
      intro i hi g g1 g2 g3 g4
      refine c_J7_fill_53178_5 hk hl (fun c => ?_) (fun _ => vin (by omega) hN) (fun _ => ?_)
      · have := (le_nI hN (by omega)).mp c
        omega
      · rw [nI_1, tN (by omega)]
        refine ih (i + 1) (by omega) _ ?_ ?_ ?_ ?_
        · exact g1
        · intro b hb
          rw [← g2 b hb]
          exact funext fun j => if_neg (fun z => hb z.1)
        · intro j hj
          rw [setI_self]
          by_cases e : j = i
          · simp [e]
          · simp only [e, if_false]
            exact g3 j (by omega)
        · intro j hj
          rw [setI_self]
          have e : j ≠ i := by omega
          simp only [e, if_false]
          exact g4 j (by omega)
  exact key N 0 (by omega) h rfl (fun _ _ => rfl) (fun j hj => by omega) (fun _ _ => rfl)
/-- a row of distances -/
theorem s_measure {i r : Nat} (hA0 : 91 ≤ nx) (hF : Fx h) (hp : NP h a n) (hi : i < n) (hk : kd X r = (20, 20)) (hl : r < nx) (hra : r ≠ a ∧ r ≠ a + 1) : Mk X (d + 1) m_X3_measure [.ref a, .int (nI i), .ref r] h nx sz (RV fun g => g.2 = h.2 ∧ (∀ b, b ≠ r → g.1 b = h.1 b) ∧ (∀ j, j < n → g.1 r j = dstI (h.1 (a + 1)) n (full n) i j)) := by
  obtain ⟨hn, h0, h1, h2, h20⟩ := id hp
  refine e_X3_measure (c_X3_measure_0 RO_rm hcs0 (s_fill (d := d) (v := -1) hk hl (by decide)) ?_)
  rintro g0 ⟨g1, g2, g3, -⟩
  refine c_X3_measure_5 ?_
  rw [bt_toInt32]
  generalize hK : h.1 (a + 1) = K
  have hKg : ∀ g : AH, (∀ b, b ≠ r → g.1 b = h.1 b) → NP g a n ∧ g.1 (a + 1) = K := fun g hg => ⟨⟨hn, by rw [hg a (Ne.symm hra.1)]; exact h0, by rw [hg a (Ne.symm hra.1)]; exact h1, h2, h20⟩, by rw [hg _ (Ne.symm hra.2)]; exact hK⟩
  generalize hQ : (RV fun g : AH => g.2 = h.2 ∧ (∀ b, b ≠ r → g.1 b = h.1 b) ∧ (∀ j, j < n → g.1 r j = dstI K n (full n) i j)) = Q
  have hm1 : ∀ {k j : Nat}, k < n → tb (fro K n (full n) (bt i) k) j = true → dstI K n (full n) i j = nI k := fun hk hj => by
    unfold dstI
    rw [dst_fro hk hj]
  have hno : ∀ {seen : Int32} {k j : Nat}, k ≤ n → ((k = 0 ∧ seen = 0) ∨ ∃ k', k = k' + 1 ∧ seen = bl K n (full n) (bt i) k') → (k = n ∨ fro K n (full n) (bt i) k = 0) → (if tb seen j then dstI K n (full n) i j else -1) = dstI K n (full n) i j := by
    intro seen k j hkn hs he
    by_cases ht : tb seen j = true
    · rw [if_pos ht]
    · rw [if_neg ht]
      rcases hs with ⟨rfl, rfl⟩ | ⟨k', rfl, rfl⟩
      · rcases he with he | he
        · omega
        · have he : bt i = 0 := he
          have := tb_bt (i := i) (j := i) (by omega)
          rw [he, tb_0] at this
          simp at this
      · have : dst K n (full n) i j = none := by
          refine dst_none (k := k') (fun z h3 h4 => ?_) (by simpa using ht)
          rcases he with he | he
          · rw [show z = k' by omega]
          · have e1 := fro_zero.mp he
            have e2 := bl_stop e1 (z - k')
            rwa [show k' + (z - k') = z by omega] at e2
        unfold dstI
        rw [this]
  have out : ∀ rr k, k + rr = n → ∀ seen : Int32, ((k = 0 ∧ seen = 0) ∨ ∃ k', k = k' + 1 ∧ seen = bl K n (full n) (bt i) k') → ∀ g : AH, g.2 = h.2 → (∀ b, b ≠ r → g.1 b = h.1 b) → (∀ j, j < n → g.1 r j = if tb seen j then dstI K n (full n) i j else -1) → VM X m_X3_measure (d + 1) nx sz Q 15 [some (.ref a), none, some (.ref r), some (.int seen), some (.int (fro K n (full n) (bt i) k)), some (.int (nI k)), none] [] g := by
    intro rr
    induction rr with
    | zero =>
      intro k hkn seen hs g e1 e2 e3
      obtain ⟨⟨-, f0, -⟩, -⟩ := hKg g e2
      have ex : g.1 a 0 ≤ nI k := by rw [f0, show k = n by omega]; exact Int32.le_refl _
      have hf : Q none g := by
        rw [← hQ]
        exact ⟨rfl, e1, e2, fun j hj => by rw [e3 j hj]; exact hno (by omega) hs (Or.inl (by omega))⟩
      exact c_X3_measure_15 hA0 hn (fun _ => hf) (fun c => absurd ex c) (fun c => absurd ex c)
    | succ rr ih =>
      intro k hkn seen hs g e1 e2 e3
      obtain ⟨⟨-, f0, -⟩, -⟩ := hKg g e2
      refine c_X3_measure_15 hA0 hn (fun c => ?_) (fun _ c => ?_) (fun _ hfr => ?_)
      · rw [f0, le_nI (by omega) (by omega)] at c
        omega
      · rw [← hQ]
        exact ⟨rfl, e1, e2, fun j hj => by rw [e3 j hj]; exact hno (by omega) hs (Or.inr c)⟩
      · have hsb : seen ||| fro K n (full n) (bt i) k = bl K n (full n) (bt i) k := by
          rcases hs with ⟨rfl, rfl⟩ | ⟨k', rfl, rfl⟩
          · apply tb_ext
            intro j _
            rw [tb_or, tb_0, Bool.false_or]
            rfl
          · exact bl_fro
        have inn : ∀ t i6, i6 + t = n → ∀ g : AH, g.2 = h.2 → (∀ b, b ≠ r → g.1 b = h.1 b) → (∀ j, j < n → g.1 r j = if tb seen j = true ∨ (j < i6 ∧ tb (fro K n (full n) (bt i) k) j = true) then dstI K n (full n) i j else -1) → VM X m_X3_measure (d + 1) nx sz Q 32 [some (.ref a), none, some (.ref r), some (.int seen), some (.int (fro K n (full n) (bt i) k)), some (.int (nI k)), some (.int (nI i6))] [] g := by
          intro t
          induction t with
          | zero =>
            intro i6 hi6 g e1 e2 e3
            obtain ⟨hpg, hKg2⟩ := hKg g e2
            obtain ⟨-, f0, f1, -⟩ := id hpg
            have ex : g.1 a 0 ≤ nI i6 := by rw [f0, show i6 = n by omega]; exact Int32.le_refl _
            refine c_X3_measure_32 (P86_1 := fun _ _ => False) hA0 hn RO_rm hcs0 hk hl (fun _ => s_around (d := d) hA0 (hF.of e1) hpg) ?_ (fun c => absurd ex c) (fun c => absurd ex c) (fun c => absurd ex c) (fun c => absurd ex c) (fun c => absurd ex c)
            rintro _ y g' ⟨rfl, rfl⟩
            refine c_X3_measure_89 ?_
            rw [hKg2, f1, hsb, nI_1]
            have e : arnd K (fro K n (full n) (bt i) k) n &&& (full n &&& (bl K n (full n) (bt i) k ^^^ (-1))) = fro K n (full n) (bt i) (k + 1) := rfl
            rw [e]
            refine ih (k + 1) (by omega) _ (Or.inr ⟨k, rfl, rfl⟩) g e1 e2 (fun j hj => ?_)
            rw [e3 j hj, ← hsb, tb_or]
            have : j < i6 := by omega
            simp only [this, true_and, Bool.or_eq_true]
          | succ t iht =>
            intro i6 hi6 g e1 e2 e3
            obtain ⟨hpg, hKg2⟩ := hKg g e2
            obtain ⟨-, f0, f1, -⟩ := id hpg
            have ex : ¬ g.1 a 0 ≤ nI i6 := fun c => by
              rw [f0, le_nI (by omega) (by omega)] at c
              omega
            have ex2 : ¬ (20 : Int32) ≤ nI i6 := fun c => by
              have := (le_nI (a := 20) (by omega) (by omega)).mp c
              omega
            refine c_X3_measure_32 (P86 := fun _ _ => False) (P86_1 := fun _ _ => False) hA0 hn RO_rm hcs0 hk hl (fun c => absurd c ex) (fun c => absurd c ex) (fun _ c => absurd c ex2) (fun _ c => absurd c ex2) (fun _ _ c => ?_) (fun _ _ _ => vin (by omega) (by decide)) (fun _ _ c => ?_)
            · rw [shr_eq0 (by omega)] at c
              rw [nI_1]
              refine iht (i6 + 1) (by omega) g e1 e2 (fun j hj => ?_)
              rw [e3 j hj]
              by_cases ej : j = i6
              · subst ej
                simp [c]
              · have e4 : (j < i6 + 1) ↔ (j < i6) := by omega
                simp only [e4]
            · rw [shr_eq0 (by omega)] at c
              rw [nI_1, tN (by omega)]
              refine iht (i6 + 1) (by omega) _ e1 (fun b hb => ?_) (fun j hj => ?_)
              · rw [← e2 b hb]
                exact funext fun j => if_neg (fun z => hb z.1)
              · rw [setI_self]
                by_cases ej : j = i6
                · subst ej
                  have c' : tb (fro K n (full n) (bt i) k) j = true := by simpa using c
                  simp only [if_true]
                  rw [if_pos (Or.inr ⟨by omega, c'⟩), hm1 (by omega) c']
                · simp only [ej, if_false]
                  rw [e3 j hj]
                  have e4 : (j < i6 + 1) ↔ (j < i6) := by omega
                  simp only [e4]
        exact inn n 0 (by omega) g e1 e2 (fun j hj => by rw [e3 j hj]; simp)
  exact out n 0 (by omega) 0 (Or.inl ⟨rfl, rfl⟩) g0 g1 g2 (fun j hj => by rw [g3 j (by omega), tb_0]; rfl)
/-- as the other net is -/
theorem s_copy {b : Nat} (hA0 : 91 ≤ nx) (hF : Fx h) (ha : IsNet a) (hb : IsNet b) (hab : a ≠ b) : Mk X (d + 1) m_X3_copy [.ref a, .ref b] h nx sz (RV fun g => g.2 = h.2 ∧ (∀ c, c ≠ a + 1 → c ≠ a + 2 → c ≠ a + 3 → g.1 c = h.1 c) ∧ ∀ j, j < 20 → g.1 (a + 1) j = h.1 (b + 1) j ∧ g.1 (a + 2) j = h.1 (b + 2) j ∧ g.1 (a + 3) j = h.1 (b + 3) j) := by
  refine e_X3_copy (c_X3_copy_0 (d := d) (hA0 := hA0) (hF := hF) (hR := RO_rm) (hcs := hcs0) (hn_r0 := ha) (hn_r1 := hb) (hq := ⟨rfl, rfl, fun c h1 h2 h3 => ?_, fun j hj => ?_⟩))
  · simp [setA, h1, h2, h3]
  · have hb1 : b + 1 ≠ a + 1 ∧ b + 1 ≠ a + 2 ∧ b + 1 ≠ a + 3 ∧ b + 2 ≠ a + 1 ∧ b + 2 ≠ a + 2 ∧ b + 2 ≠ a + 3 ∧ b + 3 ≠ a + 1 ∧ b + 3 ≠ a + 2 ∧ b + 3 ≠ a + 3 := by
      rcases ha with rfl | rfl | rfl <;> rcases hb with rfl | rfl | rfl <;> first | exact absurd rfl hab | decide
    obtain ⟨n1, n2, n3, n4, n5, n6, n7, n8, n9⟩ := hb1
    refine ⟨?_, ?_, ?_⟩ <;> simp [setA, va_cpy, hj, n1, n2, n3, n4, n5, n6, n7, n8, n9]
end NET
