/-! both sides' calls joined: text -/
section J
variable {X : CX} {nx sz n : Nat} {h g : AH}
theorem j_text0 (hA0 : 91 ≤ nx) (i : Inv h n) : Jn X m_X11_text [.ref 0, .int 0] m_X12_text [.ref 68, .int 0] h n nx sz := by
  have h20 := i.n20
  obtain ⟨⟨ln, T⟩, t1, t2⟩ := i.T
  have hL : ∀ k, k < n → ∃ l, l ≤ 9 ∧ h.1 3 k = nI l := fun k hk => by
    obtain ⟨l, l1, l2, -⟩ := i.ls k hk
    exact ⟨l, l1, l2⟩
  have rn : RN n (h.1 3) (ntV T ln n (h.1 3)).2 := by
    unfold ntV
    split
    · exact RN_0 hL
    · exact ntF_rn h20 _ _ _ (RN_0 hL)
  refine ⟨_, s_text0 (d := 56) hA0 i.F (i.P.np net1) t1 (fun x e => Nat.le_trans (ntV_le' e) t1.1), fun y g q => ?_⟩
  obtain ⟨g0, f0, r0, q⟩ := q
  have sc0' : Sc h g0 := f0.sc
  by_cases e : (ntV T ln n (h.1 3)).1 = none
  · rw [if_pos e] at q
    obtain ⟨rfl, rfl⟩ := q
    have cpR : cp (g0.1 26) (g0.1 2) = (ntV T ln n (h.1 3)).2 := by
      funext k
      unfold cp
      rw [cpy_at]
      by_cases q : k < 20
      · rw [if_pos q]
        exact r0 k q
      · rw [if_neg q, f0.2 2 (by decide), i.gs.z h20 (by omega), rn.1.z h20 (by omega)]
    rw [cpR]
    generalize hR : (ntV T ln n (h.1 3)).2 = R at *
    have hFg : Fx (setA (setI g0 23 1 0) 2 R) := (i.F.sc sc0').of rfl
    have hPg : MP (setA (setI g0 23 1 0) 2 R) n := (i.P.mp.sc sc0' : MP g0 n)
    have k75 : (setA (setI g0 23 1 0) 2 R).1 75 = h.1 3 := (f0.2 75 (by decide)).trans i.G.2.1
    have tt := t_text0 (X := X) (d := 56) (nx := nx) (sz := sz) (n := n) (T := T) (ln := ln) hA0 hFg hPg (by rw [k75]; exact hL) ⟨t2.1, (congrFun (f0.2 68 (by decide)) 7).trans t2.2.1, t2.2.2.1, fun k hk => (congrFun (f0.2 69 (by decide)) k).trans (t2.2.2.2 k hk)⟩
    refine tt.ri (fun y g' q => ?_)
    obtain ⟨g1, s1, r1, q⟩ := q
    rw [k75, if_pos e] at q
    rw [k75, hR] at r1
    obtain ⟨rfl, rfl⟩ := q
    have up : upto n (g1.1 74) (g1.1 73) = R := by
      funext k
      unfold upto
      by_cases q : k < n
      · rw [if_pos q]
        exact r1 k q
      · have e73 : g1.1 73 = h.1 2 := ((s1.row (a := 73) (fun j => rfl)).trans (show (setA (setI g0 23 1 0) 2 R).1 73 = h.1 73 from f0.2 73 (by decide))).trans i.G.1
        rw [if_neg q, e73]
        exact tb_ext fun b hb => by rw [i.gs.out k b (by omega), rn.1.out k b (by omega)]
    rw [up]
    have im : Inv (setA (setA h 2 R) 73 R) n := i.net2 Sc.rfl Sc.rfl rn.1 rn.2
    refine ⟨rfl, im.ft ⟨fun c j q1 q2 q3 q4 q5 => ?_, fun k j q => ?_⟩ ⟨0, Nat.zero_le _, ?_, ?_, fun k hk => by omega⟩⟩
    · show (if c = 68 ∧ j = 7 then 0 else (if c = 73 then R else g1.1 c) j) = _
      rw [if_neg q4]
      by_cases w : c = 73
      · rw [if_pos w, w, setA_self]
      · rw [if_neg w, s1.1 c j q1, setA_get_ne w]
        show (if c = 2 then R else (setI g0 23 1 0).1 c) j = _
        by_cases w2 : c = 2
        · rw [if_pos w2, w2, setA_self]
        · rw [if_neg w2, setA_get_ne w2]
          show (if c = 23 ∧ j = 1 then 0 else g0.1 c j) = _
          rw [if_neg q2, f0.2 c (fun z => by subst z; cases q1)]
    · exact (s1.2.1 k j q).trans (by show g0.2.2 k j = _; rw [f0.1]; rfl)
    · show g1.1 23 1 = nI 0
      rw [s1.1 23 1 rfl]
      rfl
    · rfl
  · rw [if_neg e] at q
    obtain ⟨rfl, rfl⟩ := q
    have ig := i.sc sc0'
    have k75 := i.k75 sc0'
    refine (t_text0 (d := 56) (T := T) (ln := ln) (n := n) hA0 ig.F ig.P.mp (by rw [k75]; exact hL) (mx_sc t2 sc0')).ri (fun y g' q => ?_)
    obtain ⟨g1, s1, r1, q⟩ := q
    rw [k75, if_neg e] at q
    obtain ⟨rfl, rfl⟩ := q
    exact ⟨rfl, ig.sc s1⟩
theorem j_text1 (hA0 : 91 ≤ nx) (i : Inv h n) : Jn X m_X11_text [.ref 0, .int 1] m_X12_text [.ref 68, .int 1] h n nx sz := by
  have h20 := i.n20
  obtain ⟨⟨ln, T⟩, t1, t2⟩ := i.T
  obtain ⟨m, C, TT', ll, hm, r1, r2, r3, r4⟩ := i.R
  by_cases full6 : m = 6
  · subst full6
    exact Jn.rd i (sc0 (s_text_full (d := 59) hA0 i.F r1 rfl)) (fun g s ig => sc1 (t_text_full (d := 59) hA0 ((s.1 68 8 rfl).trans r2)))
  have hm6 : m < 6 := by omega
  refine ⟨_, s_text1 (D := 39) hA0 i.F t1 r1 hm6, fun y g q => ?_⟩
  obtain ⟨g0, f0, q⟩ := q
  have sc0' : Sc h g0 := f0.sc
  cases e : (ruF T ln).1 with
  | none =>
    rw [e] at q
    obtain ⟨rfl, rfl⟩ := q
    have ig := i.sc sc0'
    refine (t_text1 (D := 27) (T := T) (ln := ln) (p := fun k => g.1 72 (ltrL.getD k 0)) hA0 ig.F (fun k hk => rfl) (mx_sc t2 sc0') ((sc0'.1 68 8 rfl).trans r2) hm6).ri (fun y g' q => ?_)
    obtain ⟨g1, s1, q⟩ := q
    rw [e] at q
    obtain ⟨rfl, rfl⟩ := q
    exact ⟨rfl, ig.sc s1⟩
  | some c =>
    rw [e] at q
    obtain ⟨rfl, ck, cl, eg⟩ := q
    have tt := t_text1 (X := X) (D := 27) (nx := nx) (sz := sz) (T := T) (ln := ln) (h := g) (p := fun k => g.1 72 (ltrL.getD k 0)) (r := m) hA0
    -- the class's heap behind, place by place
    have ga : ∀ a j, Scr a j = false → ¬ (a = 23 ∧ j = 1) → a ≠ 31 + m → ¬ (a = 37 ∧ j = m) → ¬ (a = 29 ∧ j = 4) → g.1 a j = h.1 a j := fun a j q1 q2 q3 q4 q5 => by
      rw [eg]
      show (if a = 29 ∧ j = 4 then _ else if a = 37 ∧ j = m then _ else (if a = 31 + m then _ else (setI g0 23 1 0).1 a) j) = _
      rw [if_neg q5, if_neg q4, if_neg q3]
      show (if a = 23 ∧ j = 1 then 0 else g0.1 a j) = _
      rw [if_neg q2]
      exact sc0'.1 a j q1
    have g2 : g.2 = g0.2 := by rw [eg]; rfl
    have hFg : Fx g := (i.F.sc sc0').of g2
    have mxg : MxH g (ln, T) := ⟨t2.1, (ga 68 7 rfl (by omega) (by omega) (by omega) (by omega)).trans t2.2.1, t2.2.2.1, fun k hk => (ga 69 k rfl (by omega) (by omega) (by omega) (by omega)).trans (t2.2.2.2 k hk)⟩
    refine (tt hFg (fun k hk => rfl) mxg ((ga 68 8 rfl (by omega) (by omega) (by omega) (by omega)).trans r2) hm6).ri (fun y g' q => ?_)
    obtain ⟨g1, s1, q⟩ := q
    rw [e] at q
    obtain ⟨rfl, eg'⟩ := q
    have ha : ∀ a j, Scr a j = false → ¬ (a = 23 ∧ j = 1) → a ≠ 31 + m → ¬ (a = 37 ∧ j = m) → ¬ (a = 29 ∧ j = 4) → a ≠ 70 → ¬ (a = 71 ∧ j = m) → ¬ (a = 68 ∧ j = 7) → ¬ (a = 68 ∧ j = 8) → g'.1 a j = h.1 a j := fun a j q1 q2 q3 q4 q5 q6 q7 q8 q9 => by
      rw [eg']
      show (if a = 68 ∧ j = 8 then _ else if a = 68 ∧ j = 7 then _ else if a = 71 ∧ j = m then _ else (if a = 70 then _ else g1.1 a) j) = _
      rw [if_neg q9, if_neg q8, if_neg q7, if_neg q6, s1.1 a j q1]
      exact ga a j q1 q2 q3 q4 q5
    have hr : ∀ a, (∀ j, Scr a j = false) → a ≠ 23 → a ≠ 31 + m → a ≠ 37 → a ≠ 29 → a ≠ 70 → a ≠ 71 → a ≠ 68 → g'.1 a = h.1 a := fun a q1 q2 q3 q4 q5 q6 q7 q8 => funext fun j => ha a j (q1 j) (fun z => q2 z.1) q3 (fun z => q4 z.1) (fun z => q5 z.1) q6 (fun z => q7 z.1) (fun z => q8 z.1) (fun z => q8 z.1)
    have h68 : ∀ j, Scr 68 j = false → j ≠ 7 → j ≠ 8 → g'.1 68 j = h.1 68 j := fun j q1 q7 q8 => ha 68 j q1 (by omega) (by omega) (by omega) (by omega) (by omega) (by omega) (by omega) (by omega)
    -- rows of the class that the other side leaves
    have gb : ∀ a j, Scr a j = false → a ≠ 70 → a ≠ 71 → a ≠ 68 → g'.1 a j = g.1 a j := fun a j q1 q2 q3 q4 => by
      rw [eg']
      show (if a = 68 ∧ j = 8 then _ else if a = 68 ∧ j = 7 then _ else if a = 71 ∧ j = m then _ else (if a = 70 then _ else g1.1 a) j) = _
      rw [if_neg (fun z => q4 z.1), if_neg (fun z => q4 z.1), if_neg (fun z => q3 z.1), if_neg q2]
      exact s1.1 a j q1
    have g23 : g.1 23 1 = 0 := by
      rw [eg, setI_row (by decide), setI_row (by decide), setA_get_ne (by omega)]
      rfl
    have g29 : g.1 29 4 = nI (m + 1) := by
      rw [eg]
      rfl
    have g37 : g.1 37 m = nI c.length := by
      rw [eg, setI_row (by decide)]
      exact if_pos ⟨rfl, rfl⟩
    have g31 : ∀ k, k < c.length → g.1 (31 + m) k = nI (c.getD k 0) := fun k hk => by
      rw [eg]
      show (if 31 + m = 29 ∧ k = 4 then _ else if 31 + m = 37 ∧ k = m then _ else (if 31 + m = 31 + m then va_cpy (g0.1 28) (g0.1 (31 + m)) 0 0 c.length else (setI g0 23 1 0).1 (31 + m)) k) = _
      rw [if_neg (by omega), if_neg (by omega), if_pos rfl, cpy_at, if_pos hk]
      exact ck.2 k hk
    have e71 : ∀ q, g'.1 71 q = if q = m then nI ln else h.1 71 q := fun q => by
      rw [eg', setI_row (by decide), setI_row (by decide)]
      show (if 71 = 71 ∧ q = m then nI ln else (setA g1 70 (lay m ln (g1.1 69) (g1.1 70))).1 71 q) = _
      by_cases w : q = m
      · rw [if_pos w, if_pos ⟨rfl, w⟩]
      · rw [if_neg w, if_neg (fun z => w z.2), setA_get_ne (by decide), s1.1 71 q rfl]
        exact ga 71 q rfl (by omega) (by omega) (by omega) (by omega)
    have e70 : ∀ k, g'.1 70 k = if 200 * m ≤ k ∧ k < 200 * m + ln then h.1 69 (k - 200 * m) else h.1 70 k := fun k => by
      rw [eg', setI_row (by decide), setI_row (by decide), setI_row (by decide), setA_self]
      unfold lay
      rw [s1.1 69 _ rfl, s1.1 70 _ rfl, ga 69 _ rfl (by omega) (by omega) (by omega) (by omega), ga 70 _ rfl (by omega) (by omega) (by omega) (by omega)]
    obtain ⟨hF, hP, hG, hT, hN, hI, hR⟩ := i
    have gd := (ruF_gd (T := T) (ln := ln)).2 c e
    refine ⟨rfl, fun k j q hq => ?_, hP.cg (fun b hb => ?_) (ha 0 0 rfl (by omega) (by omega) (by omega) (by omega) (by omega) (by omega) (by omega) (by omega)) (h68 1 rfl (by decide) (by decide)), ?_, ⟨0, Nat.zero_le _, (gb 23 1 rfl (by decide) (by decide) (by decide)).trans g23, by rw [eg']; rfl, fun k hk => by omega⟩, hN.cg (fun a q => hr _ (scr_need a q).1 (by omega) (by omega) (by omega) (by omega) (by omega) (by omega) (by omega)) (hr 83 (fun j => rfl) (by omega) (by omega) (by omega) (by omega) (by omega) (by omega) (by omega)) (hr 62 (fun j => rfl) (by omega) (by omega) (by omega) (by omega) (by omega) (by omega) (by omega)) (h68 30 rfl (by decide) (by decide)) (ha 40 3 rfl (by omega) (by omega) (by omega) (by omega) (by omega) (by omega) (by omega) (by omega)) (h68 31 rfl (by decide) (by decide)) (ha 40 4 rfl (by omega) (by omega) (by omega) (by omega) (by omega) (by omega) (by omega) (by omega)), hI.cg (h68 46 rfl (by decide) (by decide)) (ha 0 14 rfl (by omega) (by omega) (by omega) (by omega) (by omega) (by omega) (by omega) (by omega)) (fun p _ => ?_) (hr 6 (fun j => rfl) (by omega) (by omega) (by omega) (by omega) (by omega) (by omega) (by omega)) (hr 7 (fun j => rfl) (by omega) (by omega) (by omega) (by omega) (by omega) (by omega) (by omega)) (hr 8 (fun j => rfl) (by omega) (by omega) (by omega) (by omega) (by omega) (by omega) (by omega)) (hr 87 (fun j => rfl) (by omega) (by omega) (by omega) (by omega) (by omega) (by omega) (by omega)) (hr 88 (fun j => rfl) (by omega) (by omega) (by omega) (by omega) (by omega) (by omega) (by omega)) (hr 89 (fun j => rfl) (by omega) (by omega) (by omega) (by omega) (by omega) (by omega) (by omega)), m + 1, fun q => if q = m then c else C q, fun q => if q = m then T else TT' q, fun q => if q = m then ln else ll q, by omega, (gb 29 4 rfl (by decide) (by decide) (by decide)).trans g29, by rw [eg']; rfl, fun q hq => ?_, fun q hq => ?_⟩
    · have : g'.2.2 k j = h.2.2 k j := by
        have z : ¬ (k = 68 ∧ j = 6) := fun z => by rw [z.1, z.2] at hq; cases hq
        have e1 : g'.2.2 k j = g1.2.2 k j := by rw [eg']; rfl
        rw [e1, s1.2.1 k j z, g2]
        exact sc0'.2.1 k j z
      rw [this]
      exact hF k j q hq
    · rcases hb with rfl | rfl | rfl
      · exact ⟨ha 1 0 rfl (by omega) (by omega) (by omega) (by omega) (by omega) (by omega) (by omega) (by omega), ha 1 1 rfl (by omega) (by omega) (by omega) (by omega) (by omega) (by omega) (by omega) (by omega)⟩
      · exact ⟨ha 5 0 rfl (by omega) (by omega) (by omega) (by omega) (by omega) (by omega) (by omega) (by omega), ha 5 1 rfl (by omega) (by omega) (by omega) (by omega) (by omega) (by omega) (by omega) (by omega)⟩
      · exact ⟨ha 9 0 rfl (by omega) (by omega) (by omega) (by omega) (by omega) (by omega) (by omega) (by omega), ha 9 1 rfl (by omega) (by omega) (by omega) (by omega) (by omega) (by omega) (by omega) (by omega)⟩
    · unfold InvG
      rw [hr 2 (fun j => rfl) (by omega) (by omega) (by omega) (by omega) (by omega) (by omega) (by omega), hr 3 (fun j => rfl) (by omega) (by omega) (by omega) (by omega) (by omega) (by omega) (by omega), hr 4 (fun j => rfl) (by omega) (by omega) (by omega) (by omega) (by omega) (by omega) (by omega), hr 73 (fun j => rfl) (by omega) (by omega) (by omega) (by omega) (by omega) (by omega) (by omega), hr 75 (fun j => rfl) (by omega) (by omega) (by omega) (by omega) (by omega) (by omega) (by omega), hr 76 (fun j => rfl) (by omega) (by omega) (by omega) (by omega) (by omega) (by omega) (by omega)]
      exact hG
    · rw [hr 2 (fun j => rfl) (by omega) (by omega) (by omega) (by omega) (by omega) (by omega) (by omega), hr 3 (fun j => rfl) (by omega) (by omega) (by omega) (by omega) (by omega) (by omega) (by omega), hr 4 (fun j => rfl) (by omega) (by omega) (by omega) (by omega) (by omega) (by omega) (by omega)]
      exact ⟨rfl, rfl, rfl⟩
    · by_cases w : q = m
      · subst w
        show CodA g' q (if q = q then c else C q)
        rw [if_pos rfl]
        exact ⟨cl, (gb 37 q rfl (by decide) (by decide) (by decide)).trans g37, fun k hk => (gb (31 + q) k ((scr_code q hm6).1 k) (by omega) (by omega) (by omega)).trans (g31 k hk), gd.2.2⟩
      · show CodA g' q (if q = m then c else C q)
        rw [if_neg w]
        obtain ⟨c1, c2, c3, c4⟩ := r3 q (by omega)
        exact ⟨c1, (ha 37 q rfl (by omega) (by omega) (by omega) (by omega) (by omega) (by omega) (by omega) (by omega)).trans c2, fun k hk => (ha (31 + q) k ((scr_code q (by omega)).1 k) (by omega) (by omega) (by omega) (by omega) (by omega) (by omega) (by omega) (by omega)).trans (c3 k hk), c4⟩
    · by_cases w : q = m
      · subst w
        show RulA g' q (if q = q then T else TT' q) (if q = q then ln else ll q) (if q = q then c else C q)
        rw [if_pos rfl, if_pos rfl, if_pos rfl]
        refine ⟨t2.1, by rw [e71, if_pos rfl], t2.2.2.1, fun k hk => ?_, e⟩
        have hk : k < ln := hk
        rw [e70, if_pos ⟨by omega, by omega⟩, show 200 * q + k - 200 * q = k by omega]
        exact t2.2.2.2 k hk
      · show RulA g' q (if q = m then T else TT' q) (if q = m then ln else ll q) (if q = m then c else C q)
        rw [if_neg w, if_neg w, if_neg w]
        obtain ⟨c1, c2, c3, c4, c5⟩ := r4 q (by omega)
        refine ⟨c1, by rw [e71, if_neg w]; exact c2, c3, fun k hk => ?_, c5⟩
        rw [e70, if_neg (by omega)]
        exact c4 k hk
theorem j_text {x : Int32} (hA0 : 91 ≤ nx) (i : Inv h n) : Jn X m_X11_text [.ref 0, .int x] m_X12_text [.ref 68, .int x] h n nx sz := by
  by_cases z0 : x = 0
  · subst z0
    exact j_text0 hA0 i
  by_cases z1 : x = 1
  · subst z1
    exact j_text1 hA0 i
  · exact Jn.rd i (sc0 (s_text_bad (d := 59) hA0 i.F z0 z1)) (fun g s ig => sc1 (t_text_bad (d := 59) hA0 (n01 z0 z1)))
end J
