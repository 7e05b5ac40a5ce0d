/-! ways -/
def nL (k : Nat) : Int64 := Int64.ofNat k
theorem nL_add {a b : Nat} : nL a + nL b = nL (a + b) := (Int64.ofNat_add a b).symm
theorem nL_mul {a b : Nat} : nL a * nL b = nL (a * b) := (Int64.ofNat_mul a b).symm
section OPS
variable {X : CX} {d nx sz : Nat} {h : AH} {n : Nat}
theorem fro_iff {K : Nat → Int32} {m : Int32} {a c k : Nat} (hk : k < n) : tb (fro K n m (bt a) k) c = true ↔ dst K n m a c = some k := by
  constructor
  · exact dst_fro hk
  · intro h
    obtain ⟨h1, h2, h3⟩ := dst_iff.mp h
    refine (tb_fro k c).mpr ⟨h2, fun k' e => ?_⟩
    cases hq : tb (bl K n m (bt a) k') c with
    | false => rfl
    | true => exact absurd hq (h3 k' (by omega))
theorem s_waysOver {x : Int32} {w : Nat → Nat} (hA0 : 91 ≤ nx) (hF : Fx h) (hP : NP h 1 n) (hw : ∀ c, c < n → tb x c = true → h.2.1 14 c = nL (w c)) : Mk X d m_X5_waysOver [.ref 13, .int x] h nx sz (RJE (nL (sm (fun c => if tb x c = true then w c else 0) n)) h) := by
  obtain ⟨hn, h0, h1, h2, h20⟩ := id hP
  refine Mk.rj fun Q hq => e_X5_waysOver (c_X5_waysOver_0 ?_)
  refine down_ind (N := n) (P := fun i => VM X m_X5_waysOver d nx sz Q 5 [some (.ref 13), some (.int x), some (.long (nL (sm (fun c => if tb x c = true then w c else 0) i))), none, some (.int (nI i))] [] h) ?_ (fun i hi q => ?_)
  · have ex : h.1 1 0 ≤ nI n := by rw [h0]; exact Int32.le_refl _
    exact c_X5_waysOver_5 hA0 hF (fun _ => hq) (fun c => absurd ex c) (fun c => absurd ex c) (fun c => absurd ex c)
  · have e1 : sm (fun c => if tb x c = true then w c else 0) (i + 1) = sm (fun c => if tb x c = true then w c else 0) i + (if tb x i = true then w i else 0) := rfl
    rw [e1] at q
    refine c_X5_waysOver_5 hA0 hF (fun c => ?_) (fun _ c => ?_) (fun _ _ => vin (by omega) (by decide)) (fun _ c => ?_)
    · rw [h0, le_nI (by omega) (by omega)] at c
      omega
    · rw [shr_eq0 (by omega)] at c
      rw [if_neg (by rw [c]; decide)] at q
      rw [nI_1]
      exact q
    · rw [shr_eq0 (by omega)] at c
      have c : tb x i = true := by simpa using c
      rw [if_pos c] at q
      rw [nI_1, tN (by omega), hw i hi c, nL_add]
      exact q
theorem Fx.l {g : AH} (hF : Fx h) (e : g.2.2 = h.2.2) : Fx g := fun k j r hr => by rw [e]; exact hF k j r hr
theorem s_waysBetween {a b D : Nat} (hA0 : 91 ≤ nx) (hF : Fx h) (hP : InvP h n) (hg : Gr n (h.1 2)) (ha : a < n) (hb : b < n) (hD : dst (h.1 2) n (full n) a b = some D) : Mk X (d + 1) m_X5_waysBetween [.ref 13, .int (nI a), .int (nI b)] h nx sz (RJ fun y g => y = nL (Wn (h.1 2) n a D b) ∧ g.1 = h.1 ∧ g.2.2 = h.2.2) := by
  have h20 := hP.2.1
  have h2 := hP.1
  obtain ⟨D1, D2, D3⟩ := dst_iff.mp hD
  refine e_X5_waysBetween (c_X5_waysBetween_0 hA0 hF (vin (by omega) (by decide)) ?_)
  rw [bt_toInt32, tN (by omega)]
  have NPg : ∀ g : AH, g.1 = h.1 → NP g 1 n := fun g e => by
    have := hP.np net1
    exact ⟨this.1, by rw [e]; exact this.2.1, by rw [e]; exact this.2.2.1, this.2.2.2⟩
  have fin : ∀ g : AH, g.1 = h.1 → g.2.2 = h.2.2 → g.2.1 14 b = nL (Wn (h.1 2) n a D b) → (RJ fun y g => y = nL (Wn (h.1 2) n a D b) ∧ g.1 = h.1 ∧ g.2.2 = h.2.2) (some (.long (g.2.1 14 b))) g := fun g e1 e2 e3 => ⟨_, rfl, e3, e1, e2⟩
  have key : ∀ g : AH, g.1 = h.1 → g.2.2 = h.2.2 → (∀ c, c < n → ∀ j, j ≤ 0 → dst (h.1 2) n (full n) a c = some j → g.2.1 14 c = nL (Wn (h.1 2) n a j c)) → VM X m_X5_waysBetween (d + 1) nx sz (RJ fun y g => y = nL (Wn (h.1 2) n a D b) ∧ g.1 = h.1 ∧ g.2.2 = h.2.2) 17 [some (.ref 13), none, some (.int (nI b)), some (.int (bl (h.1 2) n (full n) (bt a) 0)), some (.int (fro (h.1 2) n (full n) (bt a) 0)), some (.int (nI (0 + 1))), none, none] [] g := by
    refine down_ind (N := n - 1) (P := fun k => ∀ g : AH, g.1 = h.1 → g.2.2 = h.2.2 → (∀ c, c < n → ∀ j, j ≤ k → dst (h.1 2) n (full n) a c = some j → g.2.1 14 c = nL (Wn (h.1 2) n a j c)) → VM X m_X5_waysBetween (d + 1) nx sz (RJ fun y g => y = nL (Wn (h.1 2) n a D b) ∧ g.1 = h.1 ∧ g.2.2 = h.2.2) 17 [some (.ref 13), none, some (.int (nI b)), some (.int (bl (h.1 2) n (full n) (bt a) k)), some (.int (fro (h.1 2) n (full n) (bt a) k)), some (.int (nI (k + 1))), none, none] [] g) (fun g e1 e2 e3 => ?_) (fun k hk q g e1 e2 e3 => ?_)
    · obtain ⟨-, h0, -⟩ := NPg g e1
      have ex : g.1 1 0 ≤ nI (n - 1 + 1) := by rw [h0, show n - 1 + 1 = n by omega]; exact Int32.le_refl _
      refine c_X5_waysBetween_17 (d := d) (P51 := fun _ _ => False) hA0 (hF.l e2) RO_rm hcs0 (fun _ => vin (by omega) (by decide)) (fun _ => ?_) (fun c => absurd ex c) (fun c => absurd ex c) (fun c => absurd ex c) (fun c => absurd ex c)
      rw [tN (by omega)]
      exact fin g e1 e2 (e3 b hb D (by omega) hD)
    · obtain ⟨hn, h0, h1, -⟩ := NPg g e1
      refine c_X5_waysBetween_17 hA0 (hF.l e2) RO_rm hcs0 (fun c => ?_) (fun c => ?_) (fun _ _ => vin (by omega) (by decide)) (fun _ c => ?_) (fun _ _ => s_around (d := d) hA0 (hF.l e2) (NPg g e1)) ?_
      · rw [h0, le_nI (by omega) (by omega)] at c
        omega
      · rw [h0, le_nI (by omega) (by omega)] at c
        omega
      · rw [tN (by omega)]
        refine fin g e1 e2 (e3 b hb D ?_ hD)
        refine Classical.byContradiction fun z => D3 k (by omega) ?_
        have := fro_stop c (j := D) (by omega)
        have D2 : tb (bl (h.1 2) n (full n) (bt a) D) b = true := D2
        rw [this] at D2
        exact D2
      · rintro _ _ y g' ⟨rfl, rfl⟩
        have ef : arnd (g.1 (1 + 1)) (fro (h.1 2) n (full n) (bt a) k) n &&& (g.1 1 1 &&& (bl (h.1 2) n (full n) (bt a) k ^^^ (-1))) = fro (h.1 2) n (full n) (bt a) (k + 1) := by rw [h1, e1]; rfl
        rw [ef]
        refine c_X5_waysBetween_54 ?_
        have inner : ∀ g2 : AH, g2.1 = h.1 → g2.2.2 = h.2.2 → (∀ c, c < n → (∀ j, j ≤ k → dst (h.1 2) n (full n) a c = some j → g2.2.1 14 c = nL (Wn (h.1 2) n a j c)) ∧ (c < 0 → dst (h.1 2) n (full n) a c = some (k + 1) → g2.2.1 14 c = nL (Wn (h.1 2) n a (k + 1) c))) → VM X m_X5_waysBetween (d + 1) nx sz (RJ fun y g => y = nL (Wn (h.1 2) n a D b) ∧ g.1 = h.1 ∧ g.2.2 = h.2.2) 59 [some (.ref 13), none, some (.int (nI b)), some (.int (bl (h.1 2) n (full n) (bt a) k)), some (.int (fro (h.1 2) n (full n) (bt a) k)), some (.int (nI (k + 1))), some (.int (fro (h.1 2) n (full n) (bt a) (k + 1))), some (.int (nI 0))] [] g2 := by
          refine down_ind (N := n) (P := fun i => ∀ g2 : AH, g2.1 = h.1 → g2.2.2 = h.2.2 → (∀ c, c < n → (∀ j, j ≤ k → dst (h.1 2) n (full n) a c = some j → g2.2.1 14 c = nL (Wn (h.1 2) n a j c)) ∧ (c < i → dst (h.1 2) n (full n) a c = some (k + 1) → g2.2.1 14 c = nL (Wn (h.1 2) n a (k + 1) c))) → VM X m_X5_waysBetween (d + 1) nx sz (RJ fun y g => y = nL (Wn (h.1 2) n a D b) ∧ g.1 = h.1 ∧ g.2.2 = h.2.2) 59 [some (.ref 13), none, some (.int (nI b)), some (.int (bl (h.1 2) n (full n) (bt a) k)), some (.int (fro (h.1 2) n (full n) (bt a) k)), some (.int (nI (k + 1))), some (.int (fro (h.1 2) n (full n) (bt a) (k + 1))), some (.int (nI i))] [] g2) (fun g2 f1 f2 f3 => ?_) (fun i hi q2 g2 f1 f2 f3 => ?_)
          · have ex : g2.1 1 0 ≤ nI n := by rw [f1, (hP.np net1).2.1]; exact Int32.le_refl _
            refine c_X5_waysBetween_59 (d := d) (P101 := fun _ _ => False) hA0 (hF.l f2) RO_rm hcs0 (fun _ => ?_) (fun c => absurd ex c) (fun c => absurd ex c) (fun c => absurd ex c) (fun c => absurd ex c)
            rw [nI_1, bl_fro]
            refine q g2 f1 f2 fun c hc j hj hd => ?_
            by_cases e : j ≤ k
            · exact (f3 c hc).1 j e hd
            · have : j = k + 1 := by omega
              subst this
              exact (f3 c hc).2 hc hd
          · have wk : ∀ c, c < n → tb (fro (h.1 2) n (full n) (bt a) k &&& h.1 2 i) c = true → g2.2.1 14 c = nL (Wn (h.1 2) n a k c) := fun c hc hb2 => by
              rw [tb_and, Bool.and_eq_true] at hb2
              exact (f3 c hc).1 k (Nat.le_refl _) ((fro_iff (by omega)).mp hb2.1)
            refine c_X5_waysBetween_59 hA0 (hF.l f2) RO_rm hcs0 (P101 := fun y g => y = nL (sm (fun c => if tb (fro (h.1 2) n (full n) (bt a) k &&& h.1 2 i) c = true then Wn (h.1 2) n a k c else 0) n) ∧ g2 = g) (fun c => ?_) (fun _ c => ?_) (fun _ _ => vin (by omega) (by decide)) (fun _ _ => ?_) ?_
            · rw [f1, (hP.np net1).2.1, le_nI (by omega) (by omega)] at c
              omega
            · rw [shr_eq0 (by omega)] at c
              rw [nI_1]
              refine q2 g2 f1 f2 fun c2 hc2 => ⟨(f3 c2 hc2).1, fun hl hd => ?_⟩
              by_cases e : c2 = i
              · subst e
                rw [(fro_iff (by omega)).mpr hd] at c
                cases c
              · exact (f3 c2 hc2).2 (by omega) hd
            · rw [tN (by omega), f1]
              exact s_waysOver (d := d) (h := g2) hA0 (hF.l f2) (NPg g2 f1) wk
            · rintro _ c y g3 ⟨rfl, rfl⟩
              rw [shr_eq0 (by omega)] at c
              have hdi : dst (h.1 2) n (full n) a i = some (k + 1) := (fro_iff (by omega)).mp (by simpa using c)
              have ew : sm (fun c => if tb (fro (h.1 2) n (full n) (bt a) k &&& h.1 2 i) c = true then Wn (h.1 2) n a k c else 0) n = Wn (h.1 2) n a (k + 1) i := by
                rw [Wn_level hg h20 ha hi hdi]
                refine sm_cong fun c hc => ?_
                have : (tb (fro (h.1 2) n (full n) (bt a) k &&& h.1 2 i) c = true) ↔ (dst (h.1 2) n (full n) a c = some k ∧ tb (h.1 2 i) c = true) := by
                  rw [tb_and, Bool.and_eq_true, fro_iff (by omega)]
                by_cases z : tb (fro (h.1 2) n (full n) (bt a) k &&& h.1 2 i) c = true
                · rw [if_pos z, if_pos (this.mp z)]
                · rw [if_neg z, if_neg (fun w => z (this.mpr w))]
              rw [ew]
              refine c_X5_waysBetween_104 hA0 (vin (by omega) (by decide)) ?_
              rw [nI_1, tN (by omega)]
              refine q2 _ f1 f2 fun c2 hc2 => ?_
              have el : (setL g2 14 i (nL (Wn (h.1 2) n a (k + 1) i))).2.1 14 c2 = if c2 = i then nL (Wn (h.1 2) n a (k + 1) i) else g2.2.1 14 c2 := by
                show (if 14 = 14 ∧ c2 = i then _ else _) = _
                by_cases e : c2 = i <;> simp [e]
              rw [el]
              by_cases e : c2 = i
              · subst e
                rw [if_pos rfl]
                refine ⟨fun j hj hd => ?_, fun _ _ => rfl⟩
                rw [hdi] at hd
                cases hd
                omega
              · rw [if_neg e]
                exact ⟨(f3 c2 hc2).1, fun hl => (f3 c2 hc2).2 (by omega)⟩
        exact inner g e1 e2 fun c hc => ⟨e3 c hc, fun z => by omega⟩
  refine key (setL h 14 a 1) rfl rfl fun c hc j hj hd => ?_
  have : j = 0 := by omega
  subst this
  have := (W_0 (by omega)).mp (dst_iff.mp hd).2.1
  subst this
  show (if 14 = 14 ∧ a = a then (1 : Int64) else _) = nL (if a = a then 1 else 0)
  rw [if_pos ⟨rfl, rfl⟩, if_pos rfl]
  rfl
/-- what ways answers -/
def wyV (K : Nat → Int32) (n a b : Nat) : Int64 := match dst K n (full n) a b with
  | some D => nL (Wn K n a D b)
  | none => -1
theorem Sc.long {g : AH} (e1 : g.1 = h.1) (e2 : g.2.2 = h.2.2) : Sc h g := ⟨fun a j _ => by rw [e1], fun k j _ => by rw [e2], fun t => by unfold TXT at *; rw [e2]; exact t⟩
theorem s_ways_bad {x y : Int32} (hA0 : 91 ≤ nx) (hF : Fx h) (hp : InvP h n) (c : ¬ (hasI n x = 1 ∧ hasI n y = 1)) : Mk X (d + 3) m_X11_ways [.ref 0, .int x, .int y] h nx sz (RJE (-1) h) := by
  refine Mk.rj fun Q hq => e_X11_ways (c_X11_ways_0 hA0 RO_rm hcs0 (s_far (d := d) hA0 hF hp) ?_)
  rintro y0 g ⟨rfl, rfl⟩
  have e : farI n (h.1 2) x y = -1 := if_neg c
  exact c_X11_ways_6 (P22 := fun _ _ => False) hA0 hF RO_rm hcs0 (fun z => absurd e z) (fun z => absurd e z) (fun _ => c_X11_ways_25 hq)
theorem s_ways {a b : Nat} (hA0 : 91 ≤ nx) (hF : Fx h) (hp : InvP h n) (hg : Gr n (h.1 2)) (ha : a < n) (hb : b < n) : Mk X (d + 3) m_X11_ways [.ref 0, .int (nI a), .int (nI b)] h nx sz (RJ fun y g => y = wyV (h.1 2) n a b ∧ Sc h g) := by
  have h20 := hp.2.1
  refine e_X11_ways (c_X11_ways_0 hA0 RO_rm hcs0 (s_far (d := d) hA0 hF hp) ?_)
  rintro y0 g ⟨rfl, rfl⟩
  have e : farI n (h.1 2) (nI a) (nI b) = dstI (h.1 2) n (full n) a b := by
    unfold farI
    rw [if_pos ⟨hasI_nI (by omega) ha, hasI_nI (by omega) hb⟩, tN (by omega), tN (by omega)]
  rw [e]
  cases hD : dst (h.1 2) n (full n) a b with
  | none =>
    have e1 : dstI (h.1 2) n (full n) a b = -1 := by unfold dstI; rw [hD]
    have e2 : wyV (h.1 2) n a b = -1 := by unfold wyV; rw [hD]
    rw [e1, e2]
    exact c_X11_ways_6 (d := d + 2) (P22 := fun _ _ => False) hA0 hF RO_rm hcs0 (fun z => absurd rfl z) (fun z => absurd rfl z) (fun _ => c_X11_ways_25 ⟨_, rfl, rfl, Sc.rfl⟩)
  | some D =>
    have e1 : dstI (h.1 2) n (full n) a b = nI D := by unfold dstI; rw [hD]
    have e2 : wyV (h.1 2) n a b = nL (Wn (h.1 2) n a D b) := by unfold wyV; rw [hD]
    have hD1 := (dst_iff.mp hD).1
    have nm : ¬ nI D = -1 := by
      have : ∀ k, k < 20 → ¬ nI k = -1 := by decide
      exact this D (by omega)
    rw [e1, e2]
    refine c_X11_ways_6 hA0 hF RO_rm hcs0 (fun _ => s_waysBetween (d := d + 1) hA0 hF hp hg ha hb hD) ?_ (fun z => absurd z nm)
    rintro _ y g ⟨rfl, g1, g2⟩
    exact c_X11_ways_25 ⟨_, rfl, rfl, Sc.long g1 g2⟩
end OPS
