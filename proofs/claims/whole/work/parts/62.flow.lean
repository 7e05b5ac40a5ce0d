/-! rows that share nobody: the class -/
section OPS
variable {X : CX} {d nx sz : Nat} {h : AH} {n : Nat}
def vdB (n u : Nat) : Bool := decide (u < n) || (decide (20 ≤ u) && decide (u < 20 + n))
/-- arcs, as the row of longs has them -/
def Rc (h : AH) (n : Nat) : Arc := fun u v => vdB n u && (vdB n v && tbL (h.2.1 17 u) v)
theorem vd_40 {n u : Nat} (hn : n ≤ 20) (h : vdB n u = true) : u < 40 := by
  simp [vdB] at h
  omega
/-- a good one leads to good ones alone -/
def CLo (h : AH) (n : Nat) : Prop := ∀ u, vdB n u = true → ∀ v, v < 40 → tbL (h.2.1 17 u) v = true → vdB n v = true
theorem Rc_iff {u v : Nat} : Rc h n u v = true ↔ vdB n u = true ∧ vdB n v = true ∧ tbL (h.2.1 17 u) v = true := by simp [Rc]
theorem Rc_cong {g : AH} (e : g.2.1 = h.2.1) : Rc g n = Rc h n := by unfold Rc; rw [e]
theorem CLo.cong {g : AH} (c : CLo h n) (e : g.2.1 = h.2.1) : CLo g n := by unfold CLo; rw [e]; exact c
theorem setL_at {g : AH} {a i k j : Nat} {x : Int64} : (setL g a i x).2.1 k j = if k = a ∧ j = i then x else g.2.1 k j := rfl
def turn1 (g : AH) (b x : Nat) : AH := setL (setL g 17 b (g.2.1 17 b &&& (btL x ^^^ (-1)))) 17 x (g.2.1 17 x ||| btL b)
theorem turn1_at {g : AH} {b x u v : Nat} (hb : b < 40) (hx : x < 40) (hbx : b ≠ x) (hv : v < 40) : tbL ((turn1 g b x).2.1 17 u) v = (if u = b ∧ v = x then false else if u = x ∧ v = b then true else tbL (g.2.1 17 u) v) := by
  unfold turn1
  rw [setL_at, setL_at]
  by_cases e1 : u = x
  · subst e1
    rw [if_pos ⟨rfl, rfl⟩, if_neg (fun z => hbx z.1.symm), tbL_or, tbL_bt hb (by omega)]
    by_cases e2 : v = b
    · rw [if_pos ⟨rfl, e2⟩, decide_eq_true e2.symm, Bool.or_true]
    · rw [if_neg (fun z => e2 z.2), decide_eq_false (fun z => e2 z.symm), Bool.or_false]
  · rw [if_neg (fun z => e1 z.2)]
    by_cases e3 : u = b
    · subst e3
      rw [if_pos ⟨rfl, rfl⟩, tbL_and, tbL_not (by omega), tbL_bt hx (by omega)]
      by_cases e2 : v = x
      · rw [if_pos ⟨rfl, e2⟩, decide_eq_true e2.symm]
        simp
      · rw [if_neg (fun z => e2 z.2), if_neg (fun z => e1 z.1), decide_eq_false (fun z => e2 z.symm)]
        simp
    · rw [if_neg (fun z => e3 z.2), if_neg (fun z => e3 z.1), if_neg (fun z => e1 z.1)]
theorem turn1_Rc {g : AH} {b x : Nat} (hn : n ≤ 20) (hb : vdB n b = true) (hx : vdB n x = true) (hbx : b ≠ x) : Rc (turn1 g b x) n = flp (Rc g n) b x := by
  funext u v
  unfold flp
  by_cases hv : vdB n v = true
  · have := turn1_at (g := g) (u := u) (vd_40 hn hb) (vd_40 hn hx) hbx (vd_40 hn hv)
    show (vdB n u && (vdB n v && tbL ((turn1 g b x).2.1 17 u) v)) = _
    rw [this]
    by_cases e1 : u = b ∧ v = x
    · rw [if_pos e1, if_pos e1]
      simp
    · rw [if_neg e1, if_neg e1]
      by_cases e2 : u = x ∧ v = b
      · rw [if_pos e2, if_pos e2, e2.1, e2.2, hx, hb]
        rfl
      · rw [if_neg e2, if_neg e2]
        rfl
  · have hv : vdB n v = false := by simpa using hv
    show (vdB n u && (vdB n v && _)) = _
    rw [if_neg (fun z => by rw [z.2, hx] at hv; cases hv), if_neg (fun z => by rw [z.2, hb] at hv; cases hv)]
    unfold Rc
    rw [hv]
    rfl
theorem turn1_CL {g : AH} {b x : Nat} (hn : n ≤ 20) (hb : vdB n b = true) (hx : vdB n x = true) (hbx : b ≠ x) (c : CLo g n) : CLo (turn1 g b x) n := by
  intro u hu v hv h1
  rw [turn1_at (vd_40 hn hb) (vd_40 hn hx) hbx hv] at h1
  split at h1
  · cases h1
  · split at h1
    next e => rw [e.2]; exact hb
    next => exact c u hu v hv h1
theorem s_turn5 {Q : Option Value → AH → Prop} {s w : Nat} {q P r : Nat → Nat} {see : Nat → Bool} (hA0 : 91 ≤ nx) (hF : Fx h) (hn : n ≤ 20) (B : BI (Rc h n) s w q P r see) (hP : ∀ x, x < 40 → see x = true → x ≠ s → h.1 18 x = nI (P x)) (hv : ∀ x, x < 40 → see x = true → vdB n x = true) : ∀ (k i x : Nat) (g : AH), i + k = 40 → r x < k → x < 40 → see x = true → g.1 = h.1 → g.2.2 = h.2.2 → CLo g n → (∀ g', g'.1 = h.1 → g'.2.2 = h.2.2 → CLo g' n → Rc g' n = trn P s k x (Rc g n) → Q none g') → VM X m_X5_turnRow d nx sz Q 5 [some (.ref 13), some (.int (nI s)), none, some (.int (nI x)), some (.int (nI i)), none] [] g
  | 0, i, x, g, h1, h2, _, _, _, _, _, _ => by omega
  | k + 1, i, x, g, h1, h2, hx, hse, g1, g2, c, hq => by
    have hs := (BI_s B).1
    have hFg : Fx g := fun k j r hr => by rw [g2]; exact hF k j r hr
    have no : ¬ nI 40 ≤ nI i := fun z => by rw [le_nI (by omega) (by omega)] at z; omega
    by_cases e : x = s
    · subst e
      refine c_X5_turnRow_5 hA0 hFg (fun z => absurd z no) (fun _ _ => hq g g1 g2 c ?_) (fun _ z => absurd rfl z) (fun _ z => absurd rfl z) (fun _ z => absurd rfl z) (fun _ z => absurd rfl z) (fun _ z => absurd rfl z) (fun _ z => absurd rfl z)
      unfold trn
      rw [if_pos rfl]
    · obtain ⟨t1, t2, t3, t4⟩ := B.2.2.2.2.2 x hx hse e
      have hne : P x ≠ x := fun z => by rw [z] at t4; omega
      have e1 : g.1 18 (nI x).toNatClampNeg = nI (P x) := by rw [tN (by omega), g1, hP x hx hse e]
      have hv1 := hv _ t1 t2
      have hv2 := hv _ hx hse
      refine c_X5_turnRow_5 hA0 hFg (fun z => absurd z no) (fun _ z => absurd (nI_inj (by omega) (by omega) z) e) (fun _ _ => vin hx (by decide)) (fun _ _ => ?_) (fun _ _ => ?_) (fun _ _ => vin hx (by decide)) (fun _ _ => vin hx (by decide)) (fun _ _ => ?_)
      · rw [e1]
        exact vin t1 (by decide)
      · rw [e1]
        exact vin t1 (by decide)
      · rw [e1, tN (by omega : x < 2 ^ 31), tN (by omega : P x < 2 ^ 31), nI_1]
        have eh : setL (setL g 17 (P x) (g.2.1 17 (P x) &&& ((1 : Int64) <<< ((nI x).toInt64 &&& 63) ^^^ (-1)))) 17 x ((setL g 17 (P x) (g.2.1 17 (P x) &&& ((1 : Int64) <<< ((nI x).toInt64 &&& 63) ^^^ (-1)))).2.1 17 x ||| (1 : Int64) <<< ((nI (P x)).toInt64 &&& 63)) = turn1 g (P x) x := by
          have e2 : (setL g 17 (P x) (g.2.1 17 (P x) &&& ((1 : Int64) <<< ((nI x).toInt64 &&& 63) ^^^ (-1)))).2.1 17 x = g.2.1 17 x := if_neg (fun z => hne z.2.symm)
          rw [e2]
          rfl
        rw [eh]
        refine s_turn5 hA0 hF hn B hP hv k (i + 1) (P x) (turn1 g (P x) x) (by omega) (by omega) t1 t2 g1 g2 (turn1_CL hn hv1 hv2 hne c) (fun g' a1 a2 a3 a4 => hq g' a1 a2 a3 ?_)
        rw [a4, turn1_Rc hn hv1 hv2 hne]
        show _ = if x = s then _ else _
        rw [if_neg e]
theorem s_turnRow {s t w : Nat} {q P r : Nat → Nat} {see : Nat → Bool} (hA0 : 91 ≤ nx) (hF : Fx h) (hn : n ≤ 20) (B : BI (Rc h n) s w q P r see) (hP : ∀ x, x < 40 → see x = true → x ≠ s → h.1 18 x = nI (P x)) (hv : ∀ x, x < 40 → see x = true → vdB n x = true) (ht : t < 40) (hst : see t = true) (c : CLo h n) : Mk X d m_X5_turnRow [.ref 13, .int (nI s), .int (nI t)] h nx sz (RV fun g => g.1 = h.1 ∧ g.2.2 = h.2.2 ∧ CLo g n ∧ Rc g n = trn P s 40 t (Rc h n)) := by
  have hw := BI_w B
  have hr := (B.2.2.1 t ht hst).1
  exact e_X5_turnRow (c_X5_turnRow_0 (s_turn5 hA0 hF hn B hP hv 40 0 t h rfl (by omega) ht hst rfl rfl c (fun g' a1 a2 a3 a4 => ⟨rfl, a1, a2, a3, a4⟩)))
def FI (h g : AH) (n s w : Nat) (j : Int64) (q P r : Nat → Nat) (see : Nat → Bool) : Prop :=
  BI (Rc h n) s w q P r see ∧ (∀ x, x < 40 → tbL j x = see x) ∧ (∀ i, i < w → g.1 19 i = nI (q i)) ∧ (∀ x, x < 40 → see x = true → x ≠ s → g.1 18 x = nI (P x)) ∧ (g.2 = h.2 ∧ ∀ c, c ≠ 18 → c ≠ 19 → g.1 c = h.1 c) ∧ ∀ x, x < 40 → see x = true → vdB n x = true
theorem s_find43 {Q : Option Value → AH → Prop} {s t i : Nat} (hA0 : 91 ≤ nx) (hF : Fx h) (hn : n ≤ 20) (c : CLo h n) (ht : t < 40)
    (out : ∀ g j w q P r see, FI h g n s w j q P r see → i + 1 ≤ w → see t = false → (∀ a, a < i + 1 → ∀ v, v < 40 → Rc h n (q a) v = true → see v = true) → VM X m_X5_findRow d nx sz Q 17 [some (.ref 13), none, some (.int (nI t)), some (.long j), none, some (.int (nI w)), some (.int (nI (i + 1))), none, none] [] g)
    (fin : ∀ g j w q P r see, FI h g n s w j q P r see → see t = true → Q (some (.int 1)) g) :
    ∀ (k v : Nat) (g : AH) (j : Int64) (w : Nat) (q P r : Nat → Nat) (see : Nat → Bool), v + k = 40 → FI h g n s w j q P r see → i < w → (∀ a, a < i → ∀ v, v < 40 → Rc h n (q a) v = true → see v = true) → (∀ v', v' < v → Rc h n (q i) v' = true → see v' = true) → VM X m_X5_findRow d nx sz Q 43 [some (.ref 13), none, some (.int (nI t)), some (.long j), none, some (.int (nI w)), some (.int (nI i)), some (.int (nI (q i))), some (.int (nI v))] [] g := by
  intro k
  induction k with
  | zero =>
    intro v g j w q P r see hk f hi pr pv
    have hk : v = 40 := by omega
    subst hk
    have hFg : Fx g := hF.of f.2.2.2.2.1.1
    have yes : nI 40 ≤ nI 40 := Int32.le_refl _
    refine c_X5_findRow_43 hA0 hFg (fun _ z => ?_) (fun _ z => ?_) (fun z => absurd yes z) (fun z => absurd yes z) (fun z => absurd yes z) (fun z => absurd yes z) (fun z => absurd yes z) (fun z => absurd yes z)
    · have z := (lg_bt ht).mp z
      rw [f.2.1 t ht] at z
      rw [nI_1]
      refine out g j w q P r see f (by omega) z (fun a ha v hv hr => ?_)
      by_cases e : a = i
      · subst e
        exact pv v hv hr
      · exact pr a (by omega) v hv hr
    · have z : ¬ tbL j t = false := fun y => z ((lg_bt ht).mpr y)
      rw [f.2.1 t ht] at z
      exact fin g j w q P r see f (by simpa using z)
  | succ k ih =>
    intro v g j w q P r see hk f hi pr pv
    have hv : v < 40 := by omega
    have hFg : Fx g := hF.of f.2.2.2.2.1.1
    have no : ¬ nI 40 ≤ nI v := fun z => by rw [le_nI (by omega) (by omega)] at z; omega
    obtain ⟨B, fj, fq, fP, ⟨fg2, fg⟩, fv⟩ := id f
    obtain ⟨b1, b2, b3⟩ := B.2.1 i hi
    have hw := BI_w B
    have eu : (nI (q i)).toNatClampNeg = q i := tN (by omega)
    have ev : (nI v).toNatClampNeg = v := tN (by omega)
    have ew : (nI w).toNatClampNeg = w := tN (by omega)
    have hvu := fv _ b1 b2
    have ft : lg_cmp ((g.2.1 17 (q i) &&& (j ^^^ (-1))) &&& btL v) 0 = 0 ↔ (tbL (h.2.1 17 (q i)) v && !see v) = false := by
      rw [lg_bt hv, tbL_and, tbL_not (by omega), fj v hv, fg2]
    by_cases nw : (tbL (h.2.1 17 (q i)) v && !see v) = false
    · refine c_X5_findRow_43 hA0 hFg (fun z => absurd z no) (fun z => absurd z no) (fun _ => vin b1 (by decide)) (fun _ _ => ?_) (fun _ z => ?_) (fun _ z => ?_) (fun _ z => ?_) (fun _ z => ?_)
      · rw [nI_1]
        refine ih (v + 1) g j w q P r see (by omega) f hi pr (fun v' hv' hr => ?_)
        by_cases e : v' = v
        · subst e
          rw [(Rc_iff.mp hr).2.2] at nw
          simpa using nw
        · exact pv v' (by omega) hr
      all_goals exact absurd (by rw [eu]; exact ft.mpr nw) z
    · have nw' : (tbL (h.2.1 17 (q i)) v && !see v) = true := by simpa using nw
      rw [Bool.and_eq_true] at nw'
      obtain ⟨m1, m2⟩ := nw'
      have m2 : see v = false := by simpa using m2
      have hw40 := BI_lt B hv m2
      have now : ¬ nI 40 ≤ nI w := fun z => by rw [le_nI (by omega) (by omega)] at z; omega
      have hvv := c _ hvu v hv m1
      have hR : Rc h n (q i) v = true := Rc_iff.mpr ⟨hvu, hvv, m1⟩
      refine c_X5_findRow_43 hA0 hFg (fun z => absurd z no) (fun z => absurd z no) (fun _ => vin b1 (by decide)) (fun _ z => ?_) (fun _ _ z => absurd z now) (fun _ _ _ => vin hv (by decide)) (fun _ _ _ => vin hw40 (by decide)) (fun _ _ _ => ?_)
      · rw [eu] at z
        exact absurd (ft.mp z) nw
      · rw [nI_1, nI_1, ev, ew]
        have hsv : ∀ x, see x = true → x ≠ v := fun x hx z => by rw [z, m2] at hx; cases hx
        have qi : up1 q w v i = q i := up1_n (by omega)
        have f' : FI h (setI (setI g 18 v (nI (q i))) 19 w (nI v)) n s (w + 1) (j ||| ((1 : Int64) <<< ((nI v).toInt64 &&& 63))) (up1 q w v) (up1 P v (q i)) (up1 r v w) (upB see v) := by
          refine ⟨BI_add B hv m2 hi hR, fun x hx => ?_, fun a ha => ?_, fun x hx hse hne => ?_, ⟨fg2, fun c c1 c2 => ?_⟩, fun x hx hse => ?_⟩
          · show tbL (j ||| btL v) x = _
            rw [tbL_or, tbL_bt hv (by omega), fj x hx]
            by_cases e : x = v
            · subst e
              rw [upB_s, decide_eq_true rfl, Bool.or_true]
            · rw [upB_n e, decide_eq_false (fun z => e z.symm), Bool.or_false]
          · show (if 19 = 19 ∧ a = w then nI v else (if 19 = 18 ∧ a = v then nI (q i) else g.1 19 a)) = _
            by_cases e : a = w
            · subst e
              rw [if_pos ⟨rfl, rfl⟩, up1_s]
            · rw [if_neg (fun z => e z.2), if_neg (fun z => by cases z.1), up1_n e]
              exact fq a (by omega)
          · show (if 18 = 19 ∧ x = w then nI v else (if 18 = 18 ∧ x = v then nI (q i) else g.1 18 x)) = _
            rw [if_neg (fun z => by cases z.1)]
            by_cases e : x = v
            · subst e
              rw [if_pos ⟨rfl, rfl⟩, up1_s]
            · rw [if_neg (fun z => e z.2), up1_n e]
              rw [upB_n e] at hse
              exact fP x hx hse hne
          · funext a
            show (if c = 19 ∧ a = w then nI v else (if c = 18 ∧ a = v then nI (q i) else g.1 c a)) = _
            rw [if_neg (fun z => c2 z.1), if_neg (fun z => c1 z.1), fg c c1 c2]
          · by_cases e : x = v
            · subst e
              exact hvv
            · rw [upB_n e] at hse
              exact fv x hx hse
        rw [← qi]
        refine ih (v + 1) _ _ (w + 1) (up1 q w v) _ _ (upB see v) (by omega) (by rw [qi]; exact f') (by omega) (fun a ha x hx hr => ?_) (fun x hx hr => ?_)
        · rw [up1_n (by omega)] at hr
          have := pr a ha x hx hr
          rw [upB_n (hsv _ this)]
          exact this
        · by_cases e : x = v
          · rw [e]
            exact upB_s
          · rw [qi] at hr
            rw [upB_n e]
            exact pv x (by omega) hr
theorem s_find17 {Q : Option Value → AH → Prop} {s t : Nat} (hA0 : 91 ≤ nx) (hF : Fx h) (hn : n ≤ 20) (c : CLo h n) (ht : t < 40)
    (fin : ∀ g j w q P r see, FI h g n s w j q P r see → see t = true → Q (some (.int 1)) g)
    (fin0 : ∀ g j w q P r see, FI h g n s w j q P r see → see t = false → (∀ u v, u < 40 → v < 40 → see u = true → Rc h n u v = true → see v = true) → Q (some (.int 0)) g) :
    ∀ (k i : Nat) (g : AH) (j : Int64) (w : Nat) (q P r : Nat → Nat) (see : Nat → Bool), i + k = 41 → FI h g n s w j q P r see → i ≤ w → see t = false → (∀ a, a < i → ∀ v, v < 40 → Rc h n (q a) v = true → see v = true) → VM X m_X5_findRow d nx sz Q 17 [some (.ref 13), none, some (.int (nI t)), some (.long j), none, some (.int (nI w)), some (.int (nI i)), none, none] [] g := by
  intro k
  induction k with
  | zero =>
    intro i g j w q P r see hk f hi hst pr
    have := BI_w f.1
    omega
  | succ k ih =>
    intro i g j w q P r see hk f hi hst pr
    have hFg : Fx g := hF.of f.2.2.2.2.1.1
    have hw := BI_w f.1
    by_cases e : w ≤ i
    · have yes : nI w ≤ nI i := by rw [le_nI (by omega) (by omega)]; exact e
      refine c_X5_findRow_17 hA0 hFg (fun _ => fin0 g j w q P r see f hst (fun u v hu hv hsu hr => ?_)) (fun z => absurd yes z) (fun z => absurd yes z) (fun z => absurd yes z)
      obtain ⟨c1, c2⟩ := f.1.2.2.1 u hu hsu
      rw [← c2] at hr
      exact pr (r u) (by omega) v hv hr
    · have no : ¬ nI w ≤ nI i := fun z => by rw [le_nI (by omega) (by omega)] at z; omega
      have no2 : ¬ nI 40 ≤ nI i := fun z => by rw [le_nI (by omega) (by omega)] at z; omega
      refine c_X5_findRow_17 hA0 hFg (fun z => absurd z no) (fun _ z => absurd z no2) (fun _ _ => vin (by omega) (by decide)) (fun _ _ => ?_)
      rw [tN (by omega), f.2.2.1 i (by omega)]
      exact s_find43 (i := i) hA0 hF hn c ht (fun g j w q P r see f' h1 h2 h3 => ih (i + 1) g j w q P r see (by omega) f' h1 h2 h3) fin 40 0 g j w q P r see rfl f (by omega) pr (fun v' z => absurd z (Nat.not_lt_zero _))
theorem s_findRow {s t : Nat} (hA0 : 91 ≤ nx) (hF : Fx h) (hn : n ≤ 20) (c : CLo h n) (hs : vdB n s = true) (ht : t < 40) (hst : s ≠ t) : Mk X d m_X5_findRow [.ref 13, .int (nI s), .int (nI t)] h nx sz (RI fun y g => (g.2 = h.2 ∧ ∀ c, c ≠ 18 → c ≠ 19 → g.1 c = h.1 c) ∧ ((y = 1 ∧ ∃ w q P r see, BI (Rc h n) s w q P r see ∧ see t = true ∧ (∀ x, x < 40 → see x = true → x ≠ s → g.1 18 x = nI (P x)) ∧ ∀ x, x < 40 → see x = true → vdB n x = true) ∨ (y = 0 ∧ ∃ see : Nat → Bool, see s = true ∧ see t = false ∧ ∀ u v, u < 40 → v < 40 → see u = true → Rc h n u v = true → see v = true))) := by
  have hs40 := vd_40 hn hs
  refine e_X5_findRow (c_X5_findRow_0 hA0 hF ?_)
  refine s_find17 (h := h) (s := s) hA0 hF hn c ht (fun g j w q P r see f hse => ?_) (fun g j w q P r see f hse hcl => ?_) 41 0 _ _ 1 (fun _ => s) (fun _ => 0) (fun _ => 0) (fun x => decide (x = s)) rfl ?_ (Nat.zero_le _) (decide_eq_false (fun z => hst z.symm)) (fun a z => absurd z (Nat.not_lt_zero _))
  · exact ⟨_, rfl, f.2.2.2.2.1, Or.inl ⟨rfl, w, q, P, r, see, f.1, hse, f.2.2.2.1, f.2.2.2.2.2⟩⟩
  · exact ⟨_, rfl, f.2.2.2.2.1, Or.inr ⟨rfl, see, (BI_s f.1).2, hse, hcl⟩⟩
  · refine ⟨BI_0 hs40 _, fun x hx => ?_, fun a ha => ?_, fun x _ h1 h2 => absurd (of_decide_eq_true h1) h2, ⟨rfl, fun c c1 c2 => ?_⟩, fun x _ h1 => by rw [of_decide_eq_true h1]; exact hs⟩
    · show tbL (btL s) x = _
      rw [tbL_bt hs40 (by omega)]
      exact decide_eq_decide.mpr ⟨fun z => z.symm, fun z => z.symm⟩
    · show (if 19 = 19 ∧ a = 0 then nI s else _) = _
      rw [if_pos ⟨rfl, by omega⟩]
    · funext a
      show (if c = 19 ∧ a = 0 then nI s else _) = _
      rw [if_neg (fun z => c2 z.1)]
end OPS
