/-! changes: what they make of a net, what they bring -/
section MK
variable {n : Nat} {K L : Nat → Int32}
def pO (K : Nat → Int32) (i : Nat) : Option Nat → (Nat → Int32)
  | none => K
  | some j => partK K i j
def jO (K : Nat → Int32) (i : Nat) : Option Nat → (Nat → Int32)
  | none => K
  | some j => joinK K i j
def mkK (K : Nat → Int32) (a : Nat) (o : Option Nat) (b : Nat) (p : Option Nat) : Nat → Int32 := joinK (pO (pO K a o) b p) a b
def unK (K : Nat → Int32) (a : Nat) (o : Option Nat) (b : Nat) (p : Option Nat) : Nat → Int32 := jO (jO (partK K a b) a o) b p
/-- somebody whom i knows, or nobody -/
def kn (K : Nat → Int32) (i : Nat) (o : Option Nat) : Prop := ∀ j, o = some j → tb (K i) j = true
theorem tb_pO {i k c : Nat} {o : Option Nat} (hg : Gr n K) (hn : n ≤ 20) (ho : kn K i o) : tb (pO K i o k) c = true ↔ tb (K k) c = true ∧ ¬ (k = i ∧ o = some c) ∧ ¬ (o = some k ∧ c = i) := by
  cases o with
  | none => simp [pO]
  | some j =>
    obtain ⟨h1, h2, h3, h4⟩ := hg i j (ho j rfl)
    show tb (partK K i j k) c = true ↔ _
    rw [tb_part (by omega) (by omega) h3]
    simp only [Option.some.injEq]
    constructor
    · rintro ⟨a, b, c⟩
      exact ⟨a, fun z => b ⟨z.1, z.2.symm⟩, fun z => c ⟨z.1.symm, z.2⟩⟩
    · rintro ⟨a, b, c⟩
      exact ⟨a, fun z => b ⟨z.1, z.2.symm⟩, fun z => c ⟨z.1.symm, z.2⟩⟩
theorem pO_gr {i : Nat} {o : Option Nat} (hg : Gr n K) (hn : n ≤ 20) (ho : kn K i o) : Gr n (pO K i o) := by
  cases o with
  | none => exact hg
  | some j =>
    obtain ⟨h1, h2, h3, h4⟩ := hg i j (ho j rfl)
    exact hg.part hn h1 h2 h3
theorem kn2 {a b : Nat} {o p : Option Nat} (hg : Gr n K) (hn : n ≤ 20) (hab : a ≠ b) (hK : tb (K a) b = false) (ho : kn K a o) (hp : kn K b p) : kn (pO K a o) b p := by
  intro j hj
  refine (tb_pO hg hn ho).mpr ⟨hp j hj, fun z => hab z.1.symm, fun z => ?_⟩
  have := ho b z.1
  rw [hK] at this
  cases this
theorem tb_mk {a b k c : Nat} {o p : Option Nat} (hg : Gr n K) (hn : n ≤ 20) (ha : a < n) (hb : b < n) (hab : a ≠ b) (hK : tb (K a) b = false) (ho : kn K a o) (hp : kn K b p) : tb (mkK K a o b p k) c = true ↔ (tb (K k) c = true ∧ ¬ (k = a ∧ o = some c) ∧ ¬ (o = some k ∧ c = a) ∧ ¬ (k = b ∧ p = some c) ∧ ¬ (p = some k ∧ c = b)) ∨ (k = a ∧ c = b) ∨ (k = b ∧ c = a) := by
  unfold mkK
  rw [tb_join (by omega) (by omega) hab, tb_pO (pO_gr hg hn ho) hn (kn2 hg hn hab hK ho hp), tb_pO hg hn ho]
  constructor
  · rintro (⟨⟨x1, x2, x3⟩, x4, x5⟩ | x)
    · exact Or.inl ⟨x1, x2, x3, x4, x5⟩
    · exact Or.inr x
  · rintro (⟨x1, x2, x3, x4, x5⟩ | x)
    · exact Or.inl ⟨⟨x1, x2, x3⟩, x4, x5⟩
    · exact Or.inr x
theorem mk_gr {a b : Nat} {o p : Option Nat} (hg : Gr n K) (hn : n ≤ 20) (ha : a < n) (hb : b < n) (hab : a ≠ b) (hK : tb (K a) b = false) (ho : kn K a o) (hp : kn K b p) : Gr n (mkK K a o b p) := (pO_gr (pO_gr hg hn ho) hn (kn2 hg hn hab hK ho hp)).join hn ha hb hab
theorem un_mk {a b : Nat} {o p : Option Nat} (hg : Gr n K) (hn : n ≤ 20) (ha : a < n) (hb : b < n) (hab : a ≠ b) (hK : tb (K a) b = false) (ho : kn K a o) (hp : kn K b p) : unK (mkK K a o b p) a o b p = K := by
  have hg1 := mk_gr hg hn ha hb hab hK ho hp
  have oa : ∀ j, o = some j → j < n ∧ a ≠ j ∧ tb (K a) j = true ∧ tb (K j) a = true := fun j hj => by
    obtain ⟨h1, h2, h3, h4⟩ := hg a j (ho j hj)
    exact ⟨h2, h3, ho j hj, h4⟩
  have pa : ∀ j, p = some j → j < n ∧ b ≠ j ∧ tb (K b) j = true ∧ tb (K j) b = true := fun j hj => by
    obtain ⟨h1, h2, h3, h4⟩ := hg b j (hp j hj)
    exact ⟨h2, h3, hp j hj, h4⟩
  have jO1 : ∀ (K' : Nat → Int32) (k c : Nat), tb (jO K' a o k) c = true ↔ tb (K' k) c = true ∨ (k = a ∧ o = some c) ∨ (o = some k ∧ c = a) := fun K' k c => by
    cases ho2 : o with
    | none => simp [jO]
    | some j =>
      obtain ⟨h1, h2, -, -⟩ := oa j ho2
      show tb (joinK K' a j k) c = true ↔ _
      rw [tb_join (by omega) (by omega) h2]
      simp only [Option.some.injEq, eq_comm]
  have jO2 : ∀ (K' : Nat → Int32) (k c : Nat), tb (jO K' b p k) c = true ↔ tb (K' k) c = true ∨ (k = b ∧ p = some c) ∨ (p = some k ∧ c = b) := fun K' k c => by
    cases ho2 : p with
    | none => simp [jO]
    | some j =>
      obtain ⟨h1, h2, -, -⟩ := pa j ho2
      show tb (joinK K' b j k) c = true ↔ _
      rw [tb_join (by omega) (by omega) h2]
      simp only [Option.some.injEq, eq_comm]
  have hKs : tb (K b) a = false := by rw [← tb_sym hg a b]; exact hK
  funext k
  apply tb_ext
  intro c _
  rw [Bool.eq_iff_iff]
  unfold unK
  rw [jO2, jO1, tb_part (by omega) (by omega) hab, tb_mk hg hn ha hb hab hK ho hp]
  constructor
  · rintro ((⟨((⟨x, -⟩ | x | x)), y, z⟩ | ⟨rfl, x⟩ | ⟨x, rfl⟩) | ⟨rfl, x⟩ | ⟨x, rfl⟩)
    · exact x
    · exact absurd x y
    · exact absurd x z
    · exact (oa c x).2.2.1
    · exact (oa k x).2.2.2
    · exact (pa c x).2.2.1
    · exact (pa k x).2.2.2
  · intro x
    by_cases e1 : k = a ∧ o = some c
    · exact Or.inl (Or.inr (Or.inl e1))
    by_cases e2 : o = some k ∧ c = a
    · exact Or.inl (Or.inr (Or.inr e2))
    by_cases e3 : k = b ∧ p = some c
    · exact Or.inr (Or.inl e3)
    by_cases e4 : p = some k ∧ c = b
    · exact Or.inr (Or.inr e4)
    refine Or.inl (Or.inl ⟨Or.inl ⟨x, e1, e2, e3, e4⟩, fun z => ?_, fun z => ?_⟩)
    · rw [z.1, z.2, hK] at x
      cases x
    · rw [z.1, z.2, hKs] at x
      cases x
/-- worth, the more ties the more -/
theorem vAt_mono {K' : Nat → Int32} {w : Nat} {M : Nat → Nat} (hs : ∀ k b, tb (K' k) b = true → tb (K k) b = true) (b : Nat) : vAt K' n w M b ≤ vAt K n w M b := by
  unfold vAt
  cases hd : dst K' n (full n) w b with
  | none => exact Nat.zero_le _
  | some k =>
    obtain ⟨k1, k2, k3⟩ := dst_iff.mp hd
    obtain ⟨j, j1, j2⟩ := dst_in k1 (Wk_mono hs k2)
    rw [j2]
    exact Nat.div_le_div_left (Nat.pow_le_pow_right (by decide) (by omega)) (Nat.two_pow_pos _)
theorem vN_mono {K' : Nat → Int32} {w : Nat} {M : Nat → Nat} (hs : ∀ k b, tb (K' k) b = true → tb (K k) b = true) : vN K' n w M ≤ vN K n w M := sm_mono fun b _ => vAt_mono hs b
theorem vN_le {w : Nat} {M : Nat → Nat} (hn : n ≤ 20) (hM : ∀ b, b < n → M b ≤ 99) : vN K n w M ≤ 1980 := by
  have : vN K n w M ≤ n * 99 := sm_le fun b hb => by
    unfold vAt
    cases dst K n (full n) w b with
    | none => exact Nat.zero_le _
    | some k => exact Nat.le_trans (Nat.div_le_self _ _) (hM b hb)
  have : n * 99 ≤ 20 * 99 := Nat.mul_le_mul_right _ hn
  omega
theorem vN_none {w : Nat} {M : Nat → Nat} (hM : ∀ b, b < n → M b = 0) : vN K n w M = 0 := sm_zero fun b hb => by
  unfold vAt
  cases dst K n (full n) w b with
  | none => rfl
  | some k =>
    show M b / _ = 0
    rw [hM b hb, Nat.zero_div]
/-- the gain of a (f) or of b -/
def gI (K : Nat → Int32) (n : Nat) (M : Nat → Nat → Nat) (c a : Nat) (o : Option Nat) (b : Nat) (p : Option Nat) (f : Bool) : Int32 :=
  (nI (vN (mkK K a o b p) n (if f = true then a else b) (M (if f = true then a else b))) - nI (vN K n (if f = true then a else b) (M (if f = true then a else b)))) - (if (if f = true then o else p) = none then 0 else nI c)
theorem gI_int {M : Nat → Nat → Nat} {c a b : Nat} {o p : Option Nat} {f : Bool} (hn : n ≤ 20) (hM : ∀ w, w < n → ∀ b, b < n → M w b ≤ 99) (hc : c ≤ 99) (ha : a < n) (hb : b < n) : (gI K n M c a o b p f).toInt = (vN (mkK K a o b p) n (if f = true then a else b) (M (if f = true then a else b)) : Int) - vN K n (if f = true then a else b) (M (if f = true then a else b)) - (if (if f = true then o else p) = none then 0 else (c : Int)) := by
  have hw : (if f = true then a else b) < n := by split <;> assumption
  have h1 := vN_le (K := mkK K a o b p) (w := if f = true then a else b) hn (hM _ hw)
  have h2 := vN_le (K := K) (w := if f = true then a else b) hn (hM _ hw)
  unfold gI
  generalize vN (mkK K a o b p) n (if f = true then a else b) (M (if f = true then a else b)) = x at *
  generalize vN K n (if f = true then a else b) (M (if f = true then a else b)) = y at *
  by_cases e : (if f = true then o else p) = none
  · rw [if_pos e, if_pos e, Int32.sub_zero, pk_sub_toInt (by omega) (by omega)]
    omega
  · rw [if_neg e, if_neg e, show nI x - nI y - nI c = nI x - nI (y + c) from by
      rw [← nI_add, Int32.sub_eq_add_neg, Int32.sub_eq_add_neg, Int32.sub_eq_add_neg, Int32.neg_add, Int32.sub_eq_add_neg]
      ac_rfl, pk_sub_toInt (by omega) (by omega)]
    omega
/-- whether the change can be -/
def mdB (K L : Nat → Int32) (i : Nat) : Option Nat → Bool
  | none => decide (bc (K i) < L i)
  | some j => tb (K i) j
def cbB (K L : Nat → Int32) (a : Nat) (o : Option Nat) (b : Nat) (p : Option Nat) : Bool := decide (a ≠ b) && (!tb (K a) b && (mdB K L a o && mdB K L b p))
theorem mdB_kn {i : Nat} {o : Option Nat} (h : mdB K L i o = true) : kn K i o := by
  intro j hj
  subst hj
  exact h
theorem cbB_iff {a b : Nat} {o p : Option Nat} : cbB K L a o b p = true ↔ a ≠ b ∧ tb (K a) b = false ∧ mdB K L a o = true ∧ mdB K L b p = true := by
  unfold cbB
  simp
/-- whether both want it -/
def wnB (K L : Nat → Int32) (n : Nat) (M : Nat → Nat → Nat) (c a : Nat) (o : Option Nat) (b : Nat) (p : Option Nat) : Bool := cbB K L a o b p && (!decide (gI K n M c a o b p true ≤ 0) && !decide (gI K n M c a o b p false ≤ 0))
/-- the best found -/
abbrev St : Type := Option (Nat × Option Nat × Option Nat × Int32)
def stG : St → Int32
  | none => 0
  | some s => s.2.2.2
def stp (K L : Nat → Int32) (n : Nat) (M : Nat → Nat → Nat) (c a : Nat) (o : Option Nat) (b : Nat) (p : Option Nat) (s : St) : St :=
  if wnB K L n M c a o b p = true ∧ stG s < gI K n M c a o b p true then some (b, o, p, gI K n M c a o b p true) else s
def oN : Nat → Option Nat
  | 0 => none
  | m + 1 => some m
def thF (K L : Nat → Int32) (n : Nat) (M : Nat → Nat → Nat) (c a : Nat) (o : Option Nat) (b : Nat) (s : St) : Nat → St
  | 0 => s
  | m + 1 => stp K L n M c a o b (oN m) (thF K L n M c a o b s m)
def drF (K L : Nat → Int32) (n : Nat) (M : Nat → Nat → Nat) (c a b : Nat) (s : St) : Nat → St
  | 0 => s
  | m + 1 => thF K L n M c a (oN m) b (drF K L n M c a b s m) (n + 1)
def tkF (K L : Nat → Int32) (n : Nat) (M : Nat → Nat → Nat) (c a : Nat) : Nat → St
  | 0 => none
  | b + 1 => drF K L n M c a b (tkF K L n M c a b) (n + 1)
variable {M : Nat → Nat → Nat} {c a b : Nat}
theorem th_id {o : Option Nat} {s : St} : ∀ {m : Nat}, (∀ i, i < m → ¬ (wnB K L n M c a o b (oN i) = true ∧ stG s < gI K n M c a o b (oN i) true)) → thF K L n M c a o b s m = s
  | 0, _ => rfl
  | m + 1, h => by
    show stp K L n M c a o b (oN m) (thF K L n M c a o b s m) = s
    rw [th_id (fun i hi => h i (by omega))]
    exact if_neg (h m (by omega))
theorem dr_id {s : St} : ∀ {m : Nat}, (∀ o p, wnB K L n M c a o b p = false) → drF K L n M c a b s m = s
  | 0, _ => rfl
  | m + 1, h => by
    show thF K L n M c a (oN m) b (drF K L n M c a b s m) (n + 1) = s
    rw [dr_id h]
    exact th_id (fun i _ z => by rw [h] at z; cases z.1)
theorem wn_cb {o p : Option Nat} (h : wnB K L n M c a o b p = true) : cbB K L a o b p = true := by
  unfold wnB at h
  rw [Bool.and_eq_true] at h
  exact h.1
theorem g_le0 {o p : Option Nat} {f : Bool} (hn : n ≤ 20) (hM : ∀ w, w < n → ∀ b, b < n → M w b ≤ 99) (hc : c ≤ 99) (ha : a < n) (hb : b < n) (h0 : ∀ j, j < n → M (if f = true then a else b) j = 0) : gI K n M c a o b p f ≤ 0 := by
  rw [Int32.le_iff_toInt_le, gI_int hn hM hc ha hb, vN_none h0, vN_none h0]
  show (0 : Int) - 0 - _ ≤ 0
  split <;> omega
theorem wn_none1 {o p : Option Nat} (hn : n ≤ 20) (hM : ∀ w, w < n → ∀ b, b < n → M w b ≤ 99) (hc : c ≤ 99) (ha : a < n) (hb : b < n) (h0 : (∀ j, j < n → M a j = 0) ∨ ∀ j, j < n → M b j = 0) : wnB K L n M c a o b p = false := by
  unfold wnB
  rcases h0 with h0 | h0
  · rw [decide_eq_true (g_le0 (f := true) hn hM hc ha hb h0)]
    simp
  · rw [decide_eq_true (g_le0 (f := false) hn hM hc ha hb h0)]
    simp
theorem tk_none (hn : n ≤ 20) (hM : ∀ w, w < n → ∀ b, b < n → M w b ≤ 99) (hc : c ≤ 99) (ha : a < n) (h0 : ∀ j, j < n → M a j = 0) : ∀ {m : Nat}, m ≤ n → tkF K L n M c a m = none
  | 0, _ => rfl
  | m + 1, h => by
    show drF K L n M c a m (tkF K L n M c a m) (n + 1) = none
    rw [tk_none hn hM hc ha h0 (by omega)]
    exact dr_id (fun o p => wn_none1 hn hM hc ha (by omega) (Or.inl h0))
theorem mk_sub {o p : Option Nat} (hg : Gr n K) (hn : n ≤ 20) (ha : a < n) (hb : b < n) (hab : a ≠ b) (hK : tb (K a) b = false) (ho : kn K a o) (hp : kn K b p) (k e : Nat) (h : tb (mkK K a o b p k) e = true) : tb (mkK K a o b none k) e = true := by
  rw [tb_mk hg hn ha hb hab hK ho hp] at h
  refine (tb_mk hg hn ha hb hab hK ho (fun j hj => by cases hj)).mpr ?_
  rcases h with ⟨x1, x2, x3, x4, x5⟩ | h
  · exact Or.inl ⟨x1, x2, x3, (fun z => by cases z.2), (fun z => by cases z.1)⟩
  · exact Or.inr h
theorem g_top {o p : Option Nat} (hg : Gr n K) (hn : n ≤ 20) (hM : ∀ w, w < n → ∀ b, b < n → M w b ≤ 99) (hc : c ≤ 99) (ha : a < n) (hb : b < n) (h : cbB K L a o b p = true) : gI K n M c a o b p true ≤ gI K n M c a o b none true := by
  obtain ⟨hab, hK, h3, h4⟩ := cbB_iff.mp h
  rw [Int32.le_iff_toInt_le, gI_int hn hM hc ha hb, gI_int hn hM hc ha hb]
  have := vN_mono (n := n) (w := a) (M := M a) (mk_sub hg hn ha hb hab hK (mdB_kn h3) (mdB_kn h4))
  simp only [if_true]
  omega
/-- what drops brings no more than this is passed over -/
theorem th_skip {o : Option Nat} {s : St} {m : Nat} (hg : Gr n K) (hn : n ≤ 20) (hM : ∀ w, w < n → ∀ b, b < n → M w b ≤ 99) (hc : c ≤ 99) (ha : a < n) (hb : b < n) (h : mdB K L a o = false ∨ gI K n M c a o b none true ≤ stG s) : thF K L n M c a o b s m = s := th_id (fun i _ z => by
  have hcb := wn_cb z.1
  rcases h with h | h
  · rw [(cbB_iff.mp hcb).2.2.1] at h
    cases h
  · have := g_top hg hn hM hc ha hb hcb
    exact Int32.lt_irrefl (Int32.lt_of_lt_of_le z.2 (Int32.le_trans this h)))
/-- a found one is good -/
def okS (K L : Nat → Int32) (n : Nat) (M : Nat → Nat → Nat) (c a : Nat) (s : St) : Prop := ¬ stG s < 0 ∧ ∀ b o p g, s = some (b, o, p, g) → b < n ∧ wnB K L n M c a o b p = true ∧ g = gI K n M c a o b p true
theorem wn_pos {o p : Option Nat} (h : wnB K L n M c a o b p = true) : ¬ gI K n M c a o b p true ≤ 0 ∧ ¬ gI K n M c a o b p false ≤ 0 := by
  unfold wnB at h
  simp only [Bool.and_eq_true, Bool.not_eq_true', decide_eq_false_iff_not] at h
  exact h.2
theorem okS_none : okS K L n M c a none := ⟨by decide, fun b o p g e => by cases e⟩
theorem okS_stp {o p : Option Nat} {s : St} (hb : b < n) (h : okS K L n M c a s) : okS K L n M c a (stp K L n M c a o b p s) := by
  unfold stp
  split
  next q =>
    refine ⟨fun z => (wn_pos q.1).1 (Int32.le_of_lt z), fun b' o' p' g e => ?_⟩
    cases e
    exact ⟨hb, q.1, rfl⟩
  next => exact h
theorem okS_th {o : Option Nat} {s : St} (hb : b < n) (h : okS K L n M c a s) : ∀ {m : Nat}, okS K L n M c a (thF K L n M c a o b s m)
  | 0 => h
  | m + 1 => okS_stp hb (okS_th hb h)
theorem okS_dr {s : St} (hb : b < n) (h : okS K L n M c a s) : ∀ {m : Nat}, okS K L n M c a (drF K L n M c a b s m)
  | 0 => h
  | m + 1 => okS_th hb (okS_dr hb h)
theorem okS_tk : ∀ {m : Nat}, m ≤ n → okS K L n M c a (tkF K L n M c a m)
  | 0, _ => okS_none
  | m + 1, h => okS_dr (by omega) (okS_tk (by omega))
theorem okS_0 {s : St} (h : okS K L n M c a s) : stG s ≤ 0 ↔ s = none := by
  cases s with
  | none => exact ⟨fun _ => rfl, fun _ => by decide⟩
  | some s =>
    obtain ⟨b, o, p, g⟩ := s
    obtain ⟨-, h2, h3⟩ := h.2 b o p g rfl
    constructor
    · intro z
      have z : g ≤ 0 := z
      rw [h3] at z
      exact absurd z (wn_pos h2).1
    · intro z
      cases z
/-! how many each knows, behind a change -/
theorem cnt_flip {x y : Int32} {j : Nat} (hj : j < n) (h : ∀ i, i ≠ j → tb x i = tb y i) : cnt x n + (if tb y j = true then 1 else 0) = cnt y n + (if tb x j = true then 1 else 0) := by
  rw [cnt_sm, cnt_sm]
  exact sm_upd (f := fun i => if tb x i = true then 1 else 0) (g := fun i => if tb y i = true then 1 else 0) hj (fun i hi => by rw [h i hi])
theorem cnt_sub {x y : Int32} (h : ∀ i, tb x i = true → tb y i = true) : cnt x n ≤ cnt y n := cnt_mono fun i _ => h i
theorem Lm.sub {K' : Nat → Int32} (hL : Lm n K L) (h : ∀ i j, tb (K' i) j = true → tb (K i) j = true) : Lm n K' L := fun i hi => by
  obtain ⟨l, h1, h2, h3⟩ := hL i hi
  exact ⟨l, h1, h2, Nat.le_trans (cnt_sub (h i)) h3⟩
theorem mk_lm {o p : Option Nat} (hg : Gr n K) (hL : Lm n K L) (hn : n ≤ 20) (ha : a < n) (hb : b < n) (h : cbB K L a o b p = true) : Lm n (mkK K a o b p) L := by
  obtain ⟨hab, hK, h3, h4⟩ := cbB_iff.mp h
  have hKs : tb (K b) a = false := by rw [← tb_sym hg a b]; exact hK
  have t := fun k e => tb_mk (k := k) (c := e) hg hn ha hb hab hK (mdB_kn h3) (mdB_kn h4)
  -- one end: x knows y anew, and drops q
  have one : ∀ x y q, x < n → y < n → x ≠ y → tb (K x) y = false → mdB K L x q = true → (∀ e, tb (mkK K a o b p x) e = true → e = y ∨ (tb (K x) e = true ∧ q ≠ some e)) → ∃ l, l ≤ 9 ∧ L x = nI l ∧ cnt (mkK K a o b p x) n ≤ l := by
    intro x y q hx hy hxy hxk hq he
    obtain ⟨l, l1, l2, l3⟩ := hL x hx
    refine ⟨l, l1, l2, ?_⟩
    have e1 := cnt_flip (x := K x ||| bt y) (y := K x) hy (fun i hi => by
      rw [tb_or, tb_bt (by omega), decide_eq_false (fun z => hi z.symm), Bool.or_false])
    rw [tb_or, tb_bt (by omega), decide_eq_true rfl, Bool.or_true, hxk, if_neg (by decide), if_pos rfl] at e1
    cases q with
    | none =>
      have hq : bc (K x) < L x := of_decide_eq_true hq
      rw [hg.cnt hn x, l2, nI_ltI (by have := cnt_le (x := K x) (n := n); omega) (by omega)] at hq
      have := cnt_sub (n := n) (x := mkK K a o b p x) (y := K x ||| bt y) (fun e h => by
        rw [tb_or, tb_bt (by omega)]
        rcases he e h with q | q
        · simp [q]
        · simp [q.1])
      omega
    | some j =>
      have hq : tb (K x) j = true := hq
      have hj := (hg x j hq).2.1
      have hjy : j ≠ y := fun z => by rw [z, hxk] at hq; cases hq
      have e2 := cnt_flip (x := (K x ||| bt y) &&& (bt j ^^^ (-1))) (y := K x ||| bt y) hj (fun i hi => by
        by_cases h32 : i < 32
        · rw [tb_and, tb_not h32, tb_bt (by omega), decide_eq_false (fun z => hi z.symm)]
          simp
        · rw [tb_32 (by omega), tb_32 (by omega)])
      have t1 : tb ((K x ||| bt y) &&& (bt j ^^^ (-1))) j = false := by
        rw [tb_and, tb_not (by omega), tb_bt (by omega), decide_eq_true rfl]
        simp
      have t2 : tb (K x ||| bt y) j = true := by rw [tb_or, hq, Bool.true_or]
      rw [t1, t2, if_pos rfl, if_neg (by decide)] at e2
      have := cnt_sub (n := n) (x := mkK K a o b p x) (y := (K x ||| bt y) &&& (bt j ^^^ (-1))) (fun e h => by
        have he32 : e < 32 := by
          rcases Nat.lt_or_ge e 32 with q | q
          · exact q
          · rw [tb_32 q] at h
            cases h
        rw [tb_and, tb_not he32, tb_or, tb_bt (by omega), tb_bt (by omega)]
        rcases he e h with q | q
        · subst q
          simp [hjy]
        · have : j ≠ e := fun z => q.2 (by rw [z])
          simp [q.1, this])
      omega
  intro i hi
  by_cases ea : i = a
  · subst ea
    refine one i b o hi hb hab hK h3 (fun e h => ?_)
    rcases (t i e).mp h with ⟨x1, x2, -⟩ | x | x
    · exact Or.inr ⟨x1, fun z => x2 ⟨rfl, z⟩⟩
    · exact Or.inl x.2
    · exact absurd x.1 hab
  · by_cases eb : i = b
    · subst eb
      refine one i a p hi ha (Ne.symm hab) hKs h4 (fun e h => ?_)
      rcases (t i e).mp h with ⟨x1, _, _, x4, _⟩ | x | x
      · exact Or.inr ⟨x1, fun z => x4 ⟨rfl, z⟩⟩
      · exact absurd x.1.symm hab
      · exact Or.inl x.2
    · obtain ⟨l, l1, l2, l3⟩ := hL i hi
      refine ⟨l, l1, l2, Nat.le_trans (cnt_sub fun e h => ?_) l3⟩
      rcases (t i e).mp h with x | x | x
      · exact x.1
      · exact absurd x.1 ea
      · exact absurd x.1 eb
end MK
