/-! sets of so many, in their order -/
def teN (s : Nat) : Nat → Nat
  | 0 => 0
  | m + 1 => if s.testBit m = true then teN s m + 1 else 0
def hbN (s : Nat) : Nat → Option Nat
  | 0 => none
  | m + 1 => if s.testBit m = true then some m else hbN s m
def nxV (s t i : Nat) : Nat := (s &&& (2 ^ i - 1)) ||| ((2 ^ (t + 1) - 1) * 2 ^ (i + 1))
def nxN (n s : Nat) : Option Nat := match hbN s (n - teN s n) with
  | none => none
  | some i => some (nxV s (teN s n) i)
def enN (n : Nat) : Nat → Nat → Nat → List Nat
  | 0, _, s => [s]
  | k + 1, f, s => (List.range' f (n - f)).flatMap (fun p => enN n k (p + 1) (s ||| 2 ^ p))
def chB (n : Nat) : List Nat → Bool
  | [] => true
  | [a] => decide (nxN n a = none)
  | a :: b :: t => decide (nxN n a = some b) && chB n (b :: t)
def fsN (n k : Nat) : Option Nat := if k ≤ n then some (2 ^ k - 1) else none
theorem en_chk : ∀ n, n < 21 → 2 ≤ n → ∀ k, k < 4 → chB n (enN n k 0 0) = true ∧ (enN n k 0 0).length ≤ 1140 ∧ (enN n k 0 0).head? = fsN n k := by decide +kernel
def ovI : Option Nat → Int32
  | none => -1
  | some x => nI x
theorem tb_nI {s i : Nat} (h : s < 2 ^ 31) : tb (nI s) i = s.testBit i := by
  have e := u_nI h
  show (u (nI s)).testBit i = _
  rw [e]
theorem or_nI {a b : Nat} (ha : a < 2 ^ 31) (hb : b < 2 ^ 31) : nI a ||| nI b = nI (a ||| b) := by
  apply tb_ext
  intro i _
  rw [tb_or, tb_nI ha, tb_nI hb, tb_nI (Nat.or_lt_two_pow ha hb), Nat.testBit_or]
theorem and_nI {a b : Nat} (ha : a < 2 ^ 31) (hb : b < 2 ^ 31) : nI a &&& nI b = nI (a &&& b) := by
  apply tb_ext
  intro i _
  rw [tb_and, tb_nI ha, tb_nI hb, tb_nI (Nat.lt_of_le_of_lt Nat.and_le_left ha), Nat.testBit_and]
theorem full_nI {k : Nat} (hk : k ≤ 30) : full k = nI (2 ^ k - 1) := by
  have : ∀ k, k < 31 → full k = nI (2 ^ k - 1) := by decide
  exact this k (by omega)
theorem hbN_lt {s : Nat} : ∀ {m i : Nat}, hbN s m = some i → i < m
  | 0, i, h => by cases h
  | m + 1, i, h => by
    unfold hbN at h
    split at h
    · cases h
      omega
    · have := hbN_lt h
      omega
theorem teN_le {s : Nat} : ∀ {m : Nat}, teN s m ≤ m
  | 0 => Nat.le_refl _
  | m + 1 => by
    have := teN_le (s := s) (m := m)
    unfold teN
    split <;> omega
theorem teN_bit {s : Nat} : ∀ {n : Nat}, teN s n < n → s.testBit (n - 1 - teN s n) = false
  | 0, h => by omega
  | m + 1, h => by
    unfold teN at h ⊢
    by_cases c : s.testBit m = true
    · rw [if_pos c] at h ⊢
      have := teN_bit (s := s) (n := m) (by omega)
      rw [show m + 1 - 1 - (teN s m + 1) = m - 1 - teN s m by omega]
      exact this
    · rw [if_neg c]
      simpa using c
theorem hb_te {s n i : Nat} (h : hbN s (n - teN s n) = some i) : teN s n + 1 + (i + 1) ≤ n := by
  have h1 := hbN_lt h
  have h2 := teN_bit (s := s) (n := n) (by omega)
  have h3 : s.testBit i = true := by
    have : ∀ {m i : Nat}, hbN s m = some i → s.testBit i = true := by
      intro m
      induction m with
      | zero => intro i h; cases h
      | succ m ih =>
        intro i h
        unfold hbN at h
        split at h
        · cases h
          assumption
        · exact ih h
    exact this h
  have : i ≠ n - 1 - teN s n := fun z => by rw [z, h2] at h3; cases h3
  omega
theorem nxV_I {s t i : Nat} (hs : s < 2 ^ 31) (h : t + 1 + (i + 1) ≤ 20) : (nI s &&& (((1 : Int32) <<< (nI i &&& 31)) - 1)) ||| ((((1 : Int32) <<< ((nI t + 1) &&& 31)) - 1) <<< ((nI i + 1) &&& 31)) = nI (nxV s t i) ∧ nxV s t i < 2 ^ 31 := by
  have hp : ∀ k, 0 < 2 ^ k := Nat.two_pow_pos
  have b1 : s &&& (2 ^ i - 1) < 2 ^ 31 := Nat.lt_of_le_of_lt Nat.and_le_left hs
  have b2 : (2 ^ (t + 1) - 1) * 2 ^ (i + 1) < 2 ^ 31 := by
    have e1 : 2 ^ (t + 1) * 2 ^ (i + 1) ≤ 2 ^ 20 := by rw [← Nat.pow_add]; exact Nat.pow_le_pow_right (by decide) h
    have e2 : (2 ^ (t + 1) - 1) * 2 ^ (i + 1) ≤ 2 ^ (t + 1) * 2 ^ (i + 1) := Nat.mul_le_mul_right _ (Nat.sub_le _ _)
    omega
  have e0 : (1 : Int32) <<< (nI i &&& 31) - 1 = nI (2 ^ i - 1) := full_nI (by omega)
  have e1 : (1 : Int32) <<< ((nI t + 1) &&& 31) - 1 = nI (2 ^ (t + 1) - 1) := by rw [nI_1]; exact full_nI (by omega)
  have l1 : 2 ^ i ≤ 2 ^ 20 := Nat.pow_le_pow_right (by decide) (by omega)
  rw [e0, e1, nI_1, pk_shlN _ (i + 1) (sh_amt (by omega)) (by omega), and_nI hs (by omega), or_nI b1 b2]
  exact ⟨rfl, Nat.or_lt_two_pow b1 b2⟩
theorem im_s : ∀ n, n < 21 → ∀ a, a < 21 → nI n - 1 - nI a = nI n - nI a - 1 := by decide
theorem im_m : ∀ m, m < 21 → nI m + (-1) = nI m - 1 := by decide
section OPS
variable {X : CX} {d nx sz : Nat} {h : AH} {n : Nat}
theorem s_next37 {Q : Option Value → AH → Prop} {s t : Nat} (hn : n ≤ 20) (hs : s < 2 ^ 31) : ∀ (m : Nat), m ≤ n → (∀ i, hbN s m = some i → t + 1 + (i + 1) ≤ 20) → Q (some (.int (ovI (match hbN s m with | none => none | some i => some (nxV s t i))))) h → VM X m_X11_nextSet d nx sz Q 37 [some (.int (nI s)), none, none, some (.int (nI t)), some (.int (nI m - 1)), none] [] h
  | 0, _, _, hq => by
    have e : nI 0 - 1 < 0 := by decide
    exact c_X11_nextSet_37 (fun _ => hq) (fun c => absurd e c) (fun c => absurd e c)
  | m + 1, hm, hi, hq => by
    rw [nI_pred]
    have no : ¬ nI m < 0 := nI_pos (by omega)
    by_cases c : s.testBit m = true
    · have ct : ¬ ((nI s >>> (nI m &&& 31)) &&& 1) = 0 := by rw [shr_eq0 (by omega), tb_nI hs, c]; decide
      have e : hbN s (m + 1) = some m := if_pos c
      rw [e] at hq
      refine c_X11_nextSet_37 (fun z => absurd z no) (fun _ z => absurd z ct) (fun _ _ => ?_)
      rw [(nxV_I hs (hi m e)).1]
      exact hq
    · have ct : ((nI s >>> (nI m &&& 31)) &&& 1) = 0 := by rw [shr_eq0 (by omega), tb_nI hs]; simpa using c
      have e : hbN s (m + 1) = hbN s m := if_neg c
      rw [e] at hq
      refine c_X11_nextSet_37 (fun z => absurd z no) (fun _ _ => ?_) (fun _ z => absurd ct z)
      rw [im_m m (by omega)]
      exact s_next37 hn hs m (by omega) (fun i hi' => hi i (by rw [e]; exact hi')) hq
theorem s_nextSet {s : Nat} (h1 : 1 ≤ n) (hn : n ≤ 20) (hs : s < 2 ^ 31) : Mk X d m_X11_nextSet [.int (nI s), .int (nI n)] h nx sz (RE (ovI (nxN n s)) h) := by
  refine Mk.re fun Q hq => e_X11_nextSet (c_X11_nextSet_0 ?_)
  have hT := teN_le (s := s) (m := n)
  have fin : VM X m_X11_nextSet d nx sz Q 37 [some (.int (nI s)), none, none, some (.int (nI (teN s n))), some (.int (nI n - 1 - nI (teN s n))), none] [] h := by
    rw [im_s n (by omega) _ (by omega), pk_sub hT]
    exact s_next37 hn hs _ (by omega) (fun i hi => by have := hb_te hi; omega) hq
  have key : ∀ (m a : Nat), a + m = n → a + teN s m = teN s n → VM X m_X11_nextSet d nx sz Q 9 [some (.int (nI s)), none, some (.int (nI n - 1)), some (.int (nI a)), some (.int (nI m - 1)), none] [] h := by
    intro m
    induction m with
    | zero =>
      intro a ha hT2
      have e : nI 0 - 1 < 0 := by decide
      have e2 : a = teN s n := hT2
      rw [e2]
      exact c_X11_nextSet_9 (fun _ => fin) (fun c => absurd e c) (fun c => absurd e c)
    | succ m ih =>
      intro a ha hT2
      rw [nI_pred]
      have no : ¬ nI m < 0 := nI_pos (by omega)
      have et : teN s (m + 1) = if s.testBit m = true then teN s m + 1 else 0 := rfl
      rw [et] at hT2
      by_cases c : s.testBit m = true
      · have ct : ¬ ((nI s >>> (nI m &&& 31)) &&& 1) = 0 := by rw [shr_eq0 (by omega), tb_nI hs, c]; decide
        rw [if_pos c] at hT2
        refine c_X11_nextSet_9 (fun z => absurd z no) (fun _ z => absurd z ct) (fun _ _ => ?_)
        rw [im_m m (by omega), nI_1]
        exact ih (a + 1) (by omega) (by omega)
      · have ct : ((nI s >>> (nI m &&& 31)) &&& 1) = 0 := by rw [shr_eq0 (by omega), tb_nI hs]; simpa using c
        rw [if_neg c] at hT2
        have e2 : a = teN s n := hT2
        rw [e2]
        exact c_X11_nextSet_9 (fun z => absurd z no) (fun _ _ => fin) (fun _ z => absurd ct z)
  exact key n 0 (by omega) (Nat.zero_add _)
theorem s_firstSet {k : Nat} (hk : k ≤ 3) (hn : n ≤ 20) : Mk X d m_X11_firstSet [.int (nI k), .int (nI n)] h nx sz (RE (ovI (fsN n k)) h) := by
  refine e_X11_firstSet (c_X11_firstSet_0 (fun c => ⟨_, rfl, ?_, rfl⟩) (fun c => ⟨_, rfl, ?_, rfl⟩)) <;> unfold fsN <;> rw [le_nI (by omega) (by omega)] at c
  · rw [if_pos c]
    exact full_nI (by omega)
  · rw [if_neg c]
    rfl
/-- the lowest one -/
theorem low_ex {x : Int32} (hx : x ≠ 0) : ∃ i, i < 32 ∧ tb x i = true ∧ ∀ j, j < i → tb x j = false := by
  cases e : fstp (fun j => tb x j) 0 32 with
  | none =>
    obtain ⟨i, hi, hne⟩ := ne_bit hx
    rw [tb_0, fstp_spec0 e i (Nat.zero_le _) (by omega)] at hne
    exact absurd rfl hne
  | some i =>
    obtain ⟨-, h2, h3, h4⟩ := fstp_spec e
    exact ⟨i, by omega, h3, fun j hj => h4 j (Nat.zero_le _) hj⟩
theorem tb_neg {x : Int32} {i b : Nat} (h1 : tb x i = true) (h2 : ∀ j, j < i → tb x j = false) (hb : b < 32) : tb (-x) b = if b < i then false else if b = i then true else !tb x b := by
  have e : (-x).toBitVec = -x.toBitVec := rfl
  have h1 : x.toBitVec.getLsbD i = true := h1
  have h2 : ∀ j, j < i → x.toBitVec.getLsbD j = false := h2
  unfold tb
  rw [e, BitVec.getLsbD_neg]
  by_cases c1 : b < i
  · rw [if_pos c1, h2 b c1]
    have : ¬ ∃ j, j < b ∧ x.toBitVec.getLsbD j = true := fun ⟨j, hj, z⟩ => by rw [h2 j (by omega)] at z; cases z
    simp [this]
  · rw [if_neg c1]
    by_cases c2 : b = i
    · subst c2
      rw [if_pos rfl, h1]
      have : ¬ ∃ j, j < b ∧ x.toBitVec.getLsbD j = true := fun ⟨j, hj, z⟩ => by rw [h2 j hj] at z; cases z
      simp [this]
    · rw [if_neg c2]
      have : ∃ j, j < b ∧ x.toBitVec.getLsbD j = true := ⟨i, by omega, h1⟩
      simp [this, hb]
theorem low_and {x : Int32} {i : Nat} (hi : i < 32) (h1 : tb x i = true) (h2 : ∀ j, j < i → tb x j = false) : x &&& (-x) = bt i := by
  apply tb_ext
  intro b hb
  rw [tb_and, tb_neg h1 h2 hb, tb_bt hi]
  by_cases c1 : b < i
  · rw [h2 b c1, decide_eq_false (by omega), Bool.false_and]
  · rw [if_neg c1]
    by_cases c2 : b = i
    · subst c2
      rw [if_pos rfl, h1, decide_eq_true rfl]
      rfl
    · rw [if_neg c2, decide_eq_false (fun z => c2 z.symm)]
      cases tb x b <;> rfl
theorem sub1_neg (x : Int32) : x - 1 = (-x) ^^^ (-1) := by
  have h : ∀ b : BitVec 32, b - 1#32 = (-b) ^^^ 4294967295#32 := fun b => by
    rw [show (4294967295#32) = BitVec.allOnes 32 from by decide, BitVec.xor_allOnes, BitVec.not_neg, BitVec.sub_eq_add_neg]
  exact Int32.toBitVec_inj.mp (h x.toBitVec)
theorem low_mask {x : Int32} {i : Nat} (hi : i < 31) (h1 : tb x i = true) (h2 : ∀ j, j < i → tb x j = false) : (x ^^^ (-1)) &&& (x - 1) = full i := by
  apply tb_ext
  intro b hb
  rw [sub1_neg, tb_and, tb_not hb, tb_not hb, tb_neg h1 h2 hb, tb_full (by omega)]
  by_cases c1 : b < i
  · rw [if_pos c1, h2 b c1, decide_eq_true c1]
    rfl
  · rw [if_neg c1, decide_eq_false c1]
    by_cases c2 : b = i
    · subst c2
      rw [if_pos rfl]
      simp
    · rw [if_neg c2]
      cases tb x b <;> rfl
abbrev us (a k : Int32) : Int32 := (a.toUInt32 >>> (k.toUInt32 &&& Int32.toUInt32 31)).toInt32
def v49 (a b : Int32) : Int32 := if a ≤ 16 then (if a ≤ 4 then b + us a 1 else (b + 2) + us (us a 2) 1) else (if us a 4 ≤ 4 then (b + 4) + us (us a 4) 1 else ((b + 4) + 2) + us (us (us a 4) 2) 1)
def vNt (x : Int32) : Int32 := if 0 < x then (if x ≤ 65536 then (if x ≤ 256 then v49 x 1 else v49 (us x 8) (1 + 8)) else (if us x 16 ≤ 256 then v49 (us x 16) (1 + 16) else v49 (us (us x 16) 8) ((1 + 16) + 8))) else x &&& 32
theorem n49_V {Q : Option Value → AH → Prop} {a b : Int32} (hq : Q (some (.int (v49 a b))) h) : VM X m_J6_numberOfTrailingZeros_0f7a4 d nx sz Q 49 [some (.int a), some (.int b)] [] h := by
  unfold v49 at hq
  refine c_J6_numberOfTrailingZeros_0f7a4_49 (fun p q => ?_) (fun p q => ?_) (fun p q => ?_) (fun p q => ?_)
  · rw [if_pos p, if_pos q] at hq; exact hq
  · rw [if_pos p, if_neg q] at hq; exact hq
  · rw [if_neg p, if_pos q] at hq; exact hq
  · rw [if_neg p, if_neg q] at hq; exact hq
theorem n49_all : ∀ i, i < 31 → vNt (full i) = nI i := by decide +kernel
theorem t_ntz {x : Int32} {i : Nat} (hi : i < 31) (h1 : tb x i = true) (h2 : ∀ j, j < i → tb x j = false) : Mk X d m_J6_numberOfTrailingZeros_0f7a4 [.int x] h nx sz (RE (nI i) h) := by
  have e := low_mask hi h1 h2
  have k := n49_all i hi
  unfold vNt at k
  refine Mk.re fun Q hq => e_J6_numberOfTrailingZeros_0f7a4 (c_J6_numberOfTrailingZeros_0f7a4_0 ?_ ?_ ?_ ?_ ?_) <;> rw [e]
  · intro c1 c2 c3
    rw [if_pos c1, if_pos c2, if_pos c3] at k
    exact n49_V (by rw [k]; exact hq)
  · intro c1 c2 c3
    rw [if_pos c1, if_pos c2, if_neg c3] at k
    exact n49_V (by rw [k]; exact hq)
  · intro c1 c2 c3
    rw [if_pos c1, if_neg c2, if_pos c3] at k
    exact n49_V (by rw [k]; exact hq)
  · intro c1 c2 c3
    rw [if_pos c1, if_neg c2, if_neg c3] at k
    exact n49_V (by rw [k]; exact hq)
  · intro c
    rw [if_neg c] at k
    rw [k]
    exact hq
end OPS
