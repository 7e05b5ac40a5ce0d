/-! making: rules told by address; what stands once all is made -/
section KR
variable {X : CX} {mt : MT} {R : Room} {Z : ZX} {pc : Nat} {L : List (Option Value)} {st : List Value} {h : AH}
/-- a constructor's contract: from nx cells to nx' -/
abbrev Ki (X : CX) (d : Nat) (mt : MT) (av : List Value) (h : AH) (nx nx' mc ms : Nat) (Q : Option Value → AH → Prop) : Prop := Mok X d mt av h nx (X.2.1 + nx) nx' (X.2.1 + nx') mc ms Q
theorem k_new {c N nx mc ms nx' mc' ms' idx : Nat} (hd : decode mt.2.1 pc = .ok (.new idx, 3)) (hc : ClOk c N) (hlk : Cond.classLink mt.1.cls idx (ROf c) ∈ BIG) (hins : Cond.instantiable (ROf c) N ∈ BIG) (hini : Cond.initialized (ROf c) ∈ BIG) (hnf : ∀ k, k < N → tyOf c k ≠ .float ∧ tyOf c k ≠ .double) (hk : kd X nx = (c, N)) (e1 : nx + 1 = nx') (e2 : mc + 1 = mc') (e3 : ms + N = ms') (hcs : mc' ≤ R.cells ∧ ms' ≤ R.slots)
    (q : V X mt R Z (nx', X.2.1 + nx', mc', ms') (pc + 3) L (.ref nx :: st) (newH h nx)) : V X mt R Z (nx, X.2.1 + nx, mc, ms) pc L st h := by
  subst e1 e2 e3
  exact v_new hd hc hlk hins hini hnf hk rfl hcs q
theorem k_newa {kc N nx mc ms nx' mc' ms' : Nat} {n : Int32} {atype : ArrayType} (hd : decode mt.2.1 pc = .ok (.newarray atype, 2)) (hty : newarray.typeOf atype = tyAr kc) (hkc : 20 ≤ kc ∧ kc < 24) (harr : Cond.arrayClass (tyAr kc) ∈ BIG) (hn : ¬ n < 0) (hN : n.toNatClampNeg = N) (hN2 : N ≤ 10000) (hk : kd X nx = (kc, N)) (e1 : nx + 1 = nx') (e2 : mc + 1 = mc') (e3 : ms + N = ms') (hcs : mc' ≤ R.cells ∧ ms' ≤ R.slots)
    (q : V X mt R Z (nx', X.2.1 + nx', mc', ms') (pc + 2) L (.ref nx :: st) (newH h nx)) : V X mt R Z (nx, X.2.1 + nx, mc, ms) pc L (.int n :: st) h := by
  subst e1 e2 e3
  exact v_newa hd hty hkc harr hn hN hN2 hk rfl hcs q
/-- more room is counted than was used -/
theorem v_wideS {nx sz mc ms ms' : Nat} (hm : ms ≤ ms') (q : V X mt R Z (nx, sz, mc, ms') pc L st h) : V X mt R Z (nx, sz, mc, ms) pc L st h := fun p e s m args below meth c H locs ls hF hH hz hl => W.widen (Nat.le_refl _) hm (q p e s m args below meth c H locs ls hF hH hz hl)
/-- a constructor is called -/
theorem k_callI {k d n idx nx nx' mc ms mc0 ms0 mc1 ms1 : Nat} {cm : MT} {av : List Value} {P : AH → Prop} (hd : decode mt.2.1 pc = .ok (.invokespecial idx, 3)) (hmt : MtOk cm n) (hlk : CLk mt.1.cls idx cm) (hin : Cond.instanceMethod cm.1 ∈ BIG) (hnm : cm.1.name = "<init>") (hret : cm.2.2.2 = none) (hn : av.length = n) (hM : Ki X d cm (.ref k :: av) h nx nx' mc ms (RV P)) (hR : RO R (d + 1)) (e1 : mc0 + mc = mc1) (e2 : ms0 + ms = ms1) (hcs : mc1 ≤ R.cells ∧ ms1 ≤ R.slots) (hle : nx ≤ nx') (hst : (st.map fun v => v.category).sum ≤ 8) {st1 : List Value} (hst1 : st1 = av.reverse ++ .ref k :: st)
    (q : ∀ g, P g → V X mt R Z (nx', X.2.1 + nx', mc1, ms1) (pc + 3) L st g) : V X mt R Z (nx, X.2.1 + nx, mc0, ms0) pc L st1 h := by
  subst e1 e2
  exact v_callI hM hmt hlk hin hnm hret hn hR hcs (Nat.add_le_add_left hle _) hst hd hst1 (fun r h' z => by
    obtain ⟨rfl, p⟩ := z
    exact q h' p)
theorem k_callIN {k d n idx nx nx' mc ms mc0 ms0 mc1 ms1 : Nat} {cm : MT} {av : List Value} {host : String} {P : AH → Prop} (hd : decode mt.2.1 pc = .ok (.invokespecial idx, 3)) (hmt : MtOk cm n) (hlk : (mt.1.cls, idx, cm.1, host) ∈ NEST) (hin : Cond.instanceMethod cm.1 ∈ BIG) (hnm : cm.1.name = "<init>") (hret : cm.2.2.2 = none) (hn : av.length = n) (hM : Ki X d cm (.ref k :: av) h nx nx' mc ms (RV P)) (hR : RO R (d + 1)) (e1 : mc0 + mc = mc1) (e2 : ms0 + ms = ms1) (hcs : mc1 ≤ R.cells ∧ ms1 ≤ R.slots) (hle : nx ≤ nx') (hst : (st.map fun v => v.category).sum ≤ 8) {st1 : List Value} (hst1 : st1 = av.reverse ++ .ref k :: st)
    (q : ∀ g, P g → V X mt R Z (nx', X.2.1 + nx', mc1, ms1) (pc + 3) L st g) : V X mt R Z (nx, X.2.1 + nx, mc0, ms0) pc L st1 h := by
  subst e1 e2
  exact v_callIN hM hmt hlk hin hnm hret hn hR hcs (Nat.add_le_add_left hle _) hst hd hst1 (fun r h' z => by
    obtain ⟨rfl, p⟩ := z
    exact q h' p)
end KR
section KP
variable {h g k : AH} {n : Nat}
/-- the int that stands there once all is made -/
def CI (n a j : Nat) : Int32 := if a = 1 ∨ a = 5 ∨ a = 9 then (if j = 0 then nI n else if j = 1 then full n else 0) else if a = 3 ∨ a = 7 ∨ a = 11 ∨ a = 75 then (if j < 20 then 7 else 0) else if (a = 0 ∧ j = 0) ∨ (a = 68 ∧ j = 1) then nI n else 0
/-- cells below b are as they were -/
def Kp (b : Nat) (h g : AH) : Prop := ∀ a, a < b → g.1 a = h.1 a ∧ g.2.2 a = h.2.2 a
theorem Kp.rfl {b : Nat} : Kp b h h := fun _ _ => ⟨Eq.refl _, Eq.refl _⟩
theorem Kp.trans {b : Nat} (s : Kp b h g) (t : Kp b g k) : Kp b h k := fun a ha => ⟨(t a ha).1.trans (s a ha).1, (t a ha).2.trans (s a ha).2⟩
theorem Kp.less {b c : Nat} (s : Kp b h g) (hc : c ≤ b) : Kp c h g := fun a ha => s a (Nat.lt_of_lt_of_le ha hc)
theorem Kp.newH {b x : Nat} (s : Kp b h g) (hx : b ≤ x) : Kp b h (newH g x) := fun a ha => ⟨(if_neg (by omega)).trans (s a ha).1, (if_neg (by omega)).trans (s a ha).2⟩
theorem Kp.newM {b x N : Nat} (s : Kp b h g) (hx : b ≤ x) : Kp b h (newM g x N) := fun a ha => ⟨(if_neg (by omega)).trans (s a ha).1, ((if_neg (by omega)).trans (if_neg (by omega))).trans (s a ha).2⟩
theorem Kp.setR {b x j : Nat} {v : Option Nat} (s : Kp b h g) (hx : b ≤ x) : Kp b h (setR g x j v) := fun a ha => ⟨(s a ha).1, (funext fun i => if_neg (fun z => by omega)).trans (s a ha).2⟩
theorem Kp.setI {b x j : Nat} {v : Int32} (s : Kp b h g) (hx : b ≤ x) : Kp b h (setI g x j v) := fun a ha => ⟨(funext fun i => if_neg (fun z => by omega)).trans (s a ha).1, (s a ha).2⟩
def R0f (lo hi : Nat) : List ((Nat × Nat) × Nat) := R0l.filter (fun x => Nat.ble lo x.1.1 && Nat.blt x.1.1 hi)
/-- cells from lo on, below hi, are well made -/
def Tm (n lo hi : Nat) (g : AH) : Prop := (∀ a, lo ≤ a → a < hi → ∀ j, g.1 a j = CI n a j) ∧ ∀ x, x ∈ R0f lo hi → g.2.2 x.1.1 x.1.2 = some x.2
theorem R0f_in {lo hi : Nat} {x : (Nat × Nat) × Nat} : x ∈ R0f lo hi ↔ x ∈ R0l ∧ lo ≤ x.1.1 ∧ x.1.1 < hi := by
  unfold R0f
  rw [List.mem_filter, Bool.and_eq_true, Nat.ble_eq, Nat.blt_eq]
theorem Tm.kp {lo hi b : Nat} (t : Tm n lo hi h) (s : Kp b h g) (hb : hi ≤ b) : Tm n lo hi g := ⟨fun a h1 h2 j => by rw [(s a (by omega)).1]; exact t.1 a h1 h2 j, fun x hx => by
  rw [(s x.1.1 (by have := (R0f_in.mp hx).2.2; omega)).2]
  exact t.2 x hx⟩
theorem Tm.join {a b c : Nat} (s : Tm n a b g) (t : Tm n b c g) : Tm n a c g := ⟨fun x h1 h2 j => by
  by_cases q : x < b
  · exact s.1 x h1 q j
  · exact t.1 x (by omega) h2 j, fun x hx => by
  obtain ⟨x1, x2, x3⟩ := R0f_in.mp hx
  by_cases q : x.1.1 < b
  · exact s.2 x (R0f_in.mpr ⟨x1, x2, q⟩)
  · exact t.2 x (R0f_in.mpr ⟨x1, by omega, x3⟩)⟩
theorem lookup_in {α β : Type} [BEq α] [LawfulBEq α] {a : α} {b : β} : ∀ (l : List (α × β)), l.lookup a = some b → (a, b) ∈ l
  | [], e => by cases e
  | (c, d) :: l, e => by
    rw [List.lookup_cons] at e
    cases q : a == c with
    | true =>
      rw [q] at e
      cases e
      rw [eq_of_beq q]
      exact List.mem_cons_self ..
    | false =>
      rw [q] at e
      exact List.mem_cons_of_mem _ (lookup_in l e)
theorem Tm.fx (t : Tm n 0 90 g) (hr : ∀ x, x ∈ R0l → x.1.1 < 90) : Fx g := fun k j r e => t.2 ((k, j), r) (R0f_in.mpr ⟨lookup_in _ e, Nat.zero_le _, hr _ (lookup_in _ e)⟩)
/-- all is made: all holds -/
theorem Tm.inv (h2 : 2 ≤ n) (h20 : n ≤ 20) (t : Tm n 0 90 g) (hF : Fx g) : Inv g n := by
  have t := t.1
  have z : ∀ a, a < 90 → (∀ j, CI n a j = 0) → g.1 a = fun _ => 0 := fun a ha h => funext fun j => (t a (Nat.zero_le _) ha j).trans (h j)
  have c : ∀ a j, a < 90 → g.1 a j = CI n a j := fun a j ha => t a (Nat.zero_le _) ha j
  have r2 := z 2 (by decide) (fun j => rfl)
  have r73 := z 73 (by decide) (fun j => rfl)
  have r4 := z 4 (by decide) (fun j => rfl)
  have r76 := z 76 (by decide) (fun j => rfl)
  have lim : ∀ a, a = 3 ∨ a = 7 ∨ a = 11 ∨ a = 75 → g.1 a = fun j => if j < 20 then 7 else 0 := fun a ha => funext fun j => by
    rcases ha with rfl | rfl | rfl | rfl
    · exact c 3 j (by decide)
    · exact c 7 j (by decide)
    · exact c 11 j (by decide)
    · exact c 75 j (by decide)
  have gr : Gr n (fun _ => 0) := fun i j q => by
    rw [tb_0] at q
    cases q
  refine ⟨hF, ⟨h2, h20, c 0 0 (by decide), fun a ha => ?_, c 68 1 (by decide)⟩, ⟨?_, ?_, ?_, ?_, ?_⟩, ⟨0, Nat.zero_le _, c 23 1 (by decide), c 68 7 (by decide), fun i hi => by omega⟩, ⟨fun a b ha hb => ⟨0, Nat.zero_le _, ?_, c 83 _ (by decide), ?_, fun q => by omega⟩, fun a ha b q => ?_, (c 68 30 (by decide)).trans (c 40 3 (by decide)).symm, ⟨0, ?_, Nat.zero_le _, c 40 3 (by decide)⟩, (c 68 31 (by decide)).trans (c 40 4 (by decide)).symm, 0, Nat.zero_le _, c 40 4 (by decide)⟩, ⟨(c 68 46 (by decide)).trans (c 0 14 (by decide)).symm, Or.inl (c 0 14 (by decide)), fun p _ => ⟨?_, ?_, ?_⟩, fun q => ?_⟩, 0, fun _ => [], fun _ _ => 0, fun _ => 0, Nat.zero_le _, c 29 4 (by decide), c 68 8 (by decide), fun r hr => by omega, fun r hr => by omega⟩
  · rcases ha with rfl | rfl | rfl
    · exact ⟨c 1 0 (by decide), c 1 1 (by decide)⟩
    · exact ⟨c 5 0 (by decide), c 5 1 (by decide)⟩
    · exact ⟨c 9 0 (by decide), c 9 1 (by decide)⟩
  · rw [r2, r73]
  · rw [lim 75 (by omega), lim 3 (by omega)]
  · rw [r4, r76]
  · rw [r2]
    exact gr
  · rw [r2, lim 3 (by omega)]
    exact fun i hi => ⟨7, by decide, if_pos (by omega), by rw [cnt_0]; exact Nat.zero_le _⟩
  · refine (c (42 + a) b (by omega)).trans ?_
    unfold CI
    rw [if_neg (by omega), if_neg (by omega), if_neg (by omega)]
    rfl
  · rw [c 62 a (by decide)]
    exact tb_0 b
  · rw [c 62 a (by decide)] at q
    have q : tb 0 b = true := q
    rw [tb_0] at q
    cases q
  · refine (sm_zero fun k hk => ?_).symm
    rw [c 83 k (by decide)]
    rfl
  · rw [c 6 p (by decide), r2]
    rfl
  · rw [lim 7 (by omega), lim 3 (by omega)]
  · rw [c 8 p (by decide), r4]
    rfl
  · rw [c 0 14 (by decide)] at q
    cases q
end KP
