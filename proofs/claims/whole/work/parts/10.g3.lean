/-! stretches of code, by program -/
section VG
variable {X : CX} {mt : MT} {R : Room} {Z : ZX} {A : AX} {pc : Nat} {L : List (Option Value)} {st : List Value} {h : AH}
theorem v_grow {n : Nat} (q : V X mt R Z A pc (L ++ List.replicate n none) st h) : V X mt R Z A pc L st h := v_weak (fun i v hi => by
  by_cases hl : i < L.length
  · rwa [List.getElem?_append_left hl] at hi
  · rw [List.getElem?_append_right (by omega)] at hi
    have := List.eq_of_mem_replicate (List.mem_of_getElem? hi)
    cases this) q
end VG
theorem lvLe_e {u : List (Option Value)} : lvLe [] u := trivial
theorem lvLe_s {v : Value} {t u : List (Option Value)} (h : lvLe t u) : lvLe (some v :: t) (some v :: u) := ⟨rfl, h⟩
theorem lvLe_n {o : Option Value} {t u : List (Option Value)} (h : lvLe t u) : lvLe (none :: t) (o :: u) := h
theorem RO_1 {R : Room} {d : Nat} (h : RO R (d + 1)) : RO R 1 := ⟨by have := h.1; omega, by have := h.2; omega⟩
theorem e_X3_copy {X : CX} {d nx sz : Nat} {Q : Option Value → AH → Prop} {h : AH} {r0 r1 : Nat} (q : V X m_X3_copy (rm d 0 0) (ZM X Q nx sz 0 0) (nx, sz, 0, 0) 0 [some (.ref r0), some (.ref r1)] [] h) : Mk X d m_X3_copy [.ref r0, .ref r1] h nx sz Q := by
  refine Mok.ofV mo_X3_copy (Nat.le_of_ble_eq_true rfl) (L := [some (.ref r0), some (.ref r1)]) (lvLe_s (lvLe_s lvLe_e)) (v_grow (n := 0) ?_)
  exact q
theorem c_X3_copy_0 {X : CX} {R : Room} {Q : Option Value → AH → Prop} {nx sz mc ms : Nat} {h : AH} {r0 r1 d : Nat} (hA0 : 91 ≤ nx) (hF : Fx h) (hn_r1 : IsNet r1) (hn_r0 : IsNet r0) (hR : RO R (d + 1)) (hcs : mc ≤ R.cells ∧ ms ≤ R.slots) (hq : Q none (setA (setA (setA h (r0 + 1) (va_cpy (h.1 (r1 + 1)) (h.1 (r0 + 1)) 0 0 20)) (r0 + 2) (va_cpy ((setA h (r0 + 1) (va_cpy (h.1 (r1 + 1)) (h.1 (r0 + 1)) 0 0 20)).1 (r1 + 2)) ((setA h (r0 + 1) (va_cpy (h.1 (r1 + 1)) (h.1 (r0 + 1)) 0 0 20)).1 (r0 + 2)) 0 0 20)) (r0 + 3) (va_cpy ((setA (setA h (r0 + 1) (va_cpy (h.1 (r1 + 1)) (h.1 (r0 + 1)) 0 0 20)) (r0 + 2) (va_cpy ((setA h (r0 + 1) (va_cpy (h.1 (r1 + 1)) (h.1 (r0 + 1)) 0 0 20)).1 (r1 + 2)) ((setA h (r0 + 1) (va_cpy (h.1 (r1 + 1)) (h.1 (r0 + 1)) 0 0 20)).1 (r0 + 2)) 0 0 20)).1 (r1 + 3)) ((setA (setA h (r0 + 1) (va_cpy (h.1 (r1 + 1)) (h.1 (r0 + 1)) 0 0 20)) (r0 + 2) (va_cpy ((setA h (r0 + 1) (va_cpy (h.1 (r1 + 1)) (h.1 (r0 + 1)) 0 0 20)).1 (r1 + 2)) ((setA h (r0 + 1) (va_cpy (h.1 (r1 + 1)) (h.1 (r0 + 1)) 0 0 20)).1 (r0 + 2)) 0 0 20)).1 (r0 + 3)) 0 0 20))) : V X m_X3_copy R (ZM X Q nx sz mc ms) (nx, sz, mc, ms) 0 [some (.ref r0), some (.ref r1)] [] h := by
  refine v_aload_n dX3_copy_0 rfl ?_
  refine v_getR dX3_copy_1 fl_RX3_9 (net_kd hn_r1) (net_lt hn_r1 hA0) rfl (net_r1 hn_r1 hF) ?_
  refine v_iconst dX3_copy_4 ci_0 ?_
  refine v_aload_n dX3_copy_5 rfl ?_
  refine v_getR dX3_copy_6 fl_RX3_9 (net_kd hn_r0) (net_lt hn_r0 hA0) rfl (net_r1 hn_r0 hF) ?_
  refine v_iconst dX3_copy_9 ci_0 ?_
  refine v_bipush dX3_copy_10 cb_20 ?_
  refine v_acopy dX3_copy_12 ml_RX3_34 nat_ac mz_ac in_sys (net_kd1 hn_r1) (net_kd1 hn_r0) (net_lt1 hn_r1 hA0) (net_lt1 hn_r0 hA0) (by decide) (by decide) (by decide) (by decide) (by decide) (RO_1 hR) (Nat.le_of_ble_eq_true rfl) ?_
  refine v_aload_n dX3_copy_15 rfl ?_
  refine v_getR dX3_copy_16 fl_RX3_15 (net_kd hn_r1) (net_lt hn_r1 hA0) rfl (net_r2 hn_r1 hF) ?_
  refine v_iconst dX3_copy_19 ci_0 ?_
  refine v_aload_n dX3_copy_20 rfl ?_
  refine v_getR dX3_copy_21 fl_RX3_15 (net_kd hn_r0) (net_lt hn_r0 hA0) rfl (net_r2 hn_r0 hF) ?_
  refine v_iconst dX3_copy_24 ci_0 ?_
  refine v_bipush dX3_copy_25 cb_20 ?_
  refine v_acopy dX3_copy_27 ml_RX3_34 nat_ac mz_ac in_sys (net_kd2 hn_r1) (net_kd2 hn_r0) (net_lt2 hn_r1 hA0) (net_lt2 hn_r0 hA0) (by decide) (by decide) (by decide) (by decide) (by decide) (RO_1 hR) (Nat.le_of_ble_eq_true rfl) ?_
  refine v_aload_n dX3_copy_30 rfl ?_
  refine v_getR dX3_copy_31 fl_RX3_18 (net_kd hn_r1) (net_lt hn_r1 hA0) rfl (net_r3 hn_r1 hF) ?_
  refine v_iconst dX3_copy_34 ci_0 ?_
  refine v_aload_n dX3_copy_35 rfl ?_
  refine v_getR dX3_copy_36 fl_RX3_18 (net_kd hn_r0) (net_lt hn_r0 hA0) rfl (net_r3 hn_r0 hF) ?_
  refine v_iconst dX3_copy_39 ci_0 ?_
  refine v_bipush dX3_copy_40 cb_20 ?_
  refine v_acopy dX3_copy_42 ml_RX3_34 nat_ac mz_ac in_sys (net_kd3 hn_r1) (net_kd3 hn_r0) (net_lt3 hn_r1 hA0) (net_lt3 hn_r0 hA0) (by decide) (by decide) (by decide) (by decide) (by decide) (RO_1 hR) (Nat.le_of_ble_eq_true rfl) ?_
  exact v_vret dX3_copy_45 rfl hq
theorem e_X3_has {X : CX} {d nx sz : Nat} {Q : Option Value → AH → Prop} {h : AH} {r0 : Nat} {x1 : Int32} (q : V X m_X3_has (rm d 0 0) (ZM X Q nx sz 0 0) (nx, sz, 0, 0) 0 [some (.ref r0), some (.int x1)] [] h) : Mk X d m_X3_has [.ref r0, .int x1] h nx sz Q := by
  refine Mok.ofV mo_X3_has (Nat.le_of_ble_eq_true rfl) (L := [some (.ref r0), some (.int x1)]) (lvLe_s (lvLe_s lvLe_e)) (v_grow (n := 0) ?_)
  exact q
theorem c_X3_has_0 {X : CX} {R : Room} {Q : Option Value → AH → Prop} {nx sz mc ms : Nat} {h : AH} {r0 : Nat} {x1 : Int32} (hA0 : 91 ≤ nx) (hn_r0 : IsNet r0) (hq : x1 < 0 → Q (some (.int 0)) h) (hq_1 : ¬ x1 < 0 → (h.1 r0 0) ≤ x1 → Q (some (.int 0)) h) (hq_2 : ¬ x1 < 0 → ¬ (h.1 r0 0) ≤ x1 → Q (some (.int 1)) h) : V X m_X3_has R (ZM X Q nx sz mc ms) (nx, sz, mc, ms) 0 [some (.ref r0), some (.int x1)] [] h := by
  refine v_iload_n dX3_has_0 rfl ?_
  refine v_if_lt (tgt := 16) dX3_has_1 (by decide) (fun c0 => ?_) (fun c0 => ?_)
  · refine v_iconst dX3_has_16 ci_0 ?_
    exact v_zret (ty := .boolean) dX3_has_17 rfl rfl (hq c0)
  · refine v_iload_n dX3_has_4 rfl ?_
    refine v_aload_n dX3_has_5 rfl ?_
    refine v_getI dX3_has_6 fl_RX3_21 (net_kd hn_r0) (net_lt hn_r0 hA0) rfl ?_
    refine v_icmp_ge (tgt := 16) dX3_has_9 (by decide) (fun c1 => ?_) (fun c1 => ?_)
    · refine v_iconst dX3_has_16 ci_0 ?_
      exact v_zret (ty := .boolean) dX3_has_17 rfl rfl (hq_1 c0 c1)
    · refine v_iconst dX3_has_12 ci_1 ?_
      refine v_goto (tgt := 17) dX3_has_13 (by decide) ?_
      exact v_zret (ty := .boolean) dX3_has_17 rfl rfl (hq_2 c0 c1)
theorem e_X3_hasTwo {X : CX} {d nx sz : Nat} {Q : Option Value → AH → Prop} {h : AH} {r0 : Nat} {x1 x2 : Int32} (q : V X m_X3_hasTwo (rm d 0 0) (ZM X Q nx sz 0 0) (nx, sz, 0, 0) 0 [some (.ref r0), some (.int x1), some (.int x2)] [] h) : Mk X d m_X3_hasTwo [.ref r0, .int x1, .int x2] h nx sz Q := by
  refine Mok.ofV mo_X3_hasTwo (Nat.le_of_ble_eq_true rfl) (L := [some (.ref r0), some (.int x1), some (.int x2)]) (lvLe_s (lvLe_s (lvLe_s lvLe_e))) (v_grow (n := 0) ?_)
  exact q
theorem c_X3_hasTwo_0 {X : CX} {R : Room} {Z : ZX} {A : AX} {h : AH} {r0 d : Nat} {x1 x2 : Int32} {P2 : Int32 → AH → Prop} (hA0 : 91 ≤ A.1) (hR : RO R (d + 1)) (hcs : A.2.2.1 ≤ R.cells ∧ A.2.2.2 ≤ R.slots) (hn_r0 : IsNet r0) (hM : Mk X d m_X3_has [.ref r0, .int x1] h A.1 A.2.1 (RI P2)) (q : ∀ (y : Int32) (g : AH), P2 y g → V X m_X3_hasTwo R Z A 5 [some (.ref r0), some (.int x1), some (.int x2)] [.int y] g) : V X m_X3_hasTwo R Z A 0 [some (.ref r0), some (.int x1), some (.int x2)] [] h := by
  refine v_aload_n dX3_hasTwo_0 rfl ?_
  refine v_iload_n dX3_hasTwo_1 rfl ?_
  exact v_cVI (mt := m_X3_hasTwo) mo_X3_has ml_RX3_40 mi_X3_has mv_X3_has rfl (net_kd hn_r0) cl_3 rfl (net_lt hn_r0 hA0) hR hcs (Nat.le_of_ble_eq_true rfl) dX3_hasTwo_2 rfl hM (fun y g hp => (q y g hp))
theorem c_X3_hasTwo_5 {X : CX} {R : Room} {Q : Option Value → AH → Prop} {nx sz mc ms : Nat} {h : AH} {r0 d : Nat} {x1 x2 s0 : Int32} {P10 : Int32 → AH → Prop} (hA0 : 91 ≤ nx) (hR : RO R (d + 1)) (hcs : mc ≤ R.cells ∧ ms ≤ R.slots) (hn_r0 : IsNet r0) (hq : s0 = 0 → Q (some (.int 0)) h) (hM : ¬ s0 = 0 → Mk X d m_X3_has [.ref r0, .int x2] h nx sz (RI P10)) (q : ¬ s0 = 0 → ∀ (y : Int32) (g : AH), P10 y g → V X m_X3_hasTwo R (ZM X Q nx sz mc ms) (nx, sz, mc, ms) 13 [none, some (.int x1), some (.int x2)] [.int y] g) : V X m_X3_hasTwo R (ZM X Q nx sz mc ms) (nx, sz, mc, ms) 5 [some (.ref r0), some (.int x1), some (.int x2)] [.int s0] h := by
  refine v_if_eq (tgt := 25) dX3_hasTwo_5 (by decide) (fun c0 => ?_) (fun c0 => ?_)
  · refine v_iconst dX3_hasTwo_25 ci_0 ?_
    exact v_zret (ty := .boolean) dX3_hasTwo_26 rfl rfl (hq c0)
  · refine v_aload_n dX3_hasTwo_8 rfl ?_
    refine v_iload_n dX3_hasTwo_9 rfl ?_
    exact v_cVI (mt := m_X3_hasTwo) mo_X3_has ml_RX3_40 mi_X3_has mv_X3_has rfl (net_kd hn_r0) cl_3 rfl (net_lt hn_r0 hA0) hR hcs (Nat.le_of_ble_eq_true rfl) dX3_hasTwo_10 rfl (hM c0) (fun y g hp => (v_drop (lvLe_n (lvLe_s (lvLe_s lvLe_e))) ((q c0) y g hp)))
theorem c_X3_hasTwo_13 {X : CX} {R : Room} {Q : Option Value → AH → Prop} {nx sz mc ms : Nat} {h : AH} {x1 x2 s0 : Int32} (hq : s0 = 0 → Q (some (.int 0)) h) (hq_1 : ¬ s0 = 0 → x1 = x2 → Q (some (.int 0)) h) (hq_2 : ¬ s0 = 0 → ¬ x1 = x2 → Q (some (.int 1)) h) : V X m_X3_hasTwo R (ZM X Q nx sz mc ms) (nx, sz, mc, ms) 13 [none, some (.int x1), some (.int x2)] [.int s0] h := by
  refine v_if_eq (tgt := 25) dX3_hasTwo_13 (by decide) (fun c0 => ?_) (fun c0 => ?_)
  · refine v_iconst dX3_hasTwo_25 ci_0 ?_
    exact v_zret (ty := .boolean) dX3_hasTwo_26 rfl rfl (hq c0)
  · refine v_iload_n dX3_hasTwo_16 rfl ?_
    refine v_iload_n dX3_hasTwo_17 rfl ?_
    refine v_icmp_eq (tgt := 25) dX3_hasTwo_18 (by decide) (fun c1 => ?_) (fun c1 => ?_)
    · refine v_iconst dX3_hasTwo_25 ci_0 ?_
      exact v_zret (ty := .boolean) dX3_hasTwo_26 rfl rfl (hq_1 c0 c1)
    · refine v_iconst dX3_hasTwo_21 ci_1 ?_
      refine v_goto (tgt := 26) dX3_hasTwo_22 (by decide) ?_
      exact v_zret (ty := .boolean) dX3_hasTwo_26 rfl rfl (hq_2 c0 c1)
theorem e_X3_hasBits {X : CX} {d nx sz : Nat} {Q : Option Value → AH → Prop} {h : AH} {r0 : Nat} {x1 : Int32} (q : V X m_X3_hasBits (rm d 0 0) (ZM X Q nx sz 0 0) (nx, sz, 0, 0) 0 [some (.ref r0), some (.int x1)] [] h) : Mk X d m_X3_hasBits [.ref r0, .int x1] h nx sz Q := by
  refine Mok.ofV mo_X3_hasBits (Nat.le_of_ble_eq_true rfl) (L := [some (.ref r0), some (.int x1)]) (lvLe_s (lvLe_s lvLe_e)) (v_grow (n := 0) ?_)
  exact q
theorem c_X3_hasBits_0 {X : CX} {R : Room} {Q : Option Value → AH → Prop} {nx sz mc ms : Nat} {h : AH} {r0 : Nat} {x1 : Int32} (hA0 : 91 ≤ nx) (hn_r0 : IsNet r0) (hq : x1 = 0 → Q (some (.int 0)) h) (hq_1 : ¬ x1 = 0 → ¬ (x1 &&& ((h.1 r0 1) ^^^ (-1))) = 0 → Q (some (.int 0)) h) (hq_2 : ¬ x1 = 0 → (x1 &&& ((h.1 r0 1) ^^^ (-1))) = 0 → Q (some (.int 1)) h) : V X m_X3_hasBits R (ZM X Q nx sz mc ms) (nx, sz, mc, ms) 0 [some (.ref r0), some (.int x1)] [] h := by
  refine v_iload_n dX3_hasBits_0 rfl ?_
  refine v_if_eq (tgt := 19) dX3_hasBits_1 (by decide) (fun c0 => ?_) (fun c0 => ?_)
  · refine v_iconst dX3_hasBits_19 ci_0 ?_
    exact v_zret (ty := .boolean) dX3_hasBits_20 rfl rfl (hq c0)
  · refine v_iload_n dX3_hasBits_4 rfl ?_
    refine v_aload_n dX3_hasBits_5 rfl ?_
    refine v_getI dX3_hasBits_6 fl_RX3_25 (net_kd hn_r0) (net_lt hn_r0 hA0) rfl ?_
    refine v_iconst dX3_hasBits_9 ci_m1 ?_
    refine v_ixor dX3_hasBits_10 ?_
    refine v_iand dX3_hasBits_11 ?_
    refine v_if_ne (tgt := 19) dX3_hasBits_12 (by decide) (fun c1 => ?_) (fun c1 => ?_)
    · refine v_iconst dX3_hasBits_19 ci_0 ?_
      exact v_zret (ty := .boolean) dX3_hasBits_20 rfl rfl (hq_1 c0 c1)
    · refine v_iconst dX3_hasBits_15 ci_1 ?_
      refine v_goto (tgt := 20) dX3_hasBits_16 (by decide) ?_
      exact v_zret (ty := .boolean) dX3_hasBits_20 rfl rfl (hq_2 c0 c1)
theorem e_X3_tied {X : CX} {d nx sz : Nat} {Q : Option Value → AH → Prop} {h : AH} {r0 : Nat} {x1 x2 : Int32} (q : V X m_X3_tied (rm d 0 0) (ZM X Q nx sz 0 0) (nx, sz, 0, 0) 0 [some (.ref r0), some (.int x1), some (.int x2)] [] h) : Mk X d m_X3_tied [.ref r0, .int x1, .int x2] h nx sz Q := by
  refine Mok.ofV mo_X3_tied (Nat.le_of_ble_eq_true rfl) (L := [some (.ref r0), some (.int x1), some (.int x2)]) (lvLe_s (lvLe_s (lvLe_s lvLe_e))) (v_grow (n := 0) ?_)
  exact q
theorem c_X3_tied_0 {X : CX} {R : Room} {Z : ZX} {A : AX} {h : AH} {r0 d : Nat} {x1 x2 : Int32} {P2 : Int32 → AH → Prop} (hA0 : 91 ≤ A.1) (hR : RO R (d + 1)) (hcs : A.2.2.1 ≤ R.cells ∧ A.2.2.2 ≤ R.slots) (hn_r0 : IsNet r0) (hM : Mk X d m_X3_has [.ref r0, .int x1] h A.1 A.2.1 (RI P2)) (q : ∀ (y : Int32) (g : AH), P2 y g → V X m_X3_tied R Z A 5 [some (.ref r0), some (.int x1), some (.int x2)] [.int y] g) : V X m_X3_tied R Z A 0 [some (.ref r0), some (.int x1), some (.int x2)] [] h := by
  refine v_aload_n dX3_tied_0 rfl ?_
  refine v_iload_n dX3_tied_1 rfl ?_
  exact v_cVI (mt := m_X3_tied) mo_X3_has ml_RX3_40 mi_X3_has mv_X3_has rfl (net_kd hn_r0) cl_3 rfl (net_lt hn_r0 hA0) hR hcs (Nat.le_of_ble_eq_true rfl) dX3_tied_2 rfl hM (fun y g hp => (q y g hp))
theorem c_X3_tied_5 {X : CX} {R : Room} {Q : Option Value → AH → Prop} {nx sz mc ms : Nat} {h : AH} {r0 d : Nat} {x1 x2 s0 : Int32} {P10 : Int32 → AH → Prop} (hA0 : 91 ≤ nx) (hR : RO R (d + 1)) (hcs : mc ≤ R.cells ∧ ms ≤ R.slots) (hn_r0 : IsNet r0) (hq : s0 = 0 → Q (some (.int 0)) h) (hM : ¬ s0 = 0 → Mk X d m_X3_has [.ref r0, .int x2] h nx sz (RI P10)) (q : ¬ s0 = 0 → ∀ (y : Int32) (g : AH), P10 y g → V X m_X3_tied R (ZM X Q nx sz mc ms) (nx, sz, mc, ms) 13 [some (.ref r0), some (.int x1), some (.int x2)] [.int y] g) : V X m_X3_tied R (ZM X Q nx sz mc ms) (nx, sz, mc, ms) 5 [some (.ref r0), some (.int x1), some (.int x2)] [.int s0] h := by
  refine v_if_eq (tgt := 33) dX3_tied_5 (by decide) (fun c0 => ?_) (fun c0 => ?_)
  · refine v_iconst dX3_tied_33 ci_0 ?_
    exact v_zret (ty := .boolean) dX3_tied_34 rfl rfl (hq c0)
  · refine v_aload_n dX3_tied_8 rfl ?_
    refine v_iload_n dX3_tied_9 rfl ?_
    exact v_cVI (mt := m_X3_tied) mo_X3_has ml_RX3_40 mi_X3_has mv_X3_has rfl (net_kd hn_r0) cl_3 rfl (net_lt hn_r0 hA0) hR hcs (Nat.le_of_ble_eq_true rfl) dX3_tied_10 rfl (hM c0) (fun y g hp => ((q c0) y g hp))
theorem c_X3_tied_13 {X : CX} {R : Room} {Q : Option Value → AH → Prop} {nx sz mc ms : Nat} {h : AH} {r0 : Nat} {x1 x2 s0 : Int32} (hA0 : 91 ≤ nx) (hF : Fx h) (hn_r0 : IsNet r0) (hq : s0 = 0 → Q (some (.int 0)) h) (hi_21 : ¬ s0 = 0 → vp_in x1 20) (hq_1 : ¬ s0 = 0 → (((h.1 (r0 + 1) x1.toNatClampNeg) >>> (x2 &&& 31)) &&& 1) = 0 → Q (some (.int 0)) h) (hq_2 : ¬ s0 = 0 → ¬ (((h.1 (r0 + 1) x1.toNatClampNeg) >>> (x2 &&& 31)) &&& 1) = 0 → Q (some (.int 1)) h) : V X m_X3_tied R (ZM X Q nx sz mc ms) (nx, sz, mc, ms) 13 [some (.ref r0), some (.int x1), some (.int x2)] [.int s0] h := by
  refine v_if_eq (tgt := 33) dX3_tied_13 (by decide) (fun c0 => ?_) (fun c0 => ?_)
  · refine v_iconst dX3_tied_33 ci_0 ?_
    exact v_zret (ty := .boolean) dX3_tied_34 rfl rfl (hq c0)
  · refine v_aload_n dX3_tied_16 rfl ?_
    refine v_getR dX3_tied_17 fl_RX3_9 (net_kd hn_r0) (net_lt hn_r0 hA0) rfl (net_r1 hn_r0 hF) ?_
    refine v_iload_n dX3_tied_20 rfl ?_
    refine v_iald dX3_tied_21 (net_kd1 hn_r0) (net_lt1 hn_r0 hA0) (hi_21 c0) ?_
    refine v_iload_n dX3_tied_22 rfl ?_
    refine v_ishr dX3_tied_23 ?_
    refine v_iconst dX3_tied_24 ci_1 ?_
    refine v_iand dX3_tied_25 ?_
    refine v_if_eq (tgt := 33) dX3_tied_26 (by decide) (fun c1 => ?_) (fun c1 => ?_)
    · refine v_iconst dX3_tied_33 ci_0 ?_
      exact v_zret (ty := .boolean) dX3_tied_34 rfl rfl (hq_1 c0 c1)
    · refine v_iconst dX3_tied_29 ci_1 ?_
      refine v_goto (tgt := 34) dX3_tied_30 (by decide) ?_
      exact v_zret (ty := .boolean) dX3_tied_34 rfl rfl (hq_2 c0 c1)
theorem e_X3_degree {X : CX} {d nx sz : Nat} {Q : Option Value → AH → Prop} {h : AH} {r0 : Nat} {x1 : Int32} (q : V X m_X3_degree (rm d 0 0) (ZM X Q nx sz 0 0) (nx, sz, 0, 0) 0 [some (.ref r0), some (.int x1)] [] h) : Mk X d m_X3_degree [.ref r0, .int x1] h nx sz Q := by
  refine Mok.ofV mo_X3_degree (Nat.le_of_ble_eq_true rfl) (L := [some (.ref r0), some (.int x1)]) (lvLe_s (lvLe_s lvLe_e)) (v_grow (n := 0) ?_)
  exact q
theorem c_X3_degree_0 {X : CX} {R : Room} {Z : ZX} {A : AX} {h : AH} {r0 d : Nat} {x1 : Int32} {P6 : Int32 → AH → Prop} (hA0 : 91 ≤ A.1) (hF : Fx h) (hn_r0 : IsNet r0) (hR : RO R (d + 1)) (hcs : A.2.2.1 ≤ R.cells ∧ A.2.2.2 ≤ R.slots) (hi_5 : vp_in x1 20) (hM : Mk X d m_J6_bitCount_0f7a4 [.int (h.1 (r0 + 1) x1.toNatClampNeg)] h A.1 A.2.1 (RI P6)) (q : ∀ (y : Int32) (g : AH), P6 y g → V X m_X3_degree R Z A 9 [none, none] [.int y] g) : V X m_X3_degree R Z A 0 [some (.ref r0), some (.int x1)] [] h := by
  refine v_aload_n dX3_degree_0 rfl ?_
  refine v_getR dX3_degree_1 fl_RX3_9 (net_kd hn_r0) (net_lt hn_r0 hA0) rfl (net_r1 hn_r0 hF) ?_
  refine v_iload_n dX3_degree_4 rfl ?_
  refine v_iald dX3_degree_5 (net_kd1 hn_r0) (net_lt1 hn_r0 hA0) hi_5 ?_
  exact v_cSI (mt := m_X3_degree) mo_J6_bitCount_0f7a4 ml_RX3_44 mz_J6_bitCount_0f7a4 rfl hR hcs (Nat.le_of_ble_eq_true rfl) dX3_degree_6 rfl hM (fun y g hp => (v_drop (lvLe_n (lvLe_n lvLe_e)) (q y g hp)))
theorem c_X3_degree_9 {X : CX} {R : Room} {Q : Option Value → AH → Prop} {nx sz mc ms : Nat} {h : AH} {s0 : Int32} (hq : Q (some (.int s0)) h) : V X m_X3_degree R (ZM X Q nx sz mc ms) (nx, sz, mc, ms) 9 [none, none] [.int s0] h := by
  exact v_iret dX3_degree_9 rfl hq
theorem e_X3_full {X : CX} {d nx sz : Nat} {Q : Option Value → AH → Prop} {h : AH} {r0 : Nat} {x1 : Int32} (q : V X m_X3_full (rm d 0 0) (ZM X Q nx sz 0 0) (nx, sz, 0, 0) 0 [some (.ref r0), some (.int x1)] [] h) : Mk X d m_X3_full [.ref r0, .int x1] h nx sz Q := by
  refine Mok.ofV mo_X3_full (Nat.le_of_ble_eq_true rfl) (L := [some (.ref r0), some (.int x1)]) (lvLe_s (lvLe_s lvLe_e)) (v_grow (n := 0) ?_)
  exact q
theorem c_X3_full_0 {X : CX} {R : Room} {Z : ZX} {A : AX} {h : AH} {r0 d : Nat} {x1 : Int32} {P6 : Int32 → AH → Prop} (hA0 : 91 ≤ A.1) (hF : Fx h) (hn_r0 : IsNet r0) (hR : RO R (d + 1)) (hcs : A.2.2.1 ≤ R.cells ∧ A.2.2.2 ≤ R.slots) (hi_5 : vp_in x1 20) (hM : Mk X d m_J6_bitCount_0f7a4 [.int (h.1 (r0 + 1) x1.toNatClampNeg)] h A.1 A.2.1 (RI P6)) (q : ∀ (y : Int32) (g : AH), P6 y g → V X m_X3_full R Z A 9 [some (.ref r0), some (.int x1)] [.int y] g) : V X m_X3_full R Z A 0 [some (.ref r0), some (.int x1)] [] h := by
  refine v_aload_n dX3_full_0 rfl ?_
  refine v_getR dX3_full_1 fl_RX3_9 (net_kd hn_r0) (net_lt hn_r0 hA0) rfl (net_r1 hn_r0 hF) ?_
  refine v_iload_n dX3_full_4 rfl ?_
  refine v_iald dX3_full_5 (net_kd1 hn_r0) (net_lt1 hn_r0 hA0) hi_5 ?_
  exact v_cSI (mt := m_X3_full) mo_J6_bitCount_0f7a4 ml_RX3_44 mz_J6_bitCount_0f7a4 rfl hR hcs (Nat.le_of_ble_eq_true rfl) dX3_full_6 rfl hM (fun y g hp => (q y g hp))
theorem c_X3_full_9 {X : CX} {R : Room} {Q : Option Value → AH → Prop} {nx sz mc ms : Nat} {h : AH} {r0 : Nat} {x1 s0 : Int32} (hA0 : 91 ≤ nx) (hF : Fx h) (hn_r0 : IsNet r0) (hi_14 : vp_in x1 20) (hq : s0 < (h.1 (r0 + 2) x1.toNatClampNeg) → Q (some (.int 0)) h) (hq_1 : ¬ s0 < (h.1 (r0 + 2) x1.toNatClampNeg) → Q (some (.int 1)) h) : V X m_X3_full R (ZM X Q nx sz mc ms) (nx, sz, mc, ms) 9 [some (.ref r0), some (.int x1)] [.int s0] h := by
  refine v_aload_n dX3_full_9 rfl ?_
  refine v_getR dX3_full_10 fl_RX3_15 (net_kd hn_r0) (net_lt hn_r0 hA0) rfl (net_r2 hn_r0 hF) ?_
  refine v_iload_n dX3_full_13 rfl ?_
  refine v_iald dX3_full_14 (net_kd2 hn_r0) (net_lt2 hn_r0 hA0) hi_14 ?_
  refine v_icmp_lt (tgt := 22) dX3_full_15 (by decide) (fun c0 => ?_) (fun c0 => ?_)
  · refine v_iconst dX3_full_22 ci_0 ?_
    exact v_zret (ty := .boolean) dX3_full_23 rfl rfl (hq c0)
  · refine v_iconst dX3_full_18 ci_1 ?_
    refine v_goto (tgt := 23) dX3_full_19 (by decide) ?_
    exact v_zret (ty := .boolean) dX3_full_23 rfl rfl (hq_1 c0)
theorem e_X3_join {X : CX} {d nx sz : Nat} {Q : Option Value → AH → Prop} {h : AH} {r0 : Nat} {x1 x2 : Int32} (q : V X m_X3_join (rm d 0 0) (ZM X Q nx sz 0 0) (nx, sz, 0, 0) 0 [some (.ref r0), some (.int x1), some (.int x2)] [] h) : Mk X d m_X3_join [.ref r0, .int x1, .int x2] h nx sz Q := by
  refine Mok.ofV mo_X3_join (Nat.le_of_ble_eq_true rfl) (L := [some (.ref r0), some (.int x1), some (.int x2)]) (lvLe_s (lvLe_s (lvLe_s lvLe_e))) (v_grow (n := 0) ?_)
  exact q
theorem c_X3_join_0 {X : CX} {R : Room} {Q : Option Value → AH → Prop} {nx sz mc ms : Nat} {h : AH} {r0 : Nat} {x1 x2 : Int32} (hA0 : 91 ≤ nx) (hF : Fx h) (hn_r0 : IsNet r0) (hi_6 : vp_in x1 20) (hi_11 : vp_in x1 20) (hi_18 : vp_in x2 20) (hi_23 : vp_in x2 20) (hq : Q none (setI (setI h (r0 + 1) x1.toNatClampNeg ((h.1 (r0 + 1) x1.toNatClampNeg) ||| ((1 : Int32) <<< ((x2 : Int32) &&& 31)))) (r0 + 1) x2.toNatClampNeg (((setI h (r0 + 1) x1.toNatClampNeg ((h.1 (r0 + 1) x1.toNatClampNeg) ||| ((1 : Int32) <<< ((x2 : Int32) &&& 31)))).1 (r0 + 1) x2.toNatClampNeg) ||| ((1 : Int32) <<< ((x1 : Int32) &&& 31))))) : V X m_X3_join R (ZM X Q nx sz mc ms) (nx, sz, mc, ms) 0 [some (.ref r0), some (.int x1), some (.int x2)] [] h := by
  refine v_aload_n dX3_join_0 rfl ?_
  refine v_getR dX3_join_1 fl_RX3_9 (net_kd hn_r0) (net_lt hn_r0 hA0) rfl (net_r1 hn_r0 hF) ?_
  refine v_iload_n dX3_join_4 rfl ?_
  refine v_dup2 dX3_join_5 rfl rfl ?_
  refine v_iald dX3_join_6 (net_kd1 hn_r0) (net_lt1 hn_r0 hA0) hi_6 ?_
  refine v_iconst dX3_join_7 ci_1 ?_
  refine v_iload_n dX3_join_8 rfl ?_
  refine v_ishl dX3_join_9 ?_
  refine v_ior dX3_join_10 ?_
  refine v_iast dX3_join_11 (net_kd1 hn_r0) (net_lt1 hn_r0 hA0) hi_11 ?_
  refine v_aload_n dX3_join_12 rfl ?_
  refine v_getR dX3_join_13 fl_RX3_9 (net_kd hn_r0) (net_lt hn_r0 hA0) rfl (net_r1 hn_r0 hF) ?_
  refine v_iload_n dX3_join_16 rfl ?_
  refine v_dup2 dX3_join_17 rfl rfl ?_
  refine v_iald dX3_join_18 (net_kd1 hn_r0) (net_lt1 hn_r0 hA0) hi_18 ?_
  refine v_iconst dX3_join_19 ci_1 ?_
  refine v_iload_n dX3_join_20 rfl ?_
  refine v_ishl dX3_join_21 ?_
  refine v_ior dX3_join_22 ?_
  refine v_iast dX3_join_23 (net_kd1 hn_r0) (net_lt1 hn_r0 hA0) hi_23 ?_
  exact v_vret dX3_join_24 rfl hq
theorem e_X3_part {X : CX} {d nx sz : Nat} {Q : Option Value → AH → Prop} {h : AH} {r0 : Nat} {x1 x2 : Int32} (q : V X m_X3_part (rm d 0 0) (ZM X Q nx sz 0 0) (nx, sz, 0, 0) 0 [some (.ref r0), some (.int x1), some (.int x2)] [] h) : Mk X d m_X3_part [.ref r0, .int x1, .int x2] h nx sz Q := by
  refine Mok.ofV mo_X3_part (Nat.le_of_ble_eq_true rfl) (L := [some (.ref r0), some (.int x1), some (.int x2)]) (lvLe_s (lvLe_s (lvLe_s lvLe_e))) (v_grow (n := 0) ?_)
  exact q
theorem c_X3_part_0 {X : CX} {R : Room} {Q : Option Value → AH → Prop} {nx sz mc ms : Nat} {h : AH} {r0 : Nat} {x1 x2 : Int32} (hA0 : 91 ≤ nx) (hF : Fx h) (hn_r0 : IsNet r0) (hi_6 : vp_in x1 20) (hi_13 : vp_in x1 20) (hi_20 : vp_in x2 20) (hi_27 : vp_in x2 20) (hq : Q none (setI (setI h (r0 + 1) x1.toNatClampNeg ((h.1 (r0 + 1) x1.toNatClampNeg) &&& (((1 : Int32) <<< ((x2 : Int32) &&& 31)) ^^^ (-1)))) (r0 + 1) x2.toNatClampNeg (((setI h (r0 + 1) x1.toNatClampNeg ((h.1 (r0 + 1) x1.toNatClampNeg) &&& (((1 : Int32) <<< ((x2 : Int32) &&& 31)) ^^^ (-1)))).1 (r0 + 1) x2.toNatClampNeg) &&& (((1 : Int32) <<< ((x1 : Int32) &&& 31)) ^^^ (-1))))) : V X m_X3_part R (ZM X Q nx sz mc ms) (nx, sz, mc, ms) 0 [some (.ref r0), some (.int x1), some (.int x2)] [] h := by
  refine v_aload_n dX3_part_0 rfl ?_
  refine v_getR dX3_part_1 fl_RX3_9 (net_kd hn_r0) (net_lt hn_r0 hA0) rfl (net_r1 hn_r0 hF) ?_
  refine v_iload_n dX3_part_4 rfl ?_
  refine v_dup2 dX3_part_5 rfl rfl ?_
  refine v_iald dX3_part_6 (net_kd1 hn_r0) (net_lt1 hn_r0 hA0) hi_6 ?_
  refine v_iconst dX3_part_7 ci_1 ?_
  refine v_iload_n dX3_part_8 rfl ?_
  refine v_ishl dX3_part_9 ?_
  refine v_iconst dX3_part_10 ci_m1 ?_
  refine v_ixor dX3_part_11 ?_
  refine v_iand dX3_part_12 ?_
  refine v_iast dX3_part_13 (net_kd1 hn_r0) (net_lt1 hn_r0 hA0) hi_13 ?_
  refine v_aload_n dX3_part_14 rfl ?_
  refine v_getR dX3_part_15 fl_RX3_9 (net_kd hn_r0) (net_lt hn_r0 hA0) rfl (net_r1 hn_r0 hF) ?_
  refine v_iload_n dX3_part_18 rfl ?_
  refine v_dup2 dX3_part_19 rfl rfl ?_
  refine v_iald dX3_part_20 (net_kd1 hn_r0) (net_lt1 hn_r0 hA0) hi_20 ?_
  refine v_iconst dX3_part_21 ci_1 ?_
  refine v_iload_n dX3_part_22 rfl ?_
  refine v_ishl dX3_part_23 ?_
  refine v_iconst dX3_part_24 ci_m1 ?_
  refine v_ixor dX3_part_25 ?_
  refine v_iand dX3_part_26 ?_
  refine v_iast dX3_part_27 (net_kd1 hn_r0) (net_lt1 hn_r0 hA0) hi_27 ?_
  exact v_vret dX3_part_28 rfl hq
theorem e_X3_tieCount {X : CX} {d nx sz : Nat} {Q : Option Value → AH → Prop} {h : AH} {r0 : Nat} (q : V X m_X3_tieCount (rm d 0 0) (ZM X Q nx sz 0 0) (nx, sz, 0, 0) 0 [some (.ref r0), none, none] [] h) : Mk X d m_X3_tieCount [.ref r0] h nx sz Q := by
  refine Mok.ofV mo_X3_tieCount (Nat.le_of_ble_eq_true rfl) (L := [some (.ref r0)]) (lvLe_s lvLe_e) (v_grow (n := 2) ?_)
  exact q
theorem c_X3_tieCount_0 {X : CX} {R : Room} {Z : ZX} {A : AX} {h : AH} {r0 : Nat} (q : V X m_X3_tieCount R Z A 4 [some (.ref r0), some (.int 0), some (.int 0)] [] h) : V X m_X3_tieCount R Z A 0 [some (.ref r0), none, none] [] h := by
  refine v_iconst dX3_tieCount_0 ci_0 ?_
  refine v_istore_n dX3_tieCount_1 (by decide) (L' := [some (.ref r0), some (.int 0), none]) rfl ?_
  refine v_iconst dX3_tieCount_2 ci_0 ?_
  refine v_istore_n dX3_tieCount_3 (by decide) (L' := [some (.ref r0), some (.int 0), some (.int 0)]) rfl ?_
  exact q
theorem c_X3_tieCount_4 {X : CX} {R : Room} {Q : Option Value → AH → Prop} {nx sz mc ms : Nat} {h : AH} {r0 d : Nat} {x1 x2 : Int32} {P15 : Int32 → AH → Prop} (hA0 : 91 ≤ nx) (hn_r0 : IsNet r0) (hR : RO R (d + 1)) (hcs : mc ≤ R.cells ∧ ms ≤ R.slots) (hq : (h.1 r0 0) ≤ x2 → Q (some (.int (x1 / 2))) h) (hM : ¬ (h.1 r0 0) ≤ x2 → Mk X d m_X3_degree [.ref r0, .int x2] h nx sz (RI P15)) (q : ¬ (h.1 r0 0) ≤ x2 → ∀ (y : Int32) (g : AH), P15 y g → V X m_X3_tieCount R (ZM X Q nx sz mc ms) (nx, sz, mc, ms) 18 [some (.ref r0), none, some (.int x2)] [.int y, .int x1] g) : V X m_X3_tieCount R (ZM X Q nx sz mc ms) (nx, sz, mc, ms) 4 [some (.ref r0), some (.int x1), some (.int x2)] [] h := by
  refine v_iload_n dX3_tieCount_4 rfl ?_
  refine v_aload_n dX3_tieCount_5 rfl ?_
  refine v_getI dX3_tieCount_6 fl_RX3_21 (net_kd hn_r0) (net_lt hn_r0 hA0) rfl ?_
  refine v_icmp_ge (tgt := 26) dX3_tieCount_9 (by decide) (fun c0 => ?_) (fun c0 => ?_)
  · refine v_iload_n dX3_tieCount_26 rfl ?_
    refine v_iconst dX3_tieCount_27 ci_2 ?_
    refine v_idiv dX3_tieCount_28 (by decide) ?_
    exact v_iret dX3_tieCount_29 rfl (hq c0)
  · refine v_iload_n dX3_tieCount_12 rfl ?_
    refine v_aload_n dX3_tieCount_13 rfl ?_
    refine v_iload_n dX3_tieCount_14 rfl ?_
    exact v_cVI (mt := m_X3_tieCount) mo_X3_degree ml_RX3_50 mi_X3_degree mv_X3_degree rfl (net_kd hn_r0) cl_3 rfl (net_lt hn_r0 hA0) hR hcs (Nat.le_of_ble_eq_true rfl) dX3_tieCount_15 rfl (hM c0) (fun y g hp => (v_drop (lvLe_s (lvLe_n (lvLe_s lvLe_e))) ((q c0) y g hp)))
theorem c_X3_tieCount_18 {X : CX} {R : Room} {Z : ZX} {A : AX} {h : AH} {r0 : Nat} {x2 s0 s1 : Int32} (q : V X m_X3_tieCount R Z A 4 [some (.ref r0), some (.int (s0 + s1)), some (.int (x2 + 1))] [] h) : V X m_X3_tieCount R Z A 18 [some (.ref r0), none, some (.int x2)] [.int s1, .int s0] h := by
  refine v_iadd dX3_tieCount_18 ?_
  refine v_istore_n dX3_tieCount_19 (by decide) (L' := [some (.ref r0), some (.int (s0 + s1)), some (.int x2)]) rfl ?_
  refine v_iinc (y := (x2 + 1)) dX3_tieCount_20 rfl rfl (by decide) (L' := [some (.ref r0), some (.int (s0 + s1)), some (.int (x2 + 1))]) rfl ?_
  refine v_goto (tgt := 4) dX3_tieCount_23 (by decide) ?_
  exact q
theorem e_X3_inCommon {X : CX} {d nx sz : Nat} {Q : Option Value → AH → Prop} {h : AH} {r0 : Nat} {x1 x2 : Int32} (q : V X m_X3_inCommon (rm d 0 0) (ZM X Q nx sz 0 0) (nx, sz, 0, 0) 0 [some (.ref r0), some (.int x1), some (.int x2)] [] h) : Mk X d m_X3_inCommon [.ref r0, .int x1, .int x2] h nx sz Q := by
  refine Mok.ofV mo_X3_inCommon (Nat.le_of_ble_eq_true rfl) (L := [some (.ref r0), some (.int x1), some (.int x2)]) (lvLe_s (lvLe_s (lvLe_s lvLe_e))) (v_grow (n := 0) ?_)
  exact q
theorem c_X3_inCommon_0 {X : CX} {R : Room} {Z : ZX} {A : AX} {h : AH} {r0 d : Nat} {x1 x2 : Int32} {P13 : Int32 → AH → Prop} (hA0 : 91 ≤ A.1) (hF : Fx h) (hn_r0 : IsNet r0) (hR : RO R (d + 1)) (hcs : A.2.2.1 ≤ R.cells ∧ A.2.2.2 ≤ R.slots) (hi_5 : vp_in x1 20) (hi_11 : vp_in x2 20) (hM : Mk X d m_J6_bitCount_0f7a4 [.int ((h.1 (r0 + 1) x1.toNatClampNeg) &&& (h.1 (r0 + 1) x2.toNatClampNeg))] h A.1 A.2.1 (RI P13)) (q : ∀ (y : Int32) (g : AH), P13 y g → V X m_X3_inCommon R Z A 16 [none, none, none] [.int y] g) : V X m_X3_inCommon R Z A 0 [some (.ref r0), some (.int x1), some (.int x2)] [] h := by
  refine v_aload_n dX3_inCommon_0 rfl ?_
  refine v_getR dX3_inCommon_1 fl_RX3_9 (net_kd hn_r0) (net_lt hn_r0 hA0) rfl (net_r1 hn_r0 hF) ?_
  refine v_iload_n dX3_inCommon_4 rfl ?_
  refine v_iald dX3_inCommon_5 (net_kd1 hn_r0) (net_lt1 hn_r0 hA0) hi_5 ?_
  refine v_aload_n dX3_inCommon_6 rfl ?_
  refine v_getR dX3_inCommon_7 fl_RX3_9 (net_kd hn_r0) (net_lt hn_r0 hA0) rfl (net_r1 hn_r0 hF) ?_
  refine v_iload_n dX3_inCommon_10 rfl ?_
  refine v_iald dX3_inCommon_11 (net_kd1 hn_r0) (net_lt1 hn_r0 hA0) hi_11 ?_
  refine v_iand dX3_inCommon_12 ?_
  exact v_cSI (mt := m_X3_inCommon) mo_J6_bitCount_0f7a4 ml_RX3_44 mz_J6_bitCount_0f7a4 rfl hR hcs (Nat.le_of_ble_eq_true rfl) dX3_inCommon_13 rfl hM (fun y g hp => (v_drop (lvLe_n (lvLe_n (lvLe_n lvLe_e))) (q y g hp)))
theorem c_X3_inCommon_16 {X : CX} {R : Room} {Q : Option Value → AH → Prop} {nx sz mc ms : Nat} {h : AH} {s0 : Int32} (hq : Q (some (.int s0)) h) : V X m_X3_inCommon R (ZM X Q nx sz mc ms) (nx, sz, mc, ms) 16 [none, none, none] [.int s0] h := by
  exact v_iret dX3_inCommon_16 rfl hq
theorem e_X3_around {X : CX} {d nx sz : Nat} {Q : Option Value → AH → Prop} {h : AH} {r0 : Nat} {x1 x2 : Int32} (q : V X m_X3_around (rm d 0 0) (ZM X Q nx sz 0 0) (nx, sz, 0, 0) 0 [some (.ref r0), some (.int x1), some (.int x2), none, none] [] h) : Mk X d m_X3_around [.ref r0, .int x1, .int x2] h nx sz Q := by
  refine Mok.ofV mo_X3_around (Nat.le_of_ble_eq_true rfl) (L := [some (.ref r0), some (.int x1), some (.int x2)]) (lvLe_s (lvLe_s (lvLe_s lvLe_e))) (v_grow (n := 2) ?_)
  exact q
theorem c_X3_around_0 {X : CX} {R : Room} {Z : ZX} {A : AX} {h : AH} {r0 : Nat} {x1 x2 : Int32} (q : V X m_X3_around R Z A 5 [some (.ref r0), some (.int x1), some (.int x2), some (.int 0), some (.int 0)] [] h) : V X m_X3_around R Z A 0 [some (.ref r0), some (.int x1), some (.int x2), none, none] [] h := by
  refine v_iconst dX3_around_0 ci_0 ?_
  refine v_istore_n dX3_around_1 (by decide) (L' := [some (.ref r0), some (.int x1), some (.int x2), some (.int 0), none]) rfl ?_
  refine v_iconst dX3_around_2 ci_0 ?_
  refine v_istore dX3_around_3 (by decide) (L' := [some (.ref r0), some (.int x1), some (.int x2), some (.int 0), some (.int 0)]) rfl ?_
  exact q
theorem c_X3_around_5 {X : CX} {R : Room} {Q : Option Value → AH → Prop} {nx sz mc ms : Nat} {h : AH} {r0 : Nat} {x1 x2 x3 x4 : Int32} (hA0 : 91 ≤ nx) (hF : Fx h) (hn_r0 : IsNet r0) (hq : (h.1 r0 0) ≤ x4 → Q (some (.int (x3 &&& x2))) h) (q : ¬ (h.1 r0 0) ≤ x4 → ((x1 >>> (x4 &&& 31)) &&& 1) = 0 → V X m_X3_around R (ZM X Q nx sz mc ms) (nx, sz, mc, ms) 5 [some (.ref r0), some (.int x1), some (.int x2), some (.int x3), some (.int (x4 + 1))] [] h) (hi_30 : ¬ (h.1 r0 0) ≤ x4 → ¬ ((x1 >>> (x4 &&& 31)) &&& 1) = 0 → vp_in x4 20) (q_1 : ¬ (h.1 r0 0) ≤ x4 → ¬ ((x1 >>> (x4 &&& 31)) &&& 1) = 0 → V X m_X3_around R (ZM X Q nx sz mc ms) (nx, sz, mc, ms) 5 [some (.ref r0), some (.int x1), some (.int x2), some (.int (x3 ||| (h.1 (r0 + 1) x4.toNatClampNeg))), some (.int (x4 + 1))] [] h) : V X m_X3_around R (ZM X Q nx sz mc ms) (nx, sz, mc, ms) 5 [some (.ref r0), some (.int x1), some (.int x2), some (.int x3), some (.int x4)] [] h := by
  refine v_iload dX3_around_5 rfl ?_
  refine v_aload_n dX3_around_7 rfl ?_
  refine v_getI dX3_around_8 fl_RX3_21 (net_kd hn_r0) (net_lt hn_r0 hA0) rfl ?_
  refine v_icmp_ge (tgt := 39) dX3_around_11 (by decide) (fun c0 => ?_) (fun c0 => ?_)
  · refine v_iload_n dX3_around_39 rfl ?_
    refine v_iload_n dX3_around_40 rfl ?_
    refine v_iand dX3_around_41 ?_
    exact v_iret dX3_around_42 rfl (hq c0)
  · refine v_iload_n dX3_around_14 rfl ?_
    refine v_iload dX3_around_15 rfl ?_
    refine v_ishr dX3_around_17 ?_
    refine v_iconst dX3_around_18 ci_1 ?_
    refine v_iand dX3_around_19 ?_
    refine v_if_eq (tgt := 33) dX3_around_20 (by decide) (fun c1 => ?_) (fun c1 => ?_)
    · refine v_iinc (y := (x4 + 1)) dX3_around_33 rfl rfl (by decide) (L' := [some (.ref r0), some (.int x1), some (.int x2), some (.int x3), some (.int (x4 + 1))]) rfl ?_
      refine v_goto (tgt := 5) dX3_around_36 (by decide) ?_
      exact (q c0 c1)
    · refine v_iload_n dX3_around_23 rfl ?_
      refine v_aload_n dX3_around_24 rfl ?_
      refine v_getR dX3_around_25 fl_RX3_9 (net_kd hn_r0) (net_lt hn_r0 hA0) rfl (net_r1 hn_r0 hF) ?_
      refine v_iload dX3_around_28 rfl ?_
      refine v_iald dX3_around_30 (net_kd1 hn_r0) (net_lt1 hn_r0 hA0) (hi_30 c0 c1) ?_
      refine v_ior dX3_around_31 ?_
      refine v_istore_n dX3_around_32 (by decide) (L' := [some (.ref r0), some (.int x1), some (.int x2), some (.int (x3 ||| (h.1 (r0 + 1) x4.toNatClampNeg))), some (.int x4)]) rfl ?_
      refine v_iinc (y := (x4 + 1)) dX3_around_33 rfl rfl (by decide) (L' := [some (.ref r0), some (.int x1), some (.int x2), some (.int (x3 ||| (h.1 (r0 + 1) x4.toNatClampNeg))), some (.int (x4 + 1))]) rfl ?_
      refine v_goto (tgt := 5) dX3_around_36 (by decide) ?_
      exact (q_1 c0 c1)
theorem e_X3_reached {X : CX} {d nx sz : Nat} {Q : Option Value → AH → Prop} {h : AH} {r0 : Nat} {x1 x2 : Int32} (q : V X m_X3_reached (rm d 0 0) (ZM X Q nx sz 0 0) (nx, sz, 0, 0) 0 [some (.ref r0), some (.int x1), some (.int x2), none, none, none] [] h) : Mk X d m_X3_reached [.ref r0, .int x1, .int x2] h nx sz Q := by
  refine Mok.ofV mo_X3_reached (Nat.le_of_ble_eq_true rfl) (L := [some (.ref r0), some (.int x1), some (.int x2)]) (lvLe_s (lvLe_s (lvLe_s lvLe_e))) (v_grow (n := 3) ?_)
  exact q
theorem c_X3_reached_0 {X : CX} {R : Room} {Z : ZX} {A : AX} {h : AH} {r0 : Nat} {x1 x2 : Int32} (q : V X m_X3_reached R Z A 8 [some (.ref r0), none, some (.int x2), some (.int x1), some (.int x1), some (.int 1)] [] h) : V X m_X3_reached R Z A 0 [some (.ref r0), some (.int x1), some (.int x2), none, none, none] [] h := by
  refine v_iload_n dX3_reached_0 rfl ?_
  refine v_istore_n dX3_reached_1 (by decide) (L' := [some (.ref r0), some (.int x1), some (.int x2), some (.int x1), none, none]) rfl ?_
  refine v_iload_n dX3_reached_2 rfl ?_
  refine v_istore dX3_reached_3 (by decide) (L' := [some (.ref r0), some (.int x1), some (.int x2), some (.int x1), some (.int x1), none]) rfl ?_
  refine v_iconst dX3_reached_5 ci_1 ?_
  refine v_istore dX3_reached_6 (by decide) (L' := [some (.ref r0), some (.int x1), some (.int x2), some (.int x1), some (.int x1), some (.int 1)]) rfl ?_
  exact (v_drop (lvLe_s (lvLe_n (lvLe_s (lvLe_s (lvLe_s (lvLe_s lvLe_e)))))) q)
theorem c_X3_reached_8 {X : CX} {R : Room} {Q : Option Value → AH → Prop} {nx sz mc ms : Nat} {h : AH} {r0 d : Nat} {x2 x3 x4 x5 : Int32} {P30 : Int32 → AH → Prop} (hA0 : 91 ≤ nx) (hn_r0 : IsNet r0) (hR : RO R (d + 1)) (hcs : mc ≤ R.cells ∧ ms ≤ R.slots) (hq : (h.1 r0 0) ≤ x5 → Q (some (.int x3)) h) (hq_1 : ¬ (h.1 r0 0) ≤ x5 → x4 = 0 → Q (some (.int x3)) h) (hM : ¬ (h.1 r0 0) ≤ x5 → ¬ x4 = 0 → Mk X d m_X3_around [.ref r0, .int x4, .int (x2 &&& (x3 ^^^ (-1)))] h nx sz (RI P30)) (q : ¬ (h.1 r0 0) ≤ x5 → ¬ x4 = 0 → ∀ (y : Int32) (g : AH), P30 y g → V X m_X3_reached R (ZM X Q nx sz mc ms) (nx, sz, mc, ms) 33 [some (.ref r0), none, some (.int x2), some (.int x3), none, some (.int x5)] [.int y] g) : V X m_X3_reached R (ZM X Q nx sz mc ms) (nx, sz, mc, ms) 8 [some (.ref r0), none, some (.int x2), some (.int x3), some (.int x4), some (.int x5)] [] h := by
  refine v_iload dX3_reached_8 rfl ?_
  refine v_aload_n dX3_reached_10 rfl ?_
  refine v_getI dX3_reached_11 fl_RX3_21 (net_kd hn_r0) (net_lt hn_r0 hA0) rfl ?_
  refine v_icmp_ge (tgt := 46) dX3_reached_14 (by decide) (fun c0 => ?_) (fun c0 => ?_)
  · refine v_iload_n dX3_reached_46 rfl ?_
    exact v_iret dX3_reached_47 rfl (hq c0)
  · refine v_iload dX3_reached_17 rfl ?_
    refine v_if_eq (tgt := 46) dX3_reached_19 (by decide) (fun c1 => ?_) (fun c1 => ?_)
    · refine v_iload_n dX3_reached_46 rfl ?_
      exact v_iret dX3_reached_47 rfl (hq_1 c0 c1)
    · refine v_aload_n dX3_reached_22 rfl ?_
      refine v_iload dX3_reached_23 rfl ?_
      refine v_iload_n dX3_reached_25 rfl ?_
      refine v_iload_n dX3_reached_26 rfl ?_
      refine v_iconst dX3_reached_27 ci_m1 ?_
      refine v_ixor dX3_reached_28 ?_
      refine v_iand dX3_reached_29 ?_
      exact v_cVI (mt := m_X3_reached) mo_X3_around ml_RX3_53 mi_X3_around mv_X3_around rfl (net_kd hn_r0) cl_3 rfl (net_lt hn_r0 hA0) hR hcs (Nat.le_of_ble_eq_true rfl) dX3_reached_30 rfl (hM c0 c1) (fun y g hp => (v_drop (lvLe_s (lvLe_n (lvLe_s (lvLe_s (lvLe_n (lvLe_s lvLe_e)))))) ((q c0 c1) y g hp)))
theorem c_X3_reached_33 {X : CX} {R : Room} {Z : ZX} {A : AX} {h : AH} {r0 : Nat} {x2 x3 x5 s0 : Int32} (q : V X m_X3_reached R Z A 8 [some (.ref r0), none, some (.int x2), some (.int (x3 ||| s0)), some (.int s0), some (.int (x5 + 1))] [] h) : V X m_X3_reached R Z A 33 [some (.ref r0), none, some (.int x2), some (.int x3), none, some (.int x5)] [.int s0] h := by
  refine v_istore dX3_reached_33 (by decide) (L' := [some (.ref r0), none, some (.int x2), some (.int x3), some (.int s0), some (.int x5)]) rfl ?_
  refine v_iload_n dX3_reached_35 rfl ?_
  refine v_iload dX3_reached_36 rfl ?_
  refine v_ior dX3_reached_38 ?_
  refine v_istore_n dX3_reached_39 (by decide) (L' := [some (.ref r0), none, some (.int x2), some (.int (x3 ||| s0)), some (.int s0), some (.int x5)]) rfl ?_
  refine v_iinc (y := (x5 + 1)) dX3_reached_40 rfl rfl (by decide) (L' := [some (.ref r0), none, some (.int x2), some (.int (x3 ||| s0)), some (.int s0), some (.int (x5 + 1))]) rfl ?_
  refine v_goto (tgt := 8) dX3_reached_43 (by decide) ?_
  exact q
theorem e_X3_roundsFrom {X : CX} {d nx sz : Nat} {Q : Option Value → AH → Prop} {h : AH} {r0 : Nat} {x1 : Int32} (q : V X m_X3_roundsFrom (rm d 0 0) (ZM X Q nx sz 0 0) (nx, sz, 0, 0) 0 [some (.ref r0), some (.int x1), none, none, none] [] h) : Mk X d m_X3_roundsFrom [.ref r0, .int x1] h nx sz Q := by
  refine Mok.ofV mo_X3_roundsFrom (Nat.le_of_ble_eq_true rfl) (L := [some (.ref r0), some (.int x1)]) (lvLe_s (lvLe_s lvLe_e)) (v_grow (n := 3) ?_)
  exact q
theorem c_X3_roundsFrom_0 {X : CX} {R : Room} {Z : ZX} {A : AX} {h : AH} {r0 : Nat} {x1 : Int32} (q : V X m_X3_roundsFrom R Z A 7 [some (.ref r0), none, some (.int x1), some (.int x1), some (.int 0)] [] h) : V X m_X3_roundsFrom R Z A 0 [some (.ref r0), some (.int x1), none, none, none] [] h := by
  refine v_iload_n dX3_roundsFrom_0 rfl ?_
  refine v_istore_n dX3_roundsFrom_1 (by decide) (L' := [some (.ref r0), some (.int x1), some (.int x1), none, none]) rfl ?_
  refine v_iload_n dX3_roundsFrom_2 rfl ?_
  refine v_istore_n dX3_roundsFrom_3 (by decide) (L' := [some (.ref r0), some (.int x1), some (.int x1), some (.int x1), none]) rfl ?_
  refine v_iconst dX3_roundsFrom_4 ci_0 ?_
  refine v_istore dX3_roundsFrom_5 (by decide) (L' := [some (.ref r0), some (.int x1), some (.int x1), some (.int x1), some (.int 0)]) rfl ?_
  exact (v_drop (lvLe_s (lvLe_n (lvLe_s (lvLe_s (lvLe_s lvLe_e))))) q)
theorem c_X3_roundsFrom_7 {X : CX} {R : Room} {Q : Option Value → AH → Prop} {nx sz mc ms : Nat} {h : AH} {r0 d : Nat} {x2 x3 x4 : Int32} {P26 : Int32 → AH → Prop} (hA0 : 91 ≤ nx) (hn_r0 : IsNet r0) (hR : RO R (d + 1)) (hcs : mc ≤ R.cells ∧ ms ≤ R.slots) (hq : (h.1 r0 0) ≤ x4 → Q (some (.int (h.1 r0 0))) h) (hM : ¬ (h.1 r0 0) ≤ x4 → Mk X d m_X3_around [.ref r0, .int x3, .int ((h.1 r0 1) &&& (x2 ^^^ (-1)))] h nx sz (RI P26)) (q : ¬ (h.1 r0 0) ≤ x4 → ∀ (y : Int32) (g : AH), P26 y g → V X m_X3_roundsFrom R (ZM X Q nx sz mc ms) (nx, sz, mc, ms) 29 [some (.ref r0), none, some (.int x2), none, some (.int x4)] [.int y] g) : V X m_X3_roundsFrom R (ZM X Q nx sz mc ms) (nx, sz, mc, ms) 7 [some (.ref r0), none, some (.int x2), some (.int x3), some (.int x4)] [] h := by
  refine v_iload dX3_roundsFrom_7 rfl ?_
  refine v_aload_n dX3_roundsFrom_9 rfl ?_
  refine v_getI dX3_roundsFrom_10 fl_RX3_21 (net_kd hn_r0) (net_lt hn_r0 hA0) rfl ?_
  refine v_icmp_ge (tgt := 47) dX3_roundsFrom_13 (by decide) (fun c0 => ?_) (fun c0 => ?_)
  · refine v_aload_n dX3_roundsFrom_47 rfl ?_
    refine v_getI dX3_roundsFrom_48 fl_RX3_21 (net_kd hn_r0) (net_lt hn_r0 hA0) rfl ?_
    exact v_iret dX3_roundsFrom_51 rfl (hq c0)
  · refine v_aload_n dX3_roundsFrom_16 rfl ?_
    refine v_iload_n dX3_roundsFrom_17 rfl ?_
    refine v_aload_n dX3_roundsFrom_18 rfl ?_
    refine v_getI dX3_roundsFrom_19 fl_RX3_25 (net_kd hn_r0) (net_lt hn_r0 hA0) rfl ?_
    refine v_iload_n dX3_roundsFrom_22 rfl ?_
    refine v_iconst dX3_roundsFrom_23 ci_m1 ?_
    refine v_ixor dX3_roundsFrom_24 ?_
    refine v_iand dX3_roundsFrom_25 ?_
    exact v_cVI (mt := m_X3_roundsFrom) mo_X3_around ml_RX3_53 mi_X3_around mv_X3_around rfl (net_kd hn_r0) cl_3 rfl (net_lt hn_r0 hA0) hR hcs (Nat.le_of_ble_eq_true rfl) dX3_roundsFrom_26 rfl (hM c0) (fun y g hp => (v_drop (lvLe_s (lvLe_n (lvLe_s (lvLe_n (lvLe_s lvLe_e))))) ((q c0) y g hp)))
theorem c_X3_roundsFrom_29 {X : CX} {R : Room} {Q : Option Value → AH → Prop} {nx sz mc ms : Nat} {h : AH} {r0 : Nat} {x2 x4 s0 : Int32} (q : ¬ s0 = 0 → V X m_X3_roundsFrom R (ZM X Q nx sz mc ms) (nx, sz, mc, ms) 7 [some (.ref r0), none, some (.int (x2 ||| s0)), some (.int s0), some (.int (x4 + 1))] [] h) (hq : s0 = 0 → Q (some (.int x4)) h) : V X m_X3_roundsFrom R (ZM X Q nx sz mc ms) (nx, sz, mc, ms) 29 [some (.ref r0), none, some (.int x2), none, some (.int x4)] [.int s0] h := by
  refine v_istore_n dX3_roundsFrom_29 (by decide) (L' := [some (.ref r0), none, some (.int x2), some (.int s0), some (.int x4)]) rfl ?_
  refine v_iload_n dX3_roundsFrom_30 rfl ?_
  refine v_if_ne (tgt := 37) dX3_roundsFrom_31 (by decide) (fun c0 => ?_) (fun c0 => ?_)
  · refine v_iload_n dX3_roundsFrom_37 rfl ?_
    refine v_iload_n dX3_roundsFrom_38 rfl ?_
    refine v_ior dX3_roundsFrom_39 ?_
    refine v_istore_n dX3_roundsFrom_40 (by decide) (L' := [some (.ref r0), none, some (.int (x2 ||| s0)), some (.int s0), some (.int x4)]) rfl ?_
    refine v_iinc (y := (x4 + 1)) dX3_roundsFrom_41 rfl rfl (by decide) (L' := [some (.ref r0), none, some (.int (x2 ||| s0)), some (.int s0), some (.int (x4 + 1))]) rfl ?_
    refine v_goto (tgt := 7) dX3_roundsFrom_44 (by decide) ?_
    exact (q c0)
  · refine v_iload dX3_roundsFrom_34 rfl ?_
    exact v_iret dX3_roundsFrom_36 rfl (hq c0)
theorem e_X3_distance {X : CX} {d nx sz : Nat} {Q : Option Value → AH → Prop} {h : AH} {r0 : Nat} {x1 x2 x3 : Int32} (q : V X m_X3_distance (rm d 0 0) (ZM X Q nx sz 0 0) (nx, sz, 0, 0) 0 [some (.ref r0), some (.int x1), some (.int x2), some (.int x3), none, none, none] [] h) : Mk X d m_X3_distance [.ref r0, .int x1, .int x2, .int x3] h nx sz Q := by
  refine Mok.ofV mo_X3_distance (Nat.le_of_ble_eq_true rfl) (L := [some (.ref r0), some (.int x1), some (.int x2), some (.int x3)]) (lvLe_s (lvLe_s (lvLe_s (lvLe_s lvLe_e)))) (v_grow (n := 3) ?_)
  exact q
theorem c_X3_distance_0 {X : CX} {R : Room} {Q : Option Value → AH → Prop} {nx sz mc ms : Nat} {h : AH} {r0 : Nat} {x1 x2 x3 : Int32} (q : ¬ x1 = x2 → V X m_X3_distance R (ZM X Q nx sz mc ms) (nx, sz, mc, ms) 19 [some (.ref r0), none, some (.int x2), some (.int x3), some (.int ((1 : Int32) <<< ((x1 : Int32) &&& 31))), some (.int ((1 : Int32) <<< ((x1 : Int32) &&& 31))), some (.int 1)] [] h) (hq : x1 = x2 → Q (some (.int 0)) h) : V X m_X3_distance R (ZM X Q nx sz mc ms) (nx, sz, mc, ms) 0 [some (.ref r0), some (.int x1), some (.int x2), some (.int x3), none, none, none] [] h := by
  refine v_iload_n dX3_distance_0 rfl ?_
  refine v_iload_n dX3_distance_1 rfl ?_
  refine v_icmp_ne (tgt := 7) dX3_distance_2 (by decide) (fun c0 => ?_) (fun c0 => ?_)
  · refine v_iconst dX3_distance_7 ci_1 ?_
    refine v_iload_n dX3_distance_8 rfl ?_
    refine v_ishl dX3_distance_9 ?_
    refine v_istore dX3_distance_10 (by decide) (L' := [some (.ref r0), some (.int x1), some (.int x2), some (.int x3), some (.int ((1 : Int32) <<< ((x1 : Int32) &&& 31))), none, none]) rfl ?_
    refine v_iload dX3_distance_12 rfl ?_
    refine v_istore dX3_distance_14 (by decide) (L' := [some (.ref r0), some (.int x1), some (.int x2), some (.int x3), some (.int ((1 : Int32) <<< ((x1 : Int32) &&& 31))), some (.int ((1 : Int32) <<< ((x1 : Int32) &&& 31))), none]) rfl ?_
    refine v_iconst dX3_distance_16 ci_1 ?_
    refine v_istore dX3_distance_17 (by decide) (L' := [some (.ref r0), some (.int x1), some (.int x2), some (.int x3), some (.int ((1 : Int32) <<< ((x1 : Int32) &&& 31))), some (.int ((1 : Int32) <<< ((x1 : Int32) &&& 31))), some (.int 1)]) rfl ?_
    exact (v_drop (lvLe_s (lvLe_n (lvLe_s (lvLe_s (lvLe_s (lvLe_s (lvLe_s lvLe_e))))))) (q c0))
  · refine v_iconst dX3_distance_5 ci_0 ?_
    exact v_iret dX3_distance_6 rfl (hq c0)
theorem c_X3_distance_19 {X : CX} {R : Room} {Q : Option Value → AH → Prop} {nx sz mc ms : Nat} {h : AH} {r0 d : Nat} {x2 x3 x4 x5 x6 : Int32} {P42 : Int32 → AH → Prop} (hA0 : 91 ≤ nx) (hn_r0 : IsNet r0) (hR : RO R (d + 1)) (hcs : mc ≤ R.cells ∧ ms ≤ R.slots) (hq : (h.1 r0 0) ≤ x6 → Q (some (.int (-1))) h) (hq_1 : ¬ (h.1 r0 0) ≤ x6 → x5 = 0 → Q (some (.int (-1))) h) (hM : ¬ (h.1 r0 0) ≤ x6 → ¬ x5 = 0 → Mk X d m_X3_around [.ref r0, .int x5, .int (x3 &&& (x4 ^^^ (-1)))] h nx sz (RI P42)) (q : ¬ (h.1 r0 0) ≤ x6 → ¬ x5 = 0 → ∀ (y : Int32) (g : AH), P42 y g → V X m_X3_distance R (ZM X Q nx sz mc ms) (nx, sz, mc, ms) 45 [some (.ref r0), none, some (.int x2), some (.int x3), some (.int x4), none, some (.int x6)] [.int y] g) : V X m_X3_distance R (ZM X Q nx sz mc ms) (nx, sz, mc, ms) 19 [some (.ref r0), none, some (.int x2), some (.int x3), some (.int x4), some (.int x5), some (.int x6)] [] h := by
  refine v_iload dX3_distance_19 rfl ?_
  refine v_aload_n dX3_distance_21 rfl ?_
  refine v_getI dX3_distance_22 fl_RX3_21 (net_kd hn_r0) (net_lt hn_r0 hA0) rfl ?_
  refine v_icmp_ge (tgt := 72) dX3_distance_25 (by decide) (fun c0 => ?_) (fun c0 => ?_)
  · refine v_iconst dX3_distance_72 ci_m1 ?_
    exact v_iret dX3_distance_73 rfl (hq c0)
  · refine v_iload dX3_distance_28 rfl ?_
    refine v_if_eq (tgt := 72) dX3_distance_30 (by decide) (fun c1 => ?_) (fun c1 => ?_)
    · refine v_iconst dX3_distance_72 ci_m1 ?_
      exact v_iret dX3_distance_73 rfl (hq_1 c0 c1)
    · refine v_aload_n dX3_distance_33 rfl ?_
      refine v_iload dX3_distance_34 rfl ?_
      refine v_iload_n dX3_distance_36 rfl ?_
      refine v_iload dX3_distance_37 rfl ?_
      refine v_iconst dX3_distance_39 ci_m1 ?_
      refine v_ixor dX3_distance_40 ?_
      refine v_iand dX3_distance_41 ?_
      exact v_cVI (mt := m_X3_distance) mo_X3_around ml_RX3_53 mi_X3_around mv_X3_around rfl (net_kd hn_r0) cl_3 rfl (net_lt hn_r0 hA0) hR hcs (Nat.le_of_ble_eq_true rfl) dX3_distance_42 rfl (hM c0 c1) (fun y g hp => (v_drop (lvLe_s (lvLe_n (lvLe_s (lvLe_s (lvLe_s (lvLe_n (lvLe_s lvLe_e))))))) ((q c0 c1) y g hp)))
theorem c_X3_distance_45 {X : CX} {R : Room} {Q : Option Value → AH → Prop} {nx sz mc ms : Nat} {h : AH} {r0 : Nat} {x2 x3 x4 x6 s0 : Int32} (q : ((s0 >>> (x2 &&& 31)) &&& 1) = 0 → V X m_X3_distance R (ZM X Q nx sz mc ms) (nx, sz, mc, ms) 19 [some (.ref r0), none, some (.int x2), some (.int x3), some (.int (x4 ||| s0)), some (.int s0), some (.int (x6 + 1))] [] h) (hq : ¬ ((s0 >>> (x2 &&& 31)) &&& 1) = 0 → Q (some (.int x6)) h) : V X m_X3_distance R (ZM X Q nx sz mc ms) (nx, sz, mc, ms) 45 [some (.ref r0), none, some (.int x2), some (.int x3), some (.int x4), none, some (.int x6)] [.int s0] h := by
  refine v_istore dX3_distance_45 (by decide) (L' := [some (.ref r0), none, some (.int x2), some (.int x3), some (.int x4), some (.int s0), some (.int x6)]) rfl ?_
  refine v_iload dX3_distance_47 rfl ?_
  refine v_iload_n dX3_distance_49 rfl ?_
  refine v_ishr dX3_distance_50 ?_
  refine v_iconst dX3_distance_51 ci_1 ?_
  refine v_iand dX3_distance_52 ?_
  refine v_if_eq (tgt := 59) dX3_distance_53 (by decide) (fun c0 => ?_) (fun c0 => ?_)
  · refine v_iload dX3_distance_59 rfl ?_
    refine v_iload dX3_distance_61 rfl ?_
    refine v_ior dX3_distance_63 ?_
    refine v_istore dX3_distance_64 (by decide) (L' := [some (.ref r0), none, some (.int x2), some (.int x3), some (.int (x4 ||| s0)), some (.int s0), some (.int x6)]) rfl ?_
    refine v_iinc (y := (x6 + 1)) dX3_distance_66 rfl rfl (by decide) (L' := [some (.ref r0), none, some (.int x2), some (.int x3), some (.int (x4 ||| s0)), some (.int s0), some (.int (x6 + 1))]) rfl ?_
    refine v_goto (tgt := 19) dX3_distance_69 (by decide) ?_
    exact (q c0)
  · refine v_iload dX3_distance_56 rfl ?_
    exact v_iret dX3_distance_58 rfl (hq c0)
theorem e_X3_measure {X : CX} {d nx sz : Nat} {Q : Option Value → AH → Prop} {h : AH} {r0 r2 : Nat} {x1 : Int32} (q : V X m_X3_measure (rm d 0 0) (ZM X Q nx sz 0 0) (nx, sz, 0, 0) 0 [some (.ref r0), some (.int x1), some (.ref r2), none, none, none, none] [] h) : Mk X d m_X3_measure [.ref r0, .int x1, .ref r2] h nx sz Q := by
  refine Mok.ofV mo_X3_measure (Nat.le_of_ble_eq_true rfl) (L := [some (.ref r0), some (.int x1), some (.ref r2)]) (lvLe_s (lvLe_s (lvLe_s lvLe_e))) (v_grow (n := 4) ?_)
  exact q
theorem c_X3_measure_0 {X : CX} {R : Room} {Z : ZX} {A : AX} {h : AH} {r0 r2 d : Nat} {x1 : Int32} {P2 : AH → Prop} (hR : RO R (d + 1)) (hcs : A.2.2.1 ≤ R.cells ∧ A.2.2.2 ≤ R.slots) (hM : Mk X d m_J7_fill_53178 [.ref r2, .int (-1)] h A.1 A.2.1 (RV P2)) (q : ∀ (g : AH), P2 g → V X m_X3_measure R Z A 5 [some (.ref r0), some (.int x1), some (.ref r2), none, none, none, none] [] g) : V X m_X3_measure R Z A 0 [some (.ref r0), some (.int x1), some (.ref r2), none, none, none, none] [] h := by
  refine v_aload_n dX3_measure_0 rfl ?_
  refine v_iconst dX3_measure_1 ci_m1 ?_
  exact v_cSV (mt := m_X3_measure) mo_J7_fill_53178 ml_RX3_28 mz_J7_fill_53178 rfl hR hcs (Nat.le_of_ble_eq_true rfl) dX3_measure_2 rfl hM (fun g hp => (q g hp))
theorem c_X3_measure_5 {X : CX} {R : Room} {Z : ZX} {A : AX} {h : AH} {r0 r2 : Nat} {x1 : Int32} (q : V X m_X3_measure R Z A 15 [some (.ref r0), none, some (.ref r2), some (.int 0), some (.int ((1 : Int32) <<< ((x1 : Int32) &&& 31))), some (.int 0), none] [] h) : V X m_X3_measure R Z A 5 [some (.ref r0), some (.int x1), some (.ref r2), none, none, none, none] [] h := by
  refine v_iconst dX3_measure_5 ci_0 ?_
  refine v_istore_n dX3_measure_6 (by decide) (L' := [some (.ref r0), some (.int x1), some (.ref r2), some (.int 0), none, none, none]) rfl ?_
  refine v_iconst dX3_measure_7 ci_1 ?_
  refine v_iload_n dX3_measure_8 rfl ?_
  refine v_ishl dX3_measure_9 ?_
  refine v_istore dX3_measure_10 (by decide) (L' := [some (.ref r0), some (.int x1), some (.ref r2), some (.int 0), some (.int ((1 : Int32) <<< ((x1 : Int32) &&& 31))), none, none]) rfl ?_
  refine v_iconst dX3_measure_12 ci_0 ?_
  refine v_istore dX3_measure_13 (by decide) (L' := [some (.ref r0), some (.int x1), some (.ref r2), some (.int 0), some (.int ((1 : Int32) <<< ((x1 : Int32) &&& 31))), some (.int 0), none]) rfl ?_
  exact (v_drop (lvLe_s (lvLe_n (lvLe_s (lvLe_s (lvLe_s (lvLe_s (lvLe_n lvLe_e))))))) q)
theorem c_X3_measure_15 {X : CX} {R : Room} {Q : Option Value → AH → Prop} {nx sz mc ms : Nat} {h : AH} {r0 r2 : Nat} {x3 x4 x5 : Int32} (hA0 : 91 ≤ nx) (hn_r0 : IsNet r0) (hq : (h.1 r0 0) ≤ x5 → Q none h) (hq_1 : ¬ (h.1 r0 0) ≤ x5 → x4 = 0 → Q none h) (q : ¬ (h.1 r0 0) ≤ x5 → ¬ x4 = 0 → V X m_X3_measure R (ZM X Q nx sz mc ms) (nx, sz, mc, ms) 32 [some (.ref r0), none, some (.ref r2), some (.int x3), some (.int x4), some (.int x5), some (.int 0)] [] h) : V X m_X3_measure R (ZM X Q nx sz mc ms) (nx, sz, mc, ms) 15 [some (.ref r0), none, some (.ref r2), some (.int x3), some (.int x4), some (.int x5), none] [] h := by
  refine v_iload dX3_measure_15 rfl ?_
  refine v_aload_n dX3_measure_17 rfl ?_
  refine v_getI dX3_measure_18 fl_RX3_21 (net_kd hn_r0) (net_lt hn_r0 hA0) rfl ?_
  refine v_icmp_ge (tgt := 97) dX3_measure_21 (by decide) (fun c0 => ?_) (fun c0 => ?_)
  · exact v_vret dX3_measure_97 rfl (hq c0)
  · refine v_iload dX3_measure_24 rfl ?_
    refine v_if_eq (tgt := 97) dX3_measure_26 (by decide) (fun c1 => ?_) (fun c1 => ?_)
    · exact v_vret dX3_measure_97 rfl (hq_1 c0 c1)
    · refine v_iconst dX3_measure_29 ci_0 ?_
      refine v_istore dX3_measure_30 (by decide) (L' := [some (.ref r0), none, some (.ref r2), some (.int x3), some (.int x4), some (.int x5), some (.int 0)]) rfl ?_
      exact (q c0 c1)
theorem c_X3_measure_32 {X : CX} {R : Room} {Z : ZX} {A : AX} {h : AH} {r0 r2 d : Nat} {x3 x4 x5 x6 : Int32} {P86 P86_1 : Int32 → AH → Prop} (hA0 : 91 ≤ A.1) (hn_r0 : IsNet r0) (hR : RO R (d + 1)) (hcs : A.2.2.1 ≤ R.cells ∧ A.2.2.2 ≤ R.slots) (hk_r2 : kd X r2 = (20, 20)) (hl_r2 : r2 < A.1) (hM : (h.1 r0 0) ≤ x6 → Mk X d m_X3_around [.ref r0, .int x4, .int ((h.1 r0 1) &&& ((x3 ||| x4) ^^^ (-1)))] h A.1 A.2.1 (RI P86)) (q : (h.1 r0 0) ≤ x6 → ∀ (y : Int32) (g : AH), P86 y g → V X m_X3_measure R Z A 89 [some (.ref r0), none, some (.ref r2), some (.int (x3 ||| x4)), none, some (.int x5), none] [.int y] g) (hM_1 : ¬ (h.1 r0 0) ≤ x6 → 20 ≤ x6 → Mk X d m_X3_around [.ref r0, .int x4, .int ((h.1 r0 1) &&& ((x3 ||| x4) ^^^ (-1)))] h A.1 A.2.1 (RI P86_1)) (q_1 : ¬ (h.1 r0 0) ≤ x6 → 20 ≤ x6 → ∀ (y : Int32) (g : AH), P86_1 y g → V X m_X3_measure R Z A 89 [some (.ref r0), none, some (.ref r2), some (.int (x3 ||| x4)), none, some (.int x5), none] [.int y] g) (q_2 : ¬ (h.1 r0 0) ≤ x6 → ¬ 20 ≤ x6 → ((x4 >>> (x6 &&& 31)) &&& 1) = 0 → V X m_X3_measure R Z A 32 [some (.ref r0), none, some (.ref r2), some (.int x3), some (.int x4), some (.int x5), some (.int (x6 + 1))] [] h) (hi_63 : ¬ (h.1 r0 0) ≤ x6 → ¬ 20 ≤ x6 → ¬ ((x4 >>> (x6 &&& 31)) &&& 1) = 0 → vp_in x6 20) (q_3 : ¬ (h.1 r0 0) ≤ x6 → ¬ 20 ≤ x6 → ¬ ((x4 >>> (x6 &&& 31)) &&& 1) = 0 → V X m_X3_measure R Z A 32 [some (.ref r0), none, some (.ref r2), some (.int x3), some (.int x4), some (.int x5), some (.int (x6 + 1))] [] (setI h r2 x6.toNatClampNeg x5)) : V X m_X3_measure R Z A 32 [some (.ref r0), none, some (.ref r2), some (.int x3), some (.int x4), some (.int x5), some (.int x6)] [] h := by
  refine v_iload dX3_measure_32 rfl ?_
  refine v_aload_n dX3_measure_34 rfl ?_
  refine v_getI dX3_measure_35 fl_RX3_21 (net_kd hn_r0) (net_lt hn_r0 hA0) rfl ?_
  refine v_icmp_ge (tgt := 70) dX3_measure_38 (by decide) (fun c0 => ?_) (fun c0 => ?_)
  · refine v_iload_n dX3_measure_70 rfl ?_
    refine v_iload dX3_measure_71 rfl ?_
    refine v_ior dX3_measure_73 ?_
    refine v_istore_n dX3_measure_74 (by decide) (L' := [some (.ref r0), none, some (.ref r2), some (.int (x3 ||| x4)), some (.int x4), some (.int x5), some (.int x6)]) rfl ?_
    refine v_aload_n dX3_measure_75 rfl ?_
    refine v_iload dX3_measure_76 rfl ?_
    refine v_aload_n dX3_measure_78 rfl ?_
    refine v_getI dX3_measure_79 fl_RX3_25 (net_kd hn_r0) (net_lt hn_r0 hA0) rfl ?_
    refine v_iload_n dX3_measure_82 rfl ?_
    refine v_iconst dX3_measure_83 ci_m1 ?_
    refine v_ixor dX3_measure_84 ?_
    refine v_iand dX3_measure_85 ?_
    exact v_cVI (mt := m_X3_measure) mo_X3_around ml_RX3_53 mi_X3_around mv_X3_around rfl (net_kd hn_r0) cl_3 rfl (net_lt hn_r0 hA0) hR hcs (Nat.le_of_ble_eq_true rfl) dX3_measure_86 rfl (hM c0) (fun y g hp => (v_drop (lvLe_s (lvLe_n (lvLe_s (lvLe_s (lvLe_n (lvLe_s (lvLe_n lvLe_e))))))) ((q c0) y g hp)))
  · refine v_iload dX3_measure_41 rfl ?_
    refine v_aload_n dX3_measure_43 rfl ?_
    refine v_alen (v := 20) dX3_measure_44 hk_r2 ⟨by decide, by decide⟩ hl_r2 rfl ?_
    refine v_icmp_ge (tgt := 70) dX3_measure_45 (by decide) (fun c1 => ?_) (fun c1 => ?_)
    · refine v_iload_n dX3_measure_70 rfl ?_
      refine v_iload dX3_measure_71 rfl ?_
      refine v_ior dX3_measure_73 ?_
      refine v_istore_n dX3_measure_74 (by decide) (L' := [some (.ref r0), none, some (.ref r2), some (.int (x3 ||| x4)), some (.int x4), some (.int x5), some (.int x6)]) rfl ?_
      refine v_aload_n dX3_measure_75 rfl ?_
      refine v_iload dX3_measure_76 rfl ?_
      refine v_aload_n dX3_measure_78 rfl ?_
      refine v_getI dX3_measure_79 fl_RX3_25 (net_kd hn_r0) (net_lt hn_r0 hA0) rfl ?_
      refine v_iload_n dX3_measure_82 rfl ?_
      refine v_iconst dX3_measure_83 ci_m1 ?_
      refine v_ixor dX3_measure_84 ?_
      refine v_iand dX3_measure_85 ?_
      exact v_cVI (mt := m_X3_measure) mo_X3_around ml_RX3_53 mi_X3_around mv_X3_around rfl (net_kd hn_r0) cl_3 rfl (net_lt hn_r0 hA0) hR hcs (Nat.le_of_ble_eq_true rfl) dX3_measure_86 rfl (hM_1 c0 c1) (fun y g hp => (v_drop (lvLe_s (lvLe_n (lvLe_s (lvLe_s (lvLe_n (lvLe_s (lvLe_n lvLe_e))))))) ((q_1 c0 c1) y g hp)))
    · refine v_iload dX3_measure_48 rfl ?_
      refine v_iload dX3_measure_50 rfl ?_
      refine v_ishr dX3_measure_52 ?_
      refine v_iconst dX3_measure_53 ci_1 ?_
      refine v_iand dX3_measure_54 ?_
      refine v_if_eq (tgt := 64) dX3_measure_55 (by decide) (fun c2 => ?_) (fun c2 => ?_)
      · refine v_iinc (y := (x6 + 1)) dX3_measure_64 rfl rfl (by decide) (L' := [some (.ref r0), none, some (.ref r2), some (.int x3), some (.int x4), some (.int x5), some (.int (x6 + 1))]) rfl ?_
        refine v_goto (tgt := 32) dX3_measure_67 (by decide) ?_
        exact (q_2 c0 c1 c2)
      · refine v_aload_n dX3_measure_58 rfl ?_
        refine v_iload dX3_measure_59 rfl ?_
        refine v_iload dX3_measure_61 rfl ?_
        refine v_iast dX3_measure_63 hk_r2 hl_r2 (hi_63 c0 c1 c2) ?_
        refine v_iinc (y := (x6 + 1)) dX3_measure_64 rfl rfl (by decide) (L' := [some (.ref r0), none, some (.ref r2), some (.int x3), some (.int x4), some (.int x5), some (.int (x6 + 1))]) rfl ?_
        refine v_goto (tgt := 32) dX3_measure_67 (by decide) ?_
        exact (q_3 c0 c1 c2)
theorem c_X3_measure_89 {X : CX} {R : Room} {Z : ZX} {A : AX} {h : AH} {r0 r2 : Nat} {x3 x5 s0 : Int32} (q : V X m_X3_measure R Z A 15 [some (.ref r0), none, some (.ref r2), some (.int x3), some (.int s0), some (.int (x5 + 1)), none] [] h) : V X m_X3_measure R Z A 89 [some (.ref r0), none, some (.ref r2), some (.int x3), none, some (.int x5), none] [.int s0] h := by
  refine v_istore dX3_measure_89 (by decide) (L' := [some (.ref r0), none, some (.ref r2), some (.int x3), some (.int s0), some (.int x5), none]) rfl ?_
  refine v_iinc (y := (x5 + 1)) dX3_measure_91 rfl rfl (by decide) (L' := [some (.ref r0), none, some (.ref r2), some (.int x3), some (.int s0), some (.int (x5 + 1)), none]) rfl ?_
  refine v_goto (tgt := 15) dX3_measure_94 (by decide) ?_
  exact q
theorem e_X3_sumOver {X : CX} {d nx sz : Nat} {Q : Option Value → AH → Prop} {h : AH} {r0 : Nat} {x1 x2 x3 : Int32} (q : V X m_X3_sumOver (rm d 0 0) (ZM X Q nx sz 0 0) (nx, sz, 0, 0) 0 [some (.ref r0), some (.int x1), some (.int x2), some (.int x3), none, none, none, none] [] h) : Mk X d m_X3_sumOver [.ref r0, .int x1, .int x2, .int x3] h nx sz Q := by
  refine Mok.ofV mo_X3_sumOver (Nat.le_of_ble_eq_true rfl) (L := [some (.ref r0), some (.int x1), some (.int x2), some (.int x3)]) (lvLe_s (lvLe_s (lvLe_s (lvLe_s lvLe_e)))) (v_grow (n := 4) ?_)
  exact q
theorem c_X3_sumOver_0 {X : CX} {R : Room} {Z : ZX} {A : AX} {h : AH} {r0 : Nat} {x1 x2 x3 : Int32} (q : V X m_X3_sumOver R Z A 15 [some (.ref r0), none, some (.int x2), some (.int x3), some (.int ((1 : Int32) <<< ((x1 : Int32) &&& 31))), some (.int ((1 : Int32) <<< ((x1 : Int32) &&& 31))), some (.int 0), some (.int 1)] [] h) : V X m_X3_sumOver R Z A 0 [some (.ref r0), some (.int x1), some (.int x2), some (.int x3), none, none, none, none] [] h := by
  refine v_iconst dX3_sumOver_0 ci_1 ?_
  refine v_iload_n dX3_sumOver_1 rfl ?_
  refine v_ishl dX3_sumOver_2 ?_
  refine v_istore dX3_sumOver_3 (by decide) (L' := [some (.ref r0), some (.int x1), some (.int x2), some (.int x3), some (.int ((1 : Int32) <<< ((x1 : Int32) &&& 31))), none, none, none]) rfl ?_
  refine v_iload dX3_sumOver_5 rfl ?_
  refine v_istore dX3_sumOver_7 (by decide) (L' := [some (.ref r0), some (.int x1), some (.int x2), some (.int x3), some (.int ((1 : Int32) <<< ((x1 : Int32) &&& 31))), some (.int ((1 : Int32) <<< ((x1 : Int32) &&& 31))), none, none]) rfl ?_
  refine v_iconst dX3_sumOver_9 ci_0 ?_
  refine v_istore dX3_sumOver_10 (by decide) (L' := [some (.ref r0), some (.int x1), some (.int x2), some (.int x3), some (.int ((1 : Int32) <<< ((x1 : Int32) &&& 31))), some (.int ((1 : Int32) <<< ((x1 : Int32) &&& 31))), some (.int 0), none]) rfl ?_
  refine v_iconst dX3_sumOver_12 ci_1 ?_
  refine v_istore dX3_sumOver_13 (by decide) (L' := [some (.ref r0), some (.int x1), some (.int x2), some (.int x3), some (.int ((1 : Int32) <<< ((x1 : Int32) &&& 31))), some (.int ((1 : Int32) <<< ((x1 : Int32) &&& 31))), some (.int 0), some (.int 1)]) rfl ?_
  exact (v_drop (lvLe_s (lvLe_n (lvLe_s (lvLe_s (lvLe_s (lvLe_s (lvLe_s (lvLe_s lvLe_e)))))))) q)
theorem c_X3_sumOver_15 {X : CX} {R : Room} {Z : ZX} {A : AX} {h : AH} {r0 d : Nat} {x2 x3 x4 x5 x6 x7 : Int32} {P83 P83_1 P38 : Int32 → AH → Prop} (hA0 : 91 ≤ A.1) (hn_r0 : IsNet r0) (hR : RO R (d + 1)) (hcs : A.2.2.1 ≤ R.cells ∧ A.2.2.2 ≤ R.slots) (hM : (h.1 r0 0) ≤ x7 → Mk X d m_J6_bitCount_0f7a4 [.int (x3 &&& (x4 ^^^ (-1)))] h A.1 A.2.1 (RI P83)) (q : (h.1 r0 0) ≤ x7 → ∀ (y : Int32) (g : AH), P83 y g → V X m_X3_sumOver R Z A 86 [none, none, none, none, none, none, none, none] [.int y, .int (h.1 r0 0), .int x6] g) (hM_1 : ¬ (h.1 r0 0) ≤ x7 → x5 = 0 → Mk X d m_J6_bitCount_0f7a4 [.int (x3 &&& (x4 ^^^ (-1)))] h A.1 A.2.1 (RI P83_1)) (q_1 : ¬ (h.1 r0 0) ≤ x7 → x5 = 0 → ∀ (y : Int32) (g : AH), P83_1 y g → V X m_X3_sumOver R Z A 86 [none, none, none, none, none, none, none, none] [.int y, .int (h.1 r0 0), .int x6] g) (hM_2 : ¬ (h.1 r0 0) ≤ x7 → ¬ x5 = 0 → Mk X d m_X3_around [.ref r0, .int x5, .int (x2 &&& (x4 ^^^ (-1)))] h A.1 A.2.1 (RI P38)) (q_2 : ¬ (h.1 r0 0) ≤ x7 → ¬ x5 = 0 → ∀ (y : Int32) (g : AH), P38 y g → V X m_X3_sumOver R Z A 41 [some (.ref r0), none, some (.int x2), some (.int x3), some (.int x4), none, some (.int x6), some (.int x7)] [.int y] g) : V X m_X3_sumOver R Z A 15 [some (.ref r0), none, some (.int x2), some (.int x3), some (.int x4), some (.int x5), some (.int x6), some (.int x7)] [] h := by
  refine v_iload dX3_sumOver_15 rfl ?_
  refine v_aload_n dX3_sumOver_17 rfl ?_
  refine v_getI dX3_sumOver_18 fl_RX3_21 (net_kd hn_r0) (net_lt hn_r0 hA0) rfl ?_
  refine v_icmp_ge (tgt := 71) dX3_sumOver_21 (by decide) (fun c0 => ?_) (fun c0 => ?_)
  · refine v_iload dX3_sumOver_71 rfl ?_
    refine v_aload_n dX3_sumOver_73 rfl ?_
    refine v_getI dX3_sumOver_74 fl_RX3_21 (net_kd hn_r0) (net_lt hn_r0 hA0) rfl ?_
    refine v_iload_n dX3_sumOver_77 rfl ?_
    refine v_iload dX3_sumOver_78 rfl ?_
    refine v_iconst dX3_sumOver_80 ci_m1 ?_
    refine v_ixor dX3_sumOver_81 ?_
    refine v_iand dX3_sumOver_82 ?_
    exact v_cSI (mt := m_X3_sumOver) mo_J6_bitCount_0f7a4 ml_RX3_44 mz_J6_bitCount_0f7a4 rfl hR hcs (Nat.le_of_ble_eq_true rfl) dX3_sumOver_83 rfl (hM c0) (fun y g hp => (v_drop (lvLe_n (lvLe_n (lvLe_n (lvLe_n (lvLe_n (lvLe_n (lvLe_n (lvLe_n lvLe_e)))))))) ((q c0) y g hp)))
  · refine v_iload dX3_sumOver_24 rfl ?_
    refine v_if_eq (tgt := 71) dX3_sumOver_26 (by decide) (fun c1 => ?_) (fun c1 => ?_)
    · refine v_iload dX3_sumOver_71 rfl ?_
      refine v_aload_n dX3_sumOver_73 rfl ?_
      refine v_getI dX3_sumOver_74 fl_RX3_21 (net_kd hn_r0) (net_lt hn_r0 hA0) rfl ?_
      refine v_iload_n dX3_sumOver_77 rfl ?_
      refine v_iload dX3_sumOver_78 rfl ?_
      refine v_iconst dX3_sumOver_80 ci_m1 ?_
      refine v_ixor dX3_sumOver_81 ?_
      refine v_iand dX3_sumOver_82 ?_
      exact v_cSI (mt := m_X3_sumOver) mo_J6_bitCount_0f7a4 ml_RX3_44 mz_J6_bitCount_0f7a4 rfl hR hcs (Nat.le_of_ble_eq_true rfl) dX3_sumOver_83 rfl (hM_1 c0 c1) (fun y g hp => (v_drop (lvLe_n (lvLe_n (lvLe_n (lvLe_n (lvLe_n (lvLe_n (lvLe_n (lvLe_n lvLe_e)))))))) ((q_1 c0 c1) y g hp)))
    · refine v_aload_n dX3_sumOver_29 rfl ?_
      refine v_iload dX3_sumOver_30 rfl ?_
      refine v_iload_n dX3_sumOver_32 rfl ?_
      refine v_iload dX3_sumOver_33 rfl ?_
      refine v_iconst dX3_sumOver_35 ci_m1 ?_
      refine v_ixor dX3_sumOver_36 ?_
      refine v_iand dX3_sumOver_37 ?_
      exact v_cVI (mt := m_X3_sumOver) mo_X3_around ml_RX3_53 mi_X3_around mv_X3_around rfl (net_kd hn_r0) cl_3 rfl (net_lt hn_r0 hA0) hR hcs (Nat.le_of_ble_eq_true rfl) dX3_sumOver_38 rfl (hM_2 c0 c1) (fun y g hp => (v_drop (lvLe_s (lvLe_n (lvLe_s (lvLe_s (lvLe_s (lvLe_n (lvLe_s (lvLe_s lvLe_e)))))))) ((q_2 c0 c1) y g hp)))
theorem c_X3_sumOver_41 {X : CX} {R : Room} {Z : ZX} {A : AX} {h : AH} {r0 d : Nat} {x2 x3 x4 x6 x7 s0 : Int32} {P51 : Int32 → AH → Prop} (hR : RO R (d + 1)) (hcs : A.2.2.1 ≤ R.cells ∧ A.2.2.2 ≤ R.slots) (hM : Mk X d m_J6_bitCount_0f7a4 [.int (s0 &&& x3)] h A.1 A.2.1 (RI P51)) (q : ∀ (y : Int32) (g : AH), P51 y g → V X m_X3_sumOver R Z A 54 [some (.ref r0), none, some (.int x2), some (.int x3), some (.int x4), some (.int s0), none, some (.int x7)] [.int y, .int x7, .int x6] g) : V X m_X3_sumOver R Z A 41 [some (.ref r0), none, some (.int x2), some (.int x3), some (.int x4), none, some (.int x6), some (.int x7)] [.int s0] h := by
  refine v_istore dX3_sumOver_41 (by decide) (L' := [some (.ref r0), none, some (.int x2), some (.int x3), some (.int x4), some (.int s0), some (.int x6), some (.int x7)]) rfl ?_
  refine v_iload dX3_sumOver_43 rfl ?_
  refine v_iload dX3_sumOver_45 rfl ?_
  refine v_iload dX3_sumOver_47 rfl ?_
  refine v_iload_n dX3_sumOver_49 rfl ?_
  refine v_iand dX3_sumOver_50 ?_
  exact v_cSI (mt := m_X3_sumOver) mo_J6_bitCount_0f7a4 ml_RX3_44 mz_J6_bitCount_0f7a4 rfl hR hcs (Nat.le_of_ble_eq_true rfl) dX3_sumOver_51 rfl hM (fun y g hp => (v_drop (lvLe_s (lvLe_n (lvLe_s (lvLe_s (lvLe_s (lvLe_s (lvLe_n (lvLe_s lvLe_e)))))))) (q y g hp)))
theorem c_X3_sumOver_54 {X : CX} {R : Room} {Z : ZX} {A : AX} {h : AH} {r0 : Nat} {x2 x3 x4 x5 x7 s0 s1 s2 : Int32} (q : V X m_X3_sumOver R Z A 15 [some (.ref r0), none, some (.int x2), some (.int x3), some (.int (x4 ||| x5)), some (.int x5), some (.int (s0 + (s1 * s2))), some (.int (x7 + 1))] [] h) : V X m_X3_sumOver R Z A 54 [some (.ref r0), none, some (.int x2), some (.int x3), some (.int x4), some (.int x5), none, some (.int x7)] [.int s2, .int s1, .int s0] h := by
  refine v_imul dX3_sumOver_54 ?_
  refine v_iadd dX3_sumOver_55 ?_
  refine v_istore dX3_sumOver_56 (by decide) (L' := [some (.ref r0), none, some (.int x2), some (.int x3), some (.int x4), some (.int x5), some (.int (s0 + (s1 * s2))), some (.int x7)]) rfl ?_
  refine v_iload dX3_sumOver_58 rfl ?_
  refine v_iload dX3_sumOver_60 rfl ?_
  refine v_ior dX3_sumOver_62 ?_
  refine v_istore dX3_sumOver_63 (by decide) (L' := [some (.ref r0), none, some (.int x2), some (.int x3), some (.int (x4 ||| x5)), some (.int x5), some (.int (s0 + (s1 * s2))), some (.int x7)]) rfl ?_
  refine v_iinc (y := (x7 + 1)) dX3_sumOver_65 rfl rfl (by decide) (L' := [some (.ref r0), none, some (.int x2), some (.int x3), some (.int (x4 ||| x5)), some (.int x5), some (.int (s0 + (s1 * s2))), some (.int (x7 + 1))]) rfl ?_
  refine v_goto (tgt := 15) dX3_sumOver_68 (by decide) ?_
  exact q
theorem c_X3_sumOver_86 {X : CX} {R : Room} {Q : Option Value → AH → Prop} {nx sz mc ms : Nat} {h : AH} {s0 s1 s2 : Int32} (hq : Q (some (.int (s0 + (s1 * s2)))) h) : V X m_X3_sumOver R (ZM X Q nx sz mc ms) (nx, sz, mc, ms) 86 [none, none, none, none, none, none, none, none] [.int s2, .int s1, .int s0] h := by
  refine v_imul dX3_sumOver_86 ?_
  refine v_iadd dX3_sumOver_87 ?_
  exact v_iret dX3_sumOver_88 rfl hq
theorem e_X3_sumOf {X : CX} {d nx sz : Nat} {Q : Option Value → AH → Prop} {h : AH} {r0 : Nat} {x1 : Int32} (q : V X m_X3_sumOf (rm d 0 0) (ZM X Q nx sz 0 0) (nx, sz, 0, 0) 0 [some (.ref r0), some (.int x1)] [] h) : Mk X d m_X3_sumOf [.ref r0, .int x1] h nx sz Q := by
  refine Mok.ofV mo_X3_sumOf (Nat.le_of_ble_eq_true rfl) (L := [some (.ref r0), some (.int x1)]) (lvLe_s (lvLe_s lvLe_e)) (v_grow (n := 0) ?_)
  exact q
theorem c_X3_sumOf_0 {X : CX} {R : Room} {Z : ZX} {A : AX} {h : AH} {r0 d : Nat} {x1 : Int32} {P10 : Int32 → AH → Prop} (hA0 : 91 ≤ A.1) (hn_r0 : IsNet r0) (hR : RO R (d + 1)) (hcs : A.2.2.1 ≤ R.cells ∧ A.2.2.2 ≤ R.slots) (hM : Mk X d m_X3_sumOver [.ref r0, .int x1, .int (h.1 r0 1), .int (h.1 r0 1)] h A.1 A.2.1 (RI P10)) (q : ∀ (y : Int32) (g : AH), P10 y g → V X m_X3_sumOf R Z A 13 [none, none] [.int y] g) : V X m_X3_sumOf R Z A 0 [some (.ref r0), some (.int x1)] [] h := by
  refine v_aload_n dX3_sumOf_0 rfl ?_
  refine v_iload_n dX3_sumOf_1 rfl ?_
  refine v_aload_n dX3_sumOf_2 rfl ?_
  refine v_getI dX3_sumOf_3 fl_RX3_25 (net_kd hn_r0) (net_lt hn_r0 hA0) rfl ?_
  refine v_aload_n dX3_sumOf_6 rfl ?_
  refine v_getI dX3_sumOf_7 fl_RX3_25 (net_kd hn_r0) (net_lt hn_r0 hA0) rfl ?_
  exact v_cVI (mt := m_X3_sumOf) mo_X3_sumOver ml_RX3_57 mi_X3_sumOver mv_X3_sumOver rfl (net_kd hn_r0) cl_3 rfl (net_lt hn_r0 hA0) hR hcs (Nat.le_of_ble_eq_true rfl) dX3_sumOf_10 rfl hM (fun y g hp => (v_drop (lvLe_n (lvLe_n lvLe_e)) (q y g hp)))
theorem c_X3_sumOf_13 {X : CX} {R : Room} {Q : Option Value → AH → Prop} {nx sz mc ms : Nat} {h : AH} {s0 : Int32} (hq : Q (some (.int s0)) h) : V X m_X3_sumOf R (ZM X Q nx sz mc ms) (nx, sz, mc, ms) 13 [none, none] [.int s0] h := by
  exact v_iret dX3_sumOf_13 rfl hq
theorem e_X3_sums {X : CX} {d nx sz : Nat} {Q : Option Value → AH → Prop} {h : AH} {r0 : Nat} (q : V X m_X3_sums (rm d 0 0) (ZM X Q nx sz 0 0) (nx, sz, 0, 0) 0 [some (.ref r0), none, none] [] h) : Mk X d m_X3_sums [.ref r0] h nx sz Q := by
  refine Mok.ofV mo_X3_sums (Nat.le_of_ble_eq_true rfl) (L := [some (.ref r0)]) (lvLe_s lvLe_e) (v_grow (n := 2) ?_)
  exact q
theorem c_X3_sums_0 {X : CX} {R : Room} {Z : ZX} {A : AX} {h : AH} {r0 : Nat} (q : V X m_X3_sums R Z A 4 [some (.ref r0), some (.int 0), some (.int 0)] [] h) : V X m_X3_sums R Z A 0 [some (.ref r0), none, none] [] h := by
  refine v_iconst dX3_sums_0 ci_0 ?_
  refine v_istore_n dX3_sums_1 (by decide) (L' := [some (.ref r0), some (.int 0), none]) rfl ?_
  refine v_iconst dX3_sums_2 ci_0 ?_
  refine v_istore_n dX3_sums_3 (by decide) (L' := [some (.ref r0), some (.int 0), some (.int 0)]) rfl ?_
  exact q
theorem c_X3_sums_4 {X : CX} {R : Room} {Q : Option Value → AH → Prop} {nx sz mc ms : Nat} {h : AH} {r0 d : Nat} {x1 x2 : Int32} {P15 : Int32 → AH → Prop} (hA0 : 91 ≤ nx) (hn_r0 : IsNet r0) (hR : RO R (d + 1)) (hcs : mc ≤ R.cells ∧ ms ≤ R.slots) (hq : (h.1 r0 0) ≤ x2 → Q (some (.int x1)) h) (hM : ¬ (h.1 r0 0) ≤ x2 → Mk X d m_X3_sumOf [.ref r0, .int x2] h nx sz (RI P15)) (q : ¬ (h.1 r0 0) ≤ x2 → ∀ (y : Int32) (g : AH), P15 y g → V X m_X3_sums R (ZM X Q nx sz mc ms) (nx, sz, mc, ms) 18 [some (.ref r0), none, some (.int x2)] [.int y, .int x1] g) : V X m_X3_sums R (ZM X Q nx sz mc ms) (nx, sz, mc, ms) 4 [some (.ref r0), some (.int x1), some (.int x2)] [] h := by
  refine v_iload_n dX3_sums_4 rfl ?_
  refine v_aload_n dX3_sums_5 rfl ?_
  refine v_getI dX3_sums_6 fl_RX3_21 (net_kd hn_r0) (net_lt hn_r0 hA0) rfl ?_
  refine v_icmp_ge (tgt := 26) dX3_sums_9 (by decide) (fun c0 => ?_) (fun c0 => ?_)
  · refine v_iload_n dX3_sums_26 rfl ?_
    exact v_iret dX3_sums_27 rfl (hq c0)
  · refine v_iload_n dX3_sums_12 rfl ?_
    refine v_aload_n dX3_sums_13 rfl ?_
    refine v_iload_n dX3_sums_14 rfl ?_
    exact v_cVI (mt := m_X3_sums) mo_X3_sumOf ml_RX3_61 mi_X3_sumOf mv_X3_sumOf rfl (net_kd hn_r0) cl_3 rfl (net_lt hn_r0 hA0) hR hcs (Nat.le_of_ble_eq_true rfl) dX3_sums_15 rfl (hM c0) (fun y g hp => (v_drop (lvLe_s (lvLe_n (lvLe_s lvLe_e))) ((q c0) y g hp)))
theorem c_X3_sums_18 {X : CX} {R : Room} {Z : ZX} {A : AX} {h : AH} {r0 : Nat} {x2 s0 s1 : Int32} (q : V X m_X3_sums R Z A 4 [some (.ref r0), some (.int (s0 + s1)), some (.int (x2 + 1))] [] h) : V X m_X3_sums R Z A 18 [some (.ref r0), none, some (.int x2)] [.int s1, .int s0] h := by
  refine v_iadd dX3_sums_18 ?_
  refine v_istore_n dX3_sums_19 (by decide) (L' := [some (.ref r0), some (.int (s0 + s1)), some (.int x2)]) rfl ?_
  refine v_iinc (y := (x2 + 1)) dX3_sums_20 rfl rfl (by decide) (L' := [some (.ref r0), some (.int (s0 + s1)), some (.int (x2 + 1))]) rfl ?_
  refine v_goto (tgt := 4) dX3_sums_23 (by decide) ?_
  exact q
theorem e_X3_widest {X : CX} {d nx sz : Nat} {Q : Option Value → AH → Prop} {h : AH} {r0 : Nat} (q : V X m_X3_widest (rm d 0 0) (ZM X Q nx sz 0 0) (nx, sz, 0, 0) 0 [some (.ref r0), none, none] [] h) : Mk X d m_X3_widest [.ref r0] h nx sz Q := by
  refine Mok.ofV mo_X3_widest (Nat.le_of_ble_eq_true rfl) (L := [some (.ref r0)]) (lvLe_s lvLe_e) (v_grow (n := 2) ?_)
  exact q
theorem c_X3_widest_0 {X : CX} {R : Room} {Z : ZX} {A : AX} {h : AH} {r0 : Nat} (q : V X m_X3_widest R Z A 4 [some (.ref r0), some (.int 0), some (.int 0)] [] h) : V X m_X3_widest R Z A 0 [some (.ref r0), none, none] [] h := by
  refine v_iconst dX3_widest_0 ci_0 ?_
  refine v_istore_n dX3_widest_1 (by decide) (L' := [some (.ref r0), some (.int 0), none]) rfl ?_
  refine v_iconst dX3_widest_2 ci_0 ?_
  refine v_istore_n dX3_widest_3 (by decide) (L' := [some (.ref r0), some (.int 0), some (.int 0)]) rfl ?_
  exact q
theorem c_X3_widest_4 {X : CX} {R : Room} {Q : Option Value → AH → Prop} {nx sz mc ms : Nat} {h : AH} {r0 d : Nat} {x1 x2 : Int32} {P17 : Int32 → AH → Prop} (hA0 : 91 ≤ nx) (hn_r0 : IsNet r0) (hR : RO R (d + 1)) (hcs : mc ≤ R.cells ∧ ms ≤ R.slots) (hq : (h.1 r0 0) ≤ x2 → Q (some (.int x1)) h) (hM : ¬ (h.1 r0 0) ≤ x2 → Mk X d m_X3_roundsFrom [.ref r0, .int ((1 : Int32) <<< ((x2 : Int32) &&& 31))] h nx sz (RI P17)) (q : ¬ (h.1 r0 0) ≤ x2 → ∀ (y : Int32) (g : AH), P17 y g → V X m_X3_widest R (ZM X Q nx sz mc ms) (nx, sz, mc, ms) 20 [some (.ref r0), none, some (.int x2)] [.int y, .int x1] g) : V X m_X3_widest R (ZM X Q nx sz mc ms) (nx, sz, mc, ms) 4 [some (.ref r0), some (.int x1), some (.int x2)] [] h := by
  refine v_iload_n dX3_widest_4 rfl ?_
  refine v_aload_n dX3_widest_5 rfl ?_
  refine v_getI dX3_widest_6 fl_RX3_21 (net_kd hn_r0) (net_lt hn_r0 hA0) rfl ?_
  refine v_icmp_ge (tgt := 30) dX3_widest_9 (by decide) (fun c0 => ?_) (fun c0 => ?_)
  · refine v_iload_n dX3_widest_30 rfl ?_
    exact v_iret dX3_widest_31 rfl (hq c0)
  · refine v_iload_n dX3_widest_12 rfl ?_
    refine v_aload_n dX3_widest_13 rfl ?_
    refine v_iconst dX3_widest_14 ci_1 ?_
    refine v_iload_n dX3_widest_15 rfl ?_
    refine v_ishl dX3_widest_16 ?_
    exact v_cVI (mt := m_X3_widest) mo_X3_roundsFrom ml_RX3_64 mi_X3_roundsFrom mv_X3_roundsFrom rfl (net_kd hn_r0) cl_3 rfl (net_lt hn_r0 hA0) hR hcs (Nat.le_of_ble_eq_true rfl) dX3_widest_17 rfl (hM c0) (fun y g hp => (v_drop (lvLe_s (lvLe_n (lvLe_s lvLe_e))) ((q c0) y g hp)))
theorem c_X3_widest_20 {X : CX} {R : Room} {Z : ZX} {A : AX} {h : AH} {r0 d : Nat} {x2 s0 s1 : Int32} (hR : RO R (d + 1)) (hcs : A.2.2.1 ≤ R.cells ∧ A.2.2.2 ≤ R.slots) (q : V X m_X3_widest R Z A 4 [some (.ref r0), some (.int (if s0 < s1 then s1 else s0)), some (.int (x2 + 1))] [] h) : V X m_X3_widest R Z A 20 [some (.ref r0), none, some (.int x2)] [.int s1, .int s0] h := by
  refine v_mmax dX3_widest_20 ml_RX3_67 mz_mmax in_math mc_mmax (RO_1 hR) hcs (Nat.le_of_ble_eq_true rfl) ?_
  refine v_istore_n dX3_widest_23 (by decide) (L' := [some (.ref r0), some (.int (if s0 < s1 then s1 else s0)), some (.int x2)]) rfl ?_
  refine v_iinc (y := (x2 + 1)) dX3_widest_24 rfl rfl (by decide) (L' := [some (.ref r0), some (.int (if s0 < s1 then s1 else s0)), some (.int (x2 + 1))]) rfl ?_
  refine v_goto (tgt := 4) dX3_widest_27 (by decide) ?_
  exact q
theorem e_J6_numberOfTrailingZeros_0f7a4 {X : CX} {d nx sz : Nat} {Q : Option Value → AH → Prop} {h : AH} {x0 : Int32} (q : V X m_J6_numberOfTrailingZeros_0f7a4 (rm d 0 0) (ZM X Q nx sz 0 0) (nx, sz, 0, 0) 0 [some (.int x0), none] [] h) : Mk X d m_J6_numberOfTrailingZeros_0f7a4 [.int x0] h nx sz Q := by
  refine Mok.ofV mo_J6_numberOfTrailingZeros_0f7a4 (Nat.le_of_ble_eq_true rfl) (L := [some (.int x0)]) (lvLe_s lvLe_e) (v_grow (n := 1) ?_)
  exact q
theorem c_J6_numberOfTrailingZeros_0f7a4_0 {X : CX} {R : Room} {Q : Option Value → AH → Prop} {nx sz mc ms : Nat} {h : AH} {x0 : Int32} (q : 0 < ((x0 ^^^ (-1)) &&& (x0 - 1)) → ((x0 ^^^ (-1)) &&& (x0 - 1)) ≤ 65536 → ((x0 ^^^ (-1)) &&& (x0 - 1)) ≤ 256 → V X m_J6_numberOfTrailingZeros_0f7a4 R (ZM X Q nx sz mc ms) (nx, sz, mc, ms) 49 [some (.int ((x0 ^^^ (-1)) &&& (x0 - 1))), some (.int 1)] [] h) (q_1 : 0 < ((x0 ^^^ (-1)) &&& (x0 - 1)) → ((x0 ^^^ (-1)) &&& (x0 - 1)) ≤ 65536 → ¬ ((x0 ^^^ (-1)) &&& (x0 - 1)) ≤ 256 → V X m_J6_numberOfTrailingZeros_0f7a4 R (ZM X Q nx sz mc ms) (nx, sz, mc, ms) 49 [some (.int ((((x0 ^^^ (-1)) &&& (x0 - 1)) : Int32).toUInt32 >>> ((8 : Int32).toUInt32 &&& Int32.toUInt32 31)).toInt32), some (.int (1 + 8))] [] h) (q_2 : 0 < ((x0 ^^^ (-1)) &&& (x0 - 1)) → ¬ ((x0 ^^^ (-1)) &&& (x0 - 1)) ≤ 65536 → ((((x0 ^^^ (-1)) &&& (x0 - 1)) : Int32).toUInt32 >>> ((16 : Int32).toUInt32 &&& Int32.toUInt32 31)).toInt32 ≤ 256 → V X m_J6_numberOfTrailingZeros_0f7a4 R (ZM X Q nx sz mc ms) (nx, sz, mc, ms) 49 [some (.int ((((x0 ^^^ (-1)) &&& (x0 - 1)) : Int32).toUInt32 >>> ((16 : Int32).toUInt32 &&& Int32.toUInt32 31)).toInt32), some (.int (1 + 16))] [] h) (q_3 : 0 < ((x0 ^^^ (-1)) &&& (x0 - 1)) → ¬ ((x0 ^^^ (-1)) &&& (x0 - 1)) ≤ 65536 → ¬ ((((x0 ^^^ (-1)) &&& (x0 - 1)) : Int32).toUInt32 >>> ((16 : Int32).toUInt32 &&& Int32.toUInt32 31)).toInt32 ≤ 256 → V X m_J6_numberOfTrailingZeros_0f7a4 R (ZM X Q nx sz mc ms) (nx, sz, mc, ms) 49 [some (.int ((((((x0 ^^^ (-1)) &&& (x0 - 1)) : Int32).toUInt32 >>> ((16 : Int32).toUInt32 &&& Int32.toUInt32 31)).toInt32 : Int32).toUInt32 >>> ((8 : Int32).toUInt32 &&& Int32.toUInt32 31)).toInt32), some (.int ((1 + 16) + 8))] [] h) (hq : ¬ 0 < ((x0 ^^^ (-1)) &&& (x0 - 1)) → Q (some (.int (((x0 ^^^ (-1)) &&& (x0 - 1)) &&& 32))) h) : V X m_J6_numberOfTrailingZeros_0f7a4 R (ZM X Q nx sz mc ms) (nx, sz, mc, ms) 0 [some (.int x0), none] [] h := by
  refine v_iload_n dJ6_numberOfTrailingZeros_0f7a4_0 rfl ?_
  refine v_iconst dJ6_numberOfTrailingZeros_0f7a4_1 ci_m1 ?_
  refine v_ixor dJ6_numberOfTrailingZeros_0f7a4_2 ?_
  refine v_iload_n dJ6_numberOfTrailingZeros_0f7a4_3 rfl ?_
  refine v_iconst dJ6_numberOfTrailingZeros_0f7a4_4 ci_1 ?_
  refine v_isub dJ6_numberOfTrailingZeros_0f7a4_5 ?_
  refine v_iand dJ6_numberOfTrailingZeros_0f7a4_6 ?_
  refine v_istore_n dJ6_numberOfTrailingZeros_0f7a4_7 (by decide) (L' := [some (.int ((x0 ^^^ (-1)) &&& (x0 - 1))), none]) rfl ?_
  refine v_iload_n dJ6_numberOfTrailingZeros_0f7a4_8 rfl ?_
  refine v_if_gt (tgt := 17) dJ6_numberOfTrailingZeros_0f7a4_9 (by decide) (fun c0 => ?_) (fun c0 => ?_)
  · refine v_iconst dJ6_numberOfTrailingZeros_0f7a4_17 ci_1 ?_
    refine v_istore_n dJ6_numberOfTrailingZeros_0f7a4_18 (by decide) (L' := [some (.int ((x0 ^^^ (-1)) &&& (x0 - 1))), some (.int 1)]) rfl ?_
    refine v_iload_n dJ6_numberOfTrailingZeros_0f7a4_19 rfl ?_
    refine v_ldc_w dJ6_numberOfTrailingZeros_0f7a4_20 kc_RJ6_264 ?_
    refine v_icmp_le (tgt := 34) dJ6_numberOfTrailingZeros_0f7a4_23 (by decide) (fun c1 => ?_) (fun c1 => ?_)
    · refine v_iload_n dJ6_numberOfTrailingZeros_0f7a4_34 rfl ?_
      refine v_sipush dJ6_numberOfTrailingZeros_0f7a4_35 cs_256 ?_
      refine v_icmp_le (tgt := 49) dJ6_numberOfTrailingZeros_0f7a4_38 (by decide) (fun c2 => ?_) (fun c2 => ?_)
      · exact (q c0 c1 c2)
      · refine v_iinc (y := (1 + 8)) dJ6_numberOfTrailingZeros_0f7a4_41 rfl rfl (by decide) (L' := [some (.int ((x0 ^^^ (-1)) &&& (x0 - 1))), some (.int (1 + 8))]) rfl ?_
        refine v_iload_n dJ6_numberOfTrailingZeros_0f7a4_44 rfl ?_
        refine v_bipush dJ6_numberOfTrailingZeros_0f7a4_45 cb_8 ?_
        refine v_iushr dJ6_numberOfTrailingZeros_0f7a4_47 ?_
        refine v_istore_n dJ6_numberOfTrailingZeros_0f7a4_48 (by decide) (L' := [some (.int ((((x0 ^^^ (-1)) &&& (x0 - 1)) : Int32).toUInt32 >>> ((8 : Int32).toUInt32 &&& Int32.toUInt32 31)).toInt32), some (.int (1 + 8))]) rfl ?_
        exact (q_1 c0 c1 c2)
    · refine v_iinc (y := (1 + 16)) dJ6_numberOfTrailingZeros_0f7a4_26 rfl rfl (by decide) (L' := [some (.int ((x0 ^^^ (-1)) &&& (x0 - 1))), some (.int (1 + 16))]) rfl ?_
      refine v_iload_n dJ6_numberOfTrailingZeros_0f7a4_29 rfl ?_
      refine v_bipush dJ6_numberOfTrailingZeros_0f7a4_30 cb_16 ?_
      refine v_iushr dJ6_numberOfTrailingZeros_0f7a4_32 ?_
      refine v_istore_n dJ6_numberOfTrailingZeros_0f7a4_33 (by decide) (L' := [some (.int ((((x0 ^^^ (-1)) &&& (x0 - 1)) : Int32).toUInt32 >>> ((16 : Int32).toUInt32 &&& Int32.toUInt32 31)).toInt32), some (.int (1 + 16))]) rfl ?_
      refine v_iload_n dJ6_numberOfTrailingZeros_0f7a4_34 rfl ?_
      refine v_sipush dJ6_numberOfTrailingZeros_0f7a4_35 cs_256 ?_
      refine v_icmp_le (tgt := 49) dJ6_numberOfTrailingZeros_0f7a4_38 (by decide) (fun c2 => ?_) (fun c2 => ?_)
      · exact (q_2 c0 c1 c2)
      · refine v_iinc (y := ((1 + 16) + 8)) dJ6_numberOfTrailingZeros_0f7a4_41 rfl rfl (by decide) (L' := [some (.int ((((x0 ^^^ (-1)) &&& (x0 - 1)) : Int32).toUInt32 >>> ((16 : Int32).toUInt32 &&& Int32.toUInt32 31)).toInt32), some (.int ((1 + 16) + 8))]) rfl ?_
        refine v_iload_n dJ6_numberOfTrailingZeros_0f7a4_44 rfl ?_
        refine v_bipush dJ6_numberOfTrailingZeros_0f7a4_45 cb_8 ?_
        refine v_iushr dJ6_numberOfTrailingZeros_0f7a4_47 ?_
        refine v_istore_n dJ6_numberOfTrailingZeros_0f7a4_48 (by decide) (L' := [some (.int ((((((x0 ^^^ (-1)) &&& (x0 - 1)) : Int32).toUInt32 >>> ((16 : Int32).toUInt32 &&& Int32.toUInt32 31)).toInt32 : Int32).toUInt32 >>> ((8 : Int32).toUInt32 &&& Int32.toUInt32 31)).toInt32), some (.int ((1 + 16) + 8))]) rfl ?_
        exact (q_3 c0 c1 c2)
  · refine v_iload_n dJ6_numberOfTrailingZeros_0f7a4_12 rfl ?_
    refine v_bipush dJ6_numberOfTrailingZeros_0f7a4_13 cb_32 ?_
    refine v_iand dJ6_numberOfTrailingZeros_0f7a4_15 ?_
    exact v_iret dJ6_numberOfTrailingZeros_0f7a4_16 rfl (hq c0)
theorem c_J6_numberOfTrailingZeros_0f7a4_49 {X : CX} {R : Room} {Q : Option Value → AH → Prop} {nx sz mc ms : Nat} {h : AH} {x0 x1 : Int32} (hq : x0 ≤ 16 → x0 ≤ 4 → Q (some (.int (x1 + ((x0 : Int32).toUInt32 >>> ((1 : Int32).toUInt32 &&& Int32.toUInt32 31)).toInt32))) h) (hq_1 : x0 ≤ 16 → ¬ x0 ≤ 4 → Q (some (.int ((x1 + 2) + ((((x0 : Int32).toUInt32 >>> ((2 : Int32).toUInt32 &&& Int32.toUInt32 31)).toInt32 : Int32).toUInt32 >>> ((1 : Int32).toUInt32 &&& Int32.toUInt32 31)).toInt32))) h) (hq_2 : ¬ x0 ≤ 16 → ((x0 : Int32).toUInt32 >>> ((4 : Int32).toUInt32 &&& Int32.toUInt32 31)).toInt32 ≤ 4 → Q (some (.int ((x1 + 4) + ((((x0 : Int32).toUInt32 >>> ((4 : Int32).toUInt32 &&& Int32.toUInt32 31)).toInt32 : Int32).toUInt32 >>> ((1 : Int32).toUInt32 &&& Int32.toUInt32 31)).toInt32))) h) (hq_3 : ¬ x0 ≤ 16 → ¬ ((x0 : Int32).toUInt32 >>> ((4 : Int32).toUInt32 &&& Int32.toUInt32 31)).toInt32 ≤ 4 → Q (some (.int (((x1 + 4) + 2) + ((((((x0 : Int32).toUInt32 >>> ((4 : Int32).toUInt32 &&& Int32.toUInt32 31)).toInt32 : Int32).toUInt32 >>> ((2 : Int32).toUInt32 &&& Int32.toUInt32 31)).toInt32 : Int32).toUInt32 >>> ((1 : Int32).toUInt32 &&& Int32.toUInt32 31)).toInt32))) h) : V X m_J6_numberOfTrailingZeros_0f7a4 R (ZM X Q nx sz mc ms) (nx, sz, mc, ms) 49 [some (.int x0), some (.int x1)] [] h := by
  refine v_iload_n dJ6_numberOfTrailingZeros_0f7a4_49 rfl ?_
  refine v_bipush dJ6_numberOfTrailingZeros_0f7a4_50 cb_16 ?_
  refine v_icmp_le (tgt := 62) dJ6_numberOfTrailingZeros_0f7a4_52 (by decide) (fun c0 => ?_) (fun c0 => ?_)
  · refine v_iload_n dJ6_numberOfTrailingZeros_0f7a4_62 rfl ?_
    refine v_iconst dJ6_numberOfTrailingZeros_0f7a4_63 ci_4 ?_
    refine v_icmp_le (tgt := 74) dJ6_numberOfTrailingZeros_0f7a4_64 (by decide) (fun c1 => ?_) (fun c1 => ?_)
    · refine v_iload_n dJ6_numberOfTrailingZeros_0f7a4_74 rfl ?_
      refine v_iload_n dJ6_numberOfTrailingZeros_0f7a4_75 rfl ?_
      refine v_iconst dJ6_numberOfTrailingZeros_0f7a4_76 ci_1 ?_
      refine v_iushr dJ6_numberOfTrailingZeros_0f7a4_77 ?_
      refine v_iadd dJ6_numberOfTrailingZeros_0f7a4_78 ?_
      exact v_iret dJ6_numberOfTrailingZeros_0f7a4_79 rfl (hq c0 c1)
    · refine v_iinc (y := (x1 + 2)) dJ6_numberOfTrailingZeros_0f7a4_67 rfl rfl (by decide) (L' := [some (.int x0), some (.int (x1 + 2))]) rfl ?_
      refine v_iload_n dJ6_numberOfTrailingZeros_0f7a4_70 rfl ?_
      refine v_iconst dJ6_numberOfTrailingZeros_0f7a4_71 ci_2 ?_
      refine v_iushr dJ6_numberOfTrailingZeros_0f7a4_72 ?_
      refine v_istore_n dJ6_numberOfTrailingZeros_0f7a4_73 (by decide) (L' := [some (.int ((x0 : Int32).toUInt32 >>> ((2 : Int32).toUInt32 &&& Int32.toUInt32 31)).toInt32), some (.int (x1 + 2))]) rfl ?_
      refine v_iload_n dJ6_numberOfTrailingZeros_0f7a4_74 rfl ?_
      refine v_iload_n dJ6_numberOfTrailingZeros_0f7a4_75 rfl ?_
      refine v_iconst dJ6_numberOfTrailingZeros_0f7a4_76 ci_1 ?_
      refine v_iushr dJ6_numberOfTrailingZeros_0f7a4_77 ?_
      refine v_iadd dJ6_numberOfTrailingZeros_0f7a4_78 ?_
      exact v_iret dJ6_numberOfTrailingZeros_0f7a4_79 rfl (hq_1 c0 c1)
  · refine v_iinc (y := (x1 + 4)) dJ6_numberOfTrailingZeros_0f7a4_55 rfl rfl (by decide) (L' := [some (.int x0), some (.int (x1 + 4))]) rfl ?_
    refine v_iload_n dJ6_numberOfTrailingZeros_0f7a4_58 rfl ?_
    refine v_iconst dJ6_numberOfTrailingZeros_0f7a4_59 ci_4 ?_
    refine v_iushr dJ6_numberOfTrailingZeros_0f7a4_60 ?_
    refine v_istore_n dJ6_numberOfTrailingZeros_0f7a4_61 (by decide) (L' := [some (.int ((x0 : Int32).toUInt32 >>> ((4 : Int32).toUInt32 &&& Int32.toUInt32 31)).toInt32), some (.int (x1 + 4))]) rfl ?_
    refine v_iload_n dJ6_numberOfTrailingZeros_0f7a4_62 rfl ?_
    refine v_iconst dJ6_numberOfTrailingZeros_0f7a4_63 ci_4 ?_
    refine v_icmp_le (tgt := 74) dJ6_numberOfTrailingZeros_0f7a4_64 (by decide) (fun c1 => ?_) (fun c1 => ?_)
    · refine v_iload_n dJ6_numberOfTrailingZeros_0f7a4_74 rfl ?_
      refine v_iload_n dJ6_numberOfTrailingZeros_0f7a4_75 rfl ?_
      refine v_iconst dJ6_numberOfTrailingZeros_0f7a4_76 ci_1 ?_
      refine v_iushr dJ6_numberOfTrailingZeros_0f7a4_77 ?_
      refine v_iadd dJ6_numberOfTrailingZeros_0f7a4_78 ?_
      exact v_iret dJ6_numberOfTrailingZeros_0f7a4_79 rfl (hq_2 c0 c1)
    · refine v_iinc (y := ((x1 + 4) + 2)) dJ6_numberOfTrailingZeros_0f7a4_67 rfl rfl (by decide) (L' := [some (.int ((x0 : Int32).toUInt32 >>> ((4 : Int32).toUInt32 &&& Int32.toUInt32 31)).toInt32), some (.int ((x1 + 4) + 2))]) rfl ?_
      refine v_iload_n dJ6_numberOfTrailingZeros_0f7a4_70 rfl ?_
      refine v_iconst dJ6_numberOfTrailingZeros_0f7a4_71 ci_2 ?_
      refine v_iushr dJ6_numberOfTrailingZeros_0f7a4_72 ?_
      refine v_istore_n dJ6_numberOfTrailingZeros_0f7a4_73 (by decide) (L' := [some (.int ((((x0 : Int32).toUInt32 >>> ((4 : Int32).toUInt32 &&& Int32.toUInt32 31)).toInt32 : Int32).toUInt32 >>> ((2 : Int32).toUInt32 &&& Int32.toUInt32 31)).toInt32), some (.int ((x1 + 4) + 2))]) rfl ?_
      refine v_iload_n dJ6_numberOfTrailingZeros_0f7a4_74 rfl ?_
      refine v_iload_n dJ6_numberOfTrailingZeros_0f7a4_75 rfl ?_
      refine v_iconst dJ6_numberOfTrailingZeros_0f7a4_76 ci_1 ?_
      refine v_iushr dJ6_numberOfTrailingZeros_0f7a4_77 ?_
      refine v_iadd dJ6_numberOfTrailingZeros_0f7a4_78 ?_
      exact v_iret dJ6_numberOfTrailingZeros_0f7a4_79 rfl (hq_3 c0 c1)
theorem e_J6_bitCount_0f7a4 {X : CX} {d nx sz : Nat} {Q : Option Value → AH → Prop} {h : AH} {x0 : Int32} (q : V X m_J6_bitCount_0f7a4 (rm d 0 0) (ZM X Q nx sz 0 0) (nx, sz, 0, 0) 0 [some (.int x0)] [] h) : Mk X d m_J6_bitCount_0f7a4 [.int x0] h nx sz Q := by
  refine Mok.ofV mo_J6_bitCount_0f7a4 (Nat.le_of_ble_eq_true rfl) (L := [some (.int x0)]) (lvLe_s lvLe_e) (v_grow (n := 0) ?_)
  exact q
theorem c_J6_bitCount_0f7a4_0 {X : CX} {R : Room} {Q : Option Value → AH → Prop} {nx sz mc ms : Nat} {h : AH} {x0 : Int32} (hq : Q (some (.int ((((((((x0 - (((x0 : Int32).toUInt32 >>> ((1 : Int32).toUInt32 &&& Int32.toUInt32 31)).toInt32 &&& 1431655765)) &&& 858993459) + ((((x0 - (((x0 : Int32).toUInt32 >>> ((1 : Int32).toUInt32 &&& Int32.toUInt32 31)).toInt32 &&& 1431655765)) : Int32).toUInt32 >>> ((2 : Int32).toUInt32 &&& Int32.toUInt32 31)).toInt32 &&& 858993459)) + (((((x0 - (((x0 : Int32).toUInt32 >>> ((1 : Int32).toUInt32 &&& Int32.toUInt32 31)).toInt32 &&& 1431655765)) &&& 858993459) + ((((x0 - (((x0 : Int32).toUInt32 >>> ((1 : Int32).toUInt32 &&& Int32.toUInt32 31)).toInt32 &&& 1431655765)) : Int32).toUInt32 >>> ((2 : Int32).toUInt32 &&& Int32.toUInt32 31)).toInt32 &&& 858993459)) : Int32).toUInt32 >>> ((4 : Int32).toUInt32 &&& Int32.toUInt32 31)).toInt32) &&& 252645135) + (((((((x0 - (((x0 : Int32).toUInt32 >>> ((1 : Int32).toUInt32 &&& Int32.toUInt32 31)).toInt32 &&& 1431655765)) &&& 858993459) + ((((x0 - (((x0 : Int32).toUInt32 >>> ((1 : Int32).toUInt32 &&& Int32.toUInt32 31)).toInt32 &&& 1431655765)) : Int32).toUInt32 >>> ((2 : Int32).toUInt32 &&& Int32.toUInt32 31)).toInt32 &&& 858993459)) + (((((x0 - (((x0 : Int32).toUInt32 >>> ((1 : Int32).toUInt32 &&& Int32.toUInt32 31)).toInt32 &&& 1431655765)) &&& 858993459) + ((((x0 - (((x0 : Int32).toUInt32 >>> ((1 : Int32).toUInt32 &&& Int32.toUInt32 31)).toInt32 &&& 1431655765)) : Int32).toUInt32 >>> ((2 : Int32).toUInt32 &&& Int32.toUInt32 31)).toInt32 &&& 858993459)) : Int32).toUInt32 >>> ((4 : Int32).toUInt32 &&& Int32.toUInt32 31)).toInt32) &&& 252645135) : Int32).toUInt32 >>> ((8 : Int32).toUInt32 &&& Int32.toUInt32 31)).toInt32) + ((((((((x0 - (((x0 : Int32).toUInt32 >>> ((1 : Int32).toUInt32 &&& Int32.toUInt32 31)).toInt32 &&& 1431655765)) &&& 858993459) + ((((x0 - (((x0 : Int32).toUInt32 >>> ((1 : Int32).toUInt32 &&& Int32.toUInt32 31)).toInt32 &&& 1431655765)) : Int32).toUInt32 >>> ((2 : Int32).toUInt32 &&& Int32.toUInt32 31)).toInt32 &&& 858993459)) + (((((x0 - (((x0 : Int32).toUInt32 >>> ((1 : Int32).toUInt32 &&& Int32.toUInt32 31)).toInt32 &&& 1431655765)) &&& 858993459) + ((((x0 - (((x0 : Int32).toUInt32 >>> ((1 : Int32).toUInt32 &&& Int32.toUInt32 31)).toInt32 &&& 1431655765)) : Int32).toUInt32 >>> ((2 : Int32).toUInt32 &&& Int32.toUInt32 31)).toInt32 &&& 858993459)) : Int32).toUInt32 >>> ((4 : Int32).toUInt32 &&& Int32.toUInt32 31)).toInt32) &&& 252645135) + (((((((x0 - (((x0 : Int32).toUInt32 >>> ((1 : Int32).toUInt32 &&& Int32.toUInt32 31)).toInt32 &&& 1431655765)) &&& 858993459) + ((((x0 - (((x0 : Int32).toUInt32 >>> ((1 : Int32).toUInt32 &&& Int32.toUInt32 31)).toInt32 &&& 1431655765)) : Int32).toUInt32 >>> ((2 : Int32).toUInt32 &&& Int32.toUInt32 31)).toInt32 &&& 858993459)) + (((((x0 - (((x0 : Int32).toUInt32 >>> ((1 : Int32).toUInt32 &&& Int32.toUInt32 31)).toInt32 &&& 1431655765)) &&& 858993459) + ((((x0 - (((x0 : Int32).toUInt32 >>> ((1 : Int32).toUInt32 &&& Int32.toUInt32 31)).toInt32 &&& 1431655765)) : Int32).toUInt32 >>> ((2 : Int32).toUInt32 &&& Int32.toUInt32 31)).toInt32 &&& 858993459)) : Int32).toUInt32 >>> ((4 : Int32).toUInt32 &&& Int32.toUInt32 31)).toInt32) &&& 252645135) : Int32).toUInt32 >>> ((8 : Int32).toUInt32 &&& Int32.toUInt32 31)).toInt32) : Int32).toUInt32 >>> ((16 : Int32).toUInt32 &&& Int32.toUInt32 31)).toInt32) &&& 63))) h) : V X m_J6_bitCount_0f7a4 R (ZM X Q nx sz mc ms) (nx, sz, mc, ms) 0 [some (.int x0)] [] h := by
  refine v_iload_n dJ6_bitCount_0f7a4_0 rfl ?_
  refine v_iload_n dJ6_bitCount_0f7a4_1 rfl ?_
  refine v_iconst dJ6_bitCount_0f7a4_2 ci_1 ?_
  refine v_iushr dJ6_bitCount_0f7a4_3 ?_
  refine v_ldc_w dJ6_bitCount_0f7a4_4 kc_RJ6_265 ?_
  refine v_iand dJ6_bitCount_0f7a4_7 ?_
  refine v_isub dJ6_bitCount_0f7a4_8 ?_
  refine v_istore_n dJ6_bitCount_0f7a4_9 (by decide) (L' := [some (.int (x0 - (((x0 : Int32).toUInt32 >>> ((1 : Int32).toUInt32 &&& Int32.toUInt32 31)).toInt32 &&& 1431655765)))]) rfl ?_
  refine v_iload_n dJ6_bitCount_0f7a4_10 rfl ?_
  refine v_ldc_w dJ6_bitCount_0f7a4_11 kc_RJ6_266 ?_
  refine v_iand dJ6_bitCount_0f7a4_14 ?_
  refine v_iload_n dJ6_bitCount_0f7a4_15 rfl ?_
  refine v_iconst dJ6_bitCount_0f7a4_16 ci_2 ?_
  refine v_iushr dJ6_bitCount_0f7a4_17 ?_
  refine v_ldc_w dJ6_bitCount_0f7a4_18 kc_RJ6_266 ?_
  refine v_iand dJ6_bitCount_0f7a4_21 ?_
  refine v_iadd dJ6_bitCount_0f7a4_22 ?_
  refine v_istore_n dJ6_bitCount_0f7a4_23 (by decide) (L' := [some (.int (((x0 - (((x0 : Int32).toUInt32 >>> ((1 : Int32).toUInt32 &&& Int32.toUInt32 31)).toInt32 &&& 1431655765)) &&& 858993459) + ((((x0 - (((x0 : Int32).toUInt32 >>> ((1 : Int32).toUInt32 &&& Int32.toUInt32 31)).toInt32 &&& 1431655765)) : Int32).toUInt32 >>> ((2 : Int32).toUInt32 &&& Int32.toUInt32 31)).toInt32 &&& 858993459)))]) rfl ?_
  refine v_iload_n dJ6_bitCount_0f7a4_24 rfl ?_
  refine v_iload_n dJ6_bitCount_0f7a4_25 rfl ?_
  refine v_iconst dJ6_bitCount_0f7a4_26 ci_4 ?_
  refine v_iushr dJ6_bitCount_0f7a4_27 ?_
  refine v_iadd dJ6_bitCount_0f7a4_28 ?_
  refine v_ldc_w dJ6_bitCount_0f7a4_29 kc_RJ6_267 ?_
  refine v_iand dJ6_bitCount_0f7a4_32 ?_
  refine v_istore_n dJ6_bitCount_0f7a4_33 (by decide) (L' := [some (.int (((((x0 - (((x0 : Int32).toUInt32 >>> ((1 : Int32).toUInt32 &&& Int32.toUInt32 31)).toInt32 &&& 1431655765)) &&& 858993459) + ((((x0 - (((x0 : Int32).toUInt32 >>> ((1 : Int32).toUInt32 &&& Int32.toUInt32 31)).toInt32 &&& 1431655765)) : Int32).toUInt32 >>> ((2 : Int32).toUInt32 &&& Int32.toUInt32 31)).toInt32 &&& 858993459)) + (((((x0 - (((x0 : Int32).toUInt32 >>> ((1 : Int32).toUInt32 &&& Int32.toUInt32 31)).toInt32 &&& 1431655765)) &&& 858993459) + ((((x0 - (((x0 : Int32).toUInt32 >>> ((1 : Int32).toUInt32 &&& Int32.toUInt32 31)).toInt32 &&& 1431655765)) : Int32).toUInt32 >>> ((2 : Int32).toUInt32 &&& Int32.toUInt32 31)).toInt32 &&& 858993459)) : Int32).toUInt32 >>> ((4 : Int32).toUInt32 &&& Int32.toUInt32 31)).toInt32) &&& 252645135))]) rfl ?_
  refine v_iload_n dJ6_bitCount_0f7a4_34 rfl ?_
  refine v_iload_n dJ6_bitCount_0f7a4_35 rfl ?_
  refine v_bipush dJ6_bitCount_0f7a4_36 cb_8 ?_
  refine v_iushr dJ6_bitCount_0f7a4_38 ?_
  refine v_iadd dJ6_bitCount_0f7a4_39 ?_
  refine v_istore_n dJ6_bitCount_0f7a4_40 (by decide) (L' := [some (.int ((((((x0 - (((x0 : Int32).toUInt32 >>> ((1 : Int32).toUInt32 &&& Int32.toUInt32 31)).toInt32 &&& 1431655765)) &&& 858993459) + ((((x0 - (((x0 : Int32).toUInt32 >>> ((1 : Int32).toUInt32 &&& Int32.toUInt32 31)).toInt32 &&& 1431655765)) : Int32).toUInt32 >>> ((2 : Int32).toUInt32 &&& Int32.toUInt32 31)).toInt32 &&& 858993459)) + (((((x0 - (((x0 : Int32).toUInt32 >>> ((1 : Int32).toUInt32 &&& Int32.toUInt32 31)).toInt32 &&& 1431655765)) &&& 858993459) + ((((x0 - (((x0 : Int32).toUInt32 >>> ((1 : Int32).toUInt32 &&& Int32.toUInt32 31)).toInt32 &&& 1431655765)) : Int32).toUInt32 >>> ((2 : Int32).toUInt32 &&& Int32.toUInt32 31)).toInt32 &&& 858993459)) : Int32).toUInt32 >>> ((4 : Int32).toUInt32 &&& Int32.toUInt32 31)).toInt32) &&& 252645135) + (((((((x0 - (((x0 : Int32).toUInt32 >>> ((1 : Int32).toUInt32 &&& Int32.toUInt32 31)).toInt32 &&& 1431655765)) &&& 858993459) + ((((x0 - (((x0 : Int32).toUInt32 >>> ((1 : Int32).toUInt32 &&& Int32.toUInt32 31)).toInt32 &&& 1431655765)) : Int32).toUInt32 >>> ((2 : Int32).toUInt32 &&& Int32.toUInt32 31)).toInt32 &&& 858993459)) + (((((x0 - (((x0 : Int32).toUInt32 >>> ((1 : Int32).toUInt32 &&& Int32.toUInt32 31)).toInt32 &&& 1431655765)) &&& 858993459) + ((((x0 - (((x0 : Int32).toUInt32 >>> ((1 : Int32).toUInt32 &&& Int32.toUInt32 31)).toInt32 &&& 1431655765)) : Int32).toUInt32 >>> ((2 : Int32).toUInt32 &&& Int32.toUInt32 31)).toInt32 &&& 858993459)) : Int32).toUInt32 >>> ((4 : Int32).toUInt32 &&& Int32.toUInt32 31)).toInt32) &&& 252645135) : Int32).toUInt32 >>> ((8 : Int32).toUInt32 &&& Int32.toUInt32 31)).toInt32))]) rfl ?_
  refine v_iload_n dJ6_bitCount_0f7a4_41 rfl ?_
  refine v_iload_n dJ6_bitCount_0f7a4_42 rfl ?_
  refine v_bipush dJ6_bitCount_0f7a4_43 cb_16 ?_
  refine v_iushr dJ6_bitCount_0f7a4_45 ?_
  refine v_iadd dJ6_bitCount_0f7a4_46 ?_
  refine v_istore_n dJ6_bitCount_0f7a4_47 (by decide) (L' := [some (.int (((((((x0 - (((x0 : Int32).toUInt32 >>> ((1 : Int32).toUInt32 &&& Int32.toUInt32 31)).toInt32 &&& 1431655765)) &&& 858993459) + ((((x0 - (((x0 : Int32).toUInt32 >>> ((1 : Int32).toUInt32 &&& Int32.toUInt32 31)).toInt32 &&& 1431655765)) : Int32).toUInt32 >>> ((2 : Int32).toUInt32 &&& Int32.toUInt32 31)).toInt32 &&& 858993459)) + (((((x0 - (((x0 : Int32).toUInt32 >>> ((1 : Int32).toUInt32 &&& Int32.toUInt32 31)).toInt32 &&& 1431655765)) &&& 858993459) + ((((x0 - (((x0 : Int32).toUInt32 >>> ((1 : Int32).toUInt32 &&& Int32.toUInt32 31)).toInt32 &&& 1431655765)) : Int32).toUInt32 >>> ((2 : Int32).toUInt32 &&& Int32.toUInt32 31)).toInt32 &&& 858993459)) : Int32).toUInt32 >>> ((4 : Int32).toUInt32 &&& Int32.toUInt32 31)).toInt32) &&& 252645135) + (((((((x0 - (((x0 : Int32).toUInt32 >>> ((1 : Int32).toUInt32 &&& Int32.toUInt32 31)).toInt32 &&& 1431655765)) &&& 858993459) + ((((x0 - (((x0 : Int32).toUInt32 >>> ((1 : Int32).toUInt32 &&& Int32.toUInt32 31)).toInt32 &&& 1431655765)) : Int32).toUInt32 >>> ((2 : Int32).toUInt32 &&& Int32.toUInt32 31)).toInt32 &&& 858993459)) + (((((x0 - (((x0 : Int32).toUInt32 >>> ((1 : Int32).toUInt32 &&& Int32.toUInt32 31)).toInt32 &&& 1431655765)) &&& 858993459) + ((((x0 - (((x0 : Int32).toUInt32 >>> ((1 : Int32).toUInt32 &&& Int32.toUInt32 31)).toInt32 &&& 1431655765)) : Int32).toUInt32 >>> ((2 : Int32).toUInt32 &&& Int32.toUInt32 31)).toInt32 &&& 858993459)) : Int32).toUInt32 >>> ((4 : Int32).toUInt32 &&& Int32.toUInt32 31)).toInt32) &&& 252645135) : Int32).toUInt32 >>> ((8 : Int32).toUInt32 &&& Int32.toUInt32 31)).toInt32) + ((((((((x0 - (((x0 : Int32).toUInt32 >>> ((1 : Int32).toUInt32 &&& Int32.toUInt32 31)).toInt32 &&& 1431655765)) &&& 858993459) + ((((x0 - (((x0 : Int32).toUInt32 >>> ((1 : Int32).toUInt32 &&& Int32.toUInt32 31)).toInt32 &&& 1431655765)) : Int32).toUInt32 >>> ((2 : Int32).toUInt32 &&& Int32.toUInt32 31)).toInt32 &&& 858993459)) + (((((x0 - (((x0 : Int32).toUInt32 >>> ((1 : Int32).toUInt32 &&& Int32.toUInt32 31)).toInt32 &&& 1431655765)) &&& 858993459) + ((((x0 - (((x0 : Int32).toUInt32 >>> ((1 : Int32).toUInt32 &&& Int32.toUInt32 31)).toInt32 &&& 1431655765)) : Int32).toUInt32 >>> ((2 : Int32).toUInt32 &&& Int32.toUInt32 31)).toInt32 &&& 858993459)) : Int32).toUInt32 >>> ((4 : Int32).toUInt32 &&& Int32.toUInt32 31)).toInt32) &&& 252645135) + (((((((x0 - (((x0 : Int32).toUInt32 >>> ((1 : Int32).toUInt32 &&& Int32.toUInt32 31)).toInt32 &&& 1431655765)) &&& 858993459) + ((((x0 - (((x0 : Int32).toUInt32 >>> ((1 : Int32).toUInt32 &&& Int32.toUInt32 31)).toInt32 &&& 1431655765)) : Int32).toUInt32 >>> ((2 : Int32).toUInt32 &&& Int32.toUInt32 31)).toInt32 &&& 858993459)) + (((((x0 - (((x0 : Int32).toUInt32 >>> ((1 : Int32).toUInt32 &&& Int32.toUInt32 31)).toInt32 &&& 1431655765)) &&& 858993459) + ((((x0 - (((x0 : Int32).toUInt32 >>> ((1 : Int32).toUInt32 &&& Int32.toUInt32 31)).toInt32 &&& 1431655765)) : Int32).toUInt32 >>> ((2 : Int32).toUInt32 &&& Int32.toUInt32 31)).toInt32 &&& 858993459)) : Int32).toUInt32 >>> ((4 : Int32).toUInt32 &&& Int32.toUInt32 31)).toInt32) &&& 252645135) : Int32).toUInt32 >>> ((8 : Int32).toUInt32 &&& Int32.toUInt32 31)).toInt32) : Int32).toUInt32 >>> ((16 : Int32).toUInt32 &&& Int32.toUInt32 31)).toInt32))]) rfl ?_
  refine v_iload_n dJ6_bitCount_0f7a4_48 rfl ?_
  refine v_bipush dJ6_bitCount_0f7a4_49 cb_63 ?_
  refine v_iand dJ6_bitCount_0f7a4_51 ?_
  exact v_iret dJ6_bitCount_0f7a4_52 rfl hq
theorem e_J0_length_8abf5 {X : CX} {d nx sz : Nat} {Q : Option Value → AH → Prop} {h : AH} {i0 : Nat} (q : V X m_J0_length_8abf5 (rm d 0 0) (ZM X Q nx sz 0 0) (nx, sz, 0, 0) 0 [some (.ref (10000 + i0))] [] h) : Mk X d m_J0_length_8abf5 [.ref (10000 + i0)] h nx sz Q := by
  refine Mok.ofV mo_J0_length_8abf5 (Nat.le_of_ble_eq_true rfl) (L := [some (.ref (10000 + i0))]) (lvLe_s lvLe_e) (v_grow (n := 0) ?_)
  exact q
theorem c_J0_length_8abf5_0 {X : CX} {R : Room} {Z : ZX} {A : AX} {h : AH} {i0 d : Nat} {P6 : Int32 → AH → Prop} (hs_i0 : i0 < 3) (hR : RO R (d + 1)) (hcs : A.2.2.1 ≤ R.cells ∧ A.2.2.2 ≤ R.slots) (hM : Mk X d m_J0_coder_7d493 [.ref (10000 + i0)] h A.1 A.2.1 (RI P6)) (q : ∀ (y : Int32) (g : AH), P6 y g → V X m_J0_length_8abf5 R Z A 9 [none] [.int y, .int (Int32.ofNat (strN.getD i0 0))] g) : V X m_J0_length_8abf5 R Z A 0 [some (.ref (10000 + i0))] [] h := by
  refine v_aload_n dJ0_length_8abf5_0 rfl ?_
  refine v_sval dJ0_length_8abf5_1 fs_RJ0_9 hs_i0 ?_
  refine v_stlen dJ0_length_8abf5_4 hs_i0 rfl ?_
  refine v_aload_n dJ0_length_8abf5_5 rfl ?_
  exact v_cTI (mt := m_J0_length_8abf5) (i := i0) mo_J0_coder_7d493 ml_RJ0_335 mi_J0_coder_7d493 mv_J0_coder_7d493 rfl rfl hs_i0 hR hcs (Nat.le_of_ble_eq_true rfl) dJ0_length_8abf5_6 rfl hM (fun y g hp => (v_drop (lvLe_n lvLe_e) (q y g hp)))
theorem c_J0_length_8abf5_9 {X : CX} {R : Room} {Q : Option Value → AH → Prop} {nx sz mc ms : Nat} {h : AH} {s0 s1 : Int32} (hq : Q (some (.int (s0 >>> (s1 &&& 31)))) h) : V X m_J0_length_8abf5 R (ZM X Q nx sz mc ms) (nx, sz, mc, ms) 9 [none] [.int s1, .int s0] h := by
  refine v_ishr dJ0_length_8abf5_9 ?_
  exact v_iret dJ0_length_8abf5_10 rfl hq
theorem e_J0_charAt_5068e {X : CX} {d nx sz : Nat} {Q : Option Value → AH → Prop} {h : AH} {i0 : Nat} {x1 : Int32} (q : V X m_J0_charAt_5068e (rm d 0 0) (ZM X Q nx sz 0 0) (nx, sz, 0, 0) 0 [some (.ref (10000 + i0)), some (.int x1)] [] h) : Mk X d m_J0_charAt_5068e [.ref (10000 + i0), .int x1] h nx sz Q := by
  refine Mok.ofV mo_J0_charAt_5068e (Nat.le_of_ble_eq_true rfl) (L := [some (.ref (10000 + i0)), some (.int x1)]) (lvLe_s (lvLe_s lvLe_e)) (v_grow (n := 0) ?_)
  exact q
theorem c_J0_charAt_5068e_0 {X : CX} {R : Room} {Z : ZX} {A : AX} {h : AH} {i0 d : Nat} {x1 : Int32} {P1 : Int32 → AH → Prop} (hR : RO R (d + 1)) (hcs : A.2.2.1 ≤ R.cells ∧ A.2.2.2 ≤ R.slots) (hs_i0 : i0 < 3) (hM : Mk X d m_J0_isLatin1_aae02 [.ref (10000 + i0)] h A.1 A.2.1 (RI P1)) (q : ∀ (y : Int32) (g : AH), P1 y g → V X m_J0_charAt_5068e R Z A 4 [some (.ref (10000 + i0)), some (.int x1)] [.int y] g) : V X m_J0_charAt_5068e R Z A 0 [some (.ref (10000 + i0)), some (.int x1)] [] h := by
  refine v_aload_n dJ0_charAt_5068e_0 rfl ?_
  exact v_cTI (mt := m_J0_charAt_5068e) (i := i0) mo_J0_isLatin1_aae02 ml_RJ0_492 mi_J0_isLatin1_aae02 mv_J0_isLatin1_aae02 rfl rfl hs_i0 hR hcs (Nat.le_of_ble_eq_true rfl) dJ0_charAt_5068e_1 rfl hM (fun y g hp => (q y g hp))
theorem c_J0_charAt_5068e_4 {X : CX} {R : Room} {Z : ZX} {A : AX} {h : AH} {i0 d : Nat} {x1 s0 : Int32} {P12 : Int32 → AH → Prop} (hs_i0 : i0 < 3) (hR : RO R (d + 1)) (hcs : A.2.2.1 ≤ R.cells ∧ A.2.2.2 ≤ R.slots) (hx : s0 = 0 → False) (hM : ¬ s0 = 0 → Mk X d m_J1_charAt_3b067 [.ref (11000 + i0), .int x1] h A.1 A.2.1 (RI P12)) (q : ¬ s0 = 0 → ∀ (y : Int32) (g : AH), P12 y g → V X m_J0_charAt_5068e R Z A 15 [none, none] [.int y] g) : V X m_J0_charAt_5068e R Z A 4 [some (.ref (10000 + i0)), some (.int x1)] [.int s0] h := by
  refine v_if_eq (tgt := 16) dJ0_charAt_5068e_4 (by decide) (fun c0 => ?_) (fun c0 => ?_)
  · refine v_aload_n dJ0_charAt_5068e_16 rfl ?_
    refine v_sval dJ0_charAt_5068e_17 fs_RJ0_9 hs_i0 ?_
    refine v_iload_n dJ0_charAt_5068e_20 rfl ?_
    exact (hx c0).elim
  · refine v_aload_n dJ0_charAt_5068e_7 rfl ?_
    refine v_sval dJ0_charAt_5068e_8 fs_RJ0_9 hs_i0 ?_
    refine v_iload_n dJ0_charAt_5068e_11 rfl ?_
    exact v_cSI (mt := m_J0_charAt_5068e) mo_J1_charAt_3b067 ml_RJ0_495 mz_J1_charAt_3b067 rfl hR hcs (Nat.le_of_ble_eq_true rfl) dJ0_charAt_5068e_12 rfl (hM c0) (fun y g hp => (v_drop (lvLe_n (lvLe_n lvLe_e)) ((q c0) y g hp)))
theorem c_J0_charAt_5068e_15 {X : CX} {R : Room} {Q : Option Value → AH → Prop} {nx sz mc ms : Nat} {h : AH} {s0 : Int32} (hq : Q (some (.int s0)) h) (hb_15 : narrow .char (.int s0) = .int s0) : V X m_J0_charAt_5068e R (ZM X Q nx sz mc ms) (nx, sz, mc, ms) 15 [none, none] [.int s0] h := by
  exact v_zret (ty := .char) dJ0_charAt_5068e_15 rfl hb_15 hq
theorem e_J0_indexOf_0f7a4 {X : CX} {d nx sz : Nat} {Q : Option Value → AH → Prop} {h : AH} {i0 : Nat} {x1 : Int32} (q : V X m_J0_indexOf_0f7a4 (rm d 0 0) (ZM X Q nx sz 0 0) (nx, sz, 0, 0) 0 [some (.ref (10000 + i0)), some (.int x1)] [] h) : Mk X d m_J0_indexOf_0f7a4 [.ref (10000 + i0), .int x1] h nx sz Q := by
  refine Mok.ofV mo_J0_indexOf_0f7a4 (Nat.le_of_ble_eq_true rfl) (L := [some (.ref (10000 + i0)), some (.int x1)]) (lvLe_s (lvLe_s lvLe_e)) (v_grow (n := 0) ?_)
  exact q
theorem c_J0_indexOf_0f7a4_0 {X : CX} {R : Room} {Z : ZX} {A : AX} {h : AH} {i0 d : Nat} {x1 : Int32} {P3 : Int32 → AH → Prop} (hR : RO R (d + 1)) (hcs : A.2.2.1 ≤ R.cells ∧ A.2.2.2 ≤ R.slots) (hs_i0 : i0 < 3) (hM : Mk X d m_J0_indexOf_7cf53 [.ref (10000 + i0), .int x1, .int 0] h A.1 A.2.1 (RI P3)) (q : ∀ (y : Int32) (g : AH), P3 y g → V X m_J0_indexOf_0f7a4 R Z A 6 [none, none] [.int y] g) : V X m_J0_indexOf_0f7a4 R Z A 0 [some (.ref (10000 + i0)), some (.int x1)] [] h := by
  refine v_aload_n dJ0_indexOf_0f7a4_0 rfl ?_
  refine v_iload_n dJ0_indexOf_0f7a4_1 rfl ?_
  refine v_iconst dJ0_indexOf_0f7a4_2 ci_0 ?_
  exact v_cTI (mt := m_J0_indexOf_0f7a4) (i := i0) mo_J0_indexOf_7cf53 ml_RJ0_633 mi_J0_indexOf_7cf53 mv_J0_indexOf_7cf53 rfl rfl hs_i0 hR hcs (Nat.le_of_ble_eq_true rfl) dJ0_indexOf_0f7a4_3 rfl hM (fun y g hp => (v_drop (lvLe_n (lvLe_n lvLe_e)) (q y g hp)))
theorem c_J0_indexOf_0f7a4_6 {X : CX} {R : Room} {Q : Option Value → AH → Prop} {nx sz mc ms : Nat} {h : AH} {s0 : Int32} (hq : Q (some (.int s0)) h) : V X m_J0_indexOf_0f7a4 R (ZM X Q nx sz mc ms) (nx, sz, mc, ms) 6 [none, none] [.int s0] h := by
  exact v_iret dJ0_indexOf_0f7a4_6 rfl hq
theorem e_J0_indexOf_7cf53 {X : CX} {d nx sz : Nat} {Q : Option Value → AH → Prop} {h : AH} {i0 : Nat} {x1 x2 : Int32} (q : V X m_J0_indexOf_7cf53 (rm d 0 0) (ZM X Q nx sz 0 0) (nx, sz, 0, 0) 0 [some (.ref (10000 + i0)), some (.int x1), some (.int x2)] [] h) : Mk X d m_J0_indexOf_7cf53 [.ref (10000 + i0), .int x1, .int x2] h nx sz Q := by
  refine Mok.ofV mo_J0_indexOf_7cf53 (Nat.le_of_ble_eq_true rfl) (L := [some (.ref (10000 + i0)), some (.int x1), some (.int x2)]) (lvLe_s (lvLe_s (lvLe_s lvLe_e))) (v_grow (n := 0) ?_)
  exact q
theorem c_J0_indexOf_7cf53_0 {X : CX} {R : Room} {Z : ZX} {A : AX} {h : AH} {i0 d : Nat} {x1 x2 : Int32} {P1 : Int32 → AH → Prop} (hR : RO R (d + 1)) (hcs : A.2.2.1 ≤ R.cells ∧ A.2.2.2 ≤ R.slots) (hs_i0 : i0 < 3) (hM : Mk X d m_J0_isLatin1_aae02 [.ref (10000 + i0)] h A.1 A.2.1 (RI P1)) (q : ∀ (y : Int32) (g : AH), P1 y g → V X m_J0_indexOf_7cf53 R Z A 4 [some (.ref (10000 + i0)), some (.int x1), some (.int x2)] [.int y] g) : V X m_J0_indexOf_7cf53 R Z A 0 [some (.ref (10000 + i0)), some (.int x1), some (.int x2)] [] h := by
  refine v_aload_n dJ0_indexOf_7cf53_0 rfl ?_
  exact v_cTI (mt := m_J0_indexOf_7cf53) (i := i0) mo_J0_isLatin1_aae02 ml_RJ0_492 mi_J0_isLatin1_aae02 mv_J0_isLatin1_aae02 rfl rfl hs_i0 hR hcs (Nat.le_of_ble_eq_true rfl) dJ0_indexOf_7cf53_1 rfl hM (fun y g hp => (q y g hp))
theorem c_J0_indexOf_7cf53_4 {X : CX} {R : Room} {Z : ZX} {A : AX} {h : AH} {i0 d : Nat} {x1 x2 s0 : Int32} {P30 P14 : Int32 → AH → Prop} (hs_i0 : i0 < 3) (hR : RO R (d + 1)) (hcs : A.2.2.1 ≤ R.cells ∧ A.2.2.2 ≤ R.slots) (hM : s0 = 0 → Mk X d m_J0_length_8abf5 [.ref (10000 + i0)] h A.1 A.2.1 (RI P30)) (q : s0 = 0 → ∀ (y : Int32) (g : AH), P30 y g → V X m_J0_indexOf_7cf53 R Z A 33 [none, none, none] [.int y, .int x2, .int x1, .ref (11000 + i0)] g) (hM_1 : ¬ s0 = 0 → Mk X d m_J0_length_8abf5 [.ref (10000 + i0)] h A.1 A.2.1 (RI P14)) (q_1 : ¬ s0 = 0 → ∀ (y : Int32) (g : AH), P14 y g → V X m_J0_indexOf_7cf53 R Z A 17 [none, none, none] [.int y, .int x2, .int x1, .ref (11000 + i0)] g) : V X m_J0_indexOf_7cf53 R Z A 4 [some (.ref (10000 + i0)), some (.int x1), some (.int x2)] [.int s0] h := by
  refine v_if_eq (tgt := 23) dJ0_indexOf_7cf53_4 (by decide) (fun c0 => ?_) (fun c0 => ?_)
  · refine v_aload_n dJ0_indexOf_7cf53_23 rfl ?_
    refine v_sval dJ0_indexOf_7cf53_24 fs_RJ0_9 hs_i0 ?_
    refine v_iload_n dJ0_indexOf_7cf53_27 rfl ?_
    refine v_iload_n dJ0_indexOf_7cf53_28 rfl ?_
    refine v_aload_n dJ0_indexOf_7cf53_29 rfl ?_
    exact v_cTI (mt := m_J0_indexOf_7cf53) (i := i0) mo_J0_length_8abf5 ml_RJ0_505 mi_J0_length_8abf5 mv_J0_length_8abf5 rfl rfl hs_i0 hR hcs (Nat.le_of_ble_eq_true rfl) dJ0_indexOf_7cf53_30 rfl (hM c0) (fun y g hp => (v_drop (lvLe_n (lvLe_n (lvLe_n lvLe_e))) ((q c0) y g hp)))
  · refine v_aload_n dJ0_indexOf_7cf53_7 rfl ?_
    refine v_sval dJ0_indexOf_7cf53_8 fs_RJ0_9 hs_i0 ?_
    refine v_iload_n dJ0_indexOf_7cf53_11 rfl ?_
    refine v_iload_n dJ0_indexOf_7cf53_12 rfl ?_
    refine v_aload_n dJ0_indexOf_7cf53_13 rfl ?_
    exact v_cTI (mt := m_J0_indexOf_7cf53) (i := i0) mo_J0_length_8abf5 ml_RJ0_505 mi_J0_length_8abf5 mv_J0_length_8abf5 rfl rfl hs_i0 hR hcs (Nat.le_of_ble_eq_true rfl) dJ0_indexOf_7cf53_14 rfl (hM_1 c0) (fun y g hp => (v_drop (lvLe_n (lvLe_n (lvLe_n lvLe_e))) ((q_1 c0) y g hp)))
theorem c_J0_indexOf_7cf53_17 {X : CX} {R : Room} {Z : ZX} {A : AX} {h : AH} {i0 d : Nat} {s1 s2 s3 : Int32} {P17 : Int32 → AH → Prop} (hR : RO R (d + 1)) (hcs : A.2.2.1 ≤ R.cells ∧ A.2.2.2 ≤ R.slots) (hM : Mk X d m_J1_indexOf_4cfef [.ref (11000 + i0), .int s1, .int s2, .int s3] h A.1 A.2.1 (RI P17)) (q : ∀ (y : Int32) (g : AH), P17 y g → V X m_J0_indexOf_7cf53 R Z A 20 [none, none, none] [.int y] g) : V X m_J0_indexOf_7cf53 R Z A 17 [none, none, none] [.int s3, .int s2, .int s1, .ref (11000 + i0)] h := by
  exact v_cSI (mt := m_J0_indexOf_7cf53) mo_J1_indexOf_4cfef ml_RJ0_637 mz_J1_indexOf_4cfef rfl hR hcs (Nat.le_of_ble_eq_true rfl) dJ0_indexOf_7cf53_17 rfl hM (fun y g hp => (q y g hp))
theorem c_J0_indexOf_7cf53_20 {X : CX} {R : Room} {Q : Option Value → AH → Prop} {nx sz mc ms : Nat} {h : AH} {s0 : Int32} (hq : Q (some (.int s0)) h) : V X m_J0_indexOf_7cf53 R (ZM X Q nx sz mc ms) (nx, sz, mc, ms) 20 [none, none, none] [.int s0] h := by
  refine v_goto (tgt := 36) dJ0_indexOf_7cf53_20 (by decide) ?_
  exact v_iret dJ0_indexOf_7cf53_36 rfl hq
theorem c_J0_indexOf_7cf53_33 {X : CX} {R : Room} {Z : ZX} {A : AX} {h : AH} {i0 : Nat} {s1 s2 s3 : Int32} (hx : False) : V X m_J0_indexOf_7cf53 R Z A 33 [none, none, none] [.int s3, .int s2, .int s1, .ref (11000 + i0)] h := by
  exact hx.elim
theorem e_J0_coder_7d493 {X : CX} {d nx sz : Nat} {Q : Option Value → AH → Prop} {h : AH} {i0 : Nat} (q : V X m_J0_coder_7d493 (rm d 0 0) (ZM X Q nx sz 0 0) (nx, sz, 0, 0) 0 [some (.ref (10000 + i0))] [] h) : Mk X d m_J0_coder_7d493 [.ref (10000 + i0)] h nx sz Q := by
  refine Mok.ofV mo_J0_coder_7d493 (Nat.le_of_ble_eq_true rfl) (L := [some (.ref (10000 + i0))]) (lvLe_s lvLe_e) (v_grow (n := 0) ?_)
  exact q
theorem c_J0_coder_7d493_0 {X : CX} {R : Room} {Q : Option Value → AH → Prop} {nx sz mc ms : Nat} {h : AH} {i0 : Nat} (hs_i0 : i0 < 3) (hq : Q (some (.int 0)) h) : V X m_J0_coder_7d493 R (ZM X Q nx sz mc ms) (nx, sz, mc, ms) 0 [some (.ref (10000 + i0))] [] h := by
  refine v_gcs dJ0_coder_7d493_0 fs_RJ0_38 ?_
  refine v_if_eq (tgt := 13) dJ0_coder_7d493_3 (by decide) (fun z => absurd (show (1 : Int32) = 0 from z) (by decide)) (fun _ => ?_)
  refine v_aload_n dJ0_coder_7d493_6 rfl ?_
  refine v_scod dJ0_coder_7d493_7 fs_RJ0_15 hs_i0 ?_
  refine v_goto (tgt := 14) dJ0_coder_7d493_10 (by decide) ?_
  exact v_zret (ty := .byte) dJ0_coder_7d493_14 rfl rfl hq
theorem e_J0_isLatin1_aae02 {X : CX} {d nx sz : Nat} {Q : Option Value → AH → Prop} {h : AH} {i0 : Nat} (q : V X m_J0_isLatin1_aae02 (rm d 0 0) (ZM X Q nx sz 0 0) (nx, sz, 0, 0) 0 [some (.ref (10000 + i0))] [] h) : Mk X d m_J0_isLatin1_aae02 [.ref (10000 + i0)] h nx sz Q := by
  refine Mok.ofV mo_J0_isLatin1_aae02 (Nat.le_of_ble_eq_true rfl) (L := [some (.ref (10000 + i0))]) (lvLe_s lvLe_e) (v_grow (n := 0) ?_)
  exact q
theorem c_J0_isLatin1_aae02_0 {X : CX} {R : Room} {Q : Option Value → AH → Prop} {nx sz mc ms : Nat} {h : AH} {i0 : Nat} (hs_i0 : i0 < 3) (hq : Q (some (.int 1)) h) : V X m_J0_isLatin1_aae02 R (ZM X Q nx sz mc ms) (nx, sz, mc, ms) 0 [some (.ref (10000 + i0))] [] h := by
  refine v_gcs dJ0_isLatin1_aae02_0 fs_RJ0_38 ?_
  refine v_if_eq (tgt := 17) dJ0_isLatin1_aae02_3 (by decide) (fun z => absurd (show (1 : Int32) = 0 from z) (by decide)) (fun _ => ?_)
  refine v_aload_n dJ0_isLatin1_aae02_6 rfl ?_
  refine v_scod dJ0_isLatin1_aae02_7 fs_RJ0_15 hs_i0 ?_
  refine v_if_ne (tgt := 17) dJ0_isLatin1_aae02_10 (by decide) (fun z => absurd (show ¬ (0 : Int32) = 0 from z) (by decide)) (fun _ => ?_)
  refine v_iconst dJ0_isLatin1_aae02_13 ci_1 ?_
  refine v_goto (tgt := 18) dJ0_isLatin1_aae02_14 (by decide) ?_
  exact v_zret (ty := .boolean) dJ0_isLatin1_aae02_18 rfl rfl hq
theorem e_J1_charAt_3b067 {X : CX} {d nx sz : Nat} {Q : Option Value → AH → Prop} {h : AH} {r0 : Nat} {x1 : Int32} (q : V X m_J1_charAt_3b067 (rm d 0 0) (ZM X Q nx sz 0 0) (nx, sz, 0, 0) 0 [some (.ref (11000 + r0)), some (.int x1)] [] h) : Mk X d m_J1_charAt_3b067 [.ref (11000 + r0), .int x1] h nx sz Q := by
  refine Mok.ofV mo_J1_charAt_3b067 (Nat.le_of_ble_eq_true rfl) (L := [some (.ref (11000 + r0)), some (.int x1)]) (lvLe_s (lvLe_s lvLe_e)) (v_grow (n := 0) ?_)
  exact q
theorem c_J1_charAt_3b067_0 {X : CX} {R : Room} {Z : ZX} {A : AX} {h : AH} {r0 d : Nat} {x1 : Int32} {P3 : AH → Prop} (hs_r0 : r0 < 3) (hR : RO R (d + 1)) (hcs : A.2.2.1 ≤ R.cells ∧ A.2.2.2 ≤ R.slots) (hM : Mk X d m_J0_checkIndex_df160 [.int x1, .int (Int32.ofNat (strN.getD r0 0))] h A.1 A.2.1 (RV P3)) (q : ∀ (g : AH), P3 g → V X m_J1_charAt_3b067 R Z A 6 [some (.ref (11000 + r0)), some (.int x1)] [] g) : V X m_J1_charAt_3b067 R Z A 0 [some (.ref (11000 + r0)), some (.int x1)] [] h := by
  refine v_iload_n dJ1_charAt_3b067_0 rfl ?_
  refine v_aload_n dJ1_charAt_3b067_1 rfl ?_
  refine v_stlen dJ1_charAt_3b067_2 hs_r0 rfl ?_
  exact v_cSV (mt := m_J1_charAt_3b067) mo_J0_checkIndex_df160 ml_RJ1_9 mz_J0_checkIndex_df160 rfl hR hcs (Nat.le_of_ble_eq_true rfl) dJ1_charAt_3b067_3 rfl hM (fun g hp => (q g hp))
theorem c_J1_charAt_3b067_6 {X : CX} {R : Room} {Q : Option Value → AH → Prop} {nx sz mc ms : Nat} {h : AH} {r0 : Nat} {x1 : Int32} (hs_r0 : r0 < 3) (hi_8 : vp_in x1 (strN.getD r0 0)) (hq : Q (some (.int ((((((strB.getD r0 []).getD x1.toNatClampNeg 0) &&& 255) : Int32).toUInt32 % 65536).toInt32))) h) (hb_14 : narrow .char (.int ((((((strB.getD r0 []).getD x1.toNatClampNeg 0) &&& 255) : Int32).toUInt32 % 65536).toInt32)) = .int ((((((strB.getD r0 []).getD x1.toNatClampNeg 0) &&& 255) : Int32).toUInt32 % 65536).toInt32)) : V X m_J1_charAt_3b067 R (ZM X Q nx sz mc ms) (nx, sz, mc, ms) 6 [some (.ref (11000 + r0)), some (.int x1)] [] h := by
  refine v_aload_n dJ1_charAt_3b067_6 rfl ?_
  refine v_iload_n dJ1_charAt_3b067_7 rfl ?_
  refine v_stb dJ1_charAt_3b067_8 hs_r0 hi_8 ?_
  refine v_sipush dJ1_charAt_3b067_9 cs_255 ?_
  refine v_iand dJ1_charAt_3b067_12 ?_
  refine v_i2c dJ1_charAt_3b067_13 ?_
  exact v_zret (ty := .char) dJ1_charAt_3b067_14 rfl hb_14 hq
theorem e_J1_canEncode_9a6ad {X : CX} {d nx sz : Nat} {Q : Option Value → AH → Prop} {h : AH} {x0 : Int32} (q : V X m_J1_canEncode_9a6ad (rm d 0 0) (ZM X Q nx sz 0 0) (nx, sz, 0, 0) 0 [some (.int x0)] [] h) : Mk X d m_J1_canEncode_9a6ad [.int x0] h nx sz Q := by
  refine Mok.ofV mo_J1_canEncode_9a6ad (Nat.le_of_ble_eq_true rfl) (L := [some (.int x0)]) (lvLe_s lvLe_e) (v_grow (n := 0) ?_)
  exact q
theorem c_J1_canEncode_9a6ad_0 {X : CX} {R : Room} {Q : Option Value → AH → Prop} {nx sz mc ms : Nat} {h : AH} {x0 : Int32} (hq : x0 < 0 → Q (some (.int 0)) h) (hq_1 : ¬ x0 < 0 → 255 < x0 → Q (some (.int 0)) h) (hq_2 : ¬ x0 < 0 → ¬ 255 < x0 → Q (some (.int 1)) h) : V X m_J1_canEncode_9a6ad R (ZM X Q nx sz mc ms) (nx, sz, mc, ms) 0 [some (.int x0)] [] h := by
  refine v_iload_n dJ1_canEncode_9a6ad_0 rfl ?_
  refine v_if_lt (tgt := 15) dJ1_canEncode_9a6ad_1 (by decide) (fun c0 => ?_) (fun c0 => ?_)
  · refine v_iconst dJ1_canEncode_9a6ad_15 ci_0 ?_
    exact v_zret (ty := .boolean) dJ1_canEncode_9a6ad_16 rfl rfl (hq c0)
  · refine v_iload_n dJ1_canEncode_9a6ad_4 rfl ?_
    refine v_sipush dJ1_canEncode_9a6ad_5 cs_255 ?_
    refine v_icmp_gt (tgt := 15) dJ1_canEncode_9a6ad_8 (by decide) (fun c1 => ?_) (fun c1 => ?_)
    · refine v_iconst dJ1_canEncode_9a6ad_15 ci_0 ?_
      exact v_zret (ty := .boolean) dJ1_canEncode_9a6ad_16 rfl rfl (hq_1 c0 c1)
    · refine v_iconst dJ1_canEncode_9a6ad_11 ci_1 ?_
      refine v_goto (tgt := 16) dJ1_canEncode_9a6ad_12 (by decide) ?_
      exact v_zret (ty := .boolean) dJ1_canEncode_9a6ad_16 rfl rfl (hq_2 c0 c1)
theorem e_J1_indexOf_4cfef {X : CX} {d nx sz : Nat} {Q : Option Value → AH → Prop} {h : AH} {r0 : Nat} {x1 x2 x3 : Int32} (q : V X m_J1_indexOf_4cfef (rm d 0 0) (ZM X Q nx sz 0 0) (nx, sz, 0, 0) 0 [some (.ref (11000 + r0)), some (.int x1), some (.int x2), some (.int x3)] [] h) : Mk X d m_J1_indexOf_4cfef [.ref (11000 + r0), .int x1, .int x2, .int x3] h nx sz Q := by
  refine Mok.ofV mo_J1_indexOf_4cfef (Nat.le_of_ble_eq_true rfl) (L := [some (.ref (11000 + r0)), some (.int x1), some (.int x2), some (.int x3)]) (lvLe_s (lvLe_s (lvLe_s (lvLe_s lvLe_e)))) (v_grow (n := 0) ?_)
  exact q
theorem c_J1_indexOf_4cfef_0 {X : CX} {R : Room} {Z : ZX} {A : AX} {h : AH} {r0 d : Nat} {x1 x2 x3 : Int32} {P1 : Int32 → AH → Prop} (hR : RO R (d + 1)) (hcs : A.2.2.1 ≤ R.cells ∧ A.2.2.2 ≤ R.slots) (hM : Mk X d m_J1_canEncode_9a6ad [.int x1] h A.1 A.2.1 (RI P1)) (q : ∀ (y : Int32) (g : AH), P1 y g → V X m_J1_indexOf_4cfef R Z A 4 [some (.ref (11000 + r0)), some (.int x1), some (.int x2), some (.int x3)] [.int y] g) : V X m_J1_indexOf_4cfef R Z A 0 [some (.ref (11000 + r0)), some (.int x1), some (.int x2), some (.int x3)] [] h := by
  refine v_iload_n dJ1_indexOf_4cfef_0 rfl ?_
  exact v_cSI (mt := m_J1_indexOf_4cfef) mo_J1_canEncode_9a6ad ml_RJ1_88 mz_J1_canEncode_9a6ad rfl hR hcs (Nat.le_of_ble_eq_true rfl) dJ1_indexOf_4cfef_1 rfl hM (fun y g hp => (q y g hp))
theorem c_J1_indexOf_4cfef_4 {X : CX} {R : Room} {Q : Option Value → AH → Prop} {nx sz mc ms : Nat} {h : AH} {r0 d : Nat} {x1 x2 x3 s0 : Int32} {P33 : Int32 → AH → Prop} (hR : RO R (d + 1)) (hcs : mc ≤ R.cells ∧ ms ≤ R.slots) (hs_r0 : r0 < 3) (hM : ¬ s0 = 0 → (if x2 < 0 then 0 else x2) < (if (Int32.ofNat (strN.getD r0 0)) < x3 then (Int32.ofNat (strN.getD r0 0)) else x3) → Mk X d m_J1_indexOfChar_4cfef [.ref (11000 + r0), .int x1, .int (if x2 < 0 then 0 else x2), .int (if (Int32.ofNat (strN.getD r0 0)) < x3 then (Int32.ofNat (strN.getD r0 0)) else x3)] h nx sz (RI P33)) (q : ¬ s0 = 0 → (if x2 < 0 then 0 else x2) < (if (Int32.ofNat (strN.getD r0 0)) < x3 then (Int32.ofNat (strN.getD r0 0)) else x3) → ∀ (y : Int32) (g : AH), P33 y g → V X m_J1_indexOf_4cfef R (ZM X Q nx sz mc ms) (nx, sz, mc, ms) 36 [none, none, none, none] [.int y] g) (hq : ¬ s0 = 0 → ¬ (if x2 < 0 then 0 else x2) < (if (Int32.ofNat (strN.getD r0 0)) < x3 then (Int32.ofNat (strN.getD r0 0)) else x3) → Q (some (.int (-1))) h) (hq_1 : s0 = 0 → Q (some (.int (-1))) h) : V X m_J1_indexOf_4cfef R (ZM X Q nx sz mc ms) (nx, sz, mc, ms) 4 [some (.ref (11000 + r0)), some (.int x1), some (.int x2), some (.int x3)] [.int s0] h := by
  refine v_if_ne (tgt := 9) dJ1_indexOf_4cfef_4 (by decide) (fun c0 => ?_) (fun c0 => ?_)
  · refine v_iload_n dJ1_indexOf_4cfef_9 rfl ?_
    refine v_iconst dJ1_indexOf_4cfef_10 ci_0 ?_
    refine v_mmax dJ1_indexOf_4cfef_11 ml_RJ1_92 mz_mmax in_math mc_mmax (RO_1 hR) hcs (Nat.le_of_ble_eq_true rfl) ?_
    refine v_istore_n dJ1_indexOf_4cfef_14 (by decide) (L' := [some (.ref (11000 + r0)), some (.int x1), some (.int (if x2 < 0 then 0 else x2)), some (.int x3)]) rfl ?_
    refine v_iload_n dJ1_indexOf_4cfef_15 rfl ?_
    refine v_aload_n dJ1_indexOf_4cfef_16 rfl ?_
    refine v_stlen dJ1_indexOf_4cfef_17 hs_r0 rfl ?_
    refine v_mmin dJ1_indexOf_4cfef_18 ml_RJ1_38 mz_mmin in_math mc_mmin (RO_1 hR) hcs (Nat.le_of_ble_eq_true rfl) ?_
    refine v_istore_n dJ1_indexOf_4cfef_21 (by decide) (L' := [some (.ref (11000 + r0)), some (.int x1), some (.int (if x2 < 0 then 0 else x2)), some (.int (if (Int32.ofNat (strN.getD r0 0)) < x3 then (Int32.ofNat (strN.getD r0 0)) else x3))]) rfl ?_
    refine v_iload_n dJ1_indexOf_4cfef_22 rfl ?_
    refine v_iload_n dJ1_indexOf_4cfef_23 rfl ?_
    refine v_icmp_lt (tgt := 29) dJ1_indexOf_4cfef_24 (by decide) (fun c1 => ?_) (fun c1 => ?_)
    · refine v_aload_n dJ1_indexOf_4cfef_29 rfl ?_
      refine v_iload_n dJ1_indexOf_4cfef_30 rfl ?_
      refine v_iload_n dJ1_indexOf_4cfef_31 rfl ?_
      refine v_iload_n dJ1_indexOf_4cfef_32 rfl ?_
      exact v_cSI (mt := m_J1_indexOf_4cfef) mo_J1_indexOfChar_4cfef ml_RJ1_95 mz_J1_indexOfChar_4cfef rfl hR hcs (Nat.le_of_ble_eq_true rfl) dJ1_indexOf_4cfef_33 rfl (hM c0 c1) (fun y g hp => (v_drop (lvLe_n (lvLe_n (lvLe_n (lvLe_n lvLe_e)))) ((q c0 c1) y g hp)))
    · refine v_iconst dJ1_indexOf_4cfef_27 ci_m1 ?_
      exact v_iret dJ1_indexOf_4cfef_28 rfl (hq c0 c1)
  · refine v_iconst dJ1_indexOf_4cfef_7 ci_m1 ?_
    exact v_iret dJ1_indexOf_4cfef_8 rfl (hq_1 c0)
theorem c_J1_indexOf_4cfef_36 {X : CX} {R : Room} {Q : Option Value → AH → Prop} {nx sz mc ms : Nat} {h : AH} {s0 : Int32} (hq : Q (some (.int s0)) h) : V X m_J1_indexOf_4cfef R (ZM X Q nx sz mc ms) (nx, sz, mc, ms) 36 [none, none, none, none] [.int s0] h := by
  exact v_iret dJ1_indexOf_4cfef_36 rfl hq
theorem e_J1_indexOfChar_4cfef {X : CX} {d nx sz : Nat} {Q : Option Value → AH → Prop} {h : AH} {r0 : Nat} {x1 x2 x3 : Int32} (q : V X m_J1_indexOfChar_4cfef (rm d 0 0) (ZM X Q nx sz 0 0) (nx, sz, 0, 0) 0 [some (.ref (11000 + r0)), some (.int x1), some (.int x2), some (.int x3), none, none] [] h) : Mk X d m_J1_indexOfChar_4cfef [.ref (11000 + r0), .int x1, .int x2, .int x3] h nx sz Q := by
  refine Mok.ofV mo_J1_indexOfChar_4cfef (Nat.le_of_ble_eq_true rfl) (L := [some (.ref (11000 + r0)), some (.int x1), some (.int x2), some (.int x3)]) (lvLe_s (lvLe_s (lvLe_s (lvLe_s lvLe_e)))) (v_grow (n := 2) ?_)
  exact q
theorem c_J1_indexOfChar_4cfef_0 {X : CX} {R : Room} {Z : ZX} {A : AX} {h : AH} {r0 : Nat} {x1 x2 x3 : Int32} (q : V X m_J1_indexOfChar_4cfef R Z A 7 [some (.ref (11000 + r0)), none, none, some (.int x3), some (.int ((x1 : Int32).toInt8.toInt32)), some (.int x2)] [] h) : V X m_J1_indexOfChar_4cfef R Z A 0 [some (.ref (11000 + r0)), some (.int x1), some (.int x2), some (.int x3), none, none] [] h := by
  refine v_iload_n dJ1_indexOfChar_4cfef_0 rfl ?_
  refine v_i2b dJ1_indexOfChar_4cfef_1 ?_
  refine v_istore dJ1_indexOfChar_4cfef_2 (by decide) (L' := [some (.ref (11000 + r0)), some (.int x1), some (.int x2), some (.int x3), some (.int ((x1 : Int32).toInt8.toInt32)), none]) rfl ?_
  refine v_iload_n dJ1_indexOfChar_4cfef_4 rfl ?_
  refine v_istore dJ1_indexOfChar_4cfef_5 (by decide) (L' := [some (.ref (11000 + r0)), some (.int x1), some (.int x2), some (.int x3), some (.int ((x1 : Int32).toInt8.toInt32)), some (.int x2)]) rfl ?_
  exact (v_drop (lvLe_s (lvLe_n (lvLe_n (lvLe_s (lvLe_s (lvLe_s lvLe_e)))))) q)
theorem c_J1_indexOfChar_4cfef_7 {X : CX} {R : Room} {Q : Option Value → AH → Prop} {nx sz mc ms : Nat} {h : AH} {r0 : Nat} {x3 x4 x5 : Int32} (hs_r0 : r0 < 3) (hq : x3 ≤ x5 → Q (some (.int (-1))) h) (hi_16 : ¬ x3 ≤ x5 → vp_in x5 (strN.getD r0 0)) (q : ¬ x3 ≤ x5 → ¬ ((strB.getD r0 []).getD x5.toNatClampNeg 0) = x4 → V X m_J1_indexOfChar_4cfef R (ZM X Q nx sz mc ms) (nx, sz, mc, ms) 7 [some (.ref (11000 + r0)), none, none, some (.int x3), some (.int x4), some (.int (x5 + 1))] [] h) (hq_1 : ¬ x3 ≤ x5 → ((strB.getD r0 []).getD x5.toNatClampNeg 0) = x4 → Q (some (.int x5)) h) : V X m_J1_indexOfChar_4cfef R (ZM X Q nx sz mc ms) (nx, sz, mc, ms) 7 [some (.ref (11000 + r0)), none, none, some (.int x3), some (.int x4), some (.int x5)] [] h := by
  refine v_iload dJ1_indexOfChar_4cfef_7 rfl ?_
  refine v_iload_n dJ1_indexOfChar_4cfef_9 rfl ?_
  refine v_icmp_ge (tgt := 31) dJ1_indexOfChar_4cfef_10 (by decide) (fun c0 => ?_) (fun c0 => ?_)
  · refine v_iconst dJ1_indexOfChar_4cfef_31 ci_m1 ?_
    exact v_iret dJ1_indexOfChar_4cfef_32 rfl (hq c0)
  · refine v_aload_n dJ1_indexOfChar_4cfef_13 rfl ?_
    refine v_iload dJ1_indexOfChar_4cfef_14 rfl ?_
    refine v_stb dJ1_indexOfChar_4cfef_16 hs_r0 (hi_16 c0) ?_
    refine v_iload dJ1_indexOfChar_4cfef_17 rfl ?_
    refine v_icmp_ne (tgt := 25) dJ1_indexOfChar_4cfef_19 (by decide) (fun c1 => ?_) (fun c1 => ?_)
    · refine v_iinc (y := (x5 + 1)) dJ1_indexOfChar_4cfef_25 rfl rfl (by decide) (L' := [some (.ref (11000 + r0)), none, none, some (.int x3), some (.int x4), some (.int (x5 + 1))]) rfl ?_
      refine v_goto (tgt := 7) dJ1_indexOfChar_4cfef_28 (by decide) ?_
      exact (q c0 c1)
    · refine v_iload dJ1_indexOfChar_4cfef_22 rfl ?_
      exact v_iret dJ1_indexOfChar_4cfef_24 rfl (hq_1 c0 c1)
theorem e_J7_fill_53178 {X : CX} {d nx sz : Nat} {Q : Option Value → AH → Prop} {h : AH} {r0 n_r0 : Nat} {x1 : Int32} (q : V X m_J7_fill_53178 (rm d 0 0) (ZM X Q nx sz 0 0) (nx, sz, 0, 0) 0 [some (.ref r0), some (.int x1), none, none] [] h) : Mk X d m_J7_fill_53178 [.ref r0, .int x1] h nx sz Q := by
  refine Mok.ofV mo_J7_fill_53178 (Nat.le_of_ble_eq_true rfl) (L := [some (.ref r0), some (.int x1)]) (lvLe_s (lvLe_s lvLe_e)) (v_grow (n := 2) ?_)
  exact q
theorem c_J7_fill_53178_0 {X : CX} {R : Room} {Z : ZX} {A : AX} {h : AH} {r0 n_r0 : Nat} {x1 : Int32} (hk_r0 : kd X r0 = (20, n_r0)) (hl_r0 : r0 < A.1) (q : V X m_J7_fill_53178 R Z A 5 [some (.ref r0), some (.int x1), some (.int 0), some (.int (Int32.ofNat n_r0))] [] h) : V X m_J7_fill_53178 R Z A 0 [some (.ref r0), some (.int x1), none, none] [] h := by
  refine v_iconst dJ7_fill_53178_0 ci_0 ?_
  refine v_istore_n dJ7_fill_53178_1 (by decide) (L' := [some (.ref r0), some (.int x1), some (.int 0), none]) rfl ?_
  refine v_aload_n dJ7_fill_53178_2 rfl ?_
  refine v_alen (v := Int32.ofNat n_r0) dJ7_fill_53178_3 hk_r0 ⟨by decide, by decide⟩ hl_r0 rfl ?_
  refine v_istore_n dJ7_fill_53178_4 (by decide) (L' := [some (.ref r0), some (.int x1), some (.int 0), some (.int (Int32.ofNat n_r0))]) rfl ?_
  exact q
theorem c_J7_fill_53178_5 {X : CX} {R : Room} {Q : Option Value → AH → Prop} {nx sz mc ms : Nat} {h : AH} {r0 n_r0 : Nat} {x1 x2 x3 : Int32} (hk_r0 : kd X r0 = (20, n_r0)) (hl_r0 : r0 < nx) (hq : x3 ≤ x2 → Q none h) (hi_13 : ¬ x3 ≤ x2 → vp_in x2 n_r0) (q : ¬ x3 ≤ x2 → V X m_J7_fill_53178 R (ZM X Q nx sz mc ms) (nx, sz, mc, ms) 5 [some (.ref r0), some (.int x1), some (.int (x2 + 1)), some (.int x3)] [] (setI h r0 x2.toNatClampNeg x1)) : V X m_J7_fill_53178 R (ZM X Q nx sz mc ms) (nx, sz, mc, ms) 5 [some (.ref r0), some (.int x1), some (.int x2), some (.int x3)] [] h := by
  refine v_iload_n dJ7_fill_53178_5 rfl ?_
  refine v_iload_n dJ7_fill_53178_6 rfl ?_
  refine v_icmp_ge (tgt := 20) dJ7_fill_53178_7 (by decide) (fun c0 => ?_) (fun c0 => ?_)
  · exact v_vret dJ7_fill_53178_20 rfl (hq c0)
  · refine v_aload_n dJ7_fill_53178_10 rfl ?_
    refine v_iload_n dJ7_fill_53178_11 rfl ?_
    refine v_iload_n dJ7_fill_53178_12 rfl ?_
    refine v_iast dJ7_fill_53178_13 hk_r0 hl_r0 (hi_13 c0) ?_
    refine v_iinc (y := (x2 + 1)) dJ7_fill_53178_14 rfl rfl (by decide) (L' := [some (.ref r0), some (.int x1), some (.int (x2 + 1)), some (.int x3)]) rfl ?_
    refine v_goto (tgt := 5) dJ7_fill_53178_17 (by decide) ?_
    exact (q c0)
