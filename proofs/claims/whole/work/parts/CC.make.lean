/-! the net's constructor at its three places; the class's, by program -/
section KS
variable {X : CX} {d n : Nat} {h g : AH}
def plV (x : Int32) : Int32 := if (2 : Int32) < (if x < 20 then x else 20) then (if x < 20 then x else 20) else 2
theorem plV_ok (x : Int32) : ∃ n, 2 ≤ n ∧ n ≤ 20 ∧ plV x = nI n := by
  unfold plV
  by_cases a : x < 20
  · rw [if_pos a]
    by_cases b : 2 < x
    · rw [if_pos b]
      obtain ⟨k, hk, rfl⟩ := in_rng (len := 20) (x := x) (by decide) (fun z => absurd (Int32.lt_trans b z) (by decide)) (Int32.not_lt.mpr (Int32.le_of_lt a))
      have b : nI 2 < nI k := b
      rw [nI_ltI (by decide) (by omega)] at b
      exact ⟨k, by omega, hk, rfl⟩
    · rw [if_neg b]
      exact ⟨2, by decide, by decide, rfl⟩
  · rw [if_neg a]
    exact ⟨20, by decide, by decide, rfl⟩
theorem p_X3_1 : Ki X (d + 1) m_X3_init [.ref 1, .int (nI n)] (newH h 1) 2 5 3 60 (RV fun g => Kp 1 h g ∧ Tm n 1 5 g) := by
  refine Mok.ofV mo_X3_init (Nat.le_of_ble_eq_true rfl) (L := [some (.ref 1), some (.int (nI n))]) (lvLe_s (lvLe_s lvLe_e)) ?_
  refine v_aload_n dX3_init_0 rfl ?_
  refine v_objInit dX3_init_1 (tb1 46 (by decide +kernel) rfl) (tb1 33 (by decide +kernel) rfl) (tb1 34 (by decide +kernel) rfl) (RO_1 RO_rm) (Nat.le_of_ble_eq_true rfl) ?_
  refine v_aload_n dX3_init_4 rfl ?_
  refine v_bipush dX3_init_5 cb_20 ?_
  refine k_newa (kc := 20) (N := 20) (nx' := 3) (mc' := 1) (ms' := 20) (atype := .int) dX3_init_7 rfl ⟨by decide, by decide⟩ (tb1 87 (by decide +kernel) rfl) (by decide) (by decide) (by decide) rfl rfl rfl rfl ⟨(Nat.le_of_ble_eq_true rfl), (Nat.le_of_ble_eq_true rfl)⟩ ?_
  refine v_putR rfl dX3_init_9 fl_RX3_9 (Or.inr ⟨rfl, rfl, rfl⟩) kd_1 (Nat.le_of_ble_eq_true rfl) ?_
  refine v_aload_n dX3_init_12 rfl ?_
  refine v_bipush dX3_init_13 cb_20 ?_
  refine k_newa (kc := 20) (N := 20) (nx' := 4) (mc' := 2) (ms' := 40) (atype := .int) dX3_init_15 rfl ⟨by decide, by decide⟩ (tb1 87 (by decide +kernel) rfl) (by decide) (by decide) (by decide) rfl rfl rfl rfl ⟨(Nat.le_of_ble_eq_true rfl), (Nat.le_of_ble_eq_true rfl)⟩ ?_
  refine v_putR rfl dX3_init_17 fl_RX3_15 (Or.inr ⟨rfl, rfl, rfl⟩) kd_1 (Nat.le_of_ble_eq_true rfl) ?_
  refine v_aload_n dX3_init_20 rfl ?_
  refine v_bipush dX3_init_21 cb_20 ?_
  refine k_newa (kc := 20) (N := 20) (nx' := 5) (mc' := 3) (ms' := 60) (atype := .int) dX3_init_23 rfl ⟨by decide, by decide⟩ (tb1 87 (by decide +kernel) rfl) (by decide) (by decide) (by decide) rfl rfl rfl rfl ⟨(Nat.le_of_ble_eq_true rfl), (Nat.le_of_ble_eq_true rfl)⟩ ?_
  refine v_putR rfl dX3_init_25 fl_RX3_18 (Or.inr ⟨rfl, rfl, rfl⟩) kd_1 (Nat.le_of_ble_eq_true rfl) ?_
  refine v_aload_n dX3_init_28 rfl ?_
  refine v_iload_n dX3_init_29 rfl ?_
  refine v_putI rfl rfl rfl dX3_init_30 fl_RX3_21 (Or.inr ⟨rfl, rfl, rfl⟩) kd_1 (Nat.le_of_ble_eq_true rfl) ?_
  refine v_aload_n dX3_init_33 rfl ?_
  refine v_iconst dX3_init_34 ci_1 ?_
  refine v_iload_n dX3_init_35 rfl ?_
  refine v_ishl dX3_init_36 ?_
  refine v_iconst dX3_init_37 ci_1 ?_
  refine v_isub dX3_init_38 ?_
  refine v_putI rfl rfl rfl dX3_init_39 fl_RX3_25 (Or.inr ⟨rfl, rfl, rfl⟩) kd_1 (Nat.le_of_ble_eq_true rfl) ?_
  refine v_aload_n dX3_init_42 rfl ?_
  refine v_getR (r := 3) dX3_init_43 fl_RX3_15 kd_1 (Nat.le_of_ble_eq_true rfl) rfl rfl ?_
  refine v_bipush dX3_init_46 cb_7 ?_
  have kp : Kp 1 h (setI (setI (setR (newH (setR (newH (setR (newH (newH h 1) 2) 1 2 (some 2)) 3) 1 3 (some 3)) 4) 1 4 (some 4)) 1 0 (nI n)) 1 1 (((1 : Int32) <<< ((nI n) &&& 31)) - 1)) := ((((((((((Kp.rfl (b := 1)).newH (by decide)).newH (by decide)).setR (by decide)).newH (by decide)).setR (by decide)).newH (by decide)).setR (by decide)).setI (by decide)).setI (by decide))
  refine v_cSV (mt := m_X3_init) mo_J7_fill_53178 ml_RX3_28 mz_J7_fill_53178 rfl RO_rm ⟨(Nat.le_of_ble_eq_true rfl), (Nat.le_of_ble_eq_true rfl)⟩ (Nat.le_of_ble_eq_true rfl) dX3_init_48 rfl (s_fill (d := d) (r := 3) (N := 20) (v := 7) rfl (Nat.le_of_ble_eq_true rfl) (by decide)) (fun g hp => ?_)
  obtain ⟨p1, p2, p3, p4⟩ := hp
  refine v_vret dX3_init_51 rfl ⟨rfl, fun k hk => ⟨(p2 k (by omega)).trans (kp k hk).1, by rw [p1]; exact (kp k hk).2⟩, fun a h1 h2 j => ?_, fun x hx => ?_⟩
  · have : a = 1 ∨ a = 2 ∨ a = 3 ∨ a = 4 := by omega
    rcases this with rfl | rfl | rfl | rfl
    · rw [p2 1 (by decide)]
      show (if 1 = 1 ∧ j = 1 then _ else if 1 = 1 ∧ j = 0 then _ else 0) = (if j = 0 then nI n else if j = 1 then full n else 0)
      by_cases q0 : j = 0
      · subst q0
        rfl
      · by_cases q1 : j = 1
        · subst q1
          rfl
        · rw [if_neg (fun z => q1 z.2), if_neg (fun z => q0 z.2), if_neg q0, if_neg q1]
    · rw [p2 2 (by decide)]
      rfl
    · show g.1 3 j = if j < 20 then 7 else 0
      by_cases q : j < 20
      · rw [if_pos q]
        exact p3 j q
      · rw [if_neg q, p4 j (by omega)]
        rfl
    · rw [p2 4 (by decide)]
      rfl
  · rw [p1]
    revert x
    show ∀ x ∈ [((1, 2), 2), ((1, 3), 3), ((1, 4), 4)], (setI (setI (setR (newH (setR (newH (setR (newH (newH h 1) 2) 1 2 (some 2)) 3) 1 3 (some 3)) 4) 1 4 (some 4)) 1 0 (nI n)) 1 1 (((1 : Int32) <<< ((nI n) &&& 31)) - 1)).2.2 x.1.1 x.1.2 = some x.2
    exact (List.forall_mem_cons.mpr ⟨rfl, (List.forall_mem_cons.mpr ⟨rfl, (List.forall_mem_cons.mpr ⟨rfl, (List.forall_mem_nil _)⟩)⟩)⟩)
theorem p_X3_5 : Ki X (d + 1) m_X3_init [.ref 5, .int (nI n)] (newH h 5) 6 9 3 60 (RV fun g => Kp 5 h g ∧ Tm n 5 9 g) := by
  refine Mok.ofV mo_X3_init (Nat.le_of_ble_eq_true rfl) (L := [some (.ref 5), some (.int (nI n))]) (lvLe_s (lvLe_s lvLe_e)) ?_
  refine v_aload_n dX3_init_0 rfl ?_
  refine v_objInit dX3_init_1 (tb1 46 (by decide +kernel) rfl) (tb1 33 (by decide +kernel) rfl) (tb1 34 (by decide +kernel) rfl) (RO_1 RO_rm) (Nat.le_of_ble_eq_true rfl) ?_
  refine v_aload_n dX3_init_4 rfl ?_
  refine v_bipush dX3_init_5 cb_20 ?_
  refine k_newa (kc := 20) (N := 20) (nx' := 7) (mc' := 1) (ms' := 20) (atype := .int) dX3_init_7 rfl ⟨by decide, by decide⟩ (tb1 87 (by decide +kernel) rfl) (by decide) (by decide) (by decide) rfl rfl rfl rfl ⟨(Nat.le_of_ble_eq_true rfl), (Nat.le_of_ble_eq_true rfl)⟩ ?_
  refine v_putR rfl dX3_init_9 fl_RX3_9 (Or.inr ⟨rfl, rfl, rfl⟩) kd_5 (Nat.le_of_ble_eq_true rfl) ?_
  refine v_aload_n dX3_init_12 rfl ?_
  refine v_bipush dX3_init_13 cb_20 ?_
  refine k_newa (kc := 20) (N := 20) (nx' := 8) (mc' := 2) (ms' := 40) (atype := .int) dX3_init_15 rfl ⟨by decide, by decide⟩ (tb1 87 (by decide +kernel) rfl) (by decide) (by decide) (by decide) rfl rfl rfl rfl ⟨(Nat.le_of_ble_eq_true rfl), (Nat.le_of_ble_eq_true rfl)⟩ ?_
  refine v_putR rfl dX3_init_17 fl_RX3_15 (Or.inr ⟨rfl, rfl, rfl⟩) kd_5 (Nat.le_of_ble_eq_true rfl) ?_
  refine v_aload_n dX3_init_20 rfl ?_
  refine v_bipush dX3_init_21 cb_20 ?_
  refine k_newa (kc := 20) (N := 20) (nx' := 9) (mc' := 3) (ms' := 60) (atype := .int) dX3_init_23 rfl ⟨by decide, by decide⟩ (tb1 87 (by decide +kernel) rfl) (by decide) (by decide) (by decide) rfl rfl rfl rfl ⟨(Nat.le_of_ble_eq_true rfl), (Nat.le_of_ble_eq_true rfl)⟩ ?_
  refine v_putR rfl dX3_init_25 fl_RX3_18 (Or.inr ⟨rfl, rfl, rfl⟩) kd_5 (Nat.le_of_ble_eq_true rfl) ?_
  refine v_aload_n dX3_init_28 rfl ?_
  refine v_iload_n dX3_init_29 rfl ?_
  refine v_putI rfl rfl rfl dX3_init_30 fl_RX3_21 (Or.inr ⟨rfl, rfl, rfl⟩) kd_5 (Nat.le_of_ble_eq_true rfl) ?_
  refine v_aload_n dX3_init_33 rfl ?_
  refine v_iconst dX3_init_34 ci_1 ?_
  refine v_iload_n dX3_init_35 rfl ?_
  refine v_ishl dX3_init_36 ?_
  refine v_iconst dX3_init_37 ci_1 ?_
  refine v_isub dX3_init_38 ?_
  refine v_putI rfl rfl rfl dX3_init_39 fl_RX3_25 (Or.inr ⟨rfl, rfl, rfl⟩) kd_5 (Nat.le_of_ble_eq_true rfl) ?_
  refine v_aload_n dX3_init_42 rfl ?_
  refine v_getR (r := 7) dX3_init_43 fl_RX3_15 kd_5 (Nat.le_of_ble_eq_true rfl) rfl rfl ?_
  refine v_bipush dX3_init_46 cb_7 ?_
  have kp : Kp 5 h (setI (setI (setR (newH (setR (newH (setR (newH (newH h 5) 6) 5 2 (some 6)) 7) 5 3 (some 7)) 8) 5 4 (some 8)) 5 0 (nI n)) 5 1 (((1 : Int32) <<< ((nI n) &&& 31)) - 1)) := ((((((((((Kp.rfl (b := 5)).newH (by decide)).newH (by decide)).setR (by decide)).newH (by decide)).setR (by decide)).newH (by decide)).setR (by decide)).setI (by decide)).setI (by decide))
  refine v_cSV (mt := m_X3_init) mo_J7_fill_53178 ml_RX3_28 mz_J7_fill_53178 rfl RO_rm ⟨(Nat.le_of_ble_eq_true rfl), (Nat.le_of_ble_eq_true rfl)⟩ (Nat.le_of_ble_eq_true rfl) dX3_init_48 rfl (s_fill (d := d) (r := 7) (N := 20) (v := 7) rfl (Nat.le_of_ble_eq_true rfl) (by decide)) (fun g hp => ?_)
  obtain ⟨p1, p2, p3, p4⟩ := hp
  refine v_vret dX3_init_51 rfl ⟨rfl, fun k hk => ⟨(p2 k (by omega)).trans (kp k hk).1, by rw [p1]; exact (kp k hk).2⟩, fun a h1 h2 j => ?_, fun x hx => ?_⟩
  · have : a = 5 ∨ a = 6 ∨ a = 7 ∨ a = 8 := by omega
    rcases this with rfl | rfl | rfl | rfl
    · rw [p2 5 (by decide)]
      show (if 5 = 5 ∧ j = 1 then _ else if 5 = 5 ∧ j = 0 then _ else 0) = (if j = 0 then nI n else if j = 1 then full n else 0)
      by_cases q0 : j = 0
      · subst q0
        rfl
      · by_cases q1 : j = 1
        · subst q1
          rfl
        · rw [if_neg (fun z => q1 z.2), if_neg (fun z => q0 z.2), if_neg q0, if_neg q1]
    · rw [p2 6 (by decide)]
      rfl
    · show g.1 7 j = if j < 20 then 7 else 0
      by_cases q : j < 20
      · rw [if_pos q]
        exact p3 j q
      · rw [if_neg q, p4 j (by omega)]
        rfl
    · rw [p2 8 (by decide)]
      rfl
  · rw [p1]
    revert x
    show ∀ x ∈ [((5, 2), 6), ((5, 3), 7), ((5, 4), 8)], (setI (setI (setR (newH (setR (newH (setR (newH (newH h 5) 6) 5 2 (some 6)) 7) 5 3 (some 7)) 8) 5 4 (some 8)) 5 0 (nI n)) 5 1 (((1 : Int32) <<< ((nI n) &&& 31)) - 1)).2.2 x.1.1 x.1.2 = some x.2
    exact (List.forall_mem_cons.mpr ⟨rfl, (List.forall_mem_cons.mpr ⟨rfl, (List.forall_mem_cons.mpr ⟨rfl, (List.forall_mem_nil _)⟩)⟩)⟩)
theorem p_X3_9 : Ki X (d + 1) m_X3_init [.ref 9, .int (nI n)] (newH h 9) 10 13 3 60 (RV fun g => Kp 9 h g ∧ Tm n 9 13 g) := by
  refine Mok.ofV mo_X3_init (Nat.le_of_ble_eq_true rfl) (L := [some (.ref 9), some (.int (nI n))]) (lvLe_s (lvLe_s lvLe_e)) ?_
  refine v_aload_n dX3_init_0 rfl ?_
  refine v_objInit dX3_init_1 (tb1 46 (by decide +kernel) rfl) (tb1 33 (by decide +kernel) rfl) (tb1 34 (by decide +kernel) rfl) (RO_1 RO_rm) (Nat.le_of_ble_eq_true rfl) ?_
  refine v_aload_n dX3_init_4 rfl ?_
  refine v_bipush dX3_init_5 cb_20 ?_
  refine k_newa (kc := 20) (N := 20) (nx' := 11) (mc' := 1) (ms' := 20) (atype := .int) dX3_init_7 rfl ⟨by decide, by decide⟩ (tb1 87 (by decide +kernel) rfl) (by decide) (by decide) (by decide) rfl rfl rfl rfl ⟨(Nat.le_of_ble_eq_true rfl), (Nat.le_of_ble_eq_true rfl)⟩ ?_
  refine v_putR rfl dX3_init_9 fl_RX3_9 (Or.inr ⟨rfl, rfl, rfl⟩) kd_9 (Nat.le_of_ble_eq_true rfl) ?_
  refine v_aload_n dX3_init_12 rfl ?_
  refine v_bipush dX3_init_13 cb_20 ?_
  refine k_newa (kc := 20) (N := 20) (nx' := 12) (mc' := 2) (ms' := 40) (atype := .int) dX3_init_15 rfl ⟨by decide, by decide⟩ (tb1 87 (by decide +kernel) rfl) (by decide) (by decide) (by decide) rfl rfl rfl rfl ⟨(Nat.le_of_ble_eq_true rfl), (Nat.le_of_ble_eq_true rfl)⟩ ?_
  refine v_putR rfl dX3_init_17 fl_RX3_15 (Or.inr ⟨rfl, rfl, rfl⟩) kd_9 (Nat.le_of_ble_eq_true rfl) ?_
  refine v_aload_n dX3_init_20 rfl ?_
  refine v_bipush dX3_init_21 cb_20 ?_
  refine k_newa (kc := 20) (N := 20) (nx' := 13) (mc' := 3) (ms' := 60) (atype := .int) dX3_init_23 rfl ⟨by decide, by decide⟩ (tb1 87 (by decide +kernel) rfl) (by decide) (by decide) (by decide) rfl rfl rfl rfl ⟨(Nat.le_of_ble_eq_true rfl), (Nat.le_of_ble_eq_true rfl)⟩ ?_
  refine v_putR rfl dX3_init_25 fl_RX3_18 (Or.inr ⟨rfl, rfl, rfl⟩) kd_9 (Nat.le_of_ble_eq_true rfl) ?_
  refine v_aload_n dX3_init_28 rfl ?_
  refine v_iload_n dX3_init_29 rfl ?_
  refine v_putI rfl rfl rfl dX3_init_30 fl_RX3_21 (Or.inr ⟨rfl, rfl, rfl⟩) kd_9 (Nat.le_of_ble_eq_true rfl) ?_
  refine v_aload_n dX3_init_33 rfl ?_
  refine v_iconst dX3_init_34 ci_1 ?_
  refine v_iload_n dX3_init_35 rfl ?_
  refine v_ishl dX3_init_36 ?_
  refine v_iconst dX3_init_37 ci_1 ?_
  refine v_isub dX3_init_38 ?_
  refine v_putI rfl rfl rfl dX3_init_39 fl_RX3_25 (Or.inr ⟨rfl, rfl, rfl⟩) kd_9 (Nat.le_of_ble_eq_true rfl) ?_
  refine v_aload_n dX3_init_42 rfl ?_
  refine v_getR (r := 11) dX3_init_43 fl_RX3_15 kd_9 (Nat.le_of_ble_eq_true rfl) rfl rfl ?_
  refine v_bipush dX3_init_46 cb_7 ?_
  have kp : Kp 9 h (setI (setI (setR (newH (setR (newH (setR (newH (newH h 9) 10) 9 2 (some 10)) 11) 9 3 (some 11)) 12) 9 4 (some 12)) 9 0 (nI n)) 9 1 (((1 : Int32) <<< ((nI n) &&& 31)) - 1)) := ((((((((((Kp.rfl (b := 9)).newH (by decide)).newH (by decide)).setR (by decide)).newH (by decide)).setR (by decide)).newH (by decide)).setR (by decide)).setI (by decide)).setI (by decide))
  refine v_cSV (mt := m_X3_init) mo_J7_fill_53178 ml_RX3_28 mz_J7_fill_53178 rfl RO_rm ⟨(Nat.le_of_ble_eq_true rfl), (Nat.le_of_ble_eq_true rfl)⟩ (Nat.le_of_ble_eq_true rfl) dX3_init_48 rfl (s_fill (d := d) (r := 11) (N := 20) (v := 7) rfl (Nat.le_of_ble_eq_true rfl) (by decide)) (fun g hp => ?_)
  obtain ⟨p1, p2, p3, p4⟩ := hp
  refine v_vret dX3_init_51 rfl ⟨rfl, fun k hk => ⟨(p2 k (by omega)).trans (kp k hk).1, by rw [p1]; exact (kp k hk).2⟩, fun a h1 h2 j => ?_, fun x hx => ?_⟩
  · have : a = 9 ∨ a = 10 ∨ a = 11 ∨ a = 12 := by omega
    rcases this with rfl | rfl | rfl | rfl
    · rw [p2 9 (by decide)]
      show (if 9 = 9 ∧ j = 1 then _ else if 9 = 9 ∧ j = 0 then _ else 0) = (if j = 0 then nI n else if j = 1 then full n else 0)
      by_cases q0 : j = 0
      · subst q0
        rfl
      · by_cases q1 : j = 1
        · subst q1
          rfl
        · rw [if_neg (fun z => q1 z.2), if_neg (fun z => q0 z.2), if_neg q0, if_neg q1]
    · rw [p2 10 (by decide)]
      rfl
    · show g.1 11 j = if j < 20 then 7 else 0
      by_cases q : j < 20
      · rw [if_pos q]
        exact p3 j q
      · rw [if_neg q, p4 j (by omega)]
        rfl
    · rw [p2 12 (by decide)]
      rfl
  · rw [p1]
    revert x
    show ∀ x ∈ [((9, 2), 10), ((9, 3), 11), ((9, 4), 12)], (setI (setI (setR (newH (setR (newH (setR (newH (newH h 9) 10) 9 2 (some 10)) 11) 9 3 (some 11)) 12) 9 4 (some 12)) 9 0 (nI n)) 9 1 (((1 : Int32) <<< ((nI n) &&& 31)) - 1)).2.2 x.1.1 x.1.2 = some x.2
    exact (List.forall_mem_cons.mpr ⟨rfl, (List.forall_mem_cons.mpr ⟨rfl, (List.forall_mem_cons.mpr ⟨rfl, (List.forall_mem_nil _)⟩)⟩)⟩)
/-- the class's own fields, as far as the s-th -/
def Fa (n s : Nat) (g : AH) : Prop := g.1 0 0 = nI n ∧ (∀ j, j ≠ 0 → g.1 0 j = 0) ∧ ∀ x, x ∈ R0f 0 1 → x.1.2 ≤ s → g.2.2 0 x.1.2 = some x.2
theorem st_step {s a hi : Nat} (f : Fa n s h) (t : Tm n 1 a h) (kp : Kp a h g) (tm : Tm n a hi g) (ha : 1 ≤ a) (u : ∀ x, x ∈ R0f 0 1 → x.1.2 = s + 1 → x.2 = a) : Fa n (s + 1) (setR g 0 (s + 1) (some a)) ∧ Tm n 1 hi (setR g 0 (s + 1) (some a)) := by
  obtain ⟨k1, k2⟩ := kp 0 (by omega)
  refine ⟨⟨?_, fun j hj => ?_, fun x hx hs => ?_⟩, ?_⟩
  · show g.1 0 0 = nI n
    rw [k1]
    exact f.1
  · show g.1 0 j = 0
    rw [k1]
    exact f.2.1 j hj
  · show (if 0 = 0 ∧ x.1.2 = s + 1 then some a else g.2.2 0 x.1.2) = some x.2
    by_cases q : x.1.2 = s + 1
    · rw [if_pos ⟨rfl, q⟩, u x hx q]
    · rw [if_neg (fun z => q z.2), k2]
      exact f.2.2 x hx (by omega)
  · have t1 := (t.kp kp (Nat.le_refl _)).join tm
    refine ⟨fun b h1 h2 j => t1.1 b h1 h2 j, fun x hx => ?_⟩
    show (if x.1.1 = 0 ∧ x.1.2 = s + 1 then some a else g.2.2 x.1.1 x.1.2) = some x.2
    rw [if_neg (fun z => by have := (R0f_in.mp hx).2.1; omega)]
    exact t1.2 x hx
theorem Fa.tm (f : Fa n 13 g) (u : ∀ x, x ∈ R0f 0 1 → x.1.1 = 0 ∧ x.1.2 ≤ 13) : Tm n 0 1 g := ⟨fun a h1 h2 j => by
  have : a = 0 := by omega
  subst this
  by_cases q : j = 0
  · subst q
    exact f.1
  · rw [f.2.1 j q]
    unfold CI
    rw [if_neg (by omega), if_neg (by omega), if_neg (by omega)], fun x hx => by
  rw [(u x hx).1]
  exact f.2.2 x hx (u x hx).2⟩
end KS
