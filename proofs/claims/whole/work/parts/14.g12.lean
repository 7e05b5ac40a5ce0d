/-! stretches of code, by program -/
theorem e_X12_thrown {X : CX} {d nx sz : Nat} {Q : Option Value → AH → Prop} {h : AH} (q : V X m_X12_thrown (rm d 0 0) (ZM X Q nx sz 0 0) (nx, sz, 0, 0) 0 [some (.ref 68)] [] h) : Mk X d m_X12_thrown [.ref 68] h nx sz Q := by
  refine Mok.ofV mo_X12_thrown (Nat.le_of_ble_eq_true rfl) (L := [some (.ref 68)]) (lvLe_s lvLe_e) (v_grow (n := 0) ?_)
  exact q
theorem c_X12_thrown_0 {X : CX} {R : Room} {Q : Option Value → AH → Prop} {nx sz mc ms : Nat} {h : AH} (hA0 : 91 ≤ nx) (hq : Q (some (.int (h.1 68 0))) h) : V X m_X12_thrown R (ZM X Q nx sz mc ms) (nx, sz, mc, ms) 0 [some (.ref 68)] [] h := by
  refine v_aload_n dX12_thrown_0 rfl ?_
  refine v_getI dX12_thrown_1 fl_RX12_103 kd_68 (ltA hA0 rfl) rfl ?_
  exact v_iret dX12_thrown_4 rfl hq
theorem e_X12_isIn {X : CX} {d nx sz : Nat} {Q : Option Value → AH → Prop} {h : AH} {x0 x1 x2 : Int32} (q : V X m_X12_isIn (rm d 0 0) (ZM X Q nx sz 0 0) (nx, sz, 0, 0) 0 [some (.int x0), some (.int x1), some (.int x2)] [] h) : Mk X d m_X12_isIn [.int x0, .int x1, .int x2] h nx sz Q := by
  refine Mok.ofV mo_X12_isIn (Nat.le_of_ble_eq_true rfl) (L := [some (.int x0), some (.int x1), some (.int x2)]) (lvLe_s (lvLe_s (lvLe_s lvLe_e))) (v_grow (n := 0) ?_)
  exact q
theorem c_X12_isIn_0 {X : CX} {R : Room} {Q : Option Value → AH → Prop} {nx sz mc ms : Nat} {h : AH} {x0 x1 x2 : Int32} (hq : x0 < x1 → Q (some (.int 0)) h) (hq_1 : ¬ x0 < x1 → x2 < x0 → Q (some (.int 0)) h) (hq_2 : ¬ x0 < x1 → ¬ x2 < x0 → Q (some (.int 1)) h) : V X m_X12_isIn R (ZM X Q nx sz mc ms) (nx, sz, mc, ms) 0 [some (.int x0), some (.int x1), some (.int x2)] [] h := by
  refine v_iload_n dX12_isIn_0 rfl ?_
  refine v_iload_n dX12_isIn_1 rfl ?_
  refine v_icmp_lt (tgt := 14) dX12_isIn_2 (by decide) (fun c0 => ?_) (fun c0 => ?_)
  · refine v_iconst dX12_isIn_14 ci_0 ?_
    exact v_zret (ty := .boolean) dX12_isIn_15 rfl rfl (hq c0)
  · refine v_iload_n dX12_isIn_5 rfl ?_
    refine v_iload_n dX12_isIn_6 rfl ?_
    refine v_icmp_gt (tgt := 14) dX12_isIn_7 (by decide) (fun c1 => ?_) (fun c1 => ?_)
    · refine v_iconst dX12_isIn_14 ci_0 ?_
      exact v_zret (ty := .boolean) dX12_isIn_15 rfl rfl (hq_1 c0 c1)
    · refine v_iconst dX12_isIn_10 ci_1 ?_
      refine v_goto (tgt := 15) dX12_isIn_11 (by decide) ?_
      exact v_zret (ty := .boolean) dX12_isIn_15 rfl rfl (hq_2 c0 c1)
theorem e_X12_has {X : CX} {d nx sz : Nat} {Q : Option Value → AH → Prop} {h : AH} {x0 x1 : Int32} (q : V X m_X12_has (rm d 0 0) (ZM X Q nx sz 0 0) (nx, sz, 0, 0) 0 [some (.int x0), some (.int x1)] [] h) : Mk X d m_X12_has [.int x0, .int x1] h nx sz Q := by
  refine Mok.ofV mo_X12_has (Nat.le_of_ble_eq_true rfl) (L := [some (.int x0), some (.int x1)]) (lvLe_s (lvLe_s lvLe_e)) (v_grow (n := 0) ?_)
  exact q
theorem c_X12_has_0 {X : CX} {R : Room} {Q : Option Value → AH → Prop} {nx sz mc ms : Nat} {h : AH} {x0 x1 : Int32} (hq : ¬ ((x0 >>> (x1 &&& 31)) &&& 1) = 1 → Q (some (.int 0)) h) (hq_1 : ((x0 >>> (x1 &&& 31)) &&& 1) = 1 → Q (some (.int 1)) h) : V X m_X12_has R (ZM X Q nx sz mc ms) (nx, sz, mc, ms) 0 [some (.int x0), some (.int x1)] [] h := by
  refine v_iload_n dX12_has_0 rfl ?_
  refine v_iload_n dX12_has_1 rfl ?_
  refine v_ishr dX12_has_2 ?_
  refine v_iconst dX12_has_3 ci_1 ?_
  refine v_iand dX12_has_4 ?_
  refine v_iconst dX12_has_5 ci_1 ?_
  refine v_icmp_ne (tgt := 13) dX12_has_6 (by decide) (fun c0 => ?_) (fun c0 => ?_)
  · refine v_iconst dX12_has_13 ci_0 ?_
    exact v_zret (ty := .boolean) dX12_has_14 rfl rfl (hq c0)
  · refine v_iconst dX12_has_9 ci_1 ?_
    refine v_goto (tgt := 14) dX12_has_10 (by decide) ?_
    exact v_zret (ty := .boolean) dX12_has_14 rfl rfl (hq_1 c0)
theorem e_X12_isAmong {X : CX} {d nx sz : Nat} {Q : Option Value → AH → Prop} {h : AH} {r0 : Nat} {x1 : Int32} (q : V X m_X12_isAmong (rm d 0 0) (ZM X Q nx sz 0 0) (nx, sz, 0, 0) 0 [some (.ref (10000 + r0)), some (.int x1), none] [] h) : Mk X d m_X12_isAmong [.ref (10000 + r0), .int x1] h nx sz Q := by
  refine Mok.ofV mo_X12_isAmong (Nat.le_of_ble_eq_true rfl) (L := [some (.ref (10000 + r0)), some (.int x1)]) (lvLe_s (lvLe_s lvLe_e)) (v_grow (n := 1) ?_)
  exact q
theorem c_X12_isAmong_0 {X : CX} {R : Room} {Z : ZX} {A : AX} {h : AH} {r0 : Nat} {x1 : Int32} (q : V X m_X12_isAmong R Z A 2 [some (.ref (10000 + r0)), some (.int x1), some (.int 0)] [] h) : V X m_X12_isAmong R Z A 0 [some (.ref (10000 + r0)), some (.int x1), none] [] h := by
  refine v_iconst dX12_isAmong_0 ci_0 ?_
  refine v_istore_n dX12_isAmong_1 (by decide) (L' := [some (.ref (10000 + r0)), some (.int x1), some (.int 0)]) rfl ?_
  exact q
theorem c_X12_isAmong_2 {X : CX} {R : Room} {Z : ZX} {A : AX} {h : AH} {r0 d : Nat} {x1 x2 : Int32} {P4 : Int32 → AH → Prop} (hR : RO R (d + 1)) (hcs : A.2.2.1 ≤ R.cells ∧ A.2.2.2 ≤ R.slots) (hs_r0 : r0 < 3) (hM : Mk X d m_J0_length_8abf5 [.ref (10000 + r0)] h A.1 A.2.1 (RI P4)) (q : ∀ (y : Int32) (g : AH), P4 y g → V X m_X12_isAmong R Z A 7 [some (.ref (10000 + r0)), some (.int x1), some (.int x2)] [.int y, .int x2] g) : V X m_X12_isAmong R Z A 2 [some (.ref (10000 + r0)), some (.int x1), some (.int x2)] [] h := by
  refine v_iload_n dX12_isAmong_2 rfl ?_
  refine v_aload_n dX12_isAmong_3 rfl ?_
  exact v_cTI (mt := m_X12_isAmong) (i := r0) mo_J0_length_8abf5 ml_RX12_106 mi_J0_length_8abf5 mv_J0_length_8abf5 rfl rfl hs_r0 hR hcs (Nat.le_of_ble_eq_true rfl) dX12_isAmong_4 rfl hM (fun y g hp => (q y g hp))
theorem c_X12_isAmong_7 {X : CX} {R : Room} {Q : Option Value → AH → Prop} {nx sz mc ms : Nat} {h : AH} {r0 d : Nat} {x1 x2 s0 s1 : Int32} {P12 : Int32 → AH → Prop} (hR : RO R (d + 1)) (hcs : mc ≤ R.cells ∧ ms ≤ R.slots) (hs_r0 : r0 < 3) (hq : s1 ≤ s0 → Q (some (.int 0)) h) (hM : ¬ s1 ≤ s0 → Mk X d m_J0_charAt_5068e [.ref (10000 + r0), .int x2] h nx sz (RI P12)) (q : ¬ s1 ≤ s0 → ∀ (y : Int32) (g : AH), P12 y g → V X m_X12_isAmong R (ZM X Q nx sz mc ms) (nx, sz, mc, ms) 15 [some (.ref (10000 + r0)), some (.int x1), some (.int x2)] [.int y] g) : V X m_X12_isAmong R (ZM X Q nx sz mc ms) (nx, sz, mc, ms) 7 [some (.ref (10000 + r0)), some (.int x1), some (.int x2)] [.int s1, .int s0] h := by
  refine v_icmp_ge (tgt := 27) dX12_isAmong_7 (by decide) (fun c0 => ?_) (fun c0 => ?_)
  · refine v_iconst dX12_isAmong_27 ci_0 ?_
    exact v_zret (ty := .boolean) dX12_isAmong_28 rfl rfl (hq c0)
  · refine v_aload_n dX12_isAmong_10 rfl ?_
    refine v_iload_n dX12_isAmong_11 rfl ?_
    exact v_cTI (mt := m_X12_isAmong) (i := r0) mo_J0_charAt_5068e ml_RX12_112 mi_J0_charAt_5068e mv_J0_charAt_5068e rfl rfl hs_r0 hR hcs (Nat.le_of_ble_eq_true rfl) dX12_isAmong_12 rfl (hM c0) (fun y g hp => ((q c0) y g hp))
theorem c_X12_isAmong_15 {X : CX} {R : Room} {Q : Option Value → AH → Prop} {nx sz mc ms : Nat} {h : AH} {r0 : Nat} {x1 x2 s0 : Int32} (q : ¬ s0 = x1 → V X m_X12_isAmong R (ZM X Q nx sz mc ms) (nx, sz, mc, ms) 2 [some (.ref (10000 + r0)), some (.int x1), some (.int (x2 + 1))] [] h) (hq : s0 = x1 → Q (some (.int 1)) h) : V X m_X12_isAmong R (ZM X Q nx sz mc ms) (nx, sz, mc, ms) 15 [some (.ref (10000 + r0)), some (.int x1), some (.int x2)] [.int s0] h := by
  refine v_iload_n dX12_isAmong_15 rfl ?_
  refine v_icmp_ne (tgt := 21) dX12_isAmong_16 (by decide) (fun c0 => ?_) (fun c0 => ?_)
  · refine v_iinc (y := (x2 + 1)) dX12_isAmong_21 rfl rfl (by decide) (L' := [some (.ref (10000 + r0)), some (.int x1), some (.int (x2 + 1))]) rfl ?_
    refine v_goto (tgt := 2) dX12_isAmong_24 (by decide) ?_
    exact (q c0)
  · refine v_iconst dX12_isAmong_19 ci_1 ?_
    exact v_zret (ty := .boolean) dX12_isAmong_20 rfl rfl (hq c0)
theorem e_X12_bytesIn {X : CX} {d nx sz : Nat} {Q : Option Value → AH → Prop} {h : AH} {x0 : Int32} (q : V X m_X12_bytesIn (rm d 0 0) (ZM X Q nx sz 0 0) (nx, sz, 0, 0) 0 [some (.int x0), none, none] [] h) : Mk X d m_X12_bytesIn [.int x0] h nx sz Q := by
  refine Mok.ofV mo_X12_bytesIn (Nat.le_of_ble_eq_true rfl) (L := [some (.int x0)]) (lvLe_s lvLe_e) (v_grow (n := 2) ?_)
  exact q
theorem c_X12_bytesIn_0 {X : CX} {R : Room} {Z : ZX} {A : AX} {h : AH} {x0 : Int32} (q : V X m_X12_bytesIn R Z A 5 [some (.int x0), some (.int 0), some (.int 24)] [] h) : V X m_X12_bytesIn R Z A 0 [some (.int x0), none, none] [] h := by
  refine v_iconst dX12_bytesIn_0 ci_0 ?_
  refine v_istore_n dX12_bytesIn_1 (by decide) (L' := [some (.int x0), some (.int 0), none]) rfl ?_
  refine v_bipush dX12_bytesIn_2 cb_24 ?_
  refine v_istore_n dX12_bytesIn_4 (by decide) (L' := [some (.int x0), some (.int 0), some (.int 24)]) rfl ?_
  exact q
theorem c_X12_bytesIn_5 {X : CX} {R : Room} {Q : Option Value → AH → Prop} {nx sz mc ms : Nat} {h : AH} {x0 x1 x2 : Int32} (hq : x2 < 0 → Q (some (.int x1)) h) (q : ¬ x2 < 0 → ((x0 >>> (x2 &&& 31)) &&& 255) = 0 → V X m_X12_bytesIn R (ZM X Q nx sz mc ms) (nx, sz, mc, ms) 5 [some (.int x0), some (.int (x1 + 0)), some (.int (x2 + (-8)))] [] h) (q_1 : ¬ x2 < 0 → ¬ ((x0 >>> (x2 &&& 31)) &&& 255) = 0 → V X m_X12_bytesIn R (ZM X Q nx sz mc ms) (nx, sz, mc, ms) 5 [some (.int x0), some (.int (x1 + 1)), some (.int (x2 + (-8)))] [] h) : V X m_X12_bytesIn R (ZM X Q nx sz mc ms) (nx, sz, mc, ms) 5 [some (.int x0), some (.int x1), some (.int x2)] [] h := by
  refine v_iload_n dX12_bytesIn_5 rfl ?_
  refine v_if_lt (tgt := 33) dX12_bytesIn_6 (by decide) (fun c0 => ?_) (fun c0 => ?_)
  · refine v_iload_n dX12_bytesIn_33 rfl ?_
    exact v_iret dX12_bytesIn_34 rfl (hq c0)
  · refine v_iload_n dX12_bytesIn_9 rfl ?_
    refine v_iload_n dX12_bytesIn_10 rfl ?_
    refine v_iload_n dX12_bytesIn_11 rfl ?_
    refine v_ishr dX12_bytesIn_12 ?_
    refine v_sipush dX12_bytesIn_13 cs_255 ?_
    refine v_iand dX12_bytesIn_16 ?_
    refine v_if_eq (tgt := 24) dX12_bytesIn_17 (by decide) (fun c1 => ?_) (fun c1 => ?_)
    · refine v_iconst dX12_bytesIn_24 ci_0 ?_
      refine v_iadd dX12_bytesIn_25 ?_
      refine v_istore_n dX12_bytesIn_26 (by decide) (L' := [some (.int x0), some (.int (x1 + 0)), some (.int x2)]) rfl ?_
      refine v_iinc (y := (x2 + (-8))) dX12_bytesIn_27 rfl rfl (by decide) (L' := [some (.int x0), some (.int (x1 + 0)), some (.int (x2 + (-8)))]) rfl ?_
      refine v_goto (tgt := 5) dX12_bytesIn_30 (by decide) ?_
      exact (q c0 c1)
    · refine v_iconst dX12_bytesIn_20 ci_1 ?_
      refine v_goto (tgt := 25) dX12_bytesIn_21 (by decide) ?_
      refine v_iadd dX12_bytesIn_25 ?_
      refine v_istore_n dX12_bytesIn_26 (by decide) (L' := [some (.int x0), some (.int (x1 + 1)), some (.int x2)]) rfl ?_
      refine v_iinc (y := (x2 + (-8))) dX12_bytesIn_27 rfl rfl (by decide) (L' := [some (.int x0), some (.int (x1 + 1)), some (.int (x2 + (-8)))]) rfl ?_
      refine v_goto (tgt := 5) dX12_bytesIn_30 (by decide) ?_
      exact (q_1 c0 c1)
theorem e_X12_put {X : CX} {d nx sz : Nat} {Q : Option Value → AH → Prop} {h : AH} {x1 : Int32} (q : V X m_X12_put (rm d 0 0) (ZM X Q nx sz 0 0) (nx, sz, 0, 0) 0 [some (.ref 68), some (.int x1), none] [] h) : Mk X d m_X12_put [.ref 68, .int x1] h nx sz Q := by
  refine Mok.ofV mo_X12_put (Nat.le_of_ble_eq_true rfl) (L := [some (.ref 68), some (.int x1)]) (lvLe_s (lvLe_s lvLe_e)) (v_grow (n := 1) ?_)
  exact q
theorem c_X12_put_0 {X : CX} {R : Room} {Z : ZX} {A : AX} {h : AH} {x1 : Int32} (q : V X m_X12_put R Z A 3 [some (.ref 68), some (.int x1), some (.int 24)] [] h) : V X m_X12_put R Z A 0 [some (.ref 68), some (.int x1), none] [] h := by
  refine v_bipush dX12_put_0 cb_24 ?_
  refine v_istore_n dX12_put_2 (by decide) (L' := [some (.ref 68), some (.int x1), some (.int 24)]) rfl ?_
  exact q
theorem c_X12_put_3 {X : CX} {R : Room} {Q : Option Value → AH → Prop} {nx sz mc ms : Nat} {h : AH} {x1 x2 : Int32} (hA0 : 91 ≤ nx) (hF : Fx h) (hq : x2 < 0 → Q none h) (hi_32 : ¬ x2 < 0 → ¬ ((x1 >>> (x2 &&& 31)) &&& 255) = 0 → vp_in (h.1 68 7) 200) (q : ¬ x2 < 0 → ¬ ((x1 >>> (x2 &&& 31)) &&& 255) = 0 → V X m_X12_put R (ZM X Q nx sz mc ms) (nx, sz, mc, ms) 3 [some (.ref 68), some (.int x1), some (.int (x2 + (-8)))] [] (setI (setI h 69 (h.1 68 7).toNatClampNeg (((x1 >>> (x2 &&& 31)) : Int32).toInt8.toInt32)) 68 7 ((h.1 68 7) + 1))) (q_1 : ¬ x2 < 0 → ((x1 >>> (x2 &&& 31)) &&& 255) = 0 → V X m_X12_put R (ZM X Q nx sz mc ms) (nx, sz, mc, ms) 3 [some (.ref 68), some (.int x1), some (.int (x2 + (-8)))] [] h) : V X m_X12_put R (ZM X Q nx sz mc ms) (nx, sz, mc, ms) 3 [some (.ref 68), some (.int x1), some (.int x2)] [] h := by
  refine v_iload_n dX12_put_3 rfl ?_
  refine v_if_lt (tgt := 49) dX12_put_4 (by decide) (fun c0 => ?_) (fun c0 => ?_)
  · exact v_vret dX12_put_49 rfl (hq c0)
  · refine v_iload_n dX12_put_7 rfl ?_
    refine v_iload_n dX12_put_8 rfl ?_
    refine v_ishr dX12_put_9 ?_
    refine v_sipush dX12_put_10 cs_255 ?_
    refine v_iand dX12_put_13 ?_
    refine v_if_ne (tgt := 20) dX12_put_14 (by decide) (fun c1 => ?_) (fun c1 => ?_)
    · refine v_aload_n dX12_put_20 rfl ?_
      refine v_getR dX12_put_21 fl_RX12_9 kd_68 (ltA hA0 rfl) rfl (hF 68 2 69 rfl) ?_
      refine v_aload_n dX12_put_24 rfl ?_
      refine v_getI dX12_put_25 fl_RX12_116 kd_68 (ltA hA0 rfl) rfl ?_
      refine v_iload_n dX12_put_28 rfl ?_
      refine v_iload_n dX12_put_29 rfl ?_
      refine v_ishr dX12_put_30 ?_
      refine v_i2b dX12_put_31 ?_
      refine v_bast dX12_put_32 kd_69 (ltA hA0 rfl) (hi_32 c0 c1) (pk_nb _) ?_
      refine v_aload_n dX12_put_33 rfl ?_
      refine v_dup dX12_put_34 rfl ?_
      refine v_getI dX12_put_35 fl_RX12_116 kd_68 (ltA hA0 rfl) rfl ?_
      refine v_iconst dX12_put_38 ci_1 ?_
      refine v_iadd dX12_put_39 ?_
      refine v_putI rfl rfl rfl dX12_put_40 fl_RX12_116 (Or.inl rfl) kd_68 (ltA hA0 rfl) ?_
      refine v_iinc (y := (x2 + (-8))) dX12_put_43 rfl rfl (by decide) (L' := [some (.ref 68), some (.int x1), some (.int (x2 + (-8)))]) rfl ?_
      refine v_goto (tgt := 3) dX12_put_46 (by decide) ?_
      exact (q c0 c1)
    · refine v_goto (tgt := 43) dX12_put_17 (by decide) ?_
      refine v_iinc (y := (x2 + (-8))) dX12_put_43 rfl rfl (by decide) (L' := [some (.ref 68), some (.int x1), some (.int (x2 + (-8)))]) rfl ?_
      refine v_goto (tgt := 3) dX12_put_46 (by decide) ?_
      exact (q_1 c0 c1)
theorem e_X12_feed {X : CX} {d nx sz : Nat} {Q : Option Value → AH → Prop} {h : AH} {x1 x2 x3 x4 x5 : Int32} (q : V X m_X12_feed (rm d 0 0) (ZM X Q nx sz 0 0) (nx, sz, 0, 0) 0 [some (.ref 68), some (.int x1), some (.int x2), some (.int x3), some (.int x4), some (.int x5)] [] h) : Mk X d m_X12_feed [.ref 68, .int x1, .int x2, .int x3, .int x4, .int x5] h nx sz Q := by
  refine Mok.ofV mo_X12_feed (Nat.le_of_ble_eq_true rfl) (L := [some (.ref 68), some (.int x1), some (.int x2), some (.int x3), some (.int x4), some (.int x5)]) (lvLe_s (lvLe_s (lvLe_s (lvLe_s (lvLe_s (lvLe_s lvLe_e)))))) (v_grow (n := 0) ?_)
  exact q
theorem c_X12_feed_0 {X : CX} {R : Room} {Z : ZX} {A : AX} {h : AH} {x1 x2 x3 x4 x5 : Int32} {d : Nat} {P10 : Int32 → AH → Prop} (hA0 : 91 ≤ A.1) (hR : RO R (d + 1)) (hcs : A.2.2.1 ≤ R.cells ∧ A.2.2.2 ≤ R.slots) (hM : Mk X d m_X12_bytesIn [.int x1] (setI h 68 0 0) A.1 A.2.1 (RI P10)) (q : ∀ (y : Int32) (g : AH), P10 y g → V X m_X12_feed R Z A 13 [some (.ref 68), some (.int x1), some (.int x2), some (.int x3), some (.int x4), some (.int x5)] [.int y, .int (h.1 68 7)] g) : V X m_X12_feed R Z A 0 [some (.ref 68), some (.int x1), some (.int x2), some (.int x3), some (.int x4), some (.int x5)] [] h := by
  refine v_aload_n dX12_feed_0 rfl ?_
  refine v_iconst dX12_feed_1 ci_0 ?_
  refine v_putI rfl rfl rfl dX12_feed_2 fl_RX12_103 (Or.inl rfl) kd_68 (ltA hA0 rfl) ?_
  refine v_aload_n dX12_feed_5 rfl ?_
  refine v_getI dX12_feed_6 fl_RX12_116 kd_68 (ltA hA0 rfl) rfl ?_
  refine v_iload_n dX12_feed_9 rfl ?_
  exact v_cSI (mt := m_X12_feed) mo_X12_bytesIn ml_RX12_118 mz_X12_bytesIn rfl hR hcs (Nat.le_of_ble_eq_true rfl) dX12_feed_10 rfl hM (fun y g hp => (q y g hp))
theorem c_X12_feed_13 {X : CX} {R : Room} {Z : ZX} {A : AX} {h : AH} {x1 x2 x3 x4 x5 s0 s1 : Int32} {d : Nat} {P15 : Int32 → AH → Prop} (hR : RO R (d + 1)) (hcs : A.2.2.1 ≤ R.cells ∧ A.2.2.2 ≤ R.slots) (hM : Mk X d m_X12_bytesIn [.int x2] h A.1 A.2.1 (RI P15)) (q : ∀ (y : Int32) (g : AH), P15 y g → V X m_X12_feed R Z A 18 [some (.ref 68), some (.int x1), some (.int x2), some (.int x3), some (.int x4), some (.int x5)] [.int y, .int (s0 + s1)] g) : V X m_X12_feed R Z A 13 [some (.ref 68), some (.int x1), some (.int x2), some (.int x3), some (.int x4), some (.int x5)] [.int s1, .int s0] h := by
  refine v_iadd dX12_feed_13 ?_
  refine v_iload_n dX12_feed_14 rfl ?_
  exact v_cSI (mt := m_X12_feed) mo_X12_bytesIn ml_RX12_118 mz_X12_bytesIn rfl hR hcs (Nat.le_of_ble_eq_true rfl) dX12_feed_15 rfl hM (fun y g hp => (q y g hp))
theorem c_X12_feed_18 {X : CX} {R : Room} {Z : ZX} {A : AX} {h : AH} {x1 x2 x3 x4 x5 s0 s1 : Int32} {d : Nat} {P20 : Int32 → AH → Prop} (hR : RO R (d + 1)) (hcs : A.2.2.1 ≤ R.cells ∧ A.2.2.2 ≤ R.slots) (hM : Mk X d m_X12_bytesIn [.int x3] h A.1 A.2.1 (RI P20)) (q : ∀ (y : Int32) (g : AH), P20 y g → V X m_X12_feed R Z A 23 [some (.ref 68), some (.int x1), some (.int x2), some (.int x3), some (.int x4), some (.int x5)] [.int y, .int (s0 + s1)] g) : V X m_X12_feed R Z A 18 [some (.ref 68), some (.int x1), some (.int x2), some (.int x3), some (.int x4), some (.int x5)] [.int s1, .int s0] h := by
  refine v_iadd dX12_feed_18 ?_
  refine v_iload_n dX12_feed_19 rfl ?_
  exact v_cSI (mt := m_X12_feed) mo_X12_bytesIn ml_RX12_118 mz_X12_bytesIn rfl hR hcs (Nat.le_of_ble_eq_true rfl) dX12_feed_20 rfl hM (fun y g hp => (q y g hp))
theorem c_X12_feed_23 {X : CX} {R : Room} {Z : ZX} {A : AX} {h : AH} {x1 x2 x3 x4 x5 s0 s1 : Int32} {d : Nat} {P26 : Int32 → AH → Prop} (hR : RO R (d + 1)) (hcs : A.2.2.1 ≤ R.cells ∧ A.2.2.2 ≤ R.slots) (hM : Mk X d m_X12_bytesIn [.int x4] h A.1 A.2.1 (RI P26)) (q : ∀ (y : Int32) (g : AH), P26 y g → V X m_X12_feed R Z A 29 [some (.ref 68), some (.int x1), some (.int x2), some (.int x3), some (.int x4), some (.int x5)] [.int y, .int (s0 + s1)] g) : V X m_X12_feed R Z A 23 [some (.ref 68), some (.int x1), some (.int x2), some (.int x3), some (.int x4), some (.int x5)] [.int s1, .int s0] h := by
  refine v_iadd dX12_feed_23 ?_
  refine v_iload dX12_feed_24 rfl ?_
  exact v_cSI (mt := m_X12_feed) mo_X12_bytesIn ml_RX12_118 mz_X12_bytesIn rfl hR hcs (Nat.le_of_ble_eq_true rfl) dX12_feed_26 rfl hM (fun y g hp => (q y g hp))
theorem c_X12_feed_29 {X : CX} {R : Room} {Z : ZX} {A : AX} {h : AH} {x1 x2 x3 x4 x5 s0 s1 : Int32} {d : Nat} {P32 : Int32 → AH → Prop} (hR : RO R (d + 1)) (hcs : A.2.2.1 ≤ R.cells ∧ A.2.2.2 ≤ R.slots) (hM : Mk X d m_X12_bytesIn [.int x5] h A.1 A.2.1 (RI P32)) (q : ∀ (y : Int32) (g : AH), P32 y g → V X m_X12_feed R Z A 35 [some (.ref 68), some (.int x1), some (.int x2), some (.int x3), some (.int x4), some (.int x5)] [.int y, .int (s0 + s1)] g) : V X m_X12_feed R Z A 29 [some (.ref 68), some (.int x1), some (.int x2), some (.int x3), some (.int x4), some (.int x5)] [.int s1, .int s0] h := by
  refine v_iadd dX12_feed_29 ?_
  refine v_iload dX12_feed_30 rfl ?_
  exact v_cSI (mt := m_X12_feed) mo_X12_bytesIn ml_RX12_118 mz_X12_bytesIn rfl hR hcs (Nat.le_of_ble_eq_true rfl) dX12_feed_32 rfl hM (fun y g hp => (q y g hp))
theorem c_X12_feed_35 {X : CX} {R : Room} {Q : Option Value → AH → Prop} {nx sz mc ms : Nat} {h : AH} {x1 x2 x3 x4 x5 s0 s1 : Int32} {d : Nat} {P46 : AH → Prop} (hA0 : 91 ≤ nx) (hR : RO R (d + 1)) (hcs : mc ≤ R.cells ∧ ms ≤ R.slots) (hM : (s0 + s1) ≤ 200 → Mk X d m_X12_put [.ref 68, .int x1] h nx sz (RV P46)) (q : (s0 + s1) ≤ 200 → ∀ (g : AH), P46 g → V X m_X12_feed R (ZM X Q nx sz mc ms) (nx, sz, mc, ms) 49 [some (.ref 68), none, some (.int x2), some (.int x3), some (.int x4), some (.int x5)] [] g) (hq : ¬ (s0 + s1) ≤ 200 → Q (some (.int (-1))) h) : V X m_X12_feed R (ZM X Q nx sz mc ms) (nx, sz, mc, ms) 35 [some (.ref 68), some (.int x1), some (.int x2), some (.int x3), some (.int x4), some (.int x5)] [.int s1, .int s0] h := by
  refine v_iadd dX12_feed_35 ?_
  refine v_sipush dX12_feed_36 cs_200 ?_
  refine v_icmp_le (tgt := 44) dX12_feed_39 (by decide) (fun c0 => ?_) (fun c0 => ?_)
  · refine v_aload_n dX12_feed_44 rfl ?_
    refine v_iload_n dX12_feed_45 rfl ?_
    exact v_cVV (mt := m_X12_feed) mo_X12_put ml_RX12_122 mi_X12_put mv_X12_put rfl kd_68 cl_12 rfl (ltA hA0 rfl) hR hcs (Nat.le_of_ble_eq_true rfl) dX12_feed_46 rfl (hM c0) (fun g hp => (v_drop (lvLe_s (lvLe_n (lvLe_s (lvLe_s (lvLe_s (lvLe_s lvLe_e)))))) ((q c0) g hp)))
  · refine v_iconst dX12_feed_42 ci_m1 ?_
    exact v_iret dX12_feed_43 rfl (hq c0)
theorem c_X12_feed_49 {X : CX} {R : Room} {Z : ZX} {A : AX} {h : AH} {x2 x3 x4 x5 : Int32} {d : Nat} {P51 : AH → Prop} (hA0 : 91 ≤ A.1) (hR : RO R (d + 1)) (hcs : A.2.2.1 ≤ R.cells ∧ A.2.2.2 ≤ R.slots) (hM : Mk X d m_X12_put [.ref 68, .int x2] h A.1 A.2.1 (RV P51)) (q : ∀ (g : AH), P51 g → V X m_X12_feed R Z A 54 [some (.ref 68), none, none, some (.int x3), some (.int x4), some (.int x5)] [] g) : V X m_X12_feed R Z A 49 [some (.ref 68), none, some (.int x2), some (.int x3), some (.int x4), some (.int x5)] [] h := by
  refine v_aload_n dX12_feed_49 rfl ?_
  refine v_iload_n dX12_feed_50 rfl ?_
  exact v_cVV (mt := m_X12_feed) mo_X12_put ml_RX12_122 mi_X12_put mv_X12_put rfl kd_68 cl_12 rfl (ltA hA0 rfl) hR hcs (Nat.le_of_ble_eq_true rfl) dX12_feed_51 rfl hM (fun g hp => (v_drop (lvLe_s (lvLe_n (lvLe_n (lvLe_s (lvLe_s (lvLe_s lvLe_e)))))) (q g hp)))
theorem c_X12_feed_54 {X : CX} {R : Room} {Z : ZX} {A : AX} {h : AH} {x3 x4 x5 : Int32} {d : Nat} {P56 : AH → Prop} (hA0 : 91 ≤ A.1) (hR : RO R (d + 1)) (hcs : A.2.2.1 ≤ R.cells ∧ A.2.2.2 ≤ R.slots) (hM : Mk X d m_X12_put [.ref 68, .int x3] h A.1 A.2.1 (RV P56)) (q : ∀ (g : AH), P56 g → V X m_X12_feed R Z A 59 [some (.ref 68), none, none, none, some (.int x4), some (.int x5)] [] g) : V X m_X12_feed R Z A 54 [some (.ref 68), none, none, some (.int x3), some (.int x4), some (.int x5)] [] h := by
  refine v_aload_n dX12_feed_54 rfl ?_
  refine v_iload_n dX12_feed_55 rfl ?_
  exact v_cVV (mt := m_X12_feed) mo_X12_put ml_RX12_122 mi_X12_put mv_X12_put rfl kd_68 cl_12 rfl (ltA hA0 rfl) hR hcs (Nat.le_of_ble_eq_true rfl) dX12_feed_56 rfl hM (fun g hp => (v_drop (lvLe_s (lvLe_n (lvLe_n (lvLe_n (lvLe_s (lvLe_s lvLe_e)))))) (q g hp)))
theorem c_X12_feed_59 {X : CX} {R : Room} {Z : ZX} {A : AX} {h : AH} {x4 x5 : Int32} {d : Nat} {P62 : AH → Prop} (hA0 : 91 ≤ A.1) (hR : RO R (d + 1)) (hcs : A.2.2.1 ≤ R.cells ∧ A.2.2.2 ≤ R.slots) (hM : Mk X d m_X12_put [.ref 68, .int x4] h A.1 A.2.1 (RV P62)) (q : ∀ (g : AH), P62 g → V X m_X12_feed R Z A 65 [some (.ref 68), none, none, none, none, some (.int x5)] [] g) : V X m_X12_feed R Z A 59 [some (.ref 68), none, none, none, some (.int x4), some (.int x5)] [] h := by
  refine v_aload_n dX12_feed_59 rfl ?_
  refine v_iload dX12_feed_60 rfl ?_
  exact v_cVV (mt := m_X12_feed) mo_X12_put ml_RX12_122 mi_X12_put mv_X12_put rfl kd_68 cl_12 rfl (ltA hA0 rfl) hR hcs (Nat.le_of_ble_eq_true rfl) dX12_feed_62 rfl hM (fun g hp => (v_drop (lvLe_s (lvLe_n (lvLe_n (lvLe_n (lvLe_n (lvLe_s lvLe_e)))))) (q g hp)))
theorem c_X12_feed_65 {X : CX} {R : Room} {Z : ZX} {A : AX} {h : AH} {x5 : Int32} {d : Nat} {P68 : AH → Prop} (hA0 : 91 ≤ A.1) (hR : RO R (d + 1)) (hcs : A.2.2.1 ≤ R.cells ∧ A.2.2.2 ≤ R.slots) (hM : Mk X d m_X12_put [.ref 68, .int x5] h A.1 A.2.1 (RV P68)) (q : ∀ (g : AH), P68 g → V X m_X12_feed R Z A 71 [some (.ref 68), none, none, none, none, none] [] g) : V X m_X12_feed R Z A 65 [some (.ref 68), none, none, none, none, some (.int x5)] [] h := by
  refine v_aload_n dX12_feed_65 rfl ?_
  refine v_iload dX12_feed_66 rfl ?_
  exact v_cVV (mt := m_X12_feed) mo_X12_put ml_RX12_122 mi_X12_put mv_X12_put rfl kd_68 cl_12 rfl (ltA hA0 rfl) hR hcs (Nat.le_of_ble_eq_true rfl) dX12_feed_68 rfl hM (fun g hp => (v_drop (lvLe_s (lvLe_n (lvLe_n (lvLe_n (lvLe_n (lvLe_n lvLe_e)))))) (q g hp)))
theorem c_X12_feed_71 {X : CX} {R : Room} {Q : Option Value → AH → Prop} {nx sz mc ms : Nat} {h : AH} (hA0 : 91 ≤ nx) (hq : Q (some (.int (h.1 68 7))) h) : V X m_X12_feed R (ZM X Q nx sz mc ms) (nx, sz, mc, ms) 71 [some (.ref 68), none, none, none, none, none] [] h := by
  refine v_aload_n dX12_feed_71 rfl ?_
  refine v_getI dX12_feed_72 fl_RX12_116 kd_68 (ltA hA0 rfl) rfl ?_
  exact v_iret dX12_feed_75 rfl hq
theorem e_X12_end {X : CX} {d nx sz : Nat} {Q : Option Value → AH → Prop} {h : AH} {x1 : Int32} (q : V X m_X12_end (rm d 0 0) (ZM X Q nx sz 0 0) (nx, sz, 0, 0) 0 [some (.ref 68), some (.int x1)] [] h) : Mk X d m_X12_end [.ref 68, .int x1] h nx sz Q := by
  refine Mok.ofV mo_X12_end (Nat.le_of_ble_eq_true rfl) (L := [some (.ref 68), some (.int x1)]) (lvLe_s (lvLe_s lvLe_e)) (v_grow (n := 0) ?_)
  exact q
theorem c_X12_end_0 {X : CX} {R : Room} {Q : Option Value → AH → Prop} {nx sz mc ms : Nat} {h : AH} {x1 : Int32} (hA0 : 91 ≤ nx) (hq : x1 < 0 → Q (some (.int 0)) (setI h 68 0 0)) (hq_1 : ¬ x1 < 0 → x1 ≤ (h.1 68 7) → Q (some (.int 1)) (setI (setI h 68 0 0) 68 7 x1)) (hq_2 : ¬ x1 < 0 → ¬ x1 ≤ (h.1 68 7) → Q (some (.int 0)) (setI h 68 0 0)) : V X m_X12_end R (ZM X Q nx sz mc ms) (nx, sz, mc, ms) 0 [some (.ref 68), some (.int x1)] [] h := by
  refine v_aload_n dX12_end_0 rfl ?_
  refine v_iconst dX12_end_1 ci_0 ?_
  refine v_putI rfl rfl rfl dX12_end_2 fl_RX12_103 (Or.inl rfl) kd_68 (ltA hA0 rfl) ?_
  refine v_iload_n dX12_end_5 rfl ?_
  refine v_if_lt (tgt := 17) dX12_end_6 (by decide) (fun c0 => ?_) (fun c0 => ?_)
  · refine v_iconst dX12_end_17 ci_0 ?_
    exact v_zret (ty := .boolean) dX12_end_18 rfl rfl (hq c0)
  · refine v_iload_n dX12_end_9 rfl ?_
    refine v_aload_n dX12_end_10 rfl ?_
    refine v_getI dX12_end_11 fl_RX12_116 kd_68 (ltA hA0 rfl) rfl ?_
    refine v_icmp_le (tgt := 19) dX12_end_14 (by decide) (fun c1 => ?_) (fun c1 => ?_)
    · refine v_aload_n dX12_end_19 rfl ?_
      refine v_iload_n dX12_end_20 rfl ?_
      refine v_putI rfl rfl rfl dX12_end_21 fl_RX12_116 (Or.inl rfl) kd_68 (ltA hA0 rfl) ?_
      refine v_iconst dX12_end_24 ci_1 ?_
      exact v_zret (ty := .boolean) dX12_end_25 rfl rfl (hq_1 c0 c1)
    · refine v_iconst dX12_end_17 ci_0 ?_
      exact v_zret (ty := .boolean) dX12_end_18 rfl rfl (hq_2 c0 c1)
theorem e_X12_look {X : CX} {d nx sz : Nat} {Q : Option Value → AH → Prop} {h : AH} (q : V X m_X12_look (rm d 0 0) (ZM X Q nx sz 0 0) (nx, sz, 0, 0) 0 [some (.ref 68)] [] h) : Mk X d m_X12_look [.ref 68] h nx sz Q := by
  refine Mok.ofV mo_X12_look (Nat.le_of_ble_eq_true rfl) (L := [some (.ref 68)]) (lvLe_s lvLe_e) (v_grow (n := 0) ?_)
  exact q
theorem c_X12_look_0 {X : CX} {R : Room} {Q : Option Value → AH → Prop} {nx sz mc ms : Nat} {h : AH} {rt n_rt : Nat} (hA0 : 91 ≤ nx) (hr_t : h.2.2 68 6 = some rt) (hk_rt : kd X rt = (21, n_rt)) (hl_rt : rt < nx) (hq : (h.1 68 10) ≤ (h.1 68 11) → (h.1 68 10) ≤ (h.1 68 11) → Q (some (.int (-1))) h) (hi_67 : (h.1 68 10) ≤ (h.1 68 11) → ¬ (h.1 68 10) ≤ (h.1 68 11) → vp_in ((h.1 68 9) + (h.1 68 11)) n_rt) (hq_1 : (h.1 68 10) ≤ (h.1 68 11) → ¬ (h.1 68 10) ≤ (h.1 68 11) → Q (some (.int ((h.1 rt ((h.1 68 9) + (h.1 68 11)).toNatClampNeg) &&& 255))) h) (hi_24 : ¬ (h.1 68 10) ≤ (h.1 68 11) → vp_in ((h.1 68 9) + (h.1 68 11)) n_rt) (hq_2 : ¬ (h.1 68 10) ≤ (h.1 68 11) → ¬ (h.1 rt ((h.1 68 9) + (h.1 68 11)).toNatClampNeg) = 32 → (h.1 68 10) ≤ (h.1 68 11) → Q (some (.int (-1))) h) (hi_67_1 : ¬ (h.1 68 10) ≤ (h.1 68 11) → ¬ (h.1 rt ((h.1 68 9) + (h.1 68 11)).toNatClampNeg) = 32 → ¬ (h.1 68 10) ≤ (h.1 68 11) → vp_in ((h.1 68 9) + (h.1 68 11)) n_rt) (hq_3 : ¬ (h.1 68 10) ≤ (h.1 68 11) → ¬ (h.1 rt ((h.1 68 9) + (h.1 68 11)).toNatClampNeg) = 32 → ¬ (h.1 68 10) ≤ (h.1 68 11) → Q (some (.int ((h.1 rt ((h.1 68 9) + (h.1 68 11)).toNatClampNeg) &&& 255))) h) (q : ¬ (h.1 68 10) ≤ (h.1 68 11) → (h.1 rt ((h.1 68 9) + (h.1 68 11)).toNatClampNeg) = 32 → V X m_X12_look R (ZM X Q nx sz mc ms) (nx, sz, mc, ms) 0 [some (.ref 68)] [] (setI h 68 11 ((h.1 68 11) + 1))) : V X m_X12_look R (ZM X Q nx sz mc ms) (nx, sz, mc, ms) 0 [some (.ref 68)] [] h := by
  refine v_aload_n dX12_look_0 rfl ?_
  refine v_getI dX12_look_1 fl_RX12_126 kd_68 (ltA hA0 rfl) rfl ?_
  refine v_aload_n dX12_look_4 rfl ?_
  refine v_getI dX12_look_5 fl_RX12_129 kd_68 (ltA hA0 rfl) rfl ?_
  refine v_icmp_ge (tgt := 43) dX12_look_8 (by decide) (fun c0 => ?_) (fun c0 => ?_)
  · refine v_aload_n dX12_look_43 rfl ?_
    refine v_getI dX12_look_44 fl_RX12_126 kd_68 (ltA hA0 rfl) rfl ?_
    refine v_aload_n dX12_look_47 rfl ?_
    refine v_getI dX12_look_48 fl_RX12_129 kd_68 (ltA hA0 rfl) rfl ?_
    refine v_icmp_ge (tgt := 75) dX12_look_51 (by decide) (fun c1 => ?_) (fun c1 => ?_)
    · refine v_iconst dX12_look_75 ci_m1 ?_
      exact v_iret dX12_look_76 rfl (hq c0 c1)
    · refine v_aload_n dX12_look_54 rfl ?_
      refine v_getR dX12_look_55 fl_RX12_23 kd_68 (ltA hA0 rfl) rfl hr_t ?_
      refine v_aload_n dX12_look_58 rfl ?_
      refine v_getI dX12_look_59 fl_RX12_132 kd_68 (ltA hA0 rfl) rfl ?_
      refine v_aload_n dX12_look_62 rfl ?_
      refine v_getI dX12_look_63 fl_RX12_126 kd_68 (ltA hA0 rfl) rfl ?_
      refine v_iadd dX12_look_66 ?_
      refine v_bald dX12_look_67 hk_rt hl_rt (hi_67 c0 c1) ?_
      refine v_sipush dX12_look_68 cs_255 ?_
      refine v_iand dX12_look_71 ?_
      refine v_goto (tgt := 76) dX12_look_72 (by decide) ?_
      exact v_iret dX12_look_76 rfl (hq_1 c0 c1)
  · refine v_aload_n dX12_look_11 rfl ?_
    refine v_getR dX12_look_12 fl_RX12_23 kd_68 (ltA hA0 rfl) rfl hr_t ?_
    refine v_aload_n dX12_look_15 rfl ?_
    refine v_getI dX12_look_16 fl_RX12_132 kd_68 (ltA hA0 rfl) rfl ?_
    refine v_aload_n dX12_look_19 rfl ?_
    refine v_getI dX12_look_20 fl_RX12_126 kd_68 (ltA hA0 rfl) rfl ?_
    refine v_iadd dX12_look_23 ?_
    refine v_bald dX12_look_24 hk_rt hl_rt (hi_24 c0) ?_
    refine v_bipush dX12_look_25 cb_32 ?_
    refine v_icmp_ne (tgt := 43) dX12_look_27 (by decide) (fun c1 => ?_) (fun c1 => ?_)
    · refine v_aload_n dX12_look_43 rfl ?_
      refine v_getI dX12_look_44 fl_RX12_126 kd_68 (ltA hA0 rfl) rfl ?_
      refine v_aload_n dX12_look_47 rfl ?_
      refine v_getI dX12_look_48 fl_RX12_129 kd_68 (ltA hA0 rfl) rfl ?_
      refine v_icmp_ge (tgt := 75) dX12_look_51 (by decide) (fun c2 => ?_) (fun c2 => ?_)
      · refine v_iconst dX12_look_75 ci_m1 ?_
        exact v_iret dX12_look_76 rfl (hq_2 c0 c1 c2)
      · refine v_aload_n dX12_look_54 rfl ?_
        refine v_getR dX12_look_55 fl_RX12_23 kd_68 (ltA hA0 rfl) rfl hr_t ?_
        refine v_aload_n dX12_look_58 rfl ?_
        refine v_getI dX12_look_59 fl_RX12_132 kd_68 (ltA hA0 rfl) rfl ?_
        refine v_aload_n dX12_look_62 rfl ?_
        refine v_getI dX12_look_63 fl_RX12_126 kd_68 (ltA hA0 rfl) rfl ?_
        refine v_iadd dX12_look_66 ?_
        refine v_bald dX12_look_67 hk_rt hl_rt (hi_67_1 c0 c1 c2) ?_
        refine v_sipush dX12_look_68 cs_255 ?_
        refine v_iand dX12_look_71 ?_
        refine v_goto (tgt := 76) dX12_look_72 (by decide) ?_
        exact v_iret dX12_look_76 rfl (hq_3 c0 c1 c2)
    · refine v_aload_n dX12_look_30 rfl ?_
      refine v_dup dX12_look_31 rfl ?_
      refine v_getI dX12_look_32 fl_RX12_126 kd_68 (ltA hA0 rfl) rfl ?_
      refine v_iconst dX12_look_35 ci_1 ?_
      refine v_iadd dX12_look_36 ?_
      refine v_putI rfl rfl rfl dX12_look_37 fl_RX12_126 (Or.inl rfl) kd_68 (ltA hA0 rfl) ?_
      refine v_goto (tgt := 0) dX12_look_40 (by decide) ?_
      exact (q c0 c1)
theorem e_X12_fails {X : CX} {d nx sz : Nat} {Q : Option Value → AH → Prop} {h : AH} (q : V X m_X12_fails (rm d 0 0) (ZM X Q nx sz 0 0) (nx, sz, 0, 0) 0 [some (.ref 68)] [] h) : Mk X d m_X12_fails [.ref 68] h nx sz Q := by
  refine Mok.ofV mo_X12_fails (Nat.le_of_ble_eq_true rfl) (L := [some (.ref 68)]) (lvLe_s lvLe_e) (v_grow (n := 0) ?_)
  exact q
theorem c_X12_fails_0 {X : CX} {R : Room} {Q : Option Value → AH → Prop} {nx sz mc ms : Nat} {h : AH} (hA0 : 91 ≤ nx) (hq : ¬ (h.1 68 12) = (-1) → Q (some (.int 0)) h) (hq_1 : (h.1 68 12) = (-1) → Q (some (.int 0)) (setI h 68 12 (h.1 68 11))) : V X m_X12_fails R (ZM X Q nx sz mc ms) (nx, sz, mc, ms) 0 [some (.ref 68)] [] h := by
  refine v_aload_n dX12_fails_0 rfl ?_
  refine v_getI dX12_fails_1 fl_RX12_135 kd_68 (ltA hA0 rfl) rfl ?_
  refine v_iconst dX12_fails_4 ci_m1 ?_
  refine v_icmp_ne (tgt := 16) dX12_fails_5 (by decide) (fun c0 => ?_) (fun c0 => ?_)
  · refine v_iconst dX12_fails_16 ci_0 ?_
    exact v_zret (ty := .boolean) dX12_fails_17 rfl rfl (hq c0)
  · refine v_aload_n dX12_fails_8 rfl ?_
    refine v_aload_n dX12_fails_9 rfl ?_
    refine v_getI dX12_fails_10 fl_RX12_126 kd_68 (ltA hA0 rfl) rfl ?_
    refine v_putI rfl rfl rfl dX12_fails_13 fl_RX12_135 (Or.inl rfl) kd_68 (ltA hA0 rfl) ?_
    refine v_iconst dX12_fails_16 ci_0 ?_
    exact v_zret (ty := .boolean) dX12_fails_17 rfl rfl (hq_1 c0)
theorem e_X12_goesIn {X : CX} {d nx sz : Nat} {Q : Option Value → AH → Prop} {h : AH} (q : V X m_X12_goesIn (rm d 0 0) (ZM X Q nx sz 0 0) (nx, sz, 0, 0) 0 [some (.ref 68)] [] h) : Mk X d m_X12_goesIn [.ref 68] h nx sz Q := by
  refine Mok.ofV mo_X12_goesIn (Nat.le_of_ble_eq_true rfl) (L := [some (.ref 68)]) (lvLe_s lvLe_e) (v_grow (n := 0) ?_)
  exact q
theorem c_X12_goesIn_0 {X : CX} {R : Room} {Q : Option Value → AH → Prop} {nx sz mc ms : Nat} {h : AH} {d : Nat} {P10 : Int32 → AH → Prop} (hA0 : 91 ≤ nx) (hR : RO R (d + 1)) (hcs : mc ≤ R.cells ∧ ms ≤ R.slots) (hq : ¬ (h.1 68 13) = 6 → Q (some (.int 1)) (setI (setI h 68 13 ((h.1 68 13) + 1)) 68 11 ((h.1 68 11) + 1))) (hM : (h.1 68 13) = 6 → Mk X d m_X12_fails [.ref 68] h nx sz (RI P10)) (q : (h.1 68 13) = 6 → ∀ (y : Int32) (g : AH), P10 y g → V X m_X12_goesIn R (ZM X Q nx sz mc ms) (nx, sz, mc, ms) 13 [none] [.int y] g) : V X m_X12_goesIn R (ZM X Q nx sz mc ms) (nx, sz, mc, ms) 0 [some (.ref 68)] [] h := by
  refine v_aload_n dX12_goesIn_0 rfl ?_
  refine v_getI dX12_goesIn_1 fl_RX12_138 kd_68 (ltA hA0 rfl) rfl ?_
  refine v_bipush dX12_goesIn_4 cb_6 ?_
  refine v_icmp_ne (tgt := 14) dX12_goesIn_6 (by decide) (fun c0 => ?_) (fun c0 => ?_)
  · refine v_aload_n dX12_goesIn_14 rfl ?_
    refine v_dup dX12_goesIn_15 rfl ?_
    refine v_getI dX12_goesIn_16 fl_RX12_138 kd_68 (ltA hA0 rfl) rfl ?_
    refine v_iconst dX12_goesIn_19 ci_1 ?_
    refine v_iadd dX12_goesIn_20 ?_
    refine v_putI rfl rfl rfl dX12_goesIn_21 fl_RX12_138 (Or.inl rfl) kd_68 (ltA hA0 rfl) ?_
    refine v_aload_n dX12_goesIn_24 rfl ?_
    refine v_dup dX12_goesIn_25 rfl ?_
    refine v_getI dX12_goesIn_26 fl_RX12_126 kd_68 (ltA hA0 rfl) rfl ?_
    refine v_iconst dX12_goesIn_29 ci_1 ?_
    refine v_iadd dX12_goesIn_30 ?_
    refine v_putI rfl rfl rfl dX12_goesIn_31 fl_RX12_126 (Or.inl rfl) kd_68 (ltA hA0 rfl) ?_
    refine v_iconst dX12_goesIn_34 ci_1 ?_
    exact v_zret (ty := .boolean) dX12_goesIn_35 rfl rfl (hq c0)
  · refine v_aload_n dX12_goesIn_9 rfl ?_
    exact v_cVI (mt := m_X12_goesIn) mo_X12_fails ml_RX12_141 mi_X12_fails mv_X12_fails rfl kd_68 cl_12 rfl (ltA hA0 rfl) hR hcs (Nat.le_of_ble_eq_true rfl) dX12_goesIn_10 rfl (hM c0) (fun y g hp => (v_drop (lvLe_n lvLe_e) ((q c0) y g hp)))
theorem c_X12_goesIn_13 {X : CX} {R : Room} {Q : Option Value → AH → Prop} {nx sz mc ms : Nat} {h : AH} {s0 : Int32} (hq : Q (some (.int s0)) h) (hb_13 : narrow .boolean (.int s0) = .int s0) : V X m_X12_goesIn R (ZM X Q nx sz mc ms) (nx, sz, mc, ms) 13 [none] [.int s0] h := by
  exact v_zret (ty := .boolean) dX12_goesIn_13 rfl hb_13 hq
theorem e_X12_takes {X : CX} {d nx sz : Nat} {Q : Option Value → AH → Prop} {h : AH} {x1 : Int32} (q : V X m_X12_takes (rm d 0 0) (ZM X Q nx sz 0 0) (nx, sz, 0, 0) 0 [some (.ref 68), some (.int x1)] [] h) : Mk X d m_X12_takes [.ref 68, .int x1] h nx sz Q := by
  refine Mok.ofV mo_X12_takes (Nat.le_of_ble_eq_true rfl) (L := [some (.ref 68), some (.int x1)]) (lvLe_s (lvLe_s lvLe_e)) (v_grow (n := 0) ?_)
  exact q
theorem c_X12_takes_0 {X : CX} {R : Room} {Z : ZX} {A : AX} {h : AH} {x1 : Int32} {d : Nat} {P17 P9 : Int32 → AH → Prop} (hA0 : 91 ≤ A.1) (hR : RO R (d + 1)) (hcs : A.2.2.1 ≤ R.cells ∧ A.2.2.2 ≤ R.slots) (hM : ¬ (h.1 68 12) = (-1) → Mk X d m_X12_fails [.ref 68] h A.1 A.2.1 (RI P17)) (q : ¬ (h.1 68 12) = (-1) → ∀ (y : Int32) (g : AH), P17 y g → V X m_X12_takes R Z A 20 [none, none] [.int y] g) (hM_1 : (h.1 68 12) = (-1) → Mk X d m_X12_look [.ref 68] h A.1 A.2.1 (RI P9)) (q_1 : (h.1 68 12) = (-1) → ∀ (y : Int32) (g : AH), P9 y g → V X m_X12_takes R Z A 12 [some (.ref 68), some (.int x1)] [.int y] g) : V X m_X12_takes R Z A 0 [some (.ref 68), some (.int x1)] [] h := by
  refine v_aload_n dX12_takes_0 rfl ?_
  refine v_getI dX12_takes_1 fl_RX12_135 kd_68 (ltA hA0 rfl) rfl ?_
  refine v_iconst dX12_takes_4 ci_m1 ?_
  refine v_icmp_ne (tgt := 16) dX12_takes_5 (by decide) (fun c0 => ?_) (fun c0 => ?_)
  · refine v_aload_n dX12_takes_16 rfl ?_
    exact v_cVI (mt := m_X12_takes) mo_X12_fails ml_RX12_141 mi_X12_fails mv_X12_fails rfl kd_68 cl_12 rfl (ltA hA0 rfl) hR hcs (Nat.le_of_ble_eq_true rfl) dX12_takes_17 rfl (hM c0) (fun y g hp => (v_drop (lvLe_n (lvLe_n lvLe_e)) ((q c0) y g hp)))
  · refine v_aload_n dX12_takes_8 rfl ?_
    exact v_cVI (mt := m_X12_takes) mo_X12_look ml_RX12_145 mi_X12_look mv_X12_look rfl kd_68 cl_12 rfl (ltA hA0 rfl) hR hcs (Nat.le_of_ble_eq_true rfl) dX12_takes_9 rfl (hM_1 c0) (fun y g hp => ((q_1 c0) y g hp))
theorem c_X12_takes_12 {X : CX} {R : Room} {Q : Option Value → AH → Prop} {nx sz mc ms : Nat} {h : AH} {x1 s0 : Int32} {d : Nat} {P17 : Int32 → AH → Prop} (hA0 : 91 ≤ nx) (hR : RO R (d + 1)) (hcs : mc ≤ R.cells ∧ ms ≤ R.slots) (hq : s0 = x1 → Q (some (.int 1)) (setI h 68 11 ((h.1 68 11) + 1))) (hM : ¬ s0 = x1 → Mk X d m_X12_fails [.ref 68] h nx sz (RI P17)) (q : ¬ s0 = x1 → ∀ (y : Int32) (g : AH), P17 y g → V X m_X12_takes R (ZM X Q nx sz mc ms) (nx, sz, mc, ms) 20 [none, none] [.int y] g) : V X m_X12_takes R (ZM X Q nx sz mc ms) (nx, sz, mc, ms) 12 [some (.ref 68), some (.int x1)] [.int s0] h := by
  refine v_iload_n dX12_takes_12 rfl ?_
  refine v_icmp_eq (tgt := 21) dX12_takes_13 (by decide) (fun c0 => ?_) (fun c0 => ?_)
  · refine v_aload_n dX12_takes_21 rfl ?_
    refine v_dup dX12_takes_22 rfl ?_
    refine v_getI dX12_takes_23 fl_RX12_126 kd_68 (ltA hA0 rfl) rfl ?_
    refine v_iconst dX12_takes_26 ci_1 ?_
    refine v_iadd dX12_takes_27 ?_
    refine v_putI rfl rfl rfl dX12_takes_28 fl_RX12_126 (Or.inl rfl) kd_68 (ltA hA0 rfl) ?_
    refine v_iconst dX12_takes_31 ci_1 ?_
    exact v_zret (ty := .boolean) dX12_takes_32 rfl rfl (hq c0)
  · refine v_aload_n dX12_takes_16 rfl ?_
    exact v_cVI (mt := m_X12_takes) mo_X12_fails ml_RX12_141 mi_X12_fails mv_X12_fails rfl kd_68 cl_12 rfl (ltA hA0 rfl) hR hcs (Nat.le_of_ble_eq_true rfl) dX12_takes_17 rfl (hM c0) (fun y g hp => (v_drop (lvLe_n (lvLe_n lvLe_e)) ((q c0) y g hp)))
theorem c_X12_takes_20 {X : CX} {R : Room} {Q : Option Value → AH → Prop} {nx sz mc ms : Nat} {h : AH} {s0 : Int32} (hq : Q (some (.int s0)) h) (hb_20 : narrow .boolean (.int s0) = .int s0) : V X m_X12_takes R (ZM X Q nx sz mc ms) (nx, sz, mc, ms) 20 [none, none] [.int s0] h := by
  exact v_zret (ty := .boolean) dX12_takes_20 rfl hb_20 hq
theorem e_X12_isDigit {X : CX} {d nx sz : Nat} {Q : Option Value → AH → Prop} {h : AH} (q : V X m_X12_isDigit (rm d 0 0) (ZM X Q nx sz 0 0) (nx, sz, 0, 0) 0 [some (.ref 68)] [] h) : Mk X d m_X12_isDigit [.ref 68] h nx sz Q := by
  refine Mok.ofV mo_X12_isDigit (Nat.le_of_ble_eq_true rfl) (L := [some (.ref 68)]) (lvLe_s lvLe_e) (v_grow (n := 0) ?_)
  exact q
theorem c_X12_isDigit_0 {X : CX} {R : Room} {Q : Option Value → AH → Prop} {nx sz mc ms : Nat} {h : AH} {rt n_rt : Nat} (hA0 : 91 ≤ nx) (hr_t : h.2.2 68 6 = some rt) (hk_rt : kd X rt = (21, n_rt)) (hl_rt : rt < nx) (hq : (h.1 68 10) ≤ (h.1 68 11) → Q (some (.int 0)) h) (hi_24 : ¬ (h.1 68 10) ≤ (h.1 68 11) → vp_in ((h.1 68 9) + (h.1 68 11)) n_rt) (hq_1 : ¬ (h.1 68 10) ≤ (h.1 68 11) → (h.1 rt ((h.1 68 9) + (h.1 68 11)).toNatClampNeg) < 48 → Q (some (.int 0)) h) (hi_43 : ¬ (h.1 68 10) ≤ (h.1 68 11) → ¬ (h.1 rt ((h.1 68 9) + (h.1 68 11)).toNatClampNeg) < 48 → vp_in ((h.1 68 9) + (h.1 68 11)) n_rt) (hq_2 : ¬ (h.1 68 10) ≤ (h.1 68 11) → ¬ (h.1 rt ((h.1 68 9) + (h.1 68 11)).toNatClampNeg) < 48 → 57 < (h.1 rt ((h.1 68 9) + (h.1 68 11)).toNatClampNeg) → Q (some (.int 0)) h) (hq_3 : ¬ (h.1 68 10) ≤ (h.1 68 11) → ¬ (h.1 rt ((h.1 68 9) + (h.1 68 11)).toNatClampNeg) < 48 → ¬ 57 < (h.1 rt ((h.1 68 9) + (h.1 68 11)).toNatClampNeg) → Q (some (.int 1)) h) : V X m_X12_isDigit R (ZM X Q nx sz mc ms) (nx, sz, mc, ms) 0 [some (.ref 68)] [] h := by
  refine v_aload_n dX12_isDigit_0 rfl ?_
  refine v_getI dX12_isDigit_1 fl_RX12_126 kd_68 (ltA hA0 rfl) rfl ?_
  refine v_aload_n dX12_isDigit_4 rfl ?_
  refine v_getI dX12_isDigit_5 fl_RX12_129 kd_68 (ltA hA0 rfl) rfl ?_
  refine v_icmp_ge (tgt := 53) dX12_isDigit_8 (by decide) (fun c0 => ?_) (fun c0 => ?_)
  · refine v_iconst dX12_isDigit_53 ci_0 ?_
    exact v_zret (ty := .boolean) dX12_isDigit_54 rfl rfl (hq c0)
  · refine v_aload_n dX12_isDigit_11 rfl ?_
    refine v_getR dX12_isDigit_12 fl_RX12_23 kd_68 (ltA hA0 rfl) rfl hr_t ?_
    refine v_aload_n dX12_isDigit_15 rfl ?_
    refine v_getI dX12_isDigit_16 fl_RX12_132 kd_68 (ltA hA0 rfl) rfl ?_
    refine v_aload_n dX12_isDigit_19 rfl ?_
    refine v_getI dX12_isDigit_20 fl_RX12_126 kd_68 (ltA hA0 rfl) rfl ?_
    refine v_iadd dX12_isDigit_23 ?_
    refine v_bald dX12_isDigit_24 hk_rt hl_rt (hi_24 c0) ?_
    refine v_bipush dX12_isDigit_25 cb_48 ?_
    refine v_icmp_lt (tgt := 53) dX12_isDigit_27 (by decide) (fun c1 => ?_) (fun c1 => ?_)
    · refine v_iconst dX12_isDigit_53 ci_0 ?_
      exact v_zret (ty := .boolean) dX12_isDigit_54 rfl rfl (hq_1 c0 c1)
    · refine v_aload_n dX12_isDigit_30 rfl ?_
      refine v_getR dX12_isDigit_31 fl_RX12_23 kd_68 (ltA hA0 rfl) rfl hr_t ?_
      refine v_aload_n dX12_isDigit_34 rfl ?_
      refine v_getI dX12_isDigit_35 fl_RX12_132 kd_68 (ltA hA0 rfl) rfl ?_
      refine v_aload_n dX12_isDigit_38 rfl ?_
      refine v_getI dX12_isDigit_39 fl_RX12_126 kd_68 (ltA hA0 rfl) rfl ?_
      refine v_iadd dX12_isDigit_42 ?_
      refine v_bald dX12_isDigit_43 hk_rt hl_rt (hi_43 c0 c1) ?_
      refine v_bipush dX12_isDigit_44 cb_57 ?_
      refine v_icmp_gt (tgt := 53) dX12_isDigit_46 (by decide) (fun c2 => ?_) (fun c2 => ?_)
      · refine v_iconst dX12_isDigit_53 ci_0 ?_
        exact v_zret (ty := .boolean) dX12_isDigit_54 rfl rfl (hq_2 c0 c1 c2)
      · refine v_iconst dX12_isDigit_49 ci_1 ?_
        refine v_goto (tgt := 54) dX12_isDigit_50 (by decide) ?_
        exact v_zret (ty := .boolean) dX12_isDigit_54 rfl rfl (hq_3 c0 c1 c2)
theorem e_X12_within {X : CX} {d nx sz : Nat} {Q : Option Value → AH → Prop} {h : AH} {j0 : Int64} (q : V X m_X12_within (rm d 0 0) (ZM X Q nx sz 0 0) (nx, sz, 0, 0) 0 [some (.long j0), none] [] h) : Mk X d m_X12_within [.long j0] h nx sz Q := by
  refine Mok.ofV mo_X12_within (Nat.le_of_ble_eq_true rfl) (L := [some (.long j0), none]) (lvLe_s (lvLe_n lvLe_e)) (v_grow (n := 0) ?_)
  exact q
theorem c_X12_within_0 {X : CX} {R : Room} {Q : Option Value → AH → Prop} {nx sz mc ms : Nat} {h : AH} {j0 : Int64} {d : Nat} (hR : RO R (d + 1)) (hcs : mc ≤ R.cells ∧ ms ≤ R.slots) (hq : Q (some (.int (((if (if j0 < 1000000 then j0 else 1000000) < (-1000000) then (-1000000) else (if j0 < 1000000 then j0 else 1000000)) : Int64).toInt32))) h) : V X m_X12_within R (ZM X Q nx sz mc ms) (nx, sz, mc, ms) 0 [some (.long j0), none] [] h := by
  refine v_ldc2 dX12_within_0 kl_RX12_148 ?_
  refine v_ldc2 dX12_within_3 kl_RX12_150 ?_
  refine v_lload_n dX12_within_6 rfl ?_
  refine v_mminl dX12_within_7 ml_RX12_152 mz_mminl in_math mc_mminl (RO_1 hR) hcs (Nat.le_of_ble_eq_true rfl) ?_
  refine v_mmaxl dX12_within_10 ml_RX12_155 mz_mmaxl in_math mc_mmaxl (RO_1 hR) hcs (Nat.le_of_ble_eq_true rfl) ?_
  refine v_l2i dX12_within_13 ?_
  exact v_iret dX12_within_14 rfl hq
theorem e_X12_atom {X : CX} {d nx sz : Nat} {Q : Option Value → AH → Prop} {h : AH} (q : V X m_X12_atom (rm d 0 0) (ZM X Q nx sz 0 0) (nx, sz, 0, 0) 0 [some (.ref 68), none, none, none] [] h) : Mk X d m_X12_atom [.ref 68] h nx sz Q := by
  refine Mok.ofV mo_X12_atom (Nat.le_of_ble_eq_true rfl) (L := [some (.ref 68)]) (lvLe_s lvLe_e) (v_grow (n := 3) ?_)
  exact q
theorem c_X12_atom_0 {X : CX} {R : Room} {Z : ZX} {A : AX} {h : AH} {d : Nat} {P1 : Int32 → AH → Prop} (hA0 : 91 ≤ A.1) (hR : RO R (d + 1)) (hcs : A.2.2.1 ≤ R.cells ∧ A.2.2.2 ≤ R.slots) (hM : Mk X d m_X12_look [.ref 68] h A.1 A.2.1 (RI P1)) (q : ∀ (y : Int32) (g : AH), P1 y g → V X m_X12_atom R Z A 4 [some (.ref 68), none, none, none] [.int y] g) : V X m_X12_atom R Z A 0 [some (.ref 68), none, none, none] [] h := by
  refine v_aload_n dX12_atom_0 rfl ?_
  exact v_cVI (mt := m_X12_atom) mo_X12_look ml_RX12_145 mi_X12_look mv_X12_look rfl kd_68 cl_12 rfl (ltA hA0 rfl) hR hcs (Nat.le_of_ble_eq_true rfl) dX12_atom_1 rfl hM (fun y g hp => (q y g hp))
theorem c_X12_atom_4 {X : CX} {R : Room} {Z : ZX} {A : AX} {h : AH} {s0 : Int32} {d : Nat} {P8 : Int32 → AH → Prop} (hR : RO R (d + 1)) (hcs : A.2.2.1 ≤ R.cells ∧ A.2.2.2 ≤ R.slots) (hM : Mk X d m_X12_isAmong [.ref (10000 + 0), .int s0] h A.1 A.2.1 (RI P8)) (q : ∀ (y : Int32) (g : AH), P8 y g → V X m_X12_atom R Z A 11 [some (.ref 68), some (.int s0), none, none] [.int y] g) : V X m_X12_atom R Z A 4 [some (.ref 68), none, none, none] [.int s0] h := by
  refine v_istore_n dX12_atom_4 (by decide) (L' := [some (.ref 68), some (.int s0), none, none]) rfl ?_
  refine v_ldcs (k := 0) dX12_atom_5 (List.mem_of_getElem? (i := 1) rfl) ?_
  refine v_iload_n dX12_atom_7 rfl ?_
  exact v_cSI (mt := m_X12_atom) mo_X12_isAmong ml_RX12_157 mz_X12_isAmong rfl hR hcs (Nat.le_of_ble_eq_true rfl) dX12_atom_8 rfl hM (fun y g hp => (q y g hp))
theorem c_X12_atom_11 {X : CX} {R : Room} {Q : Option Value → AH → Prop} {nx sz mc ms : Nat} {h : AH} {x1 s0 : Int32} {d : Nat} {P75 P38 : Int32 → AH → Prop} (hA0 : 91 ≤ nx) (hF : Fx h) (hR : RO R (d + 1)) (hcs : mc ≤ R.cells ∧ ms ≤ R.slots) (hM : s0 = 0 → ¬ x1 = 91 → Mk X d m_X12_isDigit [.ref 68] h nx sz (RI P75)) (q : s0 = 0 → ¬ x1 = 91 → ∀ (y : Int32) (g : AH), P75 y g → V X m_X12_atom R (ZM X Q nx sz mc ms) (nx, sz, mc, ms) 78 [some (.ref 68), none, none, none] [.int y] g) (hM_1 : s0 = 0 → x1 = 91 → Mk X d m_X12_goesIn [.ref 68] h nx sz (RI P38)) (q_1 : s0 = 0 → x1 = 91 → ∀ (y : Int32) (g : AH), P38 y g → V X m_X12_atom R (ZM X Q nx sz mc ms) (nx, sz, mc, ms) 41 [some (.ref 68), none, none, none] [.int y] g) (hi_29 : ¬ s0 = 0 → vp_in x1 128) (hq : ¬ s0 = 0 → Q (some (.int (h.1 72 x1.toNatClampNeg))) (setI h 68 11 ((h.1 68 11) + 1))) : V X m_X12_atom R (ZM X Q nx sz mc ms) (nx, sz, mc, ms) 11 [some (.ref 68), some (.int x1), none, none] [.int s0] h := by
  refine v_if_eq (tgt := 31) dX12_atom_11 (by decide) (fun c0 => ?_) (fun c0 => ?_)
  · refine v_iload_n dX12_atom_31 rfl ?_
    refine v_bipush dX12_atom_32 cb_91 ?_
    refine v_icmp_ne (tgt := 74) dX12_atom_34 (by decide) (fun c1 => ?_) (fun c1 => ?_)
    · refine v_aload_n dX12_atom_74 rfl ?_
      exact v_cVI (mt := m_X12_atom) mo_X12_isDigit ml_RX12_171 mi_X12_isDigit mv_X12_isDigit rfl kd_68 cl_12 rfl (ltA hA0 rfl) hR hcs (Nat.le_of_ble_eq_true rfl) dX12_atom_75 rfl (hM c0 c1) (fun y g hp => (v_drop (lvLe_s (lvLe_n (lvLe_n (lvLe_n lvLe_e)))) ((q c0 c1) y g hp)))
    · refine v_aload_n dX12_atom_37 rfl ?_
      exact v_cVI (mt := m_X12_atom) mo_X12_goesIn ml_RX12_161 mi_X12_goesIn mv_X12_goesIn rfl kd_68 cl_12 rfl (ltA hA0 rfl) hR hcs (Nat.le_of_ble_eq_true rfl) dX12_atom_38 rfl (hM_1 c0 c1) (fun y g hp => (v_drop (lvLe_s (lvLe_n (lvLe_n (lvLe_n lvLe_e)))) ((q_1 c0 c1) y g hp)))
  · refine v_aload_n dX12_atom_14 rfl ?_
    refine v_dup dX12_atom_15 rfl ?_
    refine v_getI dX12_atom_16 fl_RX12_126 kd_68 (ltA hA0 rfl) rfl ?_
    refine v_iconst dX12_atom_19 ci_1 ?_
    refine v_iadd dX12_atom_20 ?_
    refine v_putI rfl rfl rfl dX12_atom_21 fl_RX12_126 (Or.inl rfl) kd_68 (ltA hA0 rfl) ?_
    refine v_aload_n dX12_atom_24 rfl ?_
    refine v_getR dX12_atom_25 fl_RX12_20 kd_68 (ltA hA0 rfl) rfl (hF 68 5 72 rfl) ?_
    refine v_iload_n dX12_atom_28 rfl ?_
    refine v_iald dX12_atom_29 kd_72 (ltA hA0 rfl) (hi_29 c0) ?_
    exact v_iret dX12_atom_30 rfl (hq c0)
theorem c_X12_atom_41 {X : CX} {R : Room} {Q : Option Value → AH → Prop} {nx sz mc ms : Nat} {h : AH} {s0 : Int32} {d : Nat} {P47 : Int32 → AH → Prop} (hA0 : 91 ≤ nx) (hR : RO R (d + 1)) (hcs : mc ≤ R.cells ∧ ms ≤ R.slots) (hM : ¬ s0 = 0 → Mk X d m_X12_sum [.ref 68] h nx sz (RI P47)) (q : ¬ s0 = 0 → ∀ (y : Int32) (g : AH), P47 y g → V X m_X12_atom R (ZM X Q nx sz mc ms) (nx, sz, mc, ms) 50 [some (.ref 68), none, none, none] [.int y] g) (hq : s0 = 0 → Q (some (.int 0)) h) : V X m_X12_atom R (ZM X Q nx sz mc ms) (nx, sz, mc, ms) 41 [some (.ref 68), none, none, none] [.int s0] h := by
  refine v_if_ne (tgt := 46) dX12_atom_41 (by decide) (fun c0 => ?_) (fun c0 => ?_)
  · refine v_aload_n dX12_atom_46 rfl ?_
    exact v_cVI (mt := m_X12_atom) mo_X12_sum ml_RX12_164 mi_X12_sum mv_X12_sum rfl kd_68 cl_12 rfl (ltA hA0 rfl) hR hcs (Nat.le_of_ble_eq_true rfl) dX12_atom_47 rfl (hM c0) (fun y g hp => ((q c0) y g hp))
  · refine v_iconst dX12_atom_44 ci_0 ?_
    exact v_iret dX12_atom_45 rfl (hq c0)
theorem c_X12_atom_50 {X : CX} {R : Room} {Z : ZX} {A : AX} {h : AH} {s0 : Int32} {d : Nat} {P54 : Int32 → AH → Prop} (hA0 : 91 ≤ A.1) (hR : RO R (d + 1)) (hcs : A.2.2.1 ≤ R.cells ∧ A.2.2.2 ≤ R.slots) (hM : Mk X d m_X12_takes [.ref 68, .int 93] h A.1 A.2.1 (RI P54)) (q : ∀ (y : Int32) (g : AH), P54 y g → V X m_X12_atom R Z A 57 [some (.ref 68), none, some (.int s0), none] [.int y] g) : V X m_X12_atom R Z A 50 [some (.ref 68), none, none, none] [.int s0] h := by
  refine v_istore_n dX12_atom_50 (by decide) (L' := [some (.ref 68), none, some (.int s0), none]) rfl ?_
  refine v_aload_n dX12_atom_51 rfl ?_
  refine v_bipush dX12_atom_52 cb_93 ?_
  exact v_cVI (mt := m_X12_atom) mo_X12_takes ml_RX12_167 mi_X12_takes mv_X12_takes rfl kd_68 cl_12 rfl (ltA hA0 rfl) hR hcs (Nat.le_of_ble_eq_true rfl) dX12_atom_54 rfl hM (fun y g hp => (q y g hp))
theorem c_X12_atom_57 {X : CX} {R : Room} {Q : Option Value → AH → Prop} {nx sz mc ms : Nat} {h : AH} {x2 s0 : Int32} (hA0 : 91 ≤ nx) (hq : ¬ s0 = 0 → Q (some (.int x2)) (setI h 68 13 ((h.1 68 13) - 1))) (hq_1 : s0 = 0 → Q (some (.int 0)) h) : V X m_X12_atom R (ZM X Q nx sz mc ms) (nx, sz, mc, ms) 57 [some (.ref 68), none, some (.int x2), none] [.int s0] h := by
  refine v_if_ne (tgt := 62) dX12_atom_57 (by decide) (fun c0 => ?_) (fun c0 => ?_)
  · refine v_aload_n dX12_atom_62 rfl ?_
    refine v_dup dX12_atom_63 rfl ?_
    refine v_getI dX12_atom_64 fl_RX12_138 kd_68 (ltA hA0 rfl) rfl ?_
    refine v_iconst dX12_atom_67 ci_1 ?_
    refine v_isub dX12_atom_68 ?_
    refine v_putI rfl rfl rfl dX12_atom_69 fl_RX12_138 (Or.inl rfl) kd_68 (ltA hA0 rfl) ?_
    refine v_iload_n dX12_atom_72 rfl ?_
    exact v_iret dX12_atom_73 rfl (hq c0)
  · refine v_iconst dX12_atom_60 ci_0 ?_
    exact v_iret dX12_atom_61 rfl (hq_1 c0)
theorem c_X12_atom_78 {X : CX} {R : Room} {Z : ZX} {A : AX} {h : AH} {s0 : Int32} {d : Nat} {P82 : Int32 → AH → Prop} (hA0 : 91 ≤ A.1) (hR : RO R (d + 1)) (hcs : A.2.2.1 ≤ R.cells ∧ A.2.2.2 ≤ R.slots) (q : ¬ s0 = 0 → V X m_X12_atom R Z A 90 [some (.ref 68), none, some (.int 0), some (.int 0)] [] h) (hM : s0 = 0 → Mk X d m_X12_fails [.ref 68] h A.1 A.2.1 (RI P82)) (q_1 : s0 = 0 → ∀ (y : Int32) (g : AH), P82 y g → V X m_X12_atom R Z A 85 [some (.ref 68), none, none, none] [.int y] g) : V X m_X12_atom R Z A 78 [some (.ref 68), none, none, none] [.int s0] h := by
  refine v_if_ne (tgt := 86) dX12_atom_78 (by decide) (fun c0 => ?_) (fun c0 => ?_)
  · refine v_iconst dX12_atom_86 ci_0 ?_
    refine v_istore_n dX12_atom_87 (by decide) (L' := [some (.ref 68), none, some (.int 0), none]) rfl ?_
    refine v_iconst dX12_atom_88 ci_0 ?_
    refine v_istore_n dX12_atom_89 (by decide) (L' := [some (.ref 68), none, some (.int 0), some (.int 0)]) rfl ?_
    exact (q c0)
  · refine v_aload_n dX12_atom_81 rfl ?_
    exact v_cVI (mt := m_X12_atom) mo_X12_fails ml_RX12_141 mi_X12_fails mv_X12_fails rfl kd_68 cl_12 rfl (ltA hA0 rfl) hR hcs (Nat.le_of_ble_eq_true rfl) dX12_atom_82 rfl (hM c0) (fun y g hp => ((q_1 c0) y g hp))
theorem c_X12_atom_85 {X : CX} {R : Room} {Z : ZX} {A : AX} {h : AH} {s0 : Int32} (q : V X m_X12_atom R Z A 90 [some (.ref 68), none, some (.int 0), some (.int 0)] [] h) : V X m_X12_atom R Z A 85 [some (.ref 68), none, none, none] [.int s0] h := by
  refine v_pop dX12_atom_85 rfl ?_
  refine v_iconst dX12_atom_86 ci_0 ?_
  refine v_istore_n dX12_atom_87 (by decide) (L' := [some (.ref 68), none, some (.int 0), none]) rfl ?_
  refine v_iconst dX12_atom_88 ci_0 ?_
  refine v_istore_n dX12_atom_89 (by decide) (L' := [some (.ref 68), none, some (.int 0), some (.int 0)]) rfl ?_
  exact q
theorem c_X12_atom_90 {X : CX} {R : Room} {Z : ZX} {A : AX} {h : AH} {x2 x3 : Int32} {d : Nat} {P91 : Int32 → AH → Prop} (hA0 : 91 ≤ A.1) (hR : RO R (d + 1)) (hcs : A.2.2.1 ≤ R.cells ∧ A.2.2.2 ≤ R.slots) (hM : Mk X d m_X12_isDigit [.ref 68] h A.1 A.2.1 (RI P91)) (q : ∀ (y : Int32) (g : AH), P91 y g → V X m_X12_atom R Z A 94 [some (.ref 68), none, some (.int x2), some (.int x3)] [.int y] g) : V X m_X12_atom R Z A 90 [some (.ref 68), none, some (.int x2), some (.int x3)] [] h := by
  refine v_aload_n dX12_atom_90 rfl ?_
  exact v_cVI (mt := m_X12_atom) mo_X12_isDigit ml_RX12_171 mi_X12_isDigit mv_X12_isDigit rfl kd_68 cl_12 rfl (ltA hA0 rfl) hR hcs (Nat.le_of_ble_eq_true rfl) dX12_atom_91 rfl hM (fun y g hp => (q y g hp))
theorem c_X12_atom_94 {X : CX} {R : Room} {Q : Option Value → AH → Prop} {nx sz mc ms : Nat} {h : AH} {x2 x3 s0 : Int32} {rt n_rt d : Nat} {P111 : Int32 → AH → Prop} (hA0 : 91 ≤ nx) (hr_t : h.2.2 68 6 = some rt) (hk_rt : kd X rt = (21, n_rt)) (hl_rt : rt < nx) (hR : RO R (d + 1)) (hcs : mc ≤ R.cells ∧ ms ≤ R.slots) (hq : s0 = 0 → Q (some (.int x2)) h) (hq_1 : ¬ s0 = 0 → ¬ (h.1 68 12) = (-1) → Q (some (.int x2)) h) (hi_134 : ¬ s0 = 0 → (h.1 68 12) = (-1) → ¬ x3 = 4 → vp_in ((h.1 68 9) + (h.1 68 11)) n_rt) (q : ¬ s0 = 0 → (h.1 68 12) = (-1) → ¬ x3 = 4 → V X m_X12_atom R (ZM X Q nx sz mc ms) (nx, sz, mc, ms) 90 [some (.ref 68), none, some (.int (((10 * x2) + (h.1 rt ((h.1 68 9) + (h.1 68 11)).toNatClampNeg)) - 48)), some (.int (x3 + 1))] [] (setI h 68 11 ((h.1 68 11) + 1))) (hM : ¬ s0 = 0 → (h.1 68 12) = (-1) → x3 = 4 → Mk X d m_X12_fails [.ref 68] h nx sz (RI P111)) (q_1 : ¬ s0 = 0 → (h.1 68 12) = (-1) → x3 = 4 → ∀ (y : Int32) (g : AH), P111 y g → V X m_X12_atom R (ZM X Q nx sz mc ms) (nx, sz, mc, ms) 114 [none, none, none, none] [.int y] g) : V X m_X12_atom R (ZM X Q nx sz mc ms) (nx, sz, mc, ms) 94 [some (.ref 68), none, some (.int x2), some (.int x3)] [.int s0] h := by
  refine v_if_eq (tgt := 156) dX12_atom_94 (by decide) (fun c0 => ?_) (fun c0 => ?_)
  · refine v_iload_n dX12_atom_156 rfl ?_
    exact v_iret dX12_atom_157 rfl (hq c0)
  · refine v_aload_n dX12_atom_97 rfl ?_
    refine v_getI dX12_atom_98 fl_RX12_135 kd_68 (ltA hA0 rfl) rfl ?_
    refine v_iconst dX12_atom_101 ci_m1 ?_
    refine v_icmp_ne (tgt := 156) dX12_atom_102 (by decide) (fun c1 => ?_) (fun c1 => ?_)
    · refine v_iload_n dX12_atom_156 rfl ?_
      exact v_iret dX12_atom_157 rfl (hq_1 c0 c1)
    · refine v_iload_n dX12_atom_105 rfl ?_
      refine v_iconst dX12_atom_106 ci_4 ?_
      refine v_icmp_ne (tgt := 117) dX12_atom_107 (by decide) (fun c2 => ?_) (fun c2 => ?_)
      · refine v_bipush dX12_atom_117 cb_10 ?_
        refine v_iload_n dX12_atom_119 rfl ?_
        refine v_imul dX12_atom_120 ?_
        refine v_aload_n dX12_atom_121 rfl ?_
        refine v_getR dX12_atom_122 fl_RX12_23 kd_68 (ltA hA0 rfl) rfl hr_t ?_
        refine v_aload_n dX12_atom_125 rfl ?_
        refine v_getI dX12_atom_126 fl_RX12_132 kd_68 (ltA hA0 rfl) rfl ?_
        refine v_aload_n dX12_atom_129 rfl ?_
        refine v_getI dX12_atom_130 fl_RX12_126 kd_68 (ltA hA0 rfl) rfl ?_
        refine v_iadd dX12_atom_133 ?_
        refine v_bald dX12_atom_134 hk_rt hl_rt (hi_134 c0 c1 c2) ?_
        refine v_iadd dX12_atom_135 ?_
        refine v_bipush dX12_atom_136 cb_48 ?_
        refine v_isub dX12_atom_138 ?_
        refine v_istore_n dX12_atom_139 (by decide) (L' := [some (.ref 68), none, some (.int (((10 * x2) + (h.1 rt ((h.1 68 9) + (h.1 68 11)).toNatClampNeg)) - 48)), some (.int x3)]) rfl ?_
        refine v_aload_n dX12_atom_140 rfl ?_
        refine v_dup dX12_atom_141 rfl ?_
        refine v_getI dX12_atom_142 fl_RX12_126 kd_68 (ltA hA0 rfl) rfl ?_
        refine v_iconst dX12_atom_145 ci_1 ?_
        refine v_iadd dX12_atom_146 ?_
        refine v_putI rfl rfl rfl dX12_atom_147 fl_RX12_126 (Or.inl rfl) kd_68 (ltA hA0 rfl) ?_
        refine v_iinc (y := (x3 + 1)) dX12_atom_150 rfl rfl (by decide) (L' := [some (.ref 68), none, some (.int (((10 * x2) + (h.1 rt ((h.1 68 9) + (h.1 68 11)).toNatClampNeg)) - 48)), some (.int (x3 + 1))]) rfl ?_
        refine v_goto (tgt := 90) dX12_atom_153 (by decide) ?_
        exact (q c0 c1 c2)
      · refine v_aload_n dX12_atom_110 rfl ?_
        exact v_cVI (mt := m_X12_atom) mo_X12_fails ml_RX12_141 mi_X12_fails mv_X12_fails rfl kd_68 cl_12 rfl (ltA hA0 rfl) hR hcs (Nat.le_of_ble_eq_true rfl) dX12_atom_111 rfl (hM c0 c1 c2) (fun y g hp => (v_drop (lvLe_n (lvLe_n (lvLe_n (lvLe_n lvLe_e)))) ((q_1 c0 c1 c2) y g hp)))
theorem c_X12_atom_114 {X : CX} {R : Room} {Q : Option Value → AH → Prop} {nx sz mc ms : Nat} {h : AH} {s0 : Int32} (hq : Q (some (.int 0)) h) : V X m_X12_atom R (ZM X Q nx sz mc ms) (nx, sz, mc, ms) 114 [none, none, none, none] [.int s0] h := by
  refine v_pop dX12_atom_114 rfl ?_
  refine v_iconst dX12_atom_115 ci_0 ?_
  exact v_iret dX12_atom_116 rfl hq
theorem e_X12_term {X : CX} {d nx sz : Nat} {Q : Option Value → AH → Prop} {h : AH} (q : V X m_X12_term (rm d 0 0) (ZM X Q nx sz 0 0) (nx, sz, 0, 0) 0 [some (.ref 68), none, none, none, none] [] h) : Mk X d m_X12_term [.ref 68] h nx sz Q := by
  refine Mok.ofV mo_X12_term (Nat.le_of_ble_eq_true rfl) (L := [some (.ref 68)]) (lvLe_s lvLe_e) (v_grow (n := 4) ?_)
  exact q
theorem c_X12_term_0 {X : CX} {R : Room} {Z : ZX} {A : AX} {h : AH} {d : Nat} {P1 : Int32 → AH → Prop} (hA0 : 91 ≤ A.1) (hR : RO R (d + 1)) (hcs : A.2.2.1 ≤ R.cells ∧ A.2.2.2 ≤ R.slots) (hM : Mk X d m_X12_atom [.ref 68] h A.1 A.2.1 (RI P1)) (q : ∀ (y : Int32) (g : AH), P1 y g → V X m_X12_term R Z A 4 [some (.ref 68), none, none, none, none] [.int y] g) : V X m_X12_term R Z A 0 [some (.ref 68), none, none, none, none] [] h := by
  refine v_aload_n dX12_term_0 rfl ?_
  exact v_cVI (mt := m_X12_term) mo_X12_atom ml_RX12_174 mi_X12_atom mv_X12_atom rfl kd_68 cl_12 rfl (ltA hA0 rfl) hR hcs (Nat.le_of_ble_eq_true rfl) dX12_term_1 rfl hM (fun y g hp => (q y g hp))
theorem c_X12_term_4 {X : CX} {R : Room} {Z : ZX} {A : AX} {h : AH} {s0 : Int32} (q : V X m_X12_term R Z A 5 [some (.ref 68), some (.int s0), none, none, none] [] h) : V X m_X12_term R Z A 4 [some (.ref 68), none, none, none, none] [.int s0] h := by
  refine v_istore_n dX12_term_4 (by decide) (L' := [some (.ref 68), some (.int s0), none, none, none]) rfl ?_
  exact q
theorem c_X12_term_5 {X : CX} {R : Room} {Q : Option Value → AH → Prop} {nx sz mc ms : Nat} {h : AH} {x1 : Int32} {d : Nat} {P14 : Int32 → AH → Prop} (hA0 : 91 ≤ nx) (hR : RO R (d + 1)) (hcs : mc ≤ R.cells ∧ ms ≤ R.slots) (hq : ¬ (h.1 68 12) = (-1) → Q (some (.int x1)) h) (hM : (h.1 68 12) = (-1) → Mk X d m_X12_look [.ref 68] h nx sz (RI P14)) (q : (h.1 68 12) = (-1) → ∀ (y : Int32) (g : AH), P14 y g → V X m_X12_term R (ZM X Q nx sz mc ms) (nx, sz, mc, ms) 17 [some (.ref 68), some (.int x1), none, none, none] [.int y] g) : V X m_X12_term R (ZM X Q nx sz mc ms) (nx, sz, mc, ms) 5 [some (.ref 68), some (.int x1), none, none, none] [] h := by
  refine v_aload_n dX12_term_5 rfl ?_
  refine v_getI dX12_term_6 fl_RX12_135 kd_68 (ltA hA0 rfl) rfl ?_
  refine v_iconst dX12_term_9 ci_m1 ?_
  refine v_icmp_ne (tgt := 94) dX12_term_10 (by decide) (fun c0 => ?_) (fun c0 => ?_)
  · refine v_iload_n dX12_term_94 rfl ?_
    exact v_iret dX12_term_95 rfl (hq c0)
  · refine v_aload_n dX12_term_13 rfl ?_
    exact v_cVI (mt := m_X12_term) mo_X12_look ml_RX12_145 mi_X12_look mv_X12_look rfl kd_68 cl_12 rfl (ltA hA0 rfl) hR hcs (Nat.le_of_ble_eq_true rfl) dX12_term_14 rfl (hM c0) (fun y g hp => ((q c0) y g hp))
theorem c_X12_term_17 {X : CX} {R : Room} {Z : ZX} {A : AX} {h : AH} {x1 s0 : Int32} {d : Nat} {P32 P23 : Int32 → AH → Prop} (hA0 : 91 ≤ A.1) (hR : RO R (d + 1)) (hcs : A.2.2.1 ≤ R.cells ∧ A.2.2.2 ≤ R.slots) (hM : s0 = 42 → Mk X d m_X12_look [.ref 68] h A.1 A.2.1 (RI P32)) (q : s0 = 42 → ∀ (y : Int32) (g : AH), P32 y g → V X m_X12_term R Z A 35 [some (.ref 68), some (.int x1), none, none, none] [.int y] g) (hM_1 : ¬ s0 = 42 → Mk X d m_X12_look [.ref 68] h A.1 A.2.1 (RI P23)) (q_1 : ¬ s0 = 42 → ∀ (y : Int32) (g : AH), P23 y g → V X m_X12_term R Z A 26 [some (.ref 68), some (.int x1), none, none, none] [.int y] g) : V X m_X12_term R Z A 17 [some (.ref 68), some (.int x1), none, none, none] [.int s0] h := by
  refine v_bipush dX12_term_17 cb_42 ?_
  refine v_icmp_eq (tgt := 31) dX12_term_19 (by decide) (fun c0 => ?_) (fun c0 => ?_)
  · refine v_aload_n dX12_term_31 rfl ?_
    exact v_cVI (mt := m_X12_term) mo_X12_look ml_RX12_145 mi_X12_look mv_X12_look rfl kd_68 cl_12 rfl (ltA hA0 rfl) hR hcs (Nat.le_of_ble_eq_true rfl) dX12_term_32 rfl (hM c0) (fun y g hp => ((q c0) y g hp))
  · refine v_aload_n dX12_term_22 rfl ?_
    exact v_cVI (mt := m_X12_term) mo_X12_look ml_RX12_145 mi_X12_look mv_X12_look rfl kd_68 cl_12 rfl (ltA hA0 rfl) hR hcs (Nat.le_of_ble_eq_true rfl) dX12_term_23 rfl (hM_1 c0) (fun y g hp => ((q_1 c0) y g hp))
theorem c_X12_term_26 {X : CX} {R : Room} {Q : Option Value → AH → Prop} {nx sz mc ms : Nat} {h : AH} {x1 s0 : Int32} {d : Nat} {P32 : Int32 → AH → Prop} (hA0 : 91 ≤ nx) (hR : RO R (d + 1)) (hcs : mc ≤ R.cells ∧ ms ≤ R.slots) (hq : ¬ s0 = 47 → Q (some (.int x1)) h) (hM : s0 = 47 → Mk X d m_X12_look [.ref 68] h nx sz (RI P32)) (q : s0 = 47 → ∀ (y : Int32) (g : AH), P32 y g → V X m_X12_term R (ZM X Q nx sz mc ms) (nx, sz, mc, ms) 35 [some (.ref 68), some (.int x1), none, none, none] [.int y] g) : V X m_X12_term R (ZM X Q nx sz mc ms) (nx, sz, mc, ms) 26 [some (.ref 68), some (.int x1), none, none, none] [.int s0] h := by
  refine v_bipush dX12_term_26 cb_47 ?_
  refine v_icmp_ne (tgt := 94) dX12_term_28 (by decide) (fun c0 => ?_) (fun c0 => ?_)
  · refine v_iload_n dX12_term_94 rfl ?_
    exact v_iret dX12_term_95 rfl (hq c0)
  · refine v_aload_n dX12_term_31 rfl ?_
    exact v_cVI (mt := m_X12_term) mo_X12_look ml_RX12_145 mi_X12_look mv_X12_look rfl kd_68 cl_12 rfl (ltA hA0 rfl) hR hcs (Nat.le_of_ble_eq_true rfl) dX12_term_32 rfl (hM c0) (fun y g hp => ((q c0) y g hp))
theorem c_X12_term_35 {X : CX} {R : Room} {Z : ZX} {A : AX} {h : AH} {x1 s0 : Int32} {d : Nat} {P57 P57_1 : Int32 → AH → Prop} (hA0 : 91 ≤ A.1) (hR : RO R (d + 1)) (hcs : A.2.2.1 ≤ R.cells ∧ A.2.2.2 ≤ R.slots) (hM : ¬ s0 = 42 → Mk X d m_X12_atom [.ref 68] (setI h 68 11 ((h.1 68 11) + 1)) A.1 A.2.1 (RI P57)) (q : ¬ s0 = 42 → ∀ (y : Int32) (g : AH), P57 y g → V X m_X12_term R Z A 60 [some (.ref 68), some (.int x1), some (.int 0), none, none] [.int y] g) (hM_1 : s0 = 42 → Mk X d m_X12_atom [.ref 68] (setI h 68 11 ((h.1 68 11) + 1)) A.1 A.2.1 (RI P57_1)) (q_1 : s0 = 42 → ∀ (y : Int32) (g : AH), P57_1 y g → V X m_X12_term R Z A 60 [some (.ref 68), some (.int x1), some (.int 1), none, none] [.int y] g) : V X m_X12_term R Z A 35 [some (.ref 68), some (.int x1), none, none, none] [.int s0] h := by
  refine v_bipush dX12_term_35 cb_42 ?_
  refine v_icmp_ne (tgt := 44) dX12_term_37 (by decide) (fun c0 => ?_) (fun c0 => ?_)
  · refine v_iconst dX12_term_44 ci_0 ?_
    refine v_istore_n dX12_term_45 (by decide) (L' := [some (.ref 68), some (.int x1), some (.int 0), none, none]) rfl ?_
    refine v_aload_n dX12_term_46 rfl ?_
    refine v_dup dX12_term_47 rfl ?_
    refine v_getI dX12_term_48 fl_RX12_126 kd_68 (ltA hA0 rfl) rfl ?_
    refine v_iconst dX12_term_51 ci_1 ?_
    refine v_iadd dX12_term_52 ?_
    refine v_putI rfl rfl rfl dX12_term_53 fl_RX12_126 (Or.inl rfl) kd_68 (ltA hA0 rfl) ?_
    refine v_aload_n dX12_term_56 rfl ?_
    exact v_cVI (mt := m_X12_term) mo_X12_atom ml_RX12_174 mi_X12_atom mv_X12_atom rfl kd_68 cl_12 rfl (ltA hA0 rfl) hR hcs (Nat.le_of_ble_eq_true rfl) dX12_term_57 rfl (hM c0) (fun y g hp => ((q c0) y g hp))
  · refine v_iconst dX12_term_40 ci_1 ?_
    refine v_goto (tgt := 45) dX12_term_41 (by decide) ?_
    refine v_istore_n dX12_term_45 (by decide) (L' := [some (.ref 68), some (.int x1), some (.int 1), none, none]) rfl ?_
    refine v_aload_n dX12_term_46 rfl ?_
    refine v_dup dX12_term_47 rfl ?_
    refine v_getI dX12_term_48 fl_RX12_126 kd_68 (ltA hA0 rfl) rfl ?_
    refine v_iconst dX12_term_51 ci_1 ?_
    refine v_iadd dX12_term_52 ?_
    refine v_putI rfl rfl rfl dX12_term_53 fl_RX12_126 (Or.inl rfl) kd_68 (ltA hA0 rfl) ?_
    refine v_aload_n dX12_term_56 rfl ?_
    exact v_cVI (mt := m_X12_term) mo_X12_atom ml_RX12_174 mi_X12_atom mv_X12_atom rfl kd_68 cl_12 rfl (ltA hA0 rfl) hR hcs (Nat.le_of_ble_eq_true rfl) dX12_term_57 rfl (hM_1 c0) (fun y g hp => ((q_1 c0) y g hp))
theorem c_X12_term_60 {X : CX} {R : Room} {Z : ZX} {A : AX} {h : AH} {x1 x2 s0 : Int32} {d : Nat} {P87 P87_1 P87_2 : Int32 → AH → Prop} (hR : RO R (d + 1)) (hcs : A.2.2.1 ≤ R.cells ∧ A.2.2.2 ≤ R.slots) (hz_86 : x2 = 0 → ¬ (lg_cmp ((s0 : Int32).toInt64) 0) = 0 → ¬ ((s0 : Int32).toInt64) = 0) (hM : x2 = 0 → ¬ (lg_cmp ((s0 : Int32).toInt64) 0) = 0 → Mk X d m_X12_within [.long (((x1 : Int32).toInt64) / ((s0 : Int32).toInt64))] h A.1 A.2.1 (RI P87)) (q : x2 = 0 → ¬ (lg_cmp ((s0 : Int32).toInt64) 0) = 0 → ∀ (y : Int32) (g : AH), P87 y g → V X m_X12_term R Z A 90 [some (.ref 68), none, none, none, none] [.int y] g) (hM_1 : x2 = 0 → (lg_cmp ((s0 : Int32).toInt64) 0) = 0 → Mk X d m_X12_within [.long 0] h A.1 A.2.1 (RI P87_1)) (q_1 : x2 = 0 → (lg_cmp ((s0 : Int32).toInt64) 0) = 0 → ∀ (y : Int32) (g : AH), P87_1 y g → V X m_X12_term R Z A 90 [some (.ref 68), none, none, none, none] [.int y] g) (hM_2 : ¬ x2 = 0 → Mk X d m_X12_within [.long (((x1 : Int32).toInt64) * ((s0 : Int32).toInt64))] h A.1 A.2.1 (RI P87_2)) (q_2 : ¬ x2 = 0 → ∀ (y : Int32) (g : AH), P87_2 y g → V X m_X12_term R Z A 90 [some (.ref 68), none, none, none, none] [.int y] g) : V X m_X12_term R Z A 60 [some (.ref 68), some (.int x1), some (.int x2), none, none] [.int s0] h := by
  refine v_i2l dX12_term_60 ?_
  refine v_lstore_n dX12_term_61 (by decide) (L' := [some (.ref 68), some (.int x1), some (.int x2), some (.long ((s0 : Int32).toInt64)), none]) rfl ?_
  refine v_iload_n dX12_term_62 rfl ?_
  refine v_if_eq (tgt := 73) dX12_term_63 (by decide) (fun c0 => ?_) (fun c0 => ?_)
  · refine v_lload_n dX12_term_73 rfl ?_
    refine v_lconst dX12_term_74 cl_l0 ?_
    refine v_lcmp dX12_term_75 ?_
    refine v_if_ne (tgt := 83) dX12_term_76 (by decide) (fun c1 => ?_) (fun c1 => ?_)
    · refine v_iload_n dX12_term_83 rfl ?_
      refine v_i2l dX12_term_84 ?_
      refine v_lload_n dX12_term_85 rfl ?_
      refine v_ldiv dX12_term_86 (hz_86 c0 c1) ?_
      exact v_cSI (mt := m_X12_term) mo_X12_within ml_RX12_177 mz_X12_within rfl hR hcs (Nat.le_of_ble_eq_true rfl) dX12_term_87 rfl (hM c0 c1) (fun y g hp => (v_drop (lvLe_s (lvLe_n (lvLe_n (lvLe_n (lvLe_n lvLe_e))))) ((q c0 c1) y g hp)))
    · refine v_lconst dX12_term_79 cl_l0 ?_
      refine v_goto (tgt := 87) dX12_term_80 (by decide) ?_
      exact v_cSI (mt := m_X12_term) mo_X12_within ml_RX12_177 mz_X12_within rfl hR hcs (Nat.le_of_ble_eq_true rfl) dX12_term_87 rfl (hM_1 c0 c1) (fun y g hp => (v_drop (lvLe_s (lvLe_n (lvLe_n (lvLe_n (lvLe_n lvLe_e))))) ((q_1 c0 c1) y g hp)))
  · refine v_iload_n dX12_term_66 rfl ?_
    refine v_i2l dX12_term_67 ?_
    refine v_lload_n dX12_term_68 rfl ?_
    refine v_lmul dX12_term_69 ?_
    refine v_goto (tgt := 87) dX12_term_70 (by decide) ?_
    exact v_cSI (mt := m_X12_term) mo_X12_within ml_RX12_177 mz_X12_within rfl hR hcs (Nat.le_of_ble_eq_true rfl) dX12_term_87 rfl (hM_2 c0) (fun y g hp => (v_drop (lvLe_s (lvLe_n (lvLe_n (lvLe_n (lvLe_n lvLe_e))))) ((q_2 c0) y g hp)))
theorem c_X12_term_90 {X : CX} {R : Room} {Z : ZX} {A : AX} {h : AH} {s0 : Int32} (q : V X m_X12_term R Z A 5 [some (.ref 68), some (.int s0), none, none, none] [] h) : V X m_X12_term R Z A 90 [some (.ref 68), none, none, none, none] [.int s0] h := by
  refine v_istore_n dX12_term_90 (by decide) (L' := [some (.ref 68), some (.int s0), none, none, none]) rfl ?_
  refine v_goto (tgt := 5) dX12_term_91 (by decide) ?_
  exact q
theorem e_X12_sum {X : CX} {d nx sz : Nat} {Q : Option Value → AH → Prop} {h : AH} (q : V X m_X12_sum (rm d 0 0) (ZM X Q nx sz 0 0) (nx, sz, 0, 0) 0 [some (.ref 68), none, none, none, none] [] h) : Mk X d m_X12_sum [.ref 68] h nx sz Q := by
  refine Mok.ofV mo_X12_sum (Nat.le_of_ble_eq_true rfl) (L := [some (.ref 68)]) (lvLe_s lvLe_e) (v_grow (n := 4) ?_)
  exact q
theorem c_X12_sum_0 {X : CX} {R : Room} {Z : ZX} {A : AX} {h : AH} {d : Nat} {P1 : Int32 → AH → Prop} (hA0 : 91 ≤ A.1) (hR : RO R (d + 1)) (hcs : A.2.2.1 ≤ R.cells ∧ A.2.2.2 ≤ R.slots) (hM : Mk X d m_X12_term [.ref 68] h A.1 A.2.1 (RI P1)) (q : ∀ (y : Int32) (g : AH), P1 y g → V X m_X12_sum R Z A 4 [some (.ref 68), none, none, none, none] [.int y] g) : V X m_X12_sum R Z A 0 [some (.ref 68), none, none, none, none] [] h := by
  refine v_aload_n dX12_sum_0 rfl ?_
  exact v_cVI (mt := m_X12_sum) mo_X12_term ml_RX12_181 mi_X12_term mv_X12_term rfl kd_68 cl_12 rfl (ltA hA0 rfl) hR hcs (Nat.le_of_ble_eq_true rfl) dX12_sum_1 rfl hM (fun y g hp => (q y g hp))
theorem c_X12_sum_4 {X : CX} {R : Room} {Z : ZX} {A : AX} {h : AH} {s0 : Int32} (q : V X m_X12_sum R Z A 5 [some (.ref 68), some (.int s0), none, none, none] [] h) : V X m_X12_sum R Z A 4 [some (.ref 68), none, none, none, none] [.int s0] h := by
  refine v_istore_n dX12_sum_4 (by decide) (L' := [some (.ref 68), some (.int s0), none, none, none]) rfl ?_
  exact q
theorem c_X12_sum_5 {X : CX} {R : Room} {Q : Option Value → AH → Prop} {nx sz mc ms : Nat} {h : AH} {x1 : Int32} {d : Nat} {P14 : Int32 → AH → Prop} (hA0 : 91 ≤ nx) (hR : RO R (d + 1)) (hcs : mc ≤ R.cells ∧ ms ≤ R.slots) (hq : ¬ (h.1 68 12) = (-1) → Q (some (.int x1)) h) (hM : (h.1 68 12) = (-1) → Mk X d m_X12_look [.ref 68] h nx sz (RI P14)) (q : (h.1 68 12) = (-1) → ∀ (y : Int32) (g : AH), P14 y g → V X m_X12_sum R (ZM X Q nx sz mc ms) (nx, sz, mc, ms) 17 [some (.ref 68), some (.int x1), none, none, none] [.int y] g) : V X m_X12_sum R (ZM X Q nx sz mc ms) (nx, sz, mc, ms) 5 [some (.ref 68), some (.int x1), none, none, none] [] h := by
  refine v_aload_n dX12_sum_5 rfl ?_
  refine v_getI dX12_sum_6 fl_RX12_135 kd_68 (ltA hA0 rfl) rfl ?_
  refine v_iconst dX12_sum_9 ci_m1 ?_
  refine v_icmp_ne (tgt := 84) dX12_sum_10 (by decide) (fun c0 => ?_) (fun c0 => ?_)
  · refine v_iload_n dX12_sum_84 rfl ?_
    exact v_iret dX12_sum_85 rfl (hq c0)
  · refine v_aload_n dX12_sum_13 rfl ?_
    exact v_cVI (mt := m_X12_sum) mo_X12_look ml_RX12_145 mi_X12_look mv_X12_look rfl kd_68 cl_12 rfl (ltA hA0 rfl) hR hcs (Nat.le_of_ble_eq_true rfl) dX12_sum_14 rfl (hM c0) (fun y g hp => ((q c0) y g hp))
theorem c_X12_sum_17 {X : CX} {R : Room} {Z : ZX} {A : AX} {h : AH} {x1 s0 : Int32} {d : Nat} {P32 P23 : Int32 → AH → Prop} (hA0 : 91 ≤ A.1) (hR : RO R (d + 1)) (hcs : A.2.2.1 ≤ R.cells ∧ A.2.2.2 ≤ R.slots) (hM : s0 = 43 → Mk X d m_X12_look [.ref 68] h A.1 A.2.1 (RI P32)) (q : s0 = 43 → ∀ (y : Int32) (g : AH), P32 y g → V X m_X12_sum R Z A 35 [some (.ref 68), some (.int x1), none, none, none] [.int y] g) (hM_1 : ¬ s0 = 43 → Mk X d m_X12_look [.ref 68] h A.1 A.2.1 (RI P23)) (q_1 : ¬ s0 = 43 → ∀ (y : Int32) (g : AH), P23 y g → V X m_X12_sum R Z A 26 [some (.ref 68), some (.int x1), none, none, none] [.int y] g) : V X m_X12_sum R Z A 17 [some (.ref 68), some (.int x1), none, none, none] [.int s0] h := by
  refine v_bipush dX12_sum_17 cb_43 ?_
  refine v_icmp_eq (tgt := 31) dX12_sum_19 (by decide) (fun c0 => ?_) (fun c0 => ?_)
  · refine v_aload_n dX12_sum_31 rfl ?_
    exact v_cVI (mt := m_X12_sum) mo_X12_look ml_RX12_145 mi_X12_look mv_X12_look rfl kd_68 cl_12 rfl (ltA hA0 rfl) hR hcs (Nat.le_of_ble_eq_true rfl) dX12_sum_32 rfl (hM c0) (fun y g hp => ((q c0) y g hp))
  · refine v_aload_n dX12_sum_22 rfl ?_
    exact v_cVI (mt := m_X12_sum) mo_X12_look ml_RX12_145 mi_X12_look mv_X12_look rfl kd_68 cl_12 rfl (ltA hA0 rfl) hR hcs (Nat.le_of_ble_eq_true rfl) dX12_sum_23 rfl (hM_1 c0) (fun y g hp => ((q_1 c0) y g hp))
theorem c_X12_sum_26 {X : CX} {R : Room} {Q : Option Value → AH → Prop} {nx sz mc ms : Nat} {h : AH} {x1 s0 : Int32} {d : Nat} {P32 : Int32 → AH → Prop} (hA0 : 91 ≤ nx) (hR : RO R (d + 1)) (hcs : mc ≤ R.cells ∧ ms ≤ R.slots) (hq : ¬ s0 = 45 → Q (some (.int x1)) h) (hM : s0 = 45 → Mk X d m_X12_look [.ref 68] h nx sz (RI P32)) (q : s0 = 45 → ∀ (y : Int32) (g : AH), P32 y g → V X m_X12_sum R (ZM X Q nx sz mc ms) (nx, sz, mc, ms) 35 [some (.ref 68), some (.int x1), none, none, none] [.int y] g) : V X m_X12_sum R (ZM X Q nx sz mc ms) (nx, sz, mc, ms) 26 [some (.ref 68), some (.int x1), none, none, none] [.int s0] h := by
  refine v_bipush dX12_sum_26 cb_45 ?_
  refine v_icmp_ne (tgt := 84) dX12_sum_28 (by decide) (fun c0 => ?_) (fun c0 => ?_)
  · refine v_iload_n dX12_sum_84 rfl ?_
    exact v_iret dX12_sum_85 rfl (hq c0)
  · refine v_aload_n dX12_sum_31 rfl ?_
    exact v_cVI (mt := m_X12_sum) mo_X12_look ml_RX12_145 mi_X12_look mv_X12_look rfl kd_68 cl_12 rfl (ltA hA0 rfl) hR hcs (Nat.le_of_ble_eq_true rfl) dX12_sum_32 rfl (hM c0) (fun y g hp => ((q c0) y g hp))
theorem c_X12_sum_35 {X : CX} {R : Room} {Z : ZX} {A : AX} {h : AH} {x1 s0 : Int32} {d : Nat} {P57 P57_1 : Int32 → AH → Prop} (hA0 : 91 ≤ A.1) (hR : RO R (d + 1)) (hcs : A.2.2.1 ≤ R.cells ∧ A.2.2.2 ≤ R.slots) (hM : ¬ s0 = 43 → Mk X d m_X12_term [.ref 68] (setI h 68 11 ((h.1 68 11) + 1)) A.1 A.2.1 (RI P57)) (q : ¬ s0 = 43 → ∀ (y : Int32) (g : AH), P57 y g → V X m_X12_sum R Z A 60 [some (.ref 68), some (.int x1), some (.int 0), none, none] [.int y] g) (hM_1 : s0 = 43 → Mk X d m_X12_term [.ref 68] (setI h 68 11 ((h.1 68 11) + 1)) A.1 A.2.1 (RI P57_1)) (q_1 : s0 = 43 → ∀ (y : Int32) (g : AH), P57_1 y g → V X m_X12_sum R Z A 60 [some (.ref 68), some (.int x1), some (.int 1), none, none] [.int y] g) : V X m_X12_sum R Z A 35 [some (.ref 68), some (.int x1), none, none, none] [.int s0] h := by
  refine v_bipush dX12_sum_35 cb_43 ?_
  refine v_icmp_ne (tgt := 44) dX12_sum_37 (by decide) (fun c0 => ?_) (fun c0 => ?_)
  · refine v_iconst dX12_sum_44 ci_0 ?_
    refine v_istore_n dX12_sum_45 (by decide) (L' := [some (.ref 68), some (.int x1), some (.int 0), none, none]) rfl ?_
    refine v_aload_n dX12_sum_46 rfl ?_
    refine v_dup dX12_sum_47 rfl ?_
    refine v_getI dX12_sum_48 fl_RX12_126 kd_68 (ltA hA0 rfl) rfl ?_
    refine v_iconst dX12_sum_51 ci_1 ?_
    refine v_iadd dX12_sum_52 ?_
    refine v_putI rfl rfl rfl dX12_sum_53 fl_RX12_126 (Or.inl rfl) kd_68 (ltA hA0 rfl) ?_
    refine v_aload_n dX12_sum_56 rfl ?_
    exact v_cVI (mt := m_X12_sum) mo_X12_term ml_RX12_181 mi_X12_term mv_X12_term rfl kd_68 cl_12 rfl (ltA hA0 rfl) hR hcs (Nat.le_of_ble_eq_true rfl) dX12_sum_57 rfl (hM c0) (fun y g hp => ((q c0) y g hp))
  · refine v_iconst dX12_sum_40 ci_1 ?_
    refine v_goto (tgt := 45) dX12_sum_41 (by decide) ?_
    refine v_istore_n dX12_sum_45 (by decide) (L' := [some (.ref 68), some (.int x1), some (.int 1), none, none]) rfl ?_
    refine v_aload_n dX12_sum_46 rfl ?_
    refine v_dup dX12_sum_47 rfl ?_
    refine v_getI dX12_sum_48 fl_RX12_126 kd_68 (ltA hA0 rfl) rfl ?_
    refine v_iconst dX12_sum_51 ci_1 ?_
    refine v_iadd dX12_sum_52 ?_
    refine v_putI rfl rfl rfl dX12_sum_53 fl_RX12_126 (Or.inl rfl) kd_68 (ltA hA0 rfl) ?_
    refine v_aload_n dX12_sum_56 rfl ?_
    exact v_cVI (mt := m_X12_sum) mo_X12_term ml_RX12_181 mi_X12_term mv_X12_term rfl kd_68 cl_12 rfl (ltA hA0 rfl) hR hcs (Nat.le_of_ble_eq_true rfl) dX12_sum_57 rfl (hM_1 c0) (fun y g hp => ((q_1 c0) y g hp))
theorem c_X12_sum_60 {X : CX} {R : Room} {Z : ZX} {A : AX} {h : AH} {x1 x2 s0 : Int32} {d : Nat} {P77 P77_1 : Int32 → AH → Prop} (hR : RO R (d + 1)) (hcs : A.2.2.1 ≤ R.cells ∧ A.2.2.2 ≤ R.slots) (hM : x2 = 0 → Mk X d m_X12_within [.long (((x1 : Int32).toInt64) - ((s0 : Int32).toInt64))] h A.1 A.2.1 (RI P77)) (q : x2 = 0 → ∀ (y : Int32) (g : AH), P77 y g → V X m_X12_sum R Z A 80 [some (.ref 68), none, none, none, none] [.int y] g) (hM_1 : ¬ x2 = 0 → Mk X d m_X12_within [.long (((x1 : Int32).toInt64) + ((s0 : Int32).toInt64))] h A.1 A.2.1 (RI P77_1)) (q_1 : ¬ x2 = 0 → ∀ (y : Int32) (g : AH), P77_1 y g → V X m_X12_sum R Z A 80 [some (.ref 68), none, none, none, none] [.int y] g) : V X m_X12_sum R Z A 60 [some (.ref 68), some (.int x1), some (.int x2), none, none] [.int s0] h := by
  refine v_i2l dX12_sum_60 ?_
  refine v_lstore_n dX12_sum_61 (by decide) (L' := [some (.ref 68), some (.int x1), some (.int x2), some (.long ((s0 : Int32).toInt64)), none]) rfl ?_
  refine v_iload_n dX12_sum_62 rfl ?_
  refine v_if_eq (tgt := 73) dX12_sum_63 (by decide) (fun c0 => ?_) (fun c0 => ?_)
  · refine v_iload_n dX12_sum_73 rfl ?_
    refine v_i2l dX12_sum_74 ?_
    refine v_lload_n dX12_sum_75 rfl ?_
    refine v_lsub dX12_sum_76 ?_
    exact v_cSI (mt := m_X12_sum) mo_X12_within ml_RX12_177 mz_X12_within rfl hR hcs (Nat.le_of_ble_eq_true rfl) dX12_sum_77 rfl (hM c0) (fun y g hp => (v_drop (lvLe_s (lvLe_n (lvLe_n (lvLe_n (lvLe_n lvLe_e))))) ((q c0) y g hp)))
  · refine v_iload_n dX12_sum_66 rfl ?_
    refine v_i2l dX12_sum_67 ?_
    refine v_lload_n dX12_sum_68 rfl ?_
    refine v_ladd dX12_sum_69 ?_
    refine v_goto (tgt := 77) dX12_sum_70 (by decide) ?_
    exact v_cSI (mt := m_X12_sum) mo_X12_within ml_RX12_177 mz_X12_within rfl hR hcs (Nat.le_of_ble_eq_true rfl) dX12_sum_77 rfl (hM_1 c0) (fun y g hp => (v_drop (lvLe_s (lvLe_n (lvLe_n (lvLe_n (lvLe_n lvLe_e))))) ((q_1 c0) y g hp)))
theorem c_X12_sum_80 {X : CX} {R : Room} {Z : ZX} {A : AX} {h : AH} {s0 : Int32} (q : V X m_X12_sum R Z A 5 [some (.ref 68), some (.int s0), none, none, none] [] h) : V X m_X12_sum R Z A 80 [some (.ref 68), none, none, none, none] [.int s0] h := by
  refine v_istore_n dX12_sum_80 (by decide) (L' := [some (.ref 68), some (.int s0), none, none, none]) rfl ?_
  refine v_goto (tgt := 5) dX12_sum_81 (by decide) ?_
  exact q
theorem e_X12_isSign {X : CX} {d nx sz : Nat} {Q : Option Value → AH → Prop} {h : AH} {x0 : Int32} (q : V X m_X12_isSign (rm d 0 0) (ZM X Q nx sz 0 0) (nx, sz, 0, 0) 0 [some (.int x0)] [] h) : Mk X d m_X12_isSign [.int x0] h nx sz Q := by
  refine Mok.ofV mo_X12_isSign (Nat.le_of_ble_eq_true rfl) (L := [some (.int x0)]) (lvLe_s lvLe_e) (v_grow (n := 0) ?_)
  exact q
theorem c_X12_isSign_0 {X : CX} {R : Room} {Q : Option Value → AH → Prop} {nx sz mc ms : Nat} {h : AH} {x0 : Int32} (hq : x0 = 61 → Q (some (.int 1)) h) (hq_1 : ¬ x0 = 61 → x0 = 60 → Q (some (.int 1)) h) (hq_2 : ¬ x0 = 61 → ¬ x0 = 60 → ¬ x0 = 62 → Q (some (.int 0)) h) (hq_3 : ¬ x0 = 61 → ¬ x0 = 60 → x0 = 62 → Q (some (.int 1)) h) : V X m_X12_isSign R (ZM X Q nx sz mc ms) (nx, sz, mc, ms) 0 [some (.int x0)] [] h := by
  refine v_iload_n dX12_isSign_0 rfl ?_
  refine v_bipush dX12_isSign_1 cb_61 ?_
  refine v_icmp_eq (tgt := 18) dX12_isSign_3 (by decide) (fun c0 => ?_) (fun c0 => ?_)
  · refine v_iconst dX12_isSign_18 ci_1 ?_
    refine v_goto (tgt := 23) dX12_isSign_19 (by decide) ?_
    exact v_zret (ty := .boolean) dX12_isSign_23 rfl rfl (hq c0)
  · refine v_iload_n dX12_isSign_6 rfl ?_
    refine v_bipush dX12_isSign_7 cb_60 ?_
    refine v_icmp_eq (tgt := 18) dX12_isSign_9 (by decide) (fun c1 => ?_) (fun c1 => ?_)
    · refine v_iconst dX12_isSign_18 ci_1 ?_
      refine v_goto (tgt := 23) dX12_isSign_19 (by decide) ?_
      exact v_zret (ty := .boolean) dX12_isSign_23 rfl rfl (hq_1 c0 c1)
    · refine v_iload_n dX12_isSign_12 rfl ?_
      refine v_bipush dX12_isSign_13 cb_62 ?_
      refine v_icmp_ne (tgt := 22) dX12_isSign_15 (by decide) (fun c2 => ?_) (fun c2 => ?_)
      · refine v_iconst dX12_isSign_22 ci_0 ?_
        exact v_zret (ty := .boolean) dX12_isSign_23 rfl rfl (hq_2 c0 c1 c2)
      · refine v_iconst dX12_isSign_18 ci_1 ?_
        refine v_goto (tgt := 23) dX12_isSign_19 (by decide) ?_
        exact v_zret (ty := .boolean) dX12_isSign_23 rfl rfl (hq_3 c0 c1 c2)
theorem e_X12_compares {X : CX} {d nx sz : Nat} {Q : Option Value → AH → Prop} {h : AH} {x1 x2 : Int32} (q : V X m_X12_compares (rm d 0 0) (ZM X Q nx sz 0 0) (nx, sz, 0, 0) 0 [some (.ref 68), some (.int x1), some (.int x2), none, none, none] [] h) : Mk X d m_X12_compares [.ref 68, .int x1, .int x2] h nx sz Q := by
  refine Mok.ofV mo_X12_compares (Nat.le_of_ble_eq_true rfl) (L := [some (.ref 68), some (.int x1), some (.int x2)]) (lvLe_s (lvLe_s (lvLe_s lvLe_e))) (v_grow (n := 3) ?_)
  exact q
theorem c_X12_compares_0 {X : CX} {R : Room} {Z : ZX} {A : AX} {h : AH} {x1 x2 : Int32} {d : Nat} {P9 : Int32 → AH → Prop} (hA0 : 91 ≤ A.1) (hR : RO R (d + 1)) (hcs : A.2.2.1 ≤ R.cells ∧ A.2.2.2 ≤ R.slots) (hM : x1 = 0 → Mk X d m_X12_sum [.ref 68] h A.1 A.2.1 (RI P9)) (q : x1 = 0 → ∀ (y : Int32) (g : AH), P9 y g → V X m_X12_compares R Z A 12 [some (.ref 68), none, none, none, none, none] [.int y] g) (q_1 : ¬ x1 = 0 → V X m_X12_compares R Z A 12 [some (.ref 68), none, none, none, none, none] [.int x2] h) : V X m_X12_compares R Z A 0 [some (.ref 68), some (.int x1), some (.int x2), none, none, none] [] h := by
  refine v_iload_n dX12_compares_0 rfl ?_
  refine v_if_eq (tgt := 8) dX12_compares_1 (by decide) (fun c0 => ?_) (fun c0 => ?_)
  · refine v_aload_n dX12_compares_8 rfl ?_
    exact v_cVI (mt := m_X12_compares) mo_X12_sum ml_RX12_164 mi_X12_sum mv_X12_sum rfl kd_68 cl_12 rfl (ltA hA0 rfl) hR hcs (Nat.le_of_ble_eq_true rfl) dX12_compares_9 rfl (hM c0) (fun y g hp => (v_drop (lvLe_s (lvLe_n (lvLe_n (lvLe_n (lvLe_n (lvLe_n lvLe_e)))))) ((q c0) y g hp)))
  · refine v_iload_n dX12_compares_4 rfl ?_
    refine v_goto (tgt := 12) dX12_compares_5 (by decide) ?_
    exact (v_drop (lvLe_s (lvLe_n (lvLe_n (lvLe_n (lvLe_n (lvLe_n lvLe_e)))))) (q_1 c0))
theorem c_X12_compares_12 {X : CX} {R : Room} {Q : Option Value → AH → Prop} {nx sz mc ms : Nat} {h : AH} {s0 : Int32} {d : Nat} {P24 : Int32 → AH → Prop} (hA0 : 91 ≤ nx) (hR : RO R (d + 1)) (hcs : mc ≤ R.cells ∧ ms ≤ R.slots) (hM : (h.1 68 12) = (-1) → Mk X d m_X12_look [.ref 68] h nx sz (RI P24)) (q : (h.1 68 12) = (-1) → ∀ (y : Int32) (g : AH), P24 y g → V X m_X12_compares R (ZM X Q nx sz mc ms) (nx, sz, mc, ms) 27 [some (.ref 68), none, none, some (.int s0), none, none] [.int y] g) (hq : ¬ (h.1 68 12) = (-1) → Q (some (.int 0)) h) : V X m_X12_compares R (ZM X Q nx sz mc ms) (nx, sz, mc, ms) 12 [some (.ref 68), none, none, none, none, none] [.int s0] h := by
  refine v_istore_n dX12_compares_12 (by decide) (L' := [some (.ref 68), none, none, some (.int s0), none, none]) rfl ?_
  refine v_aload_n dX12_compares_13 rfl ?_
  refine v_getI dX12_compares_14 fl_RX12_135 kd_68 (ltA hA0 rfl) rfl ?_
  refine v_iconst dX12_compares_17 ci_m1 ?_
  refine v_icmp_eq (tgt := 23) dX12_compares_18 (by decide) (fun c0 => ?_) (fun c0 => ?_)
  · refine v_aload_n dX12_compares_23 rfl ?_
    exact v_cVI (mt := m_X12_compares) mo_X12_look ml_RX12_145 mi_X12_look mv_X12_look rfl kd_68 cl_12 rfl (ltA hA0 rfl) hR hcs (Nat.le_of_ble_eq_true rfl) dX12_compares_24 rfl (hM c0) (fun y g hp => ((q c0) y g hp))
  · refine v_iconst dX12_compares_21 ci_0 ?_
    exact v_zret (ty := .boolean) dX12_compares_22 rfl rfl (hq c0)
theorem c_X12_compares_27 {X : CX} {R : Room} {Z : ZX} {A : AX} {h : AH} {x3 s0 : Int32} {d : Nat} {P31 : Int32 → AH → Prop} (hR : RO R (d + 1)) (hcs : A.2.2.1 ≤ R.cells ∧ A.2.2.2 ≤ R.slots) (hM : Mk X d m_X12_isSign [.int s0] h A.1 A.2.1 (RI P31)) (q : ∀ (y : Int32) (g : AH), P31 y g → V X m_X12_compares R Z A 34 [some (.ref 68), none, none, some (.int x3), some (.int s0), none] [.int y] g) : V X m_X12_compares R Z A 27 [some (.ref 68), none, none, some (.int x3), none, none] [.int s0] h := by
  refine v_istore dX12_compares_27 (by decide) (L' := [some (.ref 68), none, none, some (.int x3), some (.int s0), none]) rfl ?_
  refine v_iload dX12_compares_29 rfl ?_
  exact v_cSI (mt := m_X12_compares) mo_X12_isSign ml_RX12_184 mz_X12_isSign rfl hR hcs (Nat.le_of_ble_eq_true rfl) dX12_compares_31 rfl hM (fun y g hp => (q y g hp))
theorem c_X12_compares_34 {X : CX} {R : Room} {Z : ZX} {A : AX} {h : AH} {x3 x4 s0 : Int32} {d : Nat} {P53 P38 : Int32 → AH → Prop} (hA0 : 91 ≤ A.1) (hR : RO R (d + 1)) (hcs : A.2.2.1 ≤ R.cells ∧ A.2.2.2 ≤ R.slots) (hM : ¬ s0 = 0 → Mk X d m_X12_sum [.ref 68] (setI h 68 11 ((h.1 68 11) + 1)) A.1 A.2.1 (RI P53)) (q : ¬ s0 = 0 → ∀ (y : Int32) (g : AH), P53 y g → V X m_X12_compares R Z A 56 [none, none, none, some (.int x3), some (.int x4), none] [.int y] g) (hM_1 : s0 = 0 → Mk X d m_X12_fails [.ref 68] h A.1 A.2.1 (RI P38)) (q_1 : s0 = 0 → ∀ (y : Int32) (g : AH), P38 y g → V X m_X12_compares R Z A 41 [none, none, none, none, none, none] [.int y] g) : V X m_X12_compares R Z A 34 [some (.ref 68), none, none, some (.int x3), some (.int x4), none] [.int s0] h := by
  refine v_if_ne (tgt := 42) dX12_compares_34 (by decide) (fun c0 => ?_) (fun c0 => ?_)
  · refine v_aload_n dX12_compares_42 rfl ?_
    refine v_dup dX12_compares_43 rfl ?_
    refine v_getI dX12_compares_44 fl_RX12_126 kd_68 (ltA hA0 rfl) rfl ?_
    refine v_iconst dX12_compares_47 ci_1 ?_
    refine v_iadd dX12_compares_48 ?_
    refine v_putI rfl rfl rfl dX12_compares_49 fl_RX12_126 (Or.inl rfl) kd_68 (ltA hA0 rfl) ?_
    refine v_aload_n dX12_compares_52 rfl ?_
    exact v_cVI (mt := m_X12_compares) mo_X12_sum ml_RX12_164 mi_X12_sum mv_X12_sum rfl kd_68 cl_12 rfl (ltA hA0 rfl) hR hcs (Nat.le_of_ble_eq_true rfl) dX12_compares_53 rfl (hM c0) (fun y g hp => (v_drop (lvLe_n (lvLe_n (lvLe_n (lvLe_s (lvLe_s (lvLe_n lvLe_e)))))) ((q c0) y g hp)))
  · refine v_aload_n dX12_compares_37 rfl ?_
    exact v_cVI (mt := m_X12_compares) mo_X12_fails ml_RX12_141 mi_X12_fails mv_X12_fails rfl kd_68 cl_12 rfl (ltA hA0 rfl) hR hcs (Nat.le_of_ble_eq_true rfl) dX12_compares_38 rfl (hM_1 c0) (fun y g hp => (v_drop (lvLe_n (lvLe_n (lvLe_n (lvLe_n (lvLe_n (lvLe_n lvLe_e)))))) ((q_1 c0) y g hp)))
theorem c_X12_compares_41 {X : CX} {R : Room} {Q : Option Value → AH → Prop} {nx sz mc ms : Nat} {h : AH} {s0 : Int32} (hq : Q (some (.int s0)) h) (hb_41 : narrow .boolean (.int s0) = .int s0) : V X m_X12_compares R (ZM X Q nx sz mc ms) (nx, sz, mc, ms) 41 [none, none, none, none, none, none] [.int s0] h := by
  exact v_zret (ty := .boolean) dX12_compares_41 rfl hb_41 hq
theorem c_X12_compares_56 {X : CX} {R : Room} {Q : Option Value → AH → Prop} {nx sz mc ms : Nat} {h : AH} {x3 x4 s0 : Int32} (hq : ¬ x4 = 61 → ¬ x4 = 60 → x3 ≤ s0 → Q (some (.int 0)) h) (hq_1 : ¬ x4 = 61 → ¬ x4 = 60 → ¬ x3 ≤ s0 → Q (some (.int 1)) h) (hq_2 : ¬ x4 = 61 → x4 = 60 → s0 ≤ x3 → Q (some (.int 0)) h) (hq_3 : ¬ x4 = 61 → x4 = 60 → ¬ s0 ≤ x3 → Q (some (.int 1)) h) (hq_4 : x4 = 61 → ¬ x3 = s0 → Q (some (.int 0)) h) (hq_5 : x4 = 61 → x3 = s0 → Q (some (.int 1)) h) : V X m_X12_compares R (ZM X Q nx sz mc ms) (nx, sz, mc, ms) 56 [none, none, none, some (.int x3), some (.int x4), none] [.int s0] h := by
  refine v_istore dX12_compares_56 (by decide) (L' := [none, none, none, some (.int x3), some (.int x4), some (.int s0)]) rfl ?_
  refine v_iload dX12_compares_58 rfl ?_
  refine v_bipush dX12_compares_60 cb_61 ?_
  refine v_icmp_ne (tgt := 79) dX12_compares_62 (by decide) (fun c0 => ?_) (fun c0 => ?_)
  · refine v_iload dX12_compares_79 rfl ?_
    refine v_bipush dX12_compares_81 cb_60 ?_
    refine v_icmp_ne (tgt := 100) dX12_compares_83 (by decide) (fun c1 => ?_) (fun c1 => ?_)
    · refine v_iload_n dX12_compares_100 rfl ?_
      refine v_iload dX12_compares_101 rfl ?_
      refine v_icmp_le (tgt := 110) dX12_compares_103 (by decide) (fun c2 => ?_) (fun c2 => ?_)
      · refine v_iconst dX12_compares_110 ci_0 ?_
        exact v_zret (ty := .boolean) dX12_compares_111 rfl rfl (hq c0 c1 c2)
      · refine v_iconst dX12_compares_106 ci_1 ?_
        refine v_goto (tgt := 111) dX12_compares_107 (by decide) ?_
        exact v_zret (ty := .boolean) dX12_compares_111 rfl rfl (hq_1 c0 c1 c2)
    · refine v_iload_n dX12_compares_86 rfl ?_
      refine v_iload dX12_compares_87 rfl ?_
      refine v_icmp_ge (tgt := 96) dX12_compares_89 (by decide) (fun c2 => ?_) (fun c2 => ?_)
      · refine v_iconst dX12_compares_96 ci_0 ?_
        refine v_goto (tgt := 111) dX12_compares_97 (by decide) ?_
        exact v_zret (ty := .boolean) dX12_compares_111 rfl rfl (hq_2 c0 c1 c2)
      · refine v_iconst dX12_compares_92 ci_1 ?_
        refine v_goto (tgt := 111) dX12_compares_93 (by decide) ?_
        exact v_zret (ty := .boolean) dX12_compares_111 rfl rfl (hq_3 c0 c1 c2)
  · refine v_iload_n dX12_compares_65 rfl ?_
    refine v_iload dX12_compares_66 rfl ?_
    refine v_icmp_ne (tgt := 75) dX12_compares_68 (by decide) (fun c1 => ?_) (fun c1 => ?_)
    · refine v_iconst dX12_compares_75 ci_0 ?_
      refine v_goto (tgt := 111) dX12_compares_76 (by decide) ?_
      exact v_zret (ty := .boolean) dX12_compares_111 rfl rfl (hq_4 c0 c1)
    · refine v_iconst dX12_compares_71 ci_1 ?_
      refine v_goto (tgt := 111) dX12_compares_72 (by decide) ?_
      exact v_zret (ty := .boolean) dX12_compares_111 rfl rfl (hq_5 c0 c1)
theorem e_X12_unit {X : CX} {d nx sz : Nat} {Q : Option Value → AH → Prop} {h : AH} (q : V X m_X12_unit (rm d 0 0) (ZM X Q nx sz 0 0) (nx, sz, 0, 0) 0 [some (.ref 68), none, none] [] h) : Mk X d m_X12_unit [.ref 68] h nx sz Q := by
  refine Mok.ofV mo_X12_unit (Nat.le_of_ble_eq_true rfl) (L := [some (.ref 68)]) (lvLe_s lvLe_e) (v_grow (n := 2) ?_)
  exact q
theorem c_X12_unit_0 {X : CX} {R : Room} {Z : ZX} {A : AX} {h : AH} {d : Nat} {P1 : Int32 → AH → Prop} (hA0 : 91 ≤ A.1) (hR : RO R (d + 1)) (hcs : A.2.2.1 ≤ R.cells ∧ A.2.2.2 ≤ R.slots) (hM : Mk X d m_X12_look [.ref 68] h A.1 A.2.1 (RI P1)) (q : ∀ (y : Int32) (g : AH), P1 y g → V X m_X12_unit R Z A 4 [some (.ref 68), none, none] [.int y] g) : V X m_X12_unit R Z A 0 [some (.ref 68), none, none] [] h := by
  refine v_aload_n dX12_unit_0 rfl ?_
  exact v_cVI (mt := m_X12_unit) mo_X12_look ml_RX12_145 mi_X12_look mv_X12_look rfl kd_68 cl_12 rfl (ltA hA0 rfl) hR hcs (Nat.le_of_ble_eq_true rfl) dX12_unit_1 rfl hM (fun y g hp => (q y g hp))
theorem c_X12_unit_4 {X : CX} {R : Room} {Z : ZX} {A : AX} {h : AH} {s0 : Int32} {d : Nat} {P93 P52 P12 : Int32 → AH → Prop} (hA0 : 91 ≤ A.1) (hR : RO R (d + 1)) (hcs : A.2.2.1 ≤ R.cells ∧ A.2.2.2 ≤ R.slots) (hM : ¬ s0 = 33 → ¬ s0 = 40 → Mk X d m_X12_compares [.ref 68, .int 0, .int 0] h A.1 A.2.1 (RI P93)) (q : ¬ s0 = 33 → ¬ s0 = 40 → ∀ (y : Int32) (g : AH), P93 y g → V X m_X12_unit R Z A 96 [none, none, none] [.int y] g) (hM_1 : ¬ s0 = 33 → s0 = 40 → Mk X d m_X12_goesIn [.ref 68] h A.1 A.2.1 (RI P52)) (q_1 : ¬ s0 = 33 → s0 = 40 → ∀ (y : Int32) (g : AH), P52 y g → V X m_X12_unit R Z A 55 [some (.ref 68), none, none] [.int y] g) (hM_2 : s0 = 33 → Mk X d m_X12_goesIn [.ref 68] h A.1 A.2.1 (RI P12)) (q_2 : s0 = 33 → ∀ (y : Int32) (g : AH), P12 y g → V X m_X12_unit R Z A 15 [some (.ref 68), none, none] [.int y] g) : V X m_X12_unit R Z A 4 [some (.ref 68), none, none] [.int s0] h := by
  refine v_istore_n dX12_unit_4 (by decide) (L' := [some (.ref 68), some (.int s0), none]) rfl ?_
  refine v_iload_n dX12_unit_5 rfl ?_
  refine v_bipush dX12_unit_6 cb_33 ?_
  refine v_icmp_ne (tgt := 45) dX12_unit_8 (by decide) (fun c0 => ?_) (fun c0 => ?_)
  · refine v_iload_n dX12_unit_45 rfl ?_
    refine v_bipush dX12_unit_46 cb_40 ?_
    refine v_icmp_ne (tgt := 90) dX12_unit_48 (by decide) (fun c1 => ?_) (fun c1 => ?_)
    · refine v_aload_n dX12_unit_90 rfl ?_
      refine v_iconst dX12_unit_91 ci_0 ?_
      refine v_iconst dX12_unit_92 ci_0 ?_
      exact v_cVI (mt := m_X12_unit) mo_X12_compares ml_RX12_194 mi_X12_compares mv_X12_compares rfl kd_68 cl_12 rfl (ltA hA0 rfl) hR hcs (Nat.le_of_ble_eq_true rfl) dX12_unit_93 rfl (hM c0 c1) (fun y g hp => (v_drop (lvLe_n (lvLe_n (lvLe_n lvLe_e))) ((q c0 c1) y g hp)))
    · refine v_aload_n dX12_unit_51 rfl ?_
      exact v_cVI (mt := m_X12_unit) mo_X12_goesIn ml_RX12_161 mi_X12_goesIn mv_X12_goesIn rfl kd_68 cl_12 rfl (ltA hA0 rfl) hR hcs (Nat.le_of_ble_eq_true rfl) dX12_unit_52 rfl (hM_1 c0 c1) (fun y g hp => (v_drop (lvLe_s (lvLe_n (lvLe_n lvLe_e))) ((q_1 c0 c1) y g hp)))
  · refine v_aload_n dX12_unit_11 rfl ?_
    exact v_cVI (mt := m_X12_unit) mo_X12_goesIn ml_RX12_161 mi_X12_goesIn mv_X12_goesIn rfl kd_68 cl_12 rfl (ltA hA0 rfl) hR hcs (Nat.le_of_ble_eq_true rfl) dX12_unit_12 rfl (hM_2 c0) (fun y g hp => (v_drop (lvLe_s (lvLe_n (lvLe_n lvLe_e))) ((q_2 c0) y g hp)))
theorem c_X12_unit_15 {X : CX} {R : Room} {Q : Option Value → AH → Prop} {nx sz mc ms : Nat} {h : AH} {s0 : Int32} {d : Nat} {P21 : Int32 → AH → Prop} (hA0 : 91 ≤ nx) (hR : RO R (d + 1)) (hcs : mc ≤ R.cells ∧ ms ≤ R.slots) (hM : ¬ s0 = 0 → Mk X d m_X12_unit [.ref 68] h nx sz (RI P21)) (q : ¬ s0 = 0 → ∀ (y : Int32) (g : AH), P21 y g → V X m_X12_unit R (ZM X Q nx sz mc ms) (nx, sz, mc, ms) 24 [some (.ref 68), none, none] [.int y] g) (hq : s0 = 0 → Q (some (.int 0)) h) : V X m_X12_unit R (ZM X Q nx sz mc ms) (nx, sz, mc, ms) 15 [some (.ref 68), none, none] [.int s0] h := by
  refine v_if_ne (tgt := 20) dX12_unit_15 (by decide) (fun c0 => ?_) (fun c0 => ?_)
  · refine v_aload_n dX12_unit_20 rfl ?_
    exact v_cVI (mt := m_X12_unit) mo_X12_unit ml_RX12_187 mi_X12_unit mv_X12_unit rfl kd_68 cl_12 rfl (ltA hA0 rfl) hR hcs (Nat.le_of_ble_eq_true rfl) dX12_unit_21 rfl (hM c0) (fun y g hp => ((q c0) y g hp))
  · refine v_iconst dX12_unit_18 ci_0 ?_
    exact v_zret (ty := .boolean) dX12_unit_19 rfl rfl (hq c0)
theorem c_X12_unit_24 {X : CX} {R : Room} {Q : Option Value → AH → Prop} {nx sz mc ms : Nat} {h : AH} {s0 : Int32} (hA0 : 91 ≤ nx) (hq : ¬ s0 = 0 → Q (some (.int 0)) (setI h 68 13 ((h.1 68 13) - 1))) (hq_1 : s0 = 0 → Q (some (.int 1)) (setI h 68 13 ((h.1 68 13) - 1))) : V X m_X12_unit R (ZM X Q nx sz mc ms) (nx, sz, mc, ms) 24 [some (.ref 68), none, none] [.int s0] h := by
  refine v_istore_n dX12_unit_24 (by decide) (L' := [some (.ref 68), none, some (.int s0)]) rfl ?_
  refine v_aload_n dX12_unit_25 rfl ?_
  refine v_dup dX12_unit_26 rfl ?_
  refine v_getI dX12_unit_27 fl_RX12_138 kd_68 (ltA hA0 rfl) rfl ?_
  refine v_iconst dX12_unit_30 ci_1 ?_
  refine v_isub dX12_unit_31 ?_
  refine v_putI rfl rfl rfl dX12_unit_32 fl_RX12_138 (Or.inl rfl) kd_68 (ltA hA0 rfl) ?_
  refine v_iload_n dX12_unit_35 rfl ?_
  refine v_if_ne (tgt := 43) dX12_unit_36 (by decide) (fun c0 => ?_) (fun c0 => ?_)
  · refine v_iconst dX12_unit_43 ci_0 ?_
    exact v_zret (ty := .boolean) dX12_unit_44 rfl rfl (hq c0)
  · refine v_iconst dX12_unit_39 ci_1 ?_
    refine v_goto (tgt := 44) dX12_unit_40 (by decide) ?_
    exact v_zret (ty := .boolean) dX12_unit_44 rfl rfl (hq_1 c0)
theorem c_X12_unit_55 {X : CX} {R : Room} {Q : Option Value → AH → Prop} {nx sz mc ms : Nat} {h : AH} {s0 : Int32} {d : Nat} {P63 : Int32 → AH → Prop} (hA0 : 91 ≤ nx) (hR : RO R (d + 1)) (hcs : mc ≤ R.cells ∧ ms ≤ R.slots) (hM : ¬ s0 = 0 → Mk X d m_X12_condition [.ref 68, .int 0, .int 0] h nx sz (RI P63)) (q : ¬ s0 = 0 → ∀ (y : Int32) (g : AH), P63 y g → V X m_X12_unit R (ZM X Q nx sz mc ms) (nx, sz, mc, ms) 66 [some (.ref 68), none, none] [.int y] g) (hq : s0 = 0 → Q (some (.int 0)) h) : V X m_X12_unit R (ZM X Q nx sz mc ms) (nx, sz, mc, ms) 55 [some (.ref 68), none, none] [.int s0] h := by
  refine v_if_ne (tgt := 60) dX12_unit_55 (by decide) (fun c0 => ?_) (fun c0 => ?_)
  · refine v_aload_n dX12_unit_60 rfl ?_
    refine v_iconst dX12_unit_61 ci_0 ?_
    refine v_iconst dX12_unit_62 ci_0 ?_
    exact v_cVI (mt := m_X12_unit) mo_X12_condition ml_RX12_190 mi_X12_condition mv_X12_condition rfl kd_68 cl_12 rfl (ltA hA0 rfl) hR hcs (Nat.le_of_ble_eq_true rfl) dX12_unit_63 rfl (hM c0) (fun y g hp => ((q c0) y g hp))
  · refine v_iconst dX12_unit_58 ci_0 ?_
    exact v_zret (ty := .boolean) dX12_unit_59 rfl rfl (hq c0)
theorem c_X12_unit_66 {X : CX} {R : Room} {Z : ZX} {A : AX} {h : AH} {s0 : Int32} {d : Nat} {P70 : Int32 → AH → Prop} (hA0 : 91 ≤ A.1) (hR : RO R (d + 1)) (hcs : A.2.2.1 ≤ R.cells ∧ A.2.2.2 ≤ R.slots) (hM : Mk X d m_X12_takes [.ref 68, .int 41] h A.1 A.2.1 (RI P70)) (q : ∀ (y : Int32) (g : AH), P70 y g → V X m_X12_unit R Z A 73 [some (.ref 68), none, some (.int s0)] [.int y] g) : V X m_X12_unit R Z A 66 [some (.ref 68), none, none] [.int s0] h := by
  refine v_istore_n dX12_unit_66 (by decide) (L' := [some (.ref 68), none, some (.int s0)]) rfl ?_
  refine v_aload_n dX12_unit_67 rfl ?_
  refine v_bipush dX12_unit_68 cb_41 ?_
  exact v_cVI (mt := m_X12_unit) mo_X12_takes ml_RX12_167 mi_X12_takes mv_X12_takes rfl kd_68 cl_12 rfl (ltA hA0 rfl) hR hcs (Nat.le_of_ble_eq_true rfl) dX12_unit_70 rfl hM (fun y g hp => (q y g hp))
theorem c_X12_unit_73 {X : CX} {R : Room} {Q : Option Value → AH → Prop} {nx sz mc ms : Nat} {h : AH} {x2 s0 : Int32} (hA0 : 91 ≤ nx) (hq : ¬ s0 = 0 → Q (some (.int x2)) (setI h 68 13 ((h.1 68 13) - 1))) (hb_89 : ¬ s0 = 0 → narrow .boolean (.int x2) = .int x2) (hq_1 : s0 = 0 → Q (some (.int 0)) h) : V X m_X12_unit R (ZM X Q nx sz mc ms) (nx, sz, mc, ms) 73 [some (.ref 68), none, some (.int x2)] [.int s0] h := by
  refine v_if_ne (tgt := 78) dX12_unit_73 (by decide) (fun c0 => ?_) (fun c0 => ?_)
  · refine v_aload_n dX12_unit_78 rfl ?_
    refine v_dup dX12_unit_79 rfl ?_
    refine v_getI dX12_unit_80 fl_RX12_138 kd_68 (ltA hA0 rfl) rfl ?_
    refine v_iconst dX12_unit_83 ci_1 ?_
    refine v_isub dX12_unit_84 ?_
    refine v_putI rfl rfl rfl dX12_unit_85 fl_RX12_138 (Or.inl rfl) kd_68 (ltA hA0 rfl) ?_
    refine v_iload_n dX12_unit_88 rfl ?_
    exact v_zret (ty := .boolean) dX12_unit_89 rfl (hb_89 c0) (hq c0)
  · refine v_iconst dX12_unit_76 ci_0 ?_
    exact v_zret (ty := .boolean) dX12_unit_77 rfl rfl (hq_1 c0)
theorem c_X12_unit_96 {X : CX} {R : Room} {Q : Option Value → AH → Prop} {nx sz mc ms : Nat} {h : AH} {s0 : Int32} (hq : Q (some (.int s0)) h) (hb_96 : narrow .boolean (.int s0) = .int s0) : V X m_X12_unit R (ZM X Q nx sz mc ms) (nx, sz, mc, ms) 96 [none, none, none] [.int s0] h := by
  exact v_zret (ty := .boolean) dX12_unit_96 rfl hb_96 hq
theorem e_X12_part {X : CX} {d nx sz : Nat} {Q : Option Value → AH → Prop} {h : AH} {x1 x2 : Int32} (q : V X m_X12_part (rm d 0 0) (ZM X Q nx sz 0 0) (nx, sz, 0, 0) 0 [some (.ref 68), some (.int x1), some (.int x2), none, none] [] h) : Mk X d m_X12_part [.ref 68, .int x1, .int x2] h nx sz Q := by
  refine Mok.ofV mo_X12_part (Nat.le_of_ble_eq_true rfl) (L := [some (.ref 68), some (.int x1), some (.int x2)]) (lvLe_s (lvLe_s (lvLe_s lvLe_e))) (v_grow (n := 2) ?_)
  exact q
theorem c_X12_part_0 {X : CX} {R : Room} {Z : ZX} {A : AX} {h : AH} {x1 x2 : Int32} {d : Nat} {P14 P7 : Int32 → AH → Prop} (hA0 : 91 ≤ A.1) (hR : RO R (d + 1)) (hcs : A.2.2.1 ≤ R.cells ∧ A.2.2.2 ≤ R.slots) (hM : x1 = 0 → Mk X d m_X12_unit [.ref 68] h A.1 A.2.1 (RI P14)) (q : x1 = 0 → ∀ (y : Int32) (g : AH), P14 y g → V X m_X12_part R Z A 17 [some (.ref 68), none, none, none, none] [.int y] g) (hM_1 : ¬ x1 = 0 → Mk X d m_X12_compares [.ref 68, .int 1, .int x2] h A.1 A.2.1 (RI P7)) (q_1 : ¬ x1 = 0 → ∀ (y : Int32) (g : AH), P7 y g → V X m_X12_part R Z A 10 [some (.ref 68), none, none, none, none] [.int y] g) : V X m_X12_part R Z A 0 [some (.ref 68), some (.int x1), some (.int x2), none, none] [] h := by
  refine v_iload_n dX12_part_0 rfl ?_
  refine v_if_eq (tgt := 13) dX12_part_1 (by decide) (fun c0 => ?_) (fun c0 => ?_)
  · refine v_aload_n dX12_part_13 rfl ?_
    exact v_cVI (mt := m_X12_part) mo_X12_unit ml_RX12_187 mi_X12_unit mv_X12_unit rfl kd_68 cl_12 rfl (ltA hA0 rfl) hR hcs (Nat.le_of_ble_eq_true rfl) dX12_part_14 rfl (hM c0) (fun y g hp => (v_drop (lvLe_s (lvLe_n (lvLe_n (lvLe_n (lvLe_n lvLe_e))))) ((q c0) y g hp)))
  · refine v_aload_n dX12_part_4 rfl ?_
    refine v_iconst dX12_part_5 ci_1 ?_
    refine v_iload_n dX12_part_6 rfl ?_
    exact v_cVI (mt := m_X12_part) mo_X12_compares ml_RX12_194 mi_X12_compares mv_X12_compares rfl kd_68 cl_12 rfl (ltA hA0 rfl) hR hcs (Nat.le_of_ble_eq_true rfl) dX12_part_7 rfl (hM_1 c0) (fun y g hp => (v_drop (lvLe_s (lvLe_n (lvLe_n (lvLe_n (lvLe_n lvLe_e))))) ((q_1 c0) y g hp)))
theorem c_X12_part_10 {X : CX} {R : Room} {Z : ZX} {A : AX} {h : AH} {s0 : Int32} (q : V X m_X12_part R Z A 17 [some (.ref 68), none, none, none, none] [.int s0] h) : V X m_X12_part R Z A 10 [some (.ref 68), none, none, none, none] [.int s0] h := by
  refine v_goto (tgt := 17) dX12_part_10 (by decide) ?_
  exact q
theorem c_X12_part_17 {X : CX} {R : Room} {Z : ZX} {A : AX} {h : AH} {s0 : Int32} (q : V X m_X12_part R Z A 18 [some (.ref 68), none, none, some (.int s0), none] [] h) : V X m_X12_part R Z A 17 [some (.ref 68), none, none, none, none] [.int s0] h := by
  refine v_istore_n dX12_part_17 (by decide) (L' := [some (.ref 68), none, none, some (.int s0), none]) rfl ?_
  exact q
theorem c_X12_part_18 {X : CX} {R : Room} {Q : Option Value → AH → Prop} {nx sz mc ms : Nat} {h : AH} {x3 : Int32} {d : Nat} {P27 : Int32 → AH → Prop} (hA0 : 91 ≤ nx) (hR : RO R (d + 1)) (hcs : mc ≤ R.cells ∧ ms ≤ R.slots) (hq : ¬ (h.1 68 12) = (-1) → Q (some (.int x3)) h) (hb_70 : ¬ (h.1 68 12) = (-1) → narrow .boolean (.int x3) = .int x3) (hM : (h.1 68 12) = (-1) → Mk X d m_X12_look [.ref 68] h nx sz (RI P27)) (q : (h.1 68 12) = (-1) → ∀ (y : Int32) (g : AH), P27 y g → V X m_X12_part R (ZM X Q nx sz mc ms) (nx, sz, mc, ms) 30 [some (.ref 68), none, none, some (.int x3), none] [.int y] g) : V X m_X12_part R (ZM X Q nx sz mc ms) (nx, sz, mc, ms) 18 [some (.ref 68), none, none, some (.int x3), none] [] h := by
  refine v_aload_n dX12_part_18 rfl ?_
  refine v_getI dX12_part_19 fl_RX12_135 kd_68 (ltA hA0 rfl) rfl ?_
  refine v_iconst dX12_part_22 ci_m1 ?_
  refine v_icmp_ne (tgt := 69) dX12_part_23 (by decide) (fun c0 => ?_) (fun c0 => ?_)
  · refine v_iload_n dX12_part_69 rfl ?_
    exact v_zret (ty := .boolean) dX12_part_70 rfl (hb_70 c0) (hq c0)
  · refine v_aload_n dX12_part_26 rfl ?_
    exact v_cVI (mt := m_X12_part) mo_X12_look ml_RX12_145 mi_X12_look mv_X12_look rfl kd_68 cl_12 rfl (ltA hA0 rfl) hR hcs (Nat.le_of_ble_eq_true rfl) dX12_part_27 rfl (hM c0) (fun y g hp => ((q c0) y g hp))
theorem c_X12_part_30 {X : CX} {R : Room} {Q : Option Value → AH → Prop} {nx sz mc ms : Nat} {h : AH} {x3 s0 : Int32} {d : Nat} {P46 : Int32 → AH → Prop} (hA0 : 91 ≤ nx) (hR : RO R (d + 1)) (hcs : mc ≤ R.cells ∧ ms ≤ R.slots) (hq : ¬ s0 = 38 → Q (some (.int x3)) h) (hb_70 : ¬ s0 = 38 → narrow .boolean (.int x3) = .int x3) (hM : s0 = 38 → Mk X d m_X12_unit [.ref 68] (setI h 68 11 ((h.1 68 11) + 1)) nx sz (RI P46)) (q : s0 = 38 → ∀ (y : Int32) (g : AH), P46 y g → V X m_X12_part R (ZM X Q nx sz mc ms) (nx, sz, mc, ms) 49 [some (.ref 68), none, none, some (.int x3), none] [.int y] g) : V X m_X12_part R (ZM X Q nx sz mc ms) (nx, sz, mc, ms) 30 [some (.ref 68), none, none, some (.int x3), none] [.int s0] h := by
  refine v_bipush dX12_part_30 cb_38 ?_
  refine v_icmp_ne (tgt := 69) dX12_part_32 (by decide) (fun c0 => ?_) (fun c0 => ?_)
  · refine v_iload_n dX12_part_69 rfl ?_
    exact v_zret (ty := .boolean) dX12_part_70 rfl (hb_70 c0) (hq c0)
  · refine v_aload_n dX12_part_35 rfl ?_
    refine v_dup dX12_part_36 rfl ?_
    refine v_getI dX12_part_37 fl_RX12_126 kd_68 (ltA hA0 rfl) rfl ?_
    refine v_iconst dX12_part_40 ci_1 ?_
    refine v_iadd dX12_part_41 ?_
    refine v_putI rfl rfl rfl dX12_part_42 fl_RX12_126 (Or.inl rfl) kd_68 (ltA hA0 rfl) ?_
    refine v_aload_n dX12_part_45 rfl ?_
    exact v_cVI (mt := m_X12_part) mo_X12_unit ml_RX12_187 mi_X12_unit mv_X12_unit rfl kd_68 cl_12 rfl (ltA hA0 rfl) hR hcs (Nat.le_of_ble_eq_true rfl) dX12_part_46 rfl (hM c0) (fun y g hp => ((q c0) y g hp))
theorem c_X12_part_49 {X : CX} {R : Room} {Z : ZX} {A : AX} {h : AH} {x3 s0 : Int32} (q : x3 = 0 → V X m_X12_part R Z A 18 [some (.ref 68), none, none, some (.int 0), none] [] h) (q_1 : ¬ x3 = 0 → s0 = 0 → V X m_X12_part R Z A 18 [some (.ref 68), none, none, some (.int 0), none] [] h) (q_2 : ¬ x3 = 0 → ¬ s0 = 0 → V X m_X12_part R Z A 18 [some (.ref 68), none, none, some (.int 1), none] [] h) : V X m_X12_part R Z A 49 [some (.ref 68), none, none, some (.int x3), none] [.int s0] h := by
  refine v_istore dX12_part_49 (by decide) (L' := [some (.ref 68), none, none, some (.int x3), some (.int s0)]) rfl ?_
  refine v_iload_n dX12_part_51 rfl ?_
  refine v_if_eq (tgt := 64) dX12_part_52 (by decide) (fun c0 => ?_) (fun c0 => ?_)
  · refine v_iconst dX12_part_64 ci_0 ?_
    refine v_istore_n dX12_part_65 (by decide) (L' := [some (.ref 68), none, none, some (.int 0), some (.int s0)]) rfl ?_
    refine v_goto (tgt := 18) dX12_part_66 (by decide) ?_
    exact (v_drop (lvLe_s (lvLe_n (lvLe_n (lvLe_s (lvLe_n lvLe_e))))) (q c0))
  · refine v_iload dX12_part_55 rfl ?_
    refine v_if_eq (tgt := 64) dX12_part_57 (by decide) (fun c1 => ?_) (fun c1 => ?_)
    · refine v_iconst dX12_part_64 ci_0 ?_
      refine v_istore_n dX12_part_65 (by decide) (L' := [some (.ref 68), none, none, some (.int 0), some (.int s0)]) rfl ?_
      refine v_goto (tgt := 18) dX12_part_66 (by decide) ?_
      exact (v_drop (lvLe_s (lvLe_n (lvLe_n (lvLe_s (lvLe_n lvLe_e))))) (q_1 c0 c1))
    · refine v_iconst dX12_part_60 ci_1 ?_
      refine v_goto (tgt := 65) dX12_part_61 (by decide) ?_
      refine v_istore_n dX12_part_65 (by decide) (L' := [some (.ref 68), none, none, some (.int 1), some (.int s0)]) rfl ?_
      refine v_goto (tgt := 18) dX12_part_66 (by decide) ?_
      exact (v_drop (lvLe_s (lvLe_n (lvLe_n (lvLe_s (lvLe_n lvLe_e))))) (q_2 c0 c1))
theorem e_X12_condition {X : CX} {d nx sz : Nat} {Q : Option Value → AH → Prop} {h : AH} {x1 x2 : Int32} (q : V X m_X12_condition (rm d 0 0) (ZM X Q nx sz 0 0) (nx, sz, 0, 0) 0 [some (.ref 68), some (.int x1), some (.int x2), none, none] [] h) : Mk X d m_X12_condition [.ref 68, .int x1, .int x2] h nx sz Q := by
  refine Mok.ofV mo_X12_condition (Nat.le_of_ble_eq_true rfl) (L := [some (.ref 68), some (.int x1), some (.int x2)]) (lvLe_s (lvLe_s (lvLe_s lvLe_e))) (v_grow (n := 2) ?_)
  exact q
theorem c_X12_condition_0 {X : CX} {R : Room} {Z : ZX} {A : AX} {h : AH} {x1 x2 : Int32} {d : Nat} {P3 : Int32 → AH → Prop} (hA0 : 91 ≤ A.1) (hR : RO R (d + 1)) (hcs : A.2.2.1 ≤ R.cells ∧ A.2.2.2 ≤ R.slots) (hM : Mk X d m_X12_part [.ref 68, .int x1, .int x2] h A.1 A.2.1 (RI P3)) (q : ∀ (y : Int32) (g : AH), P3 y g → V X m_X12_condition R Z A 6 [some (.ref 68), none, none, none, none] [.int y] g) : V X m_X12_condition R Z A 0 [some (.ref 68), some (.int x1), some (.int x2), none, none] [] h := by
  refine v_aload_n dX12_condition_0 rfl ?_
  refine v_iload_n dX12_condition_1 rfl ?_
  refine v_iload_n dX12_condition_2 rfl ?_
  exact v_cVI (mt := m_X12_condition) mo_X12_part ml_RX12_197 mi_X12_part mv_X12_part rfl kd_68 cl_12 rfl (ltA hA0 rfl) hR hcs (Nat.le_of_ble_eq_true rfl) dX12_condition_3 rfl hM (fun y g hp => (v_drop (lvLe_s (lvLe_n (lvLe_n (lvLe_n (lvLe_n lvLe_e))))) (q y g hp)))
theorem c_X12_condition_6 {X : CX} {R : Room} {Z : ZX} {A : AX} {h : AH} {s0 : Int32} (q : V X m_X12_condition R Z A 7 [some (.ref 68), none, none, some (.int s0), none] [] h) : V X m_X12_condition R Z A 6 [some (.ref 68), none, none, none, none] [.int s0] h := by
  refine v_istore_n dX12_condition_6 (by decide) (L' := [some (.ref 68), none, none, some (.int s0), none]) rfl ?_
  exact q
theorem c_X12_condition_7 {X : CX} {R : Room} {Q : Option Value → AH → Prop} {nx sz mc ms : Nat} {h : AH} {x3 : Int32} {d : Nat} {P16 : Int32 → AH → Prop} (hA0 : 91 ≤ nx) (hR : RO R (d + 1)) (hcs : mc ≤ R.cells ∧ ms ≤ R.slots) (hq : ¬ (h.1 68 12) = (-1) → Q (some (.int x3)) h) (hb_61 : ¬ (h.1 68 12) = (-1) → narrow .boolean (.int x3) = .int x3) (hM : (h.1 68 12) = (-1) → Mk X d m_X12_look [.ref 68] h nx sz (RI P16)) (q : (h.1 68 12) = (-1) → ∀ (y : Int32) (g : AH), P16 y g → V X m_X12_condition R (ZM X Q nx sz mc ms) (nx, sz, mc, ms) 19 [some (.ref 68), none, none, some (.int x3), none] [.int y] g) : V X m_X12_condition R (ZM X Q nx sz mc ms) (nx, sz, mc, ms) 7 [some (.ref 68), none, none, some (.int x3), none] [] h := by
  refine v_aload_n dX12_condition_7 rfl ?_
  refine v_getI dX12_condition_8 fl_RX12_135 kd_68 (ltA hA0 rfl) rfl ?_
  refine v_iconst dX12_condition_11 ci_m1 ?_
  refine v_icmp_ne (tgt := 60) dX12_condition_12 (by decide) (fun c0 => ?_) (fun c0 => ?_)
  · refine v_iload_n dX12_condition_60 rfl ?_
    exact v_zret (ty := .boolean) dX12_condition_61 rfl (hb_61 c0) (hq c0)
  · refine v_aload_n dX12_condition_15 rfl ?_
    exact v_cVI (mt := m_X12_condition) mo_X12_look ml_RX12_145 mi_X12_look mv_X12_look rfl kd_68 cl_12 rfl (ltA hA0 rfl) hR hcs (Nat.le_of_ble_eq_true rfl) dX12_condition_16 rfl (hM c0) (fun y g hp => ((q c0) y g hp))
theorem c_X12_condition_19 {X : CX} {R : Room} {Q : Option Value → AH → Prop} {nx sz mc ms : Nat} {h : AH} {x3 s0 : Int32} {d : Nat} {P37 : Int32 → AH → Prop} (hA0 : 91 ≤ nx) (hR : RO R (d + 1)) (hcs : mc ≤ R.cells ∧ ms ≤ R.slots) (hq : ¬ s0 = 124 → Q (some (.int x3)) h) (hb_61 : ¬ s0 = 124 → narrow .boolean (.int x3) = .int x3) (hM : s0 = 124 → Mk X d m_X12_part [.ref 68, .int 0, .int 0] (setI h 68 11 ((h.1 68 11) + 1)) nx sz (RI P37)) (q : s0 = 124 → ∀ (y : Int32) (g : AH), P37 y g → V X m_X12_condition R (ZM X Q nx sz mc ms) (nx, sz, mc, ms) 40 [some (.ref 68), none, none, some (.int x3), none] [.int y] g) : V X m_X12_condition R (ZM X Q nx sz mc ms) (nx, sz, mc, ms) 19 [some (.ref 68), none, none, some (.int x3), none] [.int s0] h := by
  refine v_bipush dX12_condition_19 cb_124 ?_
  refine v_icmp_ne (tgt := 60) dX12_condition_21 (by decide) (fun c0 => ?_) (fun c0 => ?_)
  · refine v_iload_n dX12_condition_60 rfl ?_
    exact v_zret (ty := .boolean) dX12_condition_61 rfl (hb_61 c0) (hq c0)
  · refine v_aload_n dX12_condition_24 rfl ?_
    refine v_dup dX12_condition_25 rfl ?_
    refine v_getI dX12_condition_26 fl_RX12_126 kd_68 (ltA hA0 rfl) rfl ?_
    refine v_iconst dX12_condition_29 ci_1 ?_
    refine v_iadd dX12_condition_30 ?_
    refine v_putI rfl rfl rfl dX12_condition_31 fl_RX12_126 (Or.inl rfl) kd_68 (ltA hA0 rfl) ?_
    refine v_aload_n dX12_condition_34 rfl ?_
    refine v_iconst dX12_condition_35 ci_0 ?_
    refine v_iconst dX12_condition_36 ci_0 ?_
    exact v_cVI (mt := m_X12_condition) mo_X12_part ml_RX12_197 mi_X12_part mv_X12_part rfl kd_68 cl_12 rfl (ltA hA0 rfl) hR hcs (Nat.le_of_ble_eq_true rfl) dX12_condition_37 rfl (hM c0) (fun y g hp => ((q c0) y g hp))
theorem c_X12_condition_40 {X : CX} {R : Room} {Z : ZX} {A : AX} {h : AH} {x3 s0 : Int32} (q : ¬ x3 = 0 → V X m_X12_condition R Z A 7 [some (.ref 68), none, none, some (.int 1), none] [] h) (q_1 : x3 = 0 → s0 = 0 → V X m_X12_condition R Z A 7 [some (.ref 68), none, none, some (.int 0), none] [] h) (q_2 : x3 = 0 → ¬ s0 = 0 → V X m_X12_condition R Z A 7 [some (.ref 68), none, none, some (.int 1), none] [] h) : V X m_X12_condition R Z A 40 [some (.ref 68), none, none, some (.int x3), none] [.int s0] h := by
  refine v_istore dX12_condition_40 (by decide) (L' := [some (.ref 68), none, none, some (.int x3), some (.int s0)]) rfl ?_
  refine v_iload_n dX12_condition_42 rfl ?_
  refine v_if_ne (tgt := 51) dX12_condition_43 (by decide) (fun c0 => ?_) (fun c0 => ?_)
  · refine v_iconst dX12_condition_51 ci_1 ?_
    refine v_goto (tgt := 56) dX12_condition_52 (by decide) ?_
    refine v_istore_n dX12_condition_56 (by decide) (L' := [some (.ref 68), none, none, some (.int 1), some (.int s0)]) rfl ?_
    refine v_goto (tgt := 7) dX12_condition_57 (by decide) ?_
    exact (v_drop (lvLe_s (lvLe_n (lvLe_n (lvLe_s (lvLe_n lvLe_e))))) (q c0))
  · refine v_iload dX12_condition_46 rfl ?_
    refine v_if_eq (tgt := 55) dX12_condition_48 (by decide) (fun c1 => ?_) (fun c1 => ?_)
    · refine v_iconst dX12_condition_55 ci_0 ?_
      refine v_istore_n dX12_condition_56 (by decide) (L' := [some (.ref 68), none, none, some (.int 0), some (.int s0)]) rfl ?_
      refine v_goto (tgt := 7) dX12_condition_57 (by decide) ?_
      exact (v_drop (lvLe_s (lvLe_n (lvLe_n (lvLe_s (lvLe_n lvLe_e))))) (q_1 c0 c1))
    · refine v_iconst dX12_condition_51 ci_1 ?_
      refine v_goto (tgt := 56) dX12_condition_52 (by decide) ?_
      refine v_istore_n dX12_condition_56 (by decide) (L' := [some (.ref 68), none, none, some (.int 1), some (.int s0)]) rfl ?_
      refine v_goto (tgt := 7) dX12_condition_57 (by decide) ?_
      exact (v_drop (lvLe_s (lvLe_n (lvLe_n (lvLe_s (lvLe_n lvLe_e))))) (q_2 c0 c1))
theorem e_X12_clause {X : CX} {d nx sz : Nat} {Q : Option Value → AH → Prop} {h : AH} (q : V X m_X12_clause (rm d 0 0) (ZM X Q nx sz 0 0) (nx, sz, 0, 0) 0 [some (.ref 68), none, none, none, none] [] h) : Mk X d m_X12_clause [.ref 68] h nx sz Q := by
  refine Mok.ofV mo_X12_clause (Nat.le_of_ble_eq_true rfl) (L := [some (.ref 68)]) (lvLe_s lvLe_e) (v_grow (n := 4) ?_)
  exact q
theorem c_X12_clause_0 {X : CX} {R : Room} {Z : ZX} {A : AX} {h : AH} {d : Nat} {P1 : Int32 → AH → Prop} (hA0 : 91 ≤ A.1) (hR : RO R (d + 1)) (hcs : A.2.2.1 ≤ R.cells ∧ A.2.2.2 ≤ R.slots) (hM : Mk X d m_X12_look [.ref 68] h A.1 A.2.1 (RI P1)) (q : ∀ (y : Int32) (g : AH), P1 y g → V X m_X12_clause R Z A 4 [some (.ref 68), none, none, none, none] [.int y] g) : V X m_X12_clause R Z A 0 [some (.ref 68), none, none, none, none] [] h := by
  refine v_aload_n dX12_clause_0 rfl ?_
  exact v_cVI (mt := m_X12_clause) mo_X12_look ml_RX12_145 mi_X12_look mv_X12_look rfl kd_68 cl_12 rfl (ltA hA0 rfl) hR hcs (Nat.le_of_ble_eq_true rfl) dX12_clause_1 rfl hM (fun y g hp => (q y g hp))
theorem c_X12_clause_4 {X : CX} {R : Room} {Z : ZX} {A : AX} {h : AH} {s0 : Int32} {d : Nat} {P8 : Int32 → AH → Prop} (hR : RO R (d + 1)) (hcs : A.2.2.1 ≤ R.cells ∧ A.2.2.2 ≤ R.slots) (hM : Mk X d m_X12_isAmong [.ref (10000 + 1), .int s0] h A.1 A.2.1 (RI P8)) (q : ∀ (y : Int32) (g : AH), P8 y g → V X m_X12_clause R Z A 11 [some (.ref 68), some (.int s0), none, none, none] [.int y] g) : V X m_X12_clause R Z A 4 [some (.ref 68), none, none, none, none] [.int s0] h := by
  refine v_istore_n dX12_clause_4 (by decide) (L' := [some (.ref 68), some (.int s0), none, none, none]) rfl ?_
  refine v_ldcs (k := 1) dX12_clause_5 (List.mem_of_getElem? (i := 2) rfl) ?_
  refine v_iload_n dX12_clause_7 rfl ?_
  exact v_cSI (mt := m_X12_clause) mo_X12_isAmong ml_RX12_157 mz_X12_isAmong rfl hR hcs (Nat.le_of_ble_eq_true rfl) dX12_clause_8 rfl hM (fun y g hp => (q y g hp))
theorem c_X12_clause_11 {X : CX} {R : Room} {Z : ZX} {A : AX} {h : AH} {x1 s0 : Int32} {d : Nat} {P33 P15 : Int32 → AH → Prop} (hA0 : 91 ≤ A.1) (hR : RO R (d + 1)) (hcs : A.2.2.1 ≤ R.cells ∧ A.2.2.2 ≤ R.slots) (hM : ¬ s0 = 0 → Mk X d m_X12_takes [.ref 68, .int 58] (setI h 68 11 ((h.1 68 11) + 1)) A.1 A.2.1 (RI P33)) (q : ¬ s0 = 0 → ∀ (y : Int32) (g : AH), P33 y g → V X m_X12_clause R Z A 36 [some (.ref 68), some (.int x1), none, none, none] [.int y] g) (hM_1 : s0 = 0 → Mk X d m_X12_fails [.ref 68] h A.1 A.2.1 (RI P15)) (q_1 : s0 = 0 → ∀ (y : Int32) (g : AH), P15 y g → V X m_X12_clause R Z A 18 [none, none, none, none, none] [.int y] g) : V X m_X12_clause R Z A 11 [some (.ref 68), some (.int x1), none, none, none] [.int s0] h := by
  refine v_if_ne (tgt := 20) dX12_clause_11 (by decide) (fun c0 => ?_) (fun c0 => ?_)
  · refine v_aload_n dX12_clause_20 rfl ?_
    refine v_dup dX12_clause_21 rfl ?_
    refine v_getI dX12_clause_22 fl_RX12_126 kd_68 (ltA hA0 rfl) rfl ?_
    refine v_iconst dX12_clause_25 ci_1 ?_
    refine v_iadd dX12_clause_26 ?_
    refine v_putI rfl rfl rfl dX12_clause_27 fl_RX12_126 (Or.inl rfl) kd_68 (ltA hA0 rfl) ?_
    refine v_aload_n dX12_clause_30 rfl ?_
    refine v_bipush dX12_clause_31 cb_58 ?_
    exact v_cVI (mt := m_X12_clause) mo_X12_takes ml_RX12_167 mi_X12_takes mv_X12_takes rfl kd_68 cl_12 rfl (ltA hA0 rfl) hR hcs (Nat.le_of_ble_eq_true rfl) dX12_clause_33 rfl (hM c0) (fun y g hp => ((q c0) y g hp))
  · refine v_aload_n dX12_clause_14 rfl ?_
    exact v_cVI (mt := m_X12_clause) mo_X12_fails ml_RX12_141 mi_X12_fails mv_X12_fails rfl kd_68 cl_12 rfl (ltA hA0 rfl) hR hcs (Nat.le_of_ble_eq_true rfl) dX12_clause_15 rfl (hM_1 c0) (fun y g hp => (v_drop (lvLe_n (lvLe_n (lvLe_n (lvLe_n (lvLe_n lvLe_e))))) ((q_1 c0) y g hp)))
theorem c_X12_clause_18 {X : CX} {R : Room} {Q : Option Value → AH → Prop} {nx sz mc ms : Nat} {h : AH} {s0 : Int32} (hq : Q none h) : V X m_X12_clause R (ZM X Q nx sz mc ms) (nx, sz, mc, ms) 18 [none, none, none, none, none] [.int s0] h := by
  refine v_pop dX12_clause_18 rfl ?_
  exact v_vret dX12_clause_19 rfl hq
theorem c_X12_clause_36 {X : CX} {R : Room} {Q : Option Value → AH → Prop} {nx sz mc ms : Nat} {h : AH} {x1 s0 : Int32} {d : Nat} {P45 : Int32 → AH → Prop} (hA0 : 91 ≤ nx) (hR : RO R (d + 1)) (hcs : mc ≤ R.cells ∧ ms ≤ R.slots) (hM : ¬ s0 = 0 → Mk X d m_X12_look [.ref 68] h nx sz (RI P45)) (q : ¬ s0 = 0 → ∀ (y : Int32) (g : AH), P45 y g → V X m_X12_clause R (ZM X Q nx sz mc ms) (nx, sz, mc, ms) 48 [some (.ref 68), some (.int x1), some (.int 1), none, none] [.int y] g) (hq : s0 = 0 → Q none h) : V X m_X12_clause R (ZM X Q nx sz mc ms) (nx, sz, mc, ms) 36 [some (.ref 68), some (.int x1), none, none, none] [.int s0] h := by
  refine v_if_ne (tgt := 40) dX12_clause_36 (by decide) (fun c0 => ?_) (fun c0 => ?_)
  · refine v_iconst dX12_clause_40 ci_1 ?_
    refine v_istore_n dX12_clause_41 (by decide) (L' := [some (.ref 68), some (.int x1), some (.int 1), none, none]) rfl ?_
    refine v_iconst dX12_clause_42 ci_0 ?_
    refine v_istore_n dX12_clause_43 (by decide) (L' := [some (.ref 68), some (.int x1), some (.int 1), some (.int 0), none]) rfl ?_
    refine v_aload_n dX12_clause_44 rfl ?_
    exact v_cVI (mt := m_X12_clause) mo_X12_look ml_RX12_145 mi_X12_look mv_X12_look rfl kd_68 cl_12 rfl (ltA hA0 rfl) hR hcs (Nat.le_of_ble_eq_true rfl) dX12_clause_45 rfl (hM c0) (fun y g hp => (v_drop (lvLe_s (lvLe_s (lvLe_s (lvLe_n (lvLe_n lvLe_e))))) ((q c0) y g hp)))
  · exact v_vret dX12_clause_39 rfl (hq c0)
theorem c_X12_clause_48 {X : CX} {R : Room} {Z : ZX} {A : AX} {h : AH} {x1 x2 s0 : Int32} {d : Nat} {P67 P90 P67_1 : Int32 → AH → Prop} (hA0 : 91 ≤ A.1) (hR : RO R (d + 1)) (hcs : A.2.2.1 ≤ R.cells ∧ A.2.2.2 ≤ R.slots) (hM : s0 = 33 → Mk X d m_X12_condition [.ref 68, .int 0, .int 0] h A.1 A.2.1 (RI P67)) (q : s0 = 33 → ∀ (y : Int32) (g : AH), P67 y g → V X m_X12_clause R Z A 70 [some (.ref 68), some (.int x1), none, none, none] [.int y] g) (hM_1 : ¬ s0 = 33 → ¬ s0 = 40 → Mk X d m_X12_sum [.ref 68] h A.1 A.2.1 (RI P90)) (q_1 : ¬ s0 = 33 → ¬ s0 = 40 → ∀ (y : Int32) (g : AH), P90 y g → V X m_X12_clause R Z A 93 [some (.ref 68), some (.int x1), some (.int x2), none, none] [.int y] g) (hM_2 : ¬ s0 = 33 → s0 = 40 → Mk X d m_X12_condition [.ref 68, .int 0, .int 0] h A.1 A.2.1 (RI P67_1)) (q_2 : ¬ s0 = 33 → s0 = 40 → ∀ (y : Int32) (g : AH), P67_1 y g → V X m_X12_clause R Z A 70 [some (.ref 68), some (.int x1), none, none, none] [.int y] g) : V X m_X12_clause R Z A 48 [some (.ref 68), some (.int x1), some (.int x2), none, none] [.int s0] h := by
  refine v_istore dX12_clause_48 (by decide) (L' := [some (.ref 68), some (.int x1), some (.int x2), none, some (.int s0)]) rfl ?_
  refine v_iload dX12_clause_50 rfl ?_
  refine v_bipush dX12_clause_52 cb_33 ?_
  refine v_icmp_eq (tgt := 64) dX12_clause_54 (by decide) (fun c0 => ?_) (fun c0 => ?_)
  · refine v_aload_n dX12_clause_64 rfl ?_
    refine v_iconst dX12_clause_65 ci_0 ?_
    refine v_iconst dX12_clause_66 ci_0 ?_
    exact v_cVI (mt := m_X12_clause) mo_X12_condition ml_RX12_190 mi_X12_condition mv_X12_condition rfl kd_68 cl_12 rfl (ltA hA0 rfl) hR hcs (Nat.le_of_ble_eq_true rfl) dX12_clause_67 rfl (hM c0) (fun y g hp => (v_drop (lvLe_s (lvLe_s (lvLe_n (lvLe_n (lvLe_n lvLe_e))))) ((q c0) y g hp)))
  · refine v_iload dX12_clause_57 rfl ?_
    refine v_bipush dX12_clause_59 cb_40 ?_
    refine v_icmp_ne (tgt := 89) dX12_clause_61 (by decide) (fun c1 => ?_) (fun c1 => ?_)
    · refine v_aload_n dX12_clause_89 rfl ?_
      exact v_cVI (mt := m_X12_clause) mo_X12_sum ml_RX12_164 mi_X12_sum mv_X12_sum rfl kd_68 cl_12 rfl (ltA hA0 rfl) hR hcs (Nat.le_of_ble_eq_true rfl) dX12_clause_90 rfl (hM_1 c0 c1) (fun y g hp => (v_drop (lvLe_s (lvLe_s (lvLe_s (lvLe_n (lvLe_n lvLe_e))))) ((q_1 c0 c1) y g hp)))
    · refine v_aload_n dX12_clause_64 rfl ?_
      refine v_iconst dX12_clause_65 ci_0 ?_
      refine v_iconst dX12_clause_66 ci_0 ?_
      exact v_cVI (mt := m_X12_clause) mo_X12_condition ml_RX12_190 mi_X12_condition mv_X12_condition rfl kd_68 cl_12 rfl (ltA hA0 rfl) hR hcs (Nat.le_of_ble_eq_true rfl) dX12_clause_67 rfl (hM_2 c0 c1) (fun y g hp => (v_drop (lvLe_s (lvLe_s (lvLe_n (lvLe_n (lvLe_n lvLe_e))))) ((q_2 c0 c1) y g hp)))
theorem c_X12_clause_70 {X : CX} {R : Room} {Z : ZX} {A : AX} {h : AH} {x1 s0 : Int32} {d : Nat} {P74 : Int32 → AH → Prop} (hA0 : 91 ≤ A.1) (hR : RO R (d + 1)) (hcs : A.2.2.1 ≤ R.cells ∧ A.2.2.2 ≤ R.slots) (hM : Mk X d m_X12_takes [.ref 68, .int 63] h A.1 A.2.1 (RI P74)) (q : ∀ (y : Int32) (g : AH), P74 y g → V X m_X12_clause R Z A 77 [some (.ref 68), some (.int x1), some (.int s0), none, none] [.int y] g) : V X m_X12_clause R Z A 70 [some (.ref 68), some (.int x1), none, none, none] [.int s0] h := by
  refine v_istore_n dX12_clause_70 (by decide) (L' := [some (.ref 68), some (.int x1), some (.int s0), none, none]) rfl ?_
  refine v_aload_n dX12_clause_71 rfl ?_
  refine v_bipush dX12_clause_72 cb_63 ?_
  exact v_cVI (mt := m_X12_clause) mo_X12_takes ml_RX12_167 mi_X12_takes mv_X12_takes rfl kd_68 cl_12 rfl (ltA hA0 rfl) hR hcs (Nat.le_of_ble_eq_true rfl) dX12_clause_74 rfl hM (fun y g hp => (q y g hp))
theorem c_X12_clause_77 {X : CX} {R : Room} {Q : Option Value → AH → Prop} {nx sz mc ms : Nat} {h : AH} {x1 x2 s0 : Int32} {d : Nat} {P82 : Int32 → AH → Prop} (hA0 : 91 ≤ nx) (hR : RO R (d + 1)) (hcs : mc ≤ R.cells ∧ ms ≤ R.slots) (hM : ¬ s0 = 0 → Mk X d m_X12_sum [.ref 68] h nx sz (RI P82)) (q : ¬ s0 = 0 → ∀ (y : Int32) (g : AH), P82 y g → V X m_X12_clause R (ZM X Q nx sz mc ms) (nx, sz, mc, ms) 85 [some (.ref 68), some (.int x1), some (.int x2), none, none] [.int y] g) (hq : s0 = 0 → Q none h) : V X m_X12_clause R (ZM X Q nx sz mc ms) (nx, sz, mc, ms) 77 [some (.ref 68), some (.int x1), some (.int x2), none, none] [.int s0] h := by
  refine v_if_ne (tgt := 81) dX12_clause_77 (by decide) (fun c0 => ?_) (fun c0 => ?_)
  · refine v_aload_n dX12_clause_81 rfl ?_
    exact v_cVI (mt := m_X12_clause) mo_X12_sum ml_RX12_164 mi_X12_sum mv_X12_sum rfl kd_68 cl_12 rfl (ltA hA0 rfl) hR hcs (Nat.le_of_ble_eq_true rfl) dX12_clause_82 rfl (hM c0) (fun y g hp => ((q c0) y g hp))
  · exact v_vret dX12_clause_80 rfl (hq c0)
theorem c_X12_clause_85 {X : CX} {R : Room} {Q : Option Value → AH → Prop} {nx sz mc ms : Nat} {h : AH} {x1 x2 s0 : Int32} (hA0 : 91 ≤ nx) (hq : ¬ (h.1 68 12) = (-1) → Q none h) (hq_1 : (h.1 68 12) = (-1) → ¬ (h.1 68 18) = 0 → Q none h) (hq_2 : (h.1 68 12) = (-1) → (h.1 68 18) = 0 → ¬ x1 = (h.1 68 14) → Q none h) (hq_3 : (h.1 68 12) = (-1) → (h.1 68 18) = 0 → x1 = (h.1 68 14) → ¬ x2 = 0 → Q none (setI (setI h 68 18 1) 68 15 s0)) (hq_4 : (h.1 68 12) = (-1) → (h.1 68 18) = 0 → x1 = (h.1 68 14) → x2 = 0 → Q none h) : V X m_X12_clause R (ZM X Q nx sz mc ms) (nx, sz, mc, ms) 85 [some (.ref 68), some (.int x1), some (.int x2), none, none] [.int s0] h := by
  refine v_istore_n dX12_clause_85 (by decide) (L' := [some (.ref 68), some (.int x1), some (.int x2), some (.int s0), none]) rfl ?_
  refine v_goto (tgt := 134) dX12_clause_86 (by decide) ?_
  refine v_aload_n dX12_clause_134 rfl ?_
  refine v_getI dX12_clause_135 fl_RX12_135 kd_68 (ltA hA0 rfl) rfl ?_
  refine v_iconst dX12_clause_138 ci_m1 ?_
  refine v_icmp_ne (tgt := 161) dX12_clause_139 (by decide) (fun c0 => ?_) (fun c0 => ?_)
  · exact v_vret dX12_clause_161 rfl (hq c0)
  · refine v_aload_n dX12_clause_142 rfl ?_
    refine v_getI dX12_clause_143 fl_RX12_200 kd_68 (ltA hA0 rfl) rfl ?_
    refine v_if_ne (tgt := 161) dX12_clause_146 (by decide) (fun c1 => ?_) (fun c1 => ?_)
    · exact v_vret dX12_clause_161 rfl (hq_1 c0 c1)
    · refine v_iload_n dX12_clause_149 rfl ?_
      refine v_aload_n dX12_clause_150 rfl ?_
      refine v_getI dX12_clause_151 fl_RX12_204 kd_68 (ltA hA0 rfl) rfl ?_
      refine v_icmp_ne (tgt := 161) dX12_clause_154 (by decide) (fun c2 => ?_) (fun c2 => ?_)
      · exact v_vret dX12_clause_161 rfl (hq_2 c0 c1 c2)
      · refine v_iload_n dX12_clause_157 rfl ?_
        refine v_if_ne (tgt := 162) dX12_clause_158 (by decide) (fun c3 => ?_) (fun c3 => ?_)
        · refine v_aload_n dX12_clause_162 rfl ?_
          refine v_iconst dX12_clause_163 ci_1 ?_
          refine v_putI rfl rfl rfl dX12_clause_164 fl_RX12_200 (Or.inl rfl) kd_68 (ltA hA0 rfl) ?_
          refine v_aload_n dX12_clause_167 rfl ?_
          refine v_iload_n dX12_clause_168 rfl ?_
          refine v_putI rfl rfl rfl dX12_clause_169 fl_RX12_207 (Or.inl rfl) kd_68 (ltA hA0 rfl) ?_
          exact v_vret dX12_clause_172 rfl (hq_3 c0 c1 c2 c3)
        · exact v_vret dX12_clause_161 rfl (hq_4 c0 c1 c2 c3)
theorem c_X12_clause_93 {X : CX} {R : Room} {Q : Option Value → AH → Prop} {nx sz mc ms : Nat} {h : AH} {x1 x2 s0 : Int32} {d : Nat} {P103 : Int32 → AH → Prop} (hA0 : 91 ≤ nx) (hR : RO R (d + 1)) (hcs : mc ≤ R.cells ∧ ms ≤ R.slots) (hq : ¬ (h.1 68 12) = (-1) → ¬ (h.1 68 12) = (-1) → Q none h) (hq_1 : ¬ (h.1 68 12) = (-1) → (h.1 68 12) = (-1) → ¬ (h.1 68 18) = 0 → Q none h) (hq_2 : ¬ (h.1 68 12) = (-1) → (h.1 68 12) = (-1) → (h.1 68 18) = 0 → ¬ x1 = (h.1 68 14) → Q none h) (hq_3 : ¬ (h.1 68 12) = (-1) → (h.1 68 12) = (-1) → (h.1 68 18) = 0 → x1 = (h.1 68 14) → ¬ x2 = 0 → Q none (setI (setI h 68 18 1) 68 15 s0)) (hq_4 : ¬ (h.1 68 12) = (-1) → (h.1 68 12) = (-1) → (h.1 68 18) = 0 → x1 = (h.1 68 14) → x2 = 0 → Q none h) (hM : (h.1 68 12) = (-1) → Mk X d m_X12_look [.ref 68] h nx sz (RI P103)) (q : (h.1 68 12) = (-1) → ∀ (y : Int32) (g : AH), P103 y g → V X m_X12_clause R (ZM X Q nx sz mc ms) (nx, sz, mc, ms) 106 [some (.ref 68), some (.int x1), some (.int x2), some (.int s0), none] [.int y] g) : V X m_X12_clause R (ZM X Q nx sz mc ms) (nx, sz, mc, ms) 93 [some (.ref 68), some (.int x1), some (.int x2), none, none] [.int s0] h := by
  refine v_istore_n dX12_clause_93 (by decide) (L' := [some (.ref 68), some (.int x1), some (.int x2), some (.int s0), none]) rfl ?_
  refine v_aload_n dX12_clause_94 rfl ?_
  refine v_getI dX12_clause_95 fl_RX12_135 kd_68 (ltA hA0 rfl) rfl ?_
  refine v_iconst dX12_clause_98 ci_m1 ?_
  refine v_icmp_ne (tgt := 134) dX12_clause_99 (by decide) (fun c0 => ?_) (fun c0 => ?_)
  · refine v_aload_n dX12_clause_134 rfl ?_
    refine v_getI dX12_clause_135 fl_RX12_135 kd_68 (ltA hA0 rfl) rfl ?_
    refine v_iconst dX12_clause_138 ci_m1 ?_
    refine v_icmp_ne (tgt := 161) dX12_clause_139 (by decide) (fun c1 => ?_) (fun c1 => ?_)
    · exact v_vret dX12_clause_161 rfl (hq c0 c1)
    · refine v_aload_n dX12_clause_142 rfl ?_
      refine v_getI dX12_clause_143 fl_RX12_200 kd_68 (ltA hA0 rfl) rfl ?_
      refine v_if_ne (tgt := 161) dX12_clause_146 (by decide) (fun c2 => ?_) (fun c2 => ?_)
      · exact v_vret dX12_clause_161 rfl (hq_1 c0 c1 c2)
      · refine v_iload_n dX12_clause_149 rfl ?_
        refine v_aload_n dX12_clause_150 rfl ?_
        refine v_getI dX12_clause_151 fl_RX12_204 kd_68 (ltA hA0 rfl) rfl ?_
        refine v_icmp_ne (tgt := 161) dX12_clause_154 (by decide) (fun c3 => ?_) (fun c3 => ?_)
        · exact v_vret dX12_clause_161 rfl (hq_2 c0 c1 c2 c3)
        · refine v_iload_n dX12_clause_157 rfl ?_
          refine v_if_ne (tgt := 162) dX12_clause_158 (by decide) (fun c4 => ?_) (fun c4 => ?_)
          · refine v_aload_n dX12_clause_162 rfl ?_
            refine v_iconst dX12_clause_163 ci_1 ?_
            refine v_putI rfl rfl rfl dX12_clause_164 fl_RX12_200 (Or.inl rfl) kd_68 (ltA hA0 rfl) ?_
            refine v_aload_n dX12_clause_167 rfl ?_
            refine v_iload_n dX12_clause_168 rfl ?_
            refine v_putI rfl rfl rfl dX12_clause_169 fl_RX12_207 (Or.inl rfl) kd_68 (ltA hA0 rfl) ?_
            exact v_vret dX12_clause_172 rfl (hq_3 c0 c1 c2 c3 c4)
          · exact v_vret dX12_clause_161 rfl (hq_4 c0 c1 c2 c3 c4)
  · refine v_aload_n dX12_clause_102 rfl ?_
    exact v_cVI (mt := m_X12_clause) mo_X12_look ml_RX12_145 mi_X12_look mv_X12_look rfl kd_68 cl_12 rfl (ltA hA0 rfl) hR hcs (Nat.le_of_ble_eq_true rfl) dX12_clause_103 rfl (hM c0) (fun y g hp => ((q c0) y g hp))
theorem c_X12_clause_106 {X : CX} {R : Room} {Z : ZX} {A : AX} {h : AH} {x1 x2 x3 s0 : Int32} {d : Nat} {P106 : Int32 → AH → Prop} (hR : RO R (d + 1)) (hcs : A.2.2.1 ≤ R.cells ∧ A.2.2.2 ≤ R.slots) (hM : Mk X d m_X12_isSign [.int s0] h A.1 A.2.1 (RI P106)) (q : ∀ (y : Int32) (g : AH), P106 y g → V X m_X12_clause R Z A 109 [some (.ref 68), some (.int x1), some (.int x2), some (.int x3), none] [.int y] g) : V X m_X12_clause R Z A 106 [some (.ref 68), some (.int x1), some (.int x2), some (.int x3), none] [.int s0] h := by
  exact v_cSI (mt := m_X12_clause) mo_X12_isSign ml_RX12_184 mz_X12_isSign rfl hR hcs (Nat.le_of_ble_eq_true rfl) dX12_clause_106 rfl hM (fun y g hp => (q y g hp))
theorem c_X12_clause_109 {X : CX} {R : Room} {Q : Option Value → AH → Prop} {nx sz mc ms : Nat} {h : AH} {x1 x2 x3 s0 : Int32} {d : Nat} {P115 : Int32 → AH → Prop} (hA0 : 91 ≤ nx) (hR : RO R (d + 1)) (hcs : mc ≤ R.cells ∧ ms ≤ R.slots) (hq : s0 = 0 → ¬ (h.1 68 12) = (-1) → Q none h) (hq_1 : s0 = 0 → (h.1 68 12) = (-1) → ¬ (h.1 68 18) = 0 → Q none h) (hq_2 : s0 = 0 → (h.1 68 12) = (-1) → (h.1 68 18) = 0 → ¬ x1 = (h.1 68 14) → Q none h) (hq_3 : s0 = 0 → (h.1 68 12) = (-1) → (h.1 68 18) = 0 → x1 = (h.1 68 14) → ¬ x2 = 0 → Q none (setI (setI h 68 18 1) 68 15 x3)) (hq_4 : s0 = 0 → (h.1 68 12) = (-1) → (h.1 68 18) = 0 → x1 = (h.1 68 14) → x2 = 0 → Q none h) (hM : ¬ s0 = 0 → Mk X d m_X12_condition [.ref 68, .int 1, .int x3] h nx sz (RI P115)) (q : ¬ s0 = 0 → ∀ (y : Int32) (g : AH), P115 y g → V X m_X12_clause R (ZM X Q nx sz mc ms) (nx, sz, mc, ms) 118 [some (.ref 68), some (.int x1), none, none, none] [.int y] g) : V X m_X12_clause R (ZM X Q nx sz mc ms) (nx, sz, mc, ms) 109 [some (.ref 68), some (.int x1), some (.int x2), some (.int x3), none] [.int s0] h := by
  refine v_if_eq (tgt := 134) dX12_clause_109 (by decide) (fun c0 => ?_) (fun c0 => ?_)
  · refine v_aload_n dX12_clause_134 rfl ?_
    refine v_getI dX12_clause_135 fl_RX12_135 kd_68 (ltA hA0 rfl) rfl ?_
    refine v_iconst dX12_clause_138 ci_m1 ?_
    refine v_icmp_ne (tgt := 161) dX12_clause_139 (by decide) (fun c1 => ?_) (fun c1 => ?_)
    · exact v_vret dX12_clause_161 rfl (hq c0 c1)
    · refine v_aload_n dX12_clause_142 rfl ?_
      refine v_getI dX12_clause_143 fl_RX12_200 kd_68 (ltA hA0 rfl) rfl ?_
      refine v_if_ne (tgt := 161) dX12_clause_146 (by decide) (fun c2 => ?_) (fun c2 => ?_)
      · exact v_vret dX12_clause_161 rfl (hq_1 c0 c1 c2)
      · refine v_iload_n dX12_clause_149 rfl ?_
        refine v_aload_n dX12_clause_150 rfl ?_
        refine v_getI dX12_clause_151 fl_RX12_204 kd_68 (ltA hA0 rfl) rfl ?_
        refine v_icmp_ne (tgt := 161) dX12_clause_154 (by decide) (fun c3 => ?_) (fun c3 => ?_)
        · exact v_vret dX12_clause_161 rfl (hq_2 c0 c1 c2 c3)
        · refine v_iload_n dX12_clause_157 rfl ?_
          refine v_if_ne (tgt := 162) dX12_clause_158 (by decide) (fun c4 => ?_) (fun c4 => ?_)
          · refine v_aload_n dX12_clause_162 rfl ?_
            refine v_iconst dX12_clause_163 ci_1 ?_
            refine v_putI rfl rfl rfl dX12_clause_164 fl_RX12_200 (Or.inl rfl) kd_68 (ltA hA0 rfl) ?_
            refine v_aload_n dX12_clause_167 rfl ?_
            refine v_iload_n dX12_clause_168 rfl ?_
            refine v_putI rfl rfl rfl dX12_clause_169 fl_RX12_207 (Or.inl rfl) kd_68 (ltA hA0 rfl) ?_
            exact v_vret dX12_clause_172 rfl (hq_3 c0 c1 c2 c3 c4)
          · exact v_vret dX12_clause_161 rfl (hq_4 c0 c1 c2 c3 c4)
  · refine v_aload_n dX12_clause_112 rfl ?_
    refine v_iconst dX12_clause_113 ci_1 ?_
    refine v_iload_n dX12_clause_114 rfl ?_
    exact v_cVI (mt := m_X12_clause) mo_X12_condition ml_RX12_190 mi_X12_condition mv_X12_condition rfl kd_68 cl_12 rfl (ltA hA0 rfl) hR hcs (Nat.le_of_ble_eq_true rfl) dX12_clause_115 rfl (hM c0) (fun y g hp => (v_drop (lvLe_s (lvLe_s (lvLe_n (lvLe_n (lvLe_n lvLe_e))))) ((q c0) y g hp)))
theorem c_X12_clause_118 {X : CX} {R : Room} {Z : ZX} {A : AX} {h : AH} {x1 s0 : Int32} {d : Nat} {P122 : Int32 → AH → Prop} (hA0 : 91 ≤ A.1) (hR : RO R (d + 1)) (hcs : A.2.2.1 ≤ R.cells ∧ A.2.2.2 ≤ R.slots) (hM : Mk X d m_X12_takes [.ref 68, .int 63] h A.1 A.2.1 (RI P122)) (q : ∀ (y : Int32) (g : AH), P122 y g → V X m_X12_clause R Z A 125 [some (.ref 68), some (.int x1), some (.int s0), none, none] [.int y] g) : V X m_X12_clause R Z A 118 [some (.ref 68), some (.int x1), none, none, none] [.int s0] h := by
  refine v_istore_n dX12_clause_118 (by decide) (L' := [some (.ref 68), some (.int x1), some (.int s0), none, none]) rfl ?_
  refine v_aload_n dX12_clause_119 rfl ?_
  refine v_bipush dX12_clause_120 cb_63 ?_
  exact v_cVI (mt := m_X12_clause) mo_X12_takes ml_RX12_167 mi_X12_takes mv_X12_takes rfl kd_68 cl_12 rfl (ltA hA0 rfl) hR hcs (Nat.le_of_ble_eq_true rfl) dX12_clause_122 rfl hM (fun y g hp => (q y g hp))
theorem c_X12_clause_125 {X : CX} {R : Room} {Q : Option Value → AH → Prop} {nx sz mc ms : Nat} {h : AH} {x1 x2 s0 : Int32} {d : Nat} {P130 : Int32 → AH → Prop} (hA0 : 91 ≤ nx) (hR : RO R (d + 1)) (hcs : mc ≤ R.cells ∧ ms ≤ R.slots) (hM : ¬ s0 = 0 → Mk X d m_X12_sum [.ref 68] h nx sz (RI P130)) (q : ¬ s0 = 0 → ∀ (y : Int32) (g : AH), P130 y g → V X m_X12_clause R (ZM X Q nx sz mc ms) (nx, sz, mc, ms) 133 [some (.ref 68), some (.int x1), some (.int x2), none, none] [.int y] g) (hq : s0 = 0 → Q none h) : V X m_X12_clause R (ZM X Q nx sz mc ms) (nx, sz, mc, ms) 125 [some (.ref 68), some (.int x1), some (.int x2), none, none] [.int s0] h := by
  refine v_if_ne (tgt := 129) dX12_clause_125 (by decide) (fun c0 => ?_) (fun c0 => ?_)
  · refine v_aload_n dX12_clause_129 rfl ?_
    exact v_cVI (mt := m_X12_clause) mo_X12_sum ml_RX12_164 mi_X12_sum mv_X12_sum rfl kd_68 cl_12 rfl (ltA hA0 rfl) hR hcs (Nat.le_of_ble_eq_true rfl) dX12_clause_130 rfl (hM c0) (fun y g hp => ((q c0) y g hp))
  · exact v_vret dX12_clause_128 rfl (hq c0)
theorem c_X12_clause_133 {X : CX} {R : Room} {Q : Option Value → AH → Prop} {nx sz mc ms : Nat} {h : AH} {x1 x2 s0 : Int32} (hA0 : 91 ≤ nx) (hq : ¬ (h.1 68 12) = (-1) → Q none h) (hq_1 : (h.1 68 12) = (-1) → ¬ (h.1 68 18) = 0 → Q none h) (hq_2 : (h.1 68 12) = (-1) → (h.1 68 18) = 0 → ¬ x1 = (h.1 68 14) → Q none h) (hq_3 : (h.1 68 12) = (-1) → (h.1 68 18) = 0 → x1 = (h.1 68 14) → ¬ x2 = 0 → Q none (setI (setI h 68 18 1) 68 15 s0)) (hq_4 : (h.1 68 12) = (-1) → (h.1 68 18) = 0 → x1 = (h.1 68 14) → x2 = 0 → Q none h) : V X m_X12_clause R (ZM X Q nx sz mc ms) (nx, sz, mc, ms) 133 [some (.ref 68), some (.int x1), some (.int x2), none, none] [.int s0] h := by
  refine v_istore_n dX12_clause_133 (by decide) (L' := [some (.ref 68), some (.int x1), some (.int x2), some (.int s0), none]) rfl ?_
  refine v_aload_n dX12_clause_134 rfl ?_
  refine v_getI dX12_clause_135 fl_RX12_135 kd_68 (ltA hA0 rfl) rfl ?_
  refine v_iconst dX12_clause_138 ci_m1 ?_
  refine v_icmp_ne (tgt := 161) dX12_clause_139 (by decide) (fun c0 => ?_) (fun c0 => ?_)
  · exact v_vret dX12_clause_161 rfl (hq c0)
  · refine v_aload_n dX12_clause_142 rfl ?_
    refine v_getI dX12_clause_143 fl_RX12_200 kd_68 (ltA hA0 rfl) rfl ?_
    refine v_if_ne (tgt := 161) dX12_clause_146 (by decide) (fun c1 => ?_) (fun c1 => ?_)
    · exact v_vret dX12_clause_161 rfl (hq_1 c0 c1)
    · refine v_iload_n dX12_clause_149 rfl ?_
      refine v_aload_n dX12_clause_150 rfl ?_
      refine v_getI dX12_clause_151 fl_RX12_204 kd_68 (ltA hA0 rfl) rfl ?_
      refine v_icmp_ne (tgt := 161) dX12_clause_154 (by decide) (fun c2 => ?_) (fun c2 => ?_)
      · exact v_vret dX12_clause_161 rfl (hq_2 c0 c1 c2)
      · refine v_iload_n dX12_clause_157 rfl ?_
        refine v_if_ne (tgt := 162) dX12_clause_158 (by decide) (fun c3 => ?_) (fun c3 => ?_)
        · refine v_aload_n dX12_clause_162 rfl ?_
          refine v_iconst dX12_clause_163 ci_1 ?_
          refine v_putI rfl rfl rfl dX12_clause_164 fl_RX12_200 (Or.inl rfl) kd_68 (ltA hA0 rfl) ?_
          refine v_aload_n dX12_clause_167 rfl ?_
          refine v_iload_n dX12_clause_168 rfl ?_
          refine v_putI rfl rfl rfl dX12_clause_169 fl_RX12_207 (Or.inl rfl) kd_68 (ltA hA0 rfl) ?_
          exact v_vret dX12_clause_172 rfl (hq_3 c0 c1 c2 c3)
        · exact v_vret dX12_clause_161 rfl (hq_4 c0 c1 c2 c3)
theorem e_X12_opens {X : CX} {d nx sz : Nat} {Q : Option Value → AH → Prop} {h : AH} {r1 n_r1 : Nat} {x2 x3 : Int32} (q : V X m_X12_opens (rm d 0 0) (ZM X Q nx sz 0 0) (nx, sz, 0, 0) 0 [some (.ref 68), some (.ref r1), some (.int x2), some (.int x3)] [] h) : Mk X d m_X12_opens [.ref 68, .ref r1, .int x2, .int x3] h nx sz Q := by
  refine Mok.ofV mo_X12_opens (Nat.le_of_ble_eq_true rfl) (L := [some (.ref 68), some (.ref r1), some (.int x2), some (.int x3)]) (lvLe_s (lvLe_s (lvLe_s (lvLe_s lvLe_e)))) (v_grow (n := 0) ?_)
  exact q
theorem c_X12_opens_0 {X : CX} {R : Room} {Q : Option Value → AH → Prop} {nx sz mc ms : Nat} {h : AH} {r1 n_r1 : Nat} {x2 x3 : Int32} (hA0 : 91 ≤ nx) (hq : Q none (setI (setI (setI (setI (setR h 68 6 (some r1)) 68 9 x2) 68 10 x3) 68 11 0) 68 12 (-1))) : V X m_X12_opens R (ZM X Q nx sz mc ms) (nx, sz, mc, ms) 0 [some (.ref 68), some (.ref r1), some (.int x2), some (.int x3)] [] h := by
  refine v_aload_n dX12_opens_0 rfl ?_
  refine v_aload_n dX12_opens_1 rfl ?_
  refine v_putR rfl dX12_opens_2 fl_RX12_23 (Or.inl rfl) kd_68 (ltA hA0 rfl) ?_
  refine v_aload_n dX12_opens_5 rfl ?_
  refine v_iload_n dX12_opens_6 rfl ?_
  refine v_putI rfl rfl rfl dX12_opens_7 fl_RX12_132 (Or.inl rfl) kd_68 (ltA hA0 rfl) ?_
  refine v_aload_n dX12_opens_10 rfl ?_
  refine v_iload_n dX12_opens_11 rfl ?_
  refine v_putI rfl rfl rfl dX12_opens_12 fl_RX12_129 (Or.inl rfl) kd_68 (ltA hA0 rfl) ?_
  refine v_aload_n dX12_opens_15 rfl ?_
  refine v_iconst dX12_opens_16 ci_0 ?_
  refine v_putI rfl rfl rfl dX12_opens_17 fl_RX12_126 (Or.inl rfl) kd_68 (ltA hA0 rfl) ?_
  refine v_aload_n dX12_opens_20 rfl ?_
  refine v_iconst dX12_opens_21 ci_m1 ?_
  refine v_putI rfl rfl rfl dX12_opens_22 fl_RX12_135 (Or.inl rfl) kd_68 (ltA hA0 rfl) ?_
  exact v_vret dX12_opens_25 rfl hq
theorem e_X12_goThrough {X : CX} {d nx sz : Nat} {Q : Option Value → AH → Prop} {h : AH} {r1 n_r1 : Nat} {x2 x3 : Int32} (q : V X m_X12_goThrough (rm d 0 0) (ZM X Q nx sz 0 0) (nx, sz, 0, 0) 0 [some (.ref 68), some (.ref r1), some (.int x2), some (.int x3)] [] h) : Mk X d m_X12_goThrough [.ref 68, .ref r1, .int x2, .int x3] h nx sz Q := by
  refine Mok.ofV mo_X12_goThrough (Nat.le_of_ble_eq_true rfl) (L := [some (.ref 68), some (.ref r1), some (.int x2), some (.int x3)]) (lvLe_s (lvLe_s (lvLe_s (lvLe_s lvLe_e)))) (v_grow (n := 0) ?_)
  exact q
theorem c_X12_goThrough_0 {X : CX} {R : Room} {Z : ZX} {A : AX} {h : AH} {r1 n_r1 d : Nat} {x2 x3 : Int32} {P4 : AH → Prop} (hA0 : 91 ≤ A.1) (hR : RO R (d + 1)) (hcs : A.2.2.1 ≤ R.cells ∧ A.2.2.2 ≤ R.slots) (hM : Mk X d m_X12_opens [.ref 68, .ref r1, .int x2, .int x3] h A.1 A.2.1 (RV P4)) (q : ∀ (g : AH), P4 g → V X m_X12_goThrough R Z A 7 [some (.ref 68), none, none, none] [] g) : V X m_X12_goThrough R Z A 0 [some (.ref 68), some (.ref r1), some (.int x2), some (.int x3)] [] h := by
  refine v_aload_n dX12_goThrough_0 rfl ?_
  refine v_aload_n dX12_goThrough_1 rfl ?_
  refine v_iload_n dX12_goThrough_2 rfl ?_
  refine v_iload_n dX12_goThrough_3 rfl ?_
  exact v_cVV (mt := m_X12_goThrough) mo_X12_opens ml_RX12_210 mi_X12_opens mv_X12_opens rfl kd_68 cl_12 rfl (ltA hA0 rfl) hR hcs (Nat.le_of_ble_eq_true rfl) dX12_goThrough_4 rfl hM (fun g hp => (v_drop (lvLe_s (lvLe_n (lvLe_n (lvLe_n lvLe_e)))) (q g hp)))
theorem c_X12_goThrough_7 {X : CX} {R : Room} {Z : ZX} {A : AX} {h : AH} {d : Nat} {P29 : AH → Prop} (hA0 : 91 ≤ A.1) (hR : RO R (d + 1)) (hcs : A.2.2.1 ≤ R.cells ∧ A.2.2.2 ≤ R.slots) (hM : Mk X d m_X12_clause [.ref 68] (setI (setI (setI (setI h 68 14 121) 68 13 0) 68 18 0) 68 15 0) A.1 A.2.1 (RV P29)) (q : ∀ (g : AH), P29 g → V X m_X12_goThrough R Z A 32 [some (.ref 68), none, none, none] [] g) : V X m_X12_goThrough R Z A 7 [some (.ref 68), none, none, none] [] h := by
  refine v_aload_n dX12_goThrough_7 rfl ?_
  refine v_bipush dX12_goThrough_8 cb_121 ?_
  refine v_putI rfl rfl rfl dX12_goThrough_10 fl_RX12_204 (Or.inl rfl) kd_68 (ltA hA0 rfl) ?_
  refine v_aload_n dX12_goThrough_13 rfl ?_
  refine v_iconst dX12_goThrough_14 ci_0 ?_
  refine v_putI rfl rfl rfl dX12_goThrough_15 fl_RX12_138 (Or.inl rfl) kd_68 (ltA hA0 rfl) ?_
  refine v_aload_n dX12_goThrough_18 rfl ?_
  refine v_iconst dX12_goThrough_19 ci_0 ?_
  refine v_putI rfl rfl rfl dX12_goThrough_20 fl_RX12_200 (Or.inl rfl) kd_68 (ltA hA0 rfl) ?_
  refine v_aload_n dX12_goThrough_23 rfl ?_
  refine v_iconst dX12_goThrough_24 ci_0 ?_
  refine v_putI rfl rfl rfl dX12_goThrough_25 fl_RX12_207 (Or.inl rfl) kd_68 (ltA hA0 rfl) ?_
  refine v_aload_n dX12_goThrough_28 rfl ?_
  exact v_cVV (mt := m_X12_goThrough) mo_X12_clause ml_RX12_214 mi_X12_clause mv_X12_clause rfl kd_68 cl_12 rfl (ltA hA0 rfl) hR hcs (Nat.le_of_ble_eq_true rfl) dX12_goThrough_29 rfl hM (fun g hp => (q g hp))
theorem c_X12_goThrough_32 {X : CX} {R : Room} {Q : Option Value → AH → Prop} {nx sz mc ms : Nat} {h : AH} {d : Nat} {P75 P41 : Int32 → AH → Prop} (hA0 : 91 ≤ nx) (hR : RO R (d + 1)) (hcs : mc ≤ R.cells ∧ ms ≤ R.slots) (hq : ¬ (h.1 68 12) = (-1) → ¬ (h.1 68 12) = (-1) → Q none h) (hM : ¬ (h.1 68 12) = (-1) → (h.1 68 12) = (-1) → Mk X d m_X12_look [.ref 68] h nx sz (RI P75)) (q : ¬ (h.1 68 12) = (-1) → (h.1 68 12) = (-1) → ∀ (y : Int32) (g : AH), P75 y g → V X m_X12_goThrough R (ZM X Q nx sz mc ms) (nx, sz, mc, ms) 78 [some (.ref 68), none, none, none] [.int y] g) (hM_1 : (h.1 68 12) = (-1) → Mk X d m_X12_look [.ref 68] h nx sz (RI P41)) (q_1 : (h.1 68 12) = (-1) → ∀ (y : Int32) (g : AH), P41 y g → V X m_X12_goThrough R (ZM X Q nx sz mc ms) (nx, sz, mc, ms) 44 [some (.ref 68), none, none, none] [.int y] g) : V X m_X12_goThrough R (ZM X Q nx sz mc ms) (nx, sz, mc, ms) 32 [some (.ref 68), none, none, none] [] h := by
  refine v_aload_n dX12_goThrough_32 rfl ?_
  refine v_getI dX12_goThrough_33 fl_RX12_135 kd_68 (ltA hA0 rfl) rfl ?_
  refine v_iconst dX12_goThrough_36 ci_m1 ?_
  refine v_icmp_ne (tgt := 66) dX12_goThrough_37 (by decide) (fun c0 => ?_) (fun c0 => ?_)
  · refine v_aload_n dX12_goThrough_66 rfl ?_
    refine v_getI dX12_goThrough_67 fl_RX12_135 kd_68 (ltA hA0 rfl) rfl ?_
    refine v_iconst dX12_goThrough_70 ci_m1 ?_
    refine v_icmp_ne (tgt := 87) dX12_goThrough_71 (by decide) (fun c1 => ?_) (fun c1 => ?_)
    · exact v_vret dX12_goThrough_87 rfl (hq c0 c1)
    · refine v_aload_n dX12_goThrough_74 rfl ?_
      exact v_cVI (mt := m_X12_goThrough) mo_X12_look ml_RX12_145 mi_X12_look mv_X12_look rfl kd_68 cl_12 rfl (ltA hA0 rfl) hR hcs (Nat.le_of_ble_eq_true rfl) dX12_goThrough_75 rfl (hM c0 c1) (fun y g hp => ((q c0 c1) y g hp))
  · refine v_aload_n dX12_goThrough_40 rfl ?_
    exact v_cVI (mt := m_X12_goThrough) mo_X12_look ml_RX12_145 mi_X12_look mv_X12_look rfl kd_68 cl_12 rfl (ltA hA0 rfl) hR hcs (Nat.le_of_ble_eq_true rfl) dX12_goThrough_41 rfl (hM_1 c0) (fun y g hp => ((q_1 c0) y g hp))
theorem c_X12_goThrough_44 {X : CX} {R : Room} {Q : Option Value → AH → Prop} {nx sz mc ms : Nat} {h : AH} {s0 : Int32} {d : Nat} {P75 : Int32 → AH → Prop} {P60 : AH → Prop} (hA0 : 91 ≤ nx) (hR : RO R (d + 1)) (hcs : mc ≤ R.cells ∧ ms ≤ R.slots) (hq : ¬ s0 = 59 → ¬ (h.1 68 12) = (-1) → Q none h) (hM : ¬ s0 = 59 → (h.1 68 12) = (-1) → Mk X d m_X12_look [.ref 68] h nx sz (RI P75)) (q : ¬ s0 = 59 → (h.1 68 12) = (-1) → ∀ (y : Int32) (g : AH), P75 y g → V X m_X12_goThrough R (ZM X Q nx sz mc ms) (nx, sz, mc, ms) 78 [some (.ref 68), none, none, none] [.int y] g) (hM_1 : s0 = 59 → Mk X d m_X12_clause [.ref 68] (setI h 68 11 ((h.1 68 11) + 1)) nx sz (RV P60)) (q_1 : s0 = 59 → ∀ (g : AH), P60 g → V X m_X12_goThrough R (ZM X Q nx sz mc ms) (nx, sz, mc, ms) 63 [some (.ref 68), none, none, none] [] g) : V X m_X12_goThrough R (ZM X Q nx sz mc ms) (nx, sz, mc, ms) 44 [some (.ref 68), none, none, none] [.int s0] h := by
  refine v_bipush dX12_goThrough_44 cb_59 ?_
  refine v_icmp_ne (tgt := 66) dX12_goThrough_46 (by decide) (fun c0 => ?_) (fun c0 => ?_)
  · refine v_aload_n dX12_goThrough_66 rfl ?_
    refine v_getI dX12_goThrough_67 fl_RX12_135 kd_68 (ltA hA0 rfl) rfl ?_
    refine v_iconst dX12_goThrough_70 ci_m1 ?_
    refine v_icmp_ne (tgt := 87) dX12_goThrough_71 (by decide) (fun c1 => ?_) (fun c1 => ?_)
    · exact v_vret dX12_goThrough_87 rfl (hq c0 c1)
    · refine v_aload_n dX12_goThrough_74 rfl ?_
      exact v_cVI (mt := m_X12_goThrough) mo_X12_look ml_RX12_145 mi_X12_look mv_X12_look rfl kd_68 cl_12 rfl (ltA hA0 rfl) hR hcs (Nat.le_of_ble_eq_true rfl) dX12_goThrough_75 rfl (hM c0 c1) (fun y g hp => ((q c0 c1) y g hp))
  · refine v_aload_n dX12_goThrough_49 rfl ?_
    refine v_dup dX12_goThrough_50 rfl ?_
    refine v_getI dX12_goThrough_51 fl_RX12_126 kd_68 (ltA hA0 rfl) rfl ?_
    refine v_iconst dX12_goThrough_54 ci_1 ?_
    refine v_iadd dX12_goThrough_55 ?_
    refine v_putI rfl rfl rfl dX12_goThrough_56 fl_RX12_126 (Or.inl rfl) kd_68 (ltA hA0 rfl) ?_
    refine v_aload_n dX12_goThrough_59 rfl ?_
    exact v_cVV (mt := m_X12_goThrough) mo_X12_clause ml_RX12_214 mi_X12_clause mv_X12_clause rfl kd_68 cl_12 rfl (ltA hA0 rfl) hR hcs (Nat.le_of_ble_eq_true rfl) dX12_goThrough_60 rfl (hM_1 c0) (fun g hp => ((q_1 c0) g hp))
theorem c_X12_goThrough_63 {X : CX} {R : Room} {Z : ZX} {A : AX} {h : AH} (q : V X m_X12_goThrough R Z A 32 [some (.ref 68), none, none, none] [] h) : V X m_X12_goThrough R Z A 63 [some (.ref 68), none, none, none] [] h := by
  refine v_goto (tgt := 32) dX12_goThrough_63 (by decide) ?_
  exact q
theorem c_X12_goThrough_78 {X : CX} {R : Room} {Q : Option Value → AH → Prop} {nx sz mc ms : Nat} {h : AH} {s0 : Int32} {d : Nat} {P83 : Int32 → AH → Prop} (hA0 : 91 ≤ nx) (hR : RO R (d + 1)) (hcs : mc ≤ R.cells ∧ ms ≤ R.slots) (hq : s0 = (-1) → Q none h) (hM : ¬ s0 = (-1) → Mk X d m_X12_fails [.ref 68] h nx sz (RI P83)) (q : ¬ s0 = (-1) → ∀ (y : Int32) (g : AH), P83 y g → V X m_X12_goThrough R (ZM X Q nx sz mc ms) (nx, sz, mc, ms) 86 [none, none, none, none] [.int y] g) : V X m_X12_goThrough R (ZM X Q nx sz mc ms) (nx, sz, mc, ms) 78 [some (.ref 68), none, none, none] [.int s0] h := by
  refine v_iconst dX12_goThrough_78 ci_m1 ?_
  refine v_icmp_eq (tgt := 87) dX12_goThrough_79 (by decide) (fun c0 => ?_) (fun c0 => ?_)
  · exact v_vret dX12_goThrough_87 rfl (hq c0)
  · refine v_aload_n dX12_goThrough_82 rfl ?_
    exact v_cVI (mt := m_X12_goThrough) mo_X12_fails ml_RX12_141 mi_X12_fails mv_X12_fails rfl kd_68 cl_12 rfl (ltA hA0 rfl) hR hcs (Nat.le_of_ble_eq_true rfl) dX12_goThrough_83 rfl (hM c0) (fun y g hp => (v_drop (lvLe_n (lvLe_n (lvLe_n (lvLe_n lvLe_e)))) ((q c0) y g hp)))
theorem c_X12_goThrough_86 {X : CX} {R : Room} {Q : Option Value → AH → Prop} {nx sz mc ms : Nat} {h : AH} {s0 : Int32} (hq : Q none h) : V X m_X12_goThrough R (ZM X Q nx sz mc ms) (nx, sz, mc, ms) 86 [none, none, none, none] [.int s0] h := by
  refine v_pop dX12_goThrough_86 rfl ?_
  exact v_vret dX12_goThrough_87 rfl hq
theorem e_X12_isLetterOf {X : CX} {d nx sz : Nat} {Q : Option Value → AH → Prop} {h : AH} {x1 : Int32} (q : V X m_X12_isLetterOf (rm d 0 0) (ZM X Q nx sz 0 0) (nx, sz, 0, 0) 0 [some (.ref 68), some (.int x1)] [] h) : Mk X d m_X12_isLetterOf [.ref 68, .int x1] h nx sz Q := by
  refine Mok.ofV mo_X12_isLetterOf (Nat.le_of_ble_eq_true rfl) (L := [some (.ref 68), some (.int x1)]) (lvLe_s (lvLe_s lvLe_e)) (v_grow (n := 0) ?_)
  exact q
theorem c_X12_isLetterOf_0 {X : CX} {R : Room} {Q : Option Value → AH → Prop} {nx sz mc ms : Nat} {h : AH} {x1 : Int32} (hA0 : 91 ≤ nx) (hq : x1 < 97 → Q (some (.int 0)) h) (hq_1 : ¬ x1 < 97 → (97 + (h.1 68 1)) ≤ x1 → Q (some (.int 0)) h) (hq_2 : ¬ x1 < 97 → ¬ (97 + (h.1 68 1)) ≤ x1 → Q (some (.int 1)) h) : V X m_X12_isLetterOf R (ZM X Q nx sz mc ms) (nx, sz, mc, ms) 0 [some (.ref 68), some (.int x1)] [] h := by
  refine v_iload_n dX12_isLetterOf_0 rfl ?_
  refine v_bipush dX12_isLetterOf_1 cb_97 ?_
  refine v_icmp_lt (tgt := 21) dX12_isLetterOf_3 (by decide) (fun c0 => ?_) (fun c0 => ?_)
  · refine v_iconst dX12_isLetterOf_21 ci_0 ?_
    exact v_zret (ty := .boolean) dX12_isLetterOf_22 rfl rfl (hq c0)
  · refine v_iload_n dX12_isLetterOf_6 rfl ?_
    refine v_bipush dX12_isLetterOf_7 cb_97 ?_
    refine v_aload_n dX12_isLetterOf_9 rfl ?_
    refine v_getI dX12_isLetterOf_10 fl_RX12_99 kd_68 (ltA hA0 rfl) rfl ?_
    refine v_iadd dX12_isLetterOf_13 ?_
    refine v_icmp_ge (tgt := 21) dX12_isLetterOf_14 (by decide) (fun c1 => ?_) (fun c1 => ?_)
    · refine v_iconst dX12_isLetterOf_21 ci_0 ?_
      exact v_zret (ty := .boolean) dX12_isLetterOf_22 rfl rfl (hq_1 c0 c1)
    · refine v_iconst dX12_isLetterOf_17 ci_1 ?_
      refine v_goto (tgt := 22) dX12_isLetterOf_18 (by decide) ?_
      exact v_zret (ty := .boolean) dX12_isLetterOf_22 rfl rfl (hq_2 c0 c1)
theorem e_X12_readTie {X : CX} {d nx sz : Nat} {Q : Option Value → AH → Prop} {h : AH} (q : V X m_X12_readTie (rm d 0 0) (ZM X Q nx sz 0 0) (nx, sz, 0, 0) 0 [some (.ref 68), none, none] [] h) : Mk X d m_X12_readTie [.ref 68] h nx sz Q := by
  refine Mok.ofV mo_X12_readTie (Nat.le_of_ble_eq_true rfl) (L := [some (.ref 68)]) (lvLe_s lvLe_e) (v_grow (n := 2) ?_)
  exact q
theorem c_X12_readTie_0 {X : CX} {R : Room} {Z : ZX} {A : AX} {h : AH} {d : Nat} {P2 : Int32 → AH → Prop} (hA0 : 91 ≤ A.1) (hR : RO R (d + 1)) (hcs : A.2.2.1 ≤ R.cells ∧ A.2.2.2 ≤ R.slots) (hM : Mk X d m_X12_look [.ref 68] h A.1 A.2.1 (RI P2)) (q : ∀ (y : Int32) (g : AH), P2 y g → V X m_X12_readTie R Z A 5 [some (.ref 68), none, none] [.int y, .ref 68] g) : V X m_X12_readTie R Z A 0 [some (.ref 68), none, none] [] h := by
  refine v_aload_n dX12_readTie_0 rfl ?_
  refine v_aload_n dX12_readTie_1 rfl ?_
  exact v_cVI (mt := m_X12_readTie) mo_X12_look ml_RX12_145 mi_X12_look mv_X12_look rfl kd_68 cl_12 rfl (ltA hA0 rfl) hR hcs (Nat.le_of_ble_eq_true rfl) dX12_readTie_2 rfl hM (fun y g hp => (q y g hp))
theorem c_X12_readTie_5 {X : CX} {R : Room} {Z : ZX} {A : AX} {h : AH} {s1 : Int32} {d : Nat} {P5 : Int32 → AH → Prop} (hA0 : 91 ≤ A.1) (hR : RO R (d + 1)) (hcs : A.2.2.1 ≤ R.cells ∧ A.2.2.2 ≤ R.slots) (hM : Mk X d m_X12_isLetterOf [.ref 68, .int s1] h A.1 A.2.1 (RI P5)) (q : ∀ (y : Int32) (g : AH), P5 y g → V X m_X12_readTie R Z A 8 [some (.ref 68), none, none] [.int y] g) : V X m_X12_readTie R Z A 5 [some (.ref 68), none, none] [.int s1, .ref 68] h := by
  exact v_cVI (mt := m_X12_readTie) mo_X12_isLetterOf ml_RX12_217 mi_X12_isLetterOf mv_X12_isLetterOf rfl kd_68 cl_12 rfl (ltA hA0 rfl) hR hcs (Nat.le_of_ble_eq_true rfl) dX12_readTie_5 rfl hM (fun y g hp => (q y g hp))
theorem c_X12_readTie_8 {X : CX} {R : Room} {Z : ZX} {A : AX} {h : AH} {s0 : Int32} {d : Nat} {P19 P12 : Int32 → AH → Prop} (hA0 : 91 ≤ A.1) (hR : RO R (d + 1)) (hcs : A.2.2.1 ≤ R.cells ∧ A.2.2.2 ≤ R.slots) (hM : ¬ s0 = 0 → Mk X d m_X12_look [.ref 68] h A.1 A.2.1 (RI P19)) (q : ¬ s0 = 0 → ∀ (y : Int32) (g : AH), P19 y g → V X m_X12_readTie R Z A 22 [some (.ref 68), none, none] [.int y] g) (hM_1 : s0 = 0 → Mk X d m_X12_fails [.ref 68] h A.1 A.2.1 (RI P12)) (q_1 : s0 = 0 → ∀ (y : Int32) (g : AH), P12 y g → V X m_X12_readTie R Z A 15 [none, none, none] [.int y] g) : V X m_X12_readTie R Z A 8 [some (.ref 68), none, none] [.int s0] h := by
  refine v_if_ne (tgt := 18) dX12_readTie_8 (by decide) (fun c0 => ?_) (fun c0 => ?_)
  · refine v_aload_n dX12_readTie_18 rfl ?_
    exact v_cVI (mt := m_X12_readTie) mo_X12_look ml_RX12_145 mi_X12_look mv_X12_look rfl kd_68 cl_12 rfl (ltA hA0 rfl) hR hcs (Nat.le_of_ble_eq_true rfl) dX12_readTie_19 rfl (hM c0) (fun y g hp => ((q c0) y g hp))
  · refine v_aload_n dX12_readTie_11 rfl ?_
    exact v_cVI (mt := m_X12_readTie) mo_X12_fails ml_RX12_141 mi_X12_fails mv_X12_fails rfl kd_68 cl_12 rfl (ltA hA0 rfl) hR hcs (Nat.le_of_ble_eq_true rfl) dX12_readTie_12 rfl (hM_1 c0) (fun y g hp => (v_drop (lvLe_n (lvLe_n (lvLe_n lvLe_e))) ((q_1 c0) y g hp)))
theorem c_X12_readTie_15 {X : CX} {R : Room} {Q : Option Value → AH → Prop} {nx sz mc ms : Nat} {h : AH} {s0 : Int32} (hq : Q (some (.int 0)) h) : V X m_X12_readTie R (ZM X Q nx sz mc ms) (nx, sz, mc, ms) 15 [none, none, none] [.int s0] h := by
  refine v_pop dX12_readTie_15 rfl ?_
  refine v_iconst dX12_readTie_16 ci_0 ?_
  exact v_zret (ty := .boolean) dX12_readTie_17 rfl rfl hq
theorem c_X12_readTie_22 {X : CX} {R : Room} {Z : ZX} {A : AX} {h : AH} {s0 : Int32} {d : Nat} {P37 : Int32 → AH → Prop} (hA0 : 91 ≤ A.1) (hR : RO R (d + 1)) (hcs : A.2.2.1 ≤ R.cells ∧ A.2.2.2 ≤ R.slots) (hM : Mk X d m_X12_look [.ref 68] (setI h 68 11 ((h.1 68 11) + 1)) A.1 A.2.1 (RI P37)) (q : ∀ (y : Int32) (g : AH), P37 y g → V X m_X12_readTie R Z A 40 [some (.ref 68), some (.int (s0 - 97)), none] [.int y] g) : V X m_X12_readTie R Z A 22 [some (.ref 68), none, none] [.int s0] h := by
  refine v_bipush dX12_readTie_22 cb_97 ?_
  refine v_isub dX12_readTie_24 ?_
  refine v_istore_n dX12_readTie_25 (by decide) (L' := [some (.ref 68), some (.int (s0 - 97)), none]) rfl ?_
  refine v_aload_n dX12_readTie_26 rfl ?_
  refine v_dup dX12_readTie_27 rfl ?_
  refine v_getI dX12_readTie_28 fl_RX12_126 kd_68 (ltA hA0 rfl) rfl ?_
  refine v_iconst dX12_readTie_31 ci_1 ?_
  refine v_iadd dX12_readTie_32 ?_
  refine v_putI rfl rfl rfl dX12_readTie_33 fl_RX12_126 (Or.inl rfl) kd_68 (ltA hA0 rfl) ?_
  refine v_aload_n dX12_readTie_36 rfl ?_
  exact v_cVI (mt := m_X12_readTie) mo_X12_look ml_RX12_145 mi_X12_look mv_X12_look rfl kd_68 cl_12 rfl (ltA hA0 rfl) hR hcs (Nat.le_of_ble_eq_true rfl) dX12_readTie_37 rfl hM (fun y g hp => (q y g hp))
theorem c_X12_readTie_40 {X : CX} {R : Room} {Z : ZX} {A : AX} {h : AH} {x1 s0 : Int32} {d : Nat} {P46 : Int32 → AH → Prop} (hA0 : 91 ≤ A.1) (hR : RO R (d + 1)) (hcs : A.2.2.1 ≤ R.cells ∧ A.2.2.2 ≤ R.slots) (hM : Mk X d m_X12_look [.ref 68] h A.1 A.2.1 (RI P46)) (q : ∀ (y : Int32) (g : AH), P46 y g → V X m_X12_readTie R Z A 49 [some (.ref 68), some (.int x1), some (.int (s0 - 97))] [.int y, .ref 68] g) : V X m_X12_readTie R Z A 40 [some (.ref 68), some (.int x1), none] [.int s0] h := by
  refine v_bipush dX12_readTie_40 cb_97 ?_
  refine v_isub dX12_readTie_42 ?_
  refine v_istore_n dX12_readTie_43 (by decide) (L' := [some (.ref 68), some (.int x1), some (.int (s0 - 97))]) rfl ?_
  refine v_aload_n dX12_readTie_44 rfl ?_
  refine v_aload_n dX12_readTie_45 rfl ?_
  exact v_cVI (mt := m_X12_readTie) mo_X12_look ml_RX12_145 mi_X12_look mv_X12_look rfl kd_68 cl_12 rfl (ltA hA0 rfl) hR hcs (Nat.le_of_ble_eq_true rfl) dX12_readTie_46 rfl hM (fun y g hp => (q y g hp))
theorem c_X12_readTie_49 {X : CX} {R : Room} {Z : ZX} {A : AX} {h : AH} {x1 x2 s1 : Int32} {d : Nat} {P49 : Int32 → AH → Prop} (hA0 : 91 ≤ A.1) (hR : RO R (d + 1)) (hcs : A.2.2.1 ≤ R.cells ∧ A.2.2.2 ≤ R.slots) (hM : Mk X d m_X12_isLetterOf [.ref 68, .int s1] h A.1 A.2.1 (RI P49)) (q : ∀ (y : Int32) (g : AH), P49 y g → V X m_X12_readTie R Z A 52 [some (.ref 68), some (.int x1), some (.int x2)] [.int y] g) : V X m_X12_readTie R Z A 49 [some (.ref 68), some (.int x1), some (.int x2)] [.int s1, .ref 68] h := by
  exact v_cVI (mt := m_X12_readTie) mo_X12_isLetterOf ml_RX12_217 mi_X12_isLetterOf mv_X12_isLetterOf rfl kd_68 cl_12 rfl (ltA hA0 rfl) hR hcs (Nat.le_of_ble_eq_true rfl) dX12_readTie_49 rfl hM (fun y g hp => (q y g hp))
theorem c_X12_readTie_52 {X : CX} {R : Room} {Z : ZX} {A : AX} {h : AH} {x1 x2 s0 : Int32} {d : Nat} {P110 P110_1 P67 : Int32 → AH → Prop} (hA0 : 91 ≤ A.1) (hF : Fx h) (hR : RO R (d + 1)) (hcs : A.2.2.1 ≤ R.cells ∧ A.2.2.2 ≤ R.slots) (hM : s0 = 0 → Mk X d m_X12_fails [.ref 68] h A.1 A.2.1 (RI P110)) (q : s0 = 0 → ∀ (y : Int32) (g : AH), P110 y g → V X m_X12_readTie R Z A 113 [none, none, none] [.int y] g) (hM_1 : ¬ s0 = 0 → x2 = x1 → Mk X d m_X12_fails [.ref 68] h A.1 A.2.1 (RI P110_1)) (q_1 : ¬ s0 = 0 → x2 = x1 → ∀ (y : Int32) (g : AH), P110_1 y g → V X m_X12_readTie R Z A 113 [none, none, none] [.int y] g) (hi_65 : ¬ s0 = 0 → ¬ x2 = x1 → vp_in x1 20) (hM_2 : ¬ s0 = 0 → ¬ x2 = x1 → Mk X d m_X12_has [.int (h.1 74 x1.toNatClampNeg), .int x2] h A.1 A.2.1 (RI P67)) (q_2 : ¬ s0 = 0 → ¬ x2 = x1 → ∀ (y : Int32) (g : AH), P67 y g → V X m_X12_readTie R Z A 70 [some (.ref 68), some (.int x1), some (.int x2)] [.int y] g) : V X m_X12_readTie R Z A 52 [some (.ref 68), some (.int x1), some (.int x2)] [.int s0] h := by
  refine v_if_eq (tgt := 109) dX12_readTie_52 (by decide) (fun c0 => ?_) (fun c0 => ?_)
  · refine v_aload_n dX12_readTie_109 rfl ?_
    exact v_cVI (mt := m_X12_readTie) mo_X12_fails ml_RX12_141 mi_X12_fails mv_X12_fails rfl kd_68 cl_12 rfl (ltA hA0 rfl) hR hcs (Nat.le_of_ble_eq_true rfl) dX12_readTie_110 rfl (hM c0) (fun y g hp => (v_drop (lvLe_n (lvLe_n (lvLe_n lvLe_e))) ((q c0) y g hp)))
  · refine v_iload_n dX12_readTie_55 rfl ?_
    refine v_iload_n dX12_readTie_56 rfl ?_
    refine v_icmp_eq (tgt := 109) dX12_readTie_57 (by decide) (fun c1 => ?_) (fun c1 => ?_)
    · refine v_aload_n dX12_readTie_109 rfl ?_
      exact v_cVI (mt := m_X12_readTie) mo_X12_fails ml_RX12_141 mi_X12_fails mv_X12_fails rfl kd_68 cl_12 rfl (ltA hA0 rfl) hR hcs (Nat.le_of_ble_eq_true rfl) dX12_readTie_110 rfl (hM_1 c0 c1) (fun y g hp => (v_drop (lvLe_n (lvLe_n (lvLe_n lvLe_e))) ((q_1 c0 c1) y g hp)))
    · refine v_aload_n dX12_readTie_60 rfl ?_
      refine v_getR dX12_readTie_61 fl_RX12_40 kd_68 (ltA hA0 rfl) rfl (hF 68 20 74 rfl) ?_
      refine v_iload_n dX12_readTie_64 rfl ?_
      refine v_iald dX12_readTie_65 kd_74 (ltA hA0 rfl) (hi_65 c0 c1) ?_
      refine v_iload_n dX12_readTie_66 rfl ?_
      exact v_cSI (mt := m_X12_readTie) mo_X12_has ml_RX12_220 mz_X12_has rfl hR hcs (Nat.le_of_ble_eq_true rfl) dX12_readTie_67 rfl (hM_2 c0 c1) (fun y g hp => ((q_2 c0 c1) y g hp))
theorem c_X12_readTie_70 {X : CX} {R : Room} {Z : ZX} {A : AX} {h : AH} {x1 x2 s0 : Int32} {d : Nat} {P110 P79 : Int32 → AH → Prop} (hA0 : 91 ≤ A.1) (hF : Fx h) (hR : RO R (d + 1)) (hcs : A.2.2.1 ≤ R.cells ∧ A.2.2.2 ≤ R.slots) (hM : ¬ s0 = 0 → Mk X d m_X12_fails [.ref 68] h A.1 A.2.1 (RI P110)) (q : ¬ s0 = 0 → ∀ (y : Int32) (g : AH), P110 y g → V X m_X12_readTie R Z A 113 [none, none, none] [.int y] g) (hi_78 : s0 = 0 → vp_in x1 20) (hM_1 : s0 = 0 → Mk X d m_J6_bitCount_0f7a4 [.int (h.1 74 x1.toNatClampNeg)] h A.1 A.2.1 (RI P79)) (q_1 : s0 = 0 → ∀ (y : Int32) (g : AH), P79 y g → V X m_X12_readTie R Z A 82 [some (.ref 68), some (.int x1), some (.int x2)] [.int y] g) : V X m_X12_readTie R Z A 70 [some (.ref 68), some (.int x1), some (.int x2)] [.int s0] h := by
  refine v_if_ne (tgt := 109) dX12_readTie_70 (by decide) (fun c0 => ?_) (fun c0 => ?_)
  · refine v_aload_n dX12_readTie_109 rfl ?_
    exact v_cVI (mt := m_X12_readTie) mo_X12_fails ml_RX12_141 mi_X12_fails mv_X12_fails rfl kd_68 cl_12 rfl (ltA hA0 rfl) hR hcs (Nat.le_of_ble_eq_true rfl) dX12_readTie_110 rfl (hM c0) (fun y g hp => (v_drop (lvLe_n (lvLe_n (lvLe_n lvLe_e))) ((q c0) y g hp)))
  · refine v_aload_n dX12_readTie_73 rfl ?_
    refine v_getR dX12_readTie_74 fl_RX12_40 kd_68 (ltA hA0 rfl) rfl (hF 68 20 74 rfl) ?_
    refine v_iload_n dX12_readTie_77 rfl ?_
    refine v_iald dX12_readTie_78 kd_74 (ltA hA0 rfl) (hi_78 c0) ?_
    exact v_cSI (mt := m_X12_readTie) mo_J6_bitCount_0f7a4 ml_RX12_224 mz_J6_bitCount_0f7a4 rfl hR hcs (Nat.le_of_ble_eq_true rfl) dX12_readTie_79 rfl (hM_1 c0) (fun y g hp => ((q_1 c0) y g hp))
theorem c_X12_readTie_82 {X : CX} {R : Room} {Z : ZX} {A : AX} {h : AH} {x1 x2 s0 : Int32} {d : Nat} {P110 P97 : Int32 → AH → Prop} (hA0 : 91 ≤ A.1) (hF : Fx h) (hR : RO R (d + 1)) (hcs : A.2.2.1 ≤ R.cells ∧ A.2.2.2 ≤ R.slots) (hi_87 : vp_in x1 20) (hM : s0 = (h.1 75 x1.toNatClampNeg) → Mk X d m_X12_fails [.ref 68] h A.1 A.2.1 (RI P110)) (q : s0 = (h.1 75 x1.toNatClampNeg) → ∀ (y : Int32) (g : AH), P110 y g → V X m_X12_readTie R Z A 113 [none, none, none] [.int y] g) (hi_96 : ¬ s0 = (h.1 75 x1.toNatClampNeg) → vp_in x2 20) (hM_1 : ¬ s0 = (h.1 75 x1.toNatClampNeg) → Mk X d m_J6_bitCount_0f7a4 [.int (h.1 74 x2.toNatClampNeg)] h A.1 A.2.1 (RI P97)) (q_1 : ¬ s0 = (h.1 75 x1.toNatClampNeg) → ∀ (y : Int32) (g : AH), P97 y g → V X m_X12_readTie R Z A 100 [some (.ref 68), some (.int x1), some (.int x2)] [.int y] g) : V X m_X12_readTie R Z A 82 [some (.ref 68), some (.int x1), some (.int x2)] [.int s0] h := by
  refine v_aload_n dX12_readTie_82 rfl ?_
  refine v_getR dX12_readTie_83 fl_RX12_43 kd_68 (ltA hA0 rfl) rfl (hF 68 21 75 rfl) ?_
  refine v_iload_n dX12_readTie_86 rfl ?_
  refine v_iald dX12_readTie_87 kd_75 (ltA hA0 rfl) hi_87 ?_
  refine v_icmp_eq (tgt := 109) dX12_readTie_88 (by decide) (fun c0 => ?_) (fun c0 => ?_)
  · refine v_aload_n dX12_readTie_109 rfl ?_
    exact v_cVI (mt := m_X12_readTie) mo_X12_fails ml_RX12_141 mi_X12_fails mv_X12_fails rfl kd_68 cl_12 rfl (ltA hA0 rfl) hR hcs (Nat.le_of_ble_eq_true rfl) dX12_readTie_110 rfl (hM c0) (fun y g hp => (v_drop (lvLe_n (lvLe_n (lvLe_n lvLe_e))) ((q c0) y g hp)))
  · refine v_aload_n dX12_readTie_91 rfl ?_
    refine v_getR dX12_readTie_92 fl_RX12_40 kd_68 (ltA hA0 rfl) rfl (hF 68 20 74 rfl) ?_
    refine v_iload_n dX12_readTie_95 rfl ?_
    refine v_iald dX12_readTie_96 kd_74 (ltA hA0 rfl) (hi_96 c0) ?_
    exact v_cSI (mt := m_X12_readTie) mo_J6_bitCount_0f7a4 ml_RX12_224 mz_J6_bitCount_0f7a4 rfl hR hcs (Nat.le_of_ble_eq_true rfl) dX12_readTie_97 rfl (hM_1 c0) (fun y g hp => ((q_1 c0) y g hp))
theorem c_X12_readTie_100 {X : CX} {R : Room} {Q : Option Value → AH → Prop} {nx sz mc ms : Nat} {h : AH} {x1 x2 s0 : Int32} {d : Nat} {P110 : Int32 → AH → Prop} (hA0 : 91 ≤ nx) (hF : Fx h) (hR : RO R (d + 1)) (hcs : mc ≤ R.cells ∧ ms ≤ R.slots) (hi_105 : vp_in x2 20) (hi_132 : ¬ s0 = (h.1 75 x2.toNatClampNeg) → vp_in x1 20) (hi_137 : ¬ s0 = (h.1 75 x2.toNatClampNeg) → vp_in x1 20) (hi_144 : ¬ s0 = (h.1 75 x2.toNatClampNeg) → vp_in x2 20) (hi_149 : ¬ s0 = (h.1 75 x2.toNatClampNeg) → vp_in x2 20) (hq : ¬ s0 = (h.1 75 x2.toNatClampNeg) → Q (some (.int 1)) (setI (setI (setI h 68 11 ((h.1 68 11) + 1)) 74 x1.toNatClampNeg ((h.1 74 x1.toNatClampNeg) ||| ((1 : Int32) <<< ((x2 : Int32) &&& 31)))) 74 x2.toNatClampNeg (((setI (setI h 68 11 ((h.1 68 11) + 1)) 74 x1.toNatClampNeg ((h.1 74 x1.toNatClampNeg) ||| ((1 : Int32) <<< ((x2 : Int32) &&& 31)))).1 74 x2.toNatClampNeg) ||| ((1 : Int32) <<< ((x1 : Int32) &&& 31))))) (hM : s0 = (h.1 75 x2.toNatClampNeg) → Mk X d m_X12_fails [.ref 68] h nx sz (RI P110)) (q : s0 = (h.1 75 x2.toNatClampNeg) → ∀ (y : Int32) (g : AH), P110 y g → V X m_X12_readTie R (ZM X Q nx sz mc ms) (nx, sz, mc, ms) 113 [none, none, none] [.int y] g) : V X m_X12_readTie R (ZM X Q nx sz mc ms) (nx, sz, mc, ms) 100 [some (.ref 68), some (.int x1), some (.int x2)] [.int s0] h := by
  refine v_aload_n dX12_readTie_100 rfl ?_
  refine v_getR dX12_readTie_101 fl_RX12_43 kd_68 (ltA hA0 rfl) rfl (hF 68 21 75 rfl) ?_
  refine v_iload_n dX12_readTie_104 rfl ?_
  refine v_iald dX12_readTie_105 kd_75 (ltA hA0 rfl) hi_105 ?_
  refine v_icmp_ne (tgt := 116) dX12_readTie_106 (by decide) (fun c0 => ?_) (fun c0 => ?_)
  · refine v_aload_n dX12_readTie_116 rfl ?_
    refine v_dup dX12_readTie_117 rfl ?_
    refine v_getI dX12_readTie_118 fl_RX12_126 kd_68 (ltA hA0 rfl) rfl ?_
    refine v_iconst dX12_readTie_121 ci_1 ?_
    refine v_iadd dX12_readTie_122 ?_
    refine v_putI rfl rfl rfl dX12_readTie_123 fl_RX12_126 (Or.inl rfl) kd_68 (ltA hA0 rfl) ?_
    refine v_aload_n dX12_readTie_126 rfl ?_
    refine v_getR dX12_readTie_127 fl_RX12_40 kd_68 (ltA hA0 rfl) rfl (hF 68 20 74 rfl) ?_
    refine v_iload_n dX12_readTie_130 rfl ?_
    refine v_dup2 dX12_readTie_131 rfl rfl ?_
    refine v_iald dX12_readTie_132 kd_74 (ltA hA0 rfl) (hi_132 c0) ?_
    refine v_iconst dX12_readTie_133 ci_1 ?_
    refine v_iload_n dX12_readTie_134 rfl ?_
    refine v_ishl dX12_readTie_135 ?_
    refine v_ior dX12_readTie_136 ?_
    refine v_iast dX12_readTie_137 kd_74 (ltA hA0 rfl) (hi_137 c0) ?_
    refine v_aload_n dX12_readTie_138 rfl ?_
    refine v_getR dX12_readTie_139 fl_RX12_40 kd_68 (ltA hA0 rfl) rfl (hF 68 20 74 rfl) ?_
    refine v_iload_n dX12_readTie_142 rfl ?_
    refine v_dup2 dX12_readTie_143 rfl rfl ?_
    refine v_iald dX12_readTie_144 kd_74 (ltA hA0 rfl) (hi_144 c0) ?_
    refine v_iconst dX12_readTie_145 ci_1 ?_
    refine v_iload_n dX12_readTie_146 rfl ?_
    refine v_ishl dX12_readTie_147 ?_
    refine v_ior dX12_readTie_148 ?_
    refine v_iast dX12_readTie_149 kd_74 (ltA hA0 rfl) (hi_149 c0) ?_
    refine v_iconst dX12_readTie_150 ci_1 ?_
    exact v_zret (ty := .boolean) dX12_readTie_151 rfl rfl (hq c0)
  · refine v_aload_n dX12_readTie_109 rfl ?_
    exact v_cVI (mt := m_X12_readTie) mo_X12_fails ml_RX12_141 mi_X12_fails mv_X12_fails rfl kd_68 cl_12 rfl (ltA hA0 rfl) hR hcs (Nat.le_of_ble_eq_true rfl) dX12_readTie_110 rfl (hM c0) (fun y g hp => (v_drop (lvLe_n (lvLe_n (lvLe_n lvLe_e))) ((q c0) y g hp)))
theorem c_X12_readTie_113 {X : CX} {R : Room} {Q : Option Value → AH → Prop} {nx sz mc ms : Nat} {h : AH} {s0 : Int32} (hq : Q (some (.int 0)) h) : V X m_X12_readTie R (ZM X Q nx sz mc ms) (nx, sz, mc, ms) 113 [none, none, none] [.int s0] h := by
  refine v_pop dX12_readTie_113 rfl ?_
  refine v_iconst dX12_readTie_114 ci_0 ?_
  exact v_zret (ty := .boolean) dX12_readTie_115 rfl rfl hq
theorem e_X12_readNet {X : CX} {d nx sz : Nat} {Q : Option Value → AH → Prop} {h : AH} (q : V X m_X12_readNet (rm d 0 0) (ZM X Q nx sz 0 0) (nx, sz, 0, 0) 0 [some (.ref 68), none] [] h) : Mk X d m_X12_readNet [.ref 68] h nx sz Q := by
  refine Mok.ofV mo_X12_readNet (Nat.le_of_ble_eq_true rfl) (L := [some (.ref 68)]) (lvLe_s lvLe_e) (v_grow (n := 1) ?_)
  exact q
theorem c_X12_readNet_0 {X : CX} {R : Room} {Z : ZX} {A : AX} {h : AH} {d : Nat} {P10 : AH → Prop} (hA0 : 91 ≤ A.1) (hF : Fx h) (hR : RO R (d + 1)) (hcs : A.2.2.1 ≤ R.cells ∧ A.2.2.2 ≤ R.slots) (hM : Mk X d m_X12_opens [.ref 68, .ref 69, .int 0, .int (h.1 68 7)] h A.1 A.2.1 (RV P10)) (q : ∀ (g : AH), P10 g → V X m_X12_readNet R Z A 13 [some (.ref 68), none] [] g) : V X m_X12_readNet R Z A 0 [some (.ref 68), none] [] h := by
  refine v_aload_n dX12_readNet_0 rfl ?_
  refine v_aload_n dX12_readNet_1 rfl ?_
  refine v_getR dX12_readNet_2 fl_RX12_9 kd_68 (ltA hA0 rfl) rfl (hF 68 2 69 rfl) ?_
  refine v_iconst dX12_readNet_5 ci_0 ?_
  refine v_aload_n dX12_readNet_6 rfl ?_
  refine v_getI dX12_readNet_7 fl_RX12_116 kd_68 (ltA hA0 rfl) rfl ?_
  exact v_cVV (mt := m_X12_readNet) mo_X12_opens ml_RX12_210 mi_X12_opens mv_X12_opens rfl kd_68 cl_12 rfl (ltA hA0 rfl) hR hcs (Nat.le_of_ble_eq_true rfl) dX12_readNet_10 rfl hM (fun g hp => (q g hp))
theorem c_X12_readNet_13 {X : CX} {R : Room} {Z : ZX} {A : AX} {h : AH} (q : V X m_X12_readNet R Z A 15 [some (.ref 68), some (.int 0)] [] h) : V X m_X12_readNet R Z A 13 [some (.ref 68), none] [] h := by
  refine v_iconst dX12_readNet_13 ci_0 ?_
  refine v_istore_n dX12_readNet_14 (by decide) (L' := [some (.ref 68), some (.int 0)]) rfl ?_
  exact q
theorem c_X12_readNet_15 {X : CX} {R : Room} {Z : ZX} {A : AX} {h : AH} {x1 : Int32} {d : Nat} {P37 : Int32 → AH → Prop} (hA0 : 91 ≤ A.1) (hF : Fx h) (hR : RO R (d + 1)) (hcs : A.2.2.1 ≤ R.cells ∧ A.2.2.2 ≤ R.slots) (hM : (h.1 68 1) ≤ x1 → Mk X d m_X12_look [.ref 68] h A.1 A.2.1 (RI P37)) (q : (h.1 68 1) ≤ x1 → ∀ (y : Int32) (g : AH), P37 y g → V X m_X12_readNet R Z A 40 [some (.ref 68), none] [.int y] g) (hi_29 : ¬ (h.1 68 1) ≤ x1 → vp_in x1 20) (q_1 : ¬ (h.1 68 1) ≤ x1 → V X m_X12_readNet R Z A 15 [some (.ref 68), some (.int (x1 + 1))] [] (setI h 74 x1.toNatClampNeg 0)) : V X m_X12_readNet R Z A 15 [some (.ref 68), some (.int x1)] [] h := by
  refine v_iload_n dX12_readNet_15 rfl ?_
  refine v_aload_n dX12_readNet_16 rfl ?_
  refine v_getI dX12_readNet_17 fl_RX12_99 kd_68 (ltA hA0 rfl) rfl ?_
  refine v_icmp_ge (tgt := 36) dX12_readNet_20 (by decide) (fun c0 => ?_) (fun c0 => ?_)
  · refine v_aload_n dX12_readNet_36 rfl ?_
    exact v_cVI (mt := m_X12_readNet) mo_X12_look ml_RX12_145 mi_X12_look mv_X12_look rfl kd_68 cl_12 rfl (ltA hA0 rfl) hR hcs (Nat.le_of_ble_eq_true rfl) dX12_readNet_37 rfl (hM c0) (fun y g hp => (v_drop (lvLe_s (lvLe_n lvLe_e)) ((q c0) y g hp)))
  · refine v_aload_n dX12_readNet_23 rfl ?_
    refine v_getR dX12_readNet_24 fl_RX12_40 kd_68 (ltA hA0 rfl) rfl (hF 68 20 74 rfl) ?_
    refine v_iload_n dX12_readNet_27 rfl ?_
    refine v_iconst dX12_readNet_28 ci_0 ?_
    refine v_iast dX12_readNet_29 kd_74 (ltA hA0 rfl) (hi_29 c0) ?_
    refine v_iinc (y := (x1 + 1)) dX12_readNet_30 rfl rfl (by decide) (L' := [some (.ref 68), some (.int (x1 + 1))]) rfl ?_
    refine v_goto (tgt := 15) dX12_readNet_33 (by decide) ?_
    exact (q_1 c0)
theorem c_X12_readNet_40 {X : CX} {R : Room} {Z : ZX} {A : AX} {h : AH} {s0 : Int32} (q : s0 = (-1) → V X m_X12_readNet R Z A 50 [some (.ref 68), some (.int 0)] [] h) (q_1 : ¬ s0 = (-1) → V X m_X12_readNet R Z A 50 [some (.ref 68), some (.int 1)] [] h) : V X m_X12_readNet R Z A 40 [some (.ref 68), none] [.int s0] h := by
  refine v_iconst dX12_readNet_40 ci_m1 ?_
  refine v_icmp_eq (tgt := 48) dX12_readNet_41 (by decide) (fun c0 => ?_) (fun c0 => ?_)
  · refine v_iconst dX12_readNet_48 ci_0 ?_
    refine v_istore_n dX12_readNet_49 (by decide) (L' := [some (.ref 68), some (.int 0)]) rfl ?_
    exact (q c0)
  · refine v_iconst dX12_readNet_44 ci_1 ?_
    refine v_goto (tgt := 49) dX12_readNet_45 (by decide) ?_
    refine v_istore_n dX12_readNet_49 (by decide) (L' := [some (.ref 68), some (.int 1)]) rfl ?_
    exact (q_1 c0)
theorem c_X12_readNet_50 {X : CX} {R : Room} {Z : ZX} {A : AX} {h : AH} {x1 : Int32} {d : Nat} {P95 P55 : Int32 → AH → Prop} (hA0 : 91 ≤ A.1) (hR : RO R (d + 1)) (hcs : A.2.2.1 ≤ R.cells ∧ A.2.2.2 ≤ R.slots) (hM : x1 = 0 → Mk X d m_X12_look [.ref 68] h A.1 A.2.1 (RI P95)) (q : x1 = 0 → ∀ (y : Int32) (g : AH), P95 y g → V X m_X12_readNet R Z A 98 [some (.ref 68), none] [.int y] g) (hM_1 : ¬ x1 = 0 → Mk X d m_X12_readTie [.ref 68] h A.1 A.2.1 (RI P55)) (q_1 : ¬ x1 = 0 → ∀ (y : Int32) (g : AH), P55 y g → V X m_X12_readNet R Z A 58 [some (.ref 68), none] [.int y] g) : V X m_X12_readNet R Z A 50 [some (.ref 68), some (.int x1)] [] h := by
  refine v_iload_n dX12_readNet_50 rfl ?_
  refine v_if_eq (tgt := 94) dX12_readNet_51 (by decide) (fun c0 => ?_) (fun c0 => ?_)
  · refine v_aload_n dX12_readNet_94 rfl ?_
    exact v_cVI (mt := m_X12_readNet) mo_X12_look ml_RX12_145 mi_X12_look mv_X12_look rfl kd_68 cl_12 rfl (ltA hA0 rfl) hR hcs (Nat.le_of_ble_eq_true rfl) dX12_readNet_95 rfl (hM c0) (fun y g hp => (v_drop (lvLe_s (lvLe_n lvLe_e)) ((q c0) y g hp)))
  · refine v_aload_n dX12_readNet_54 rfl ?_
    exact v_cVI (mt := m_X12_readNet) mo_X12_readTie ml_RX12_229 mi_X12_readTie mv_X12_readTie rfl kd_68 cl_12 rfl (ltA hA0 rfl) hR hcs (Nat.le_of_ble_eq_true rfl) dX12_readNet_55 rfl (hM_1 c0) (fun y g hp => (v_drop (lvLe_s (lvLe_n lvLe_e)) ((q_1 c0) y g hp)))
theorem c_X12_readNet_58 {X : CX} {R : Room} {Q : Option Value → AH → Prop} {nx sz mc ms : Nat} {h : AH} {s0 : Int32} {d : Nat} {P63 : Int32 → AH → Prop} (hA0 : 91 ≤ nx) (hR : RO R (d + 1)) (hcs : mc ≤ R.cells ∧ ms ≤ R.slots) (hM : ¬ s0 = 0 → Mk X d m_X12_look [.ref 68] h nx sz (RI P63)) (q : ¬ s0 = 0 → ∀ (y : Int32) (g : AH), P63 y g → V X m_X12_readNet R (ZM X Q nx sz mc ms) (nx, sz, mc, ms) 66 [some (.ref 68), none] [.int y] g) (hq : s0 = 0 → Q none h) : V X m_X12_readNet R (ZM X Q nx sz mc ms) (nx, sz, mc, ms) 58 [some (.ref 68), none] [.int s0] h := by
  refine v_if_ne (tgt := 62) dX12_readNet_58 (by decide) (fun c0 => ?_) (fun c0 => ?_)
  · refine v_aload_n dX12_readNet_62 rfl ?_
    exact v_cVI (mt := m_X12_readNet) mo_X12_look ml_RX12_145 mi_X12_look mv_X12_look rfl kd_68 cl_12 rfl (ltA hA0 rfl) hR hcs (Nat.le_of_ble_eq_true rfl) dX12_readNet_63 rfl (hM c0) (fun y g hp => ((q c0) y g hp))
  · exact v_vret dX12_readNet_61 rfl (hq c0)
theorem c_X12_readNet_66 {X : CX} {R : Room} {Z : ZX} {A : AX} {h : AH} {s0 : Int32} (hA0 : 91 ≤ A.1) (q : ¬ s0 = 44 → V X m_X12_readNet R Z A 50 [some (.ref 68), some (.int 0)] [] h) (q_1 : s0 = 44 → V X m_X12_readNet R Z A 50 [some (.ref 68), some (.int 1)] [] (setI h 68 11 ((h.1 68 11) + 1))) : V X m_X12_readNet R Z A 66 [some (.ref 68), none] [.int s0] h := by
  refine v_bipush dX12_readNet_66 cb_44 ?_
  refine v_icmp_ne (tgt := 75) dX12_readNet_68 (by decide) (fun c0 => ?_) (fun c0 => ?_)
  · refine v_iconst dX12_readNet_75 ci_0 ?_
    refine v_istore_n dX12_readNet_76 (by decide) (L' := [some (.ref 68), some (.int 0)]) rfl ?_
    refine v_iload_n dX12_readNet_77 rfl ?_
    refine v_if_eq (tgt := 50) dX12_readNet_78 (by decide) (fun _ => ?_) (fun z => absurd (show ¬ (0 : Int32) = 0 from z) (by decide))
    exact (q c0)
  · refine v_iconst dX12_readNet_71 ci_1 ?_
    refine v_goto (tgt := 76) dX12_readNet_72 (by decide) ?_
    refine v_istore_n dX12_readNet_76 (by decide) (L' := [some (.ref 68), some (.int 1)]) rfl ?_
    refine v_iload_n dX12_readNet_77 rfl ?_
    refine v_if_eq (tgt := 50) dX12_readNet_78 (by decide) (fun z => absurd (show (1 : Int32) = 0 from z) (by decide)) (fun _ => ?_)
    refine v_aload_n dX12_readNet_81 rfl ?_
    refine v_dup dX12_readNet_82 rfl ?_
    refine v_getI dX12_readNet_83 fl_RX12_126 kd_68 (ltA hA0 rfl) rfl ?_
    refine v_iconst dX12_readNet_86 ci_1 ?_
    refine v_iadd dX12_readNet_87 ?_
    refine v_putI rfl rfl rfl dX12_readNet_88 fl_RX12_126 (Or.inl rfl) kd_68 (ltA hA0 rfl) ?_
    refine v_goto (tgt := 50) dX12_readNet_91 (by decide) ?_
    exact (q_1 c0)
theorem c_X12_readNet_98 {X : CX} {R : Room} {Q : Option Value → AH → Prop} {nx sz mc ms : Nat} {h : AH} {s0 : Int32} {d : Nat} {P103 : Int32 → AH → Prop} (hA0 : 91 ≤ nx) (hR : RO R (d + 1)) (hcs : mc ≤ R.cells ∧ ms ≤ R.slots) (hq : s0 = (-1) → Q none h) (hM : ¬ s0 = (-1) → Mk X d m_X12_fails [.ref 68] h nx sz (RI P103)) (q : ¬ s0 = (-1) → ∀ (y : Int32) (g : AH), P103 y g → V X m_X12_readNet R (ZM X Q nx sz mc ms) (nx, sz, mc, ms) 106 [none, none] [.int y] g) : V X m_X12_readNet R (ZM X Q nx sz mc ms) (nx, sz, mc, ms) 98 [some (.ref 68), none] [.int s0] h := by
  refine v_iconst dX12_readNet_98 ci_m1 ?_
  refine v_icmp_eq (tgt := 107) dX12_readNet_99 (by decide) (fun c0 => ?_) (fun c0 => ?_)
  · exact v_vret dX12_readNet_107 rfl (hq c0)
  · refine v_aload_n dX12_readNet_102 rfl ?_
    exact v_cVI (mt := m_X12_readNet) mo_X12_fails ml_RX12_141 mi_X12_fails mv_X12_fails rfl kd_68 cl_12 rfl (ltA hA0 rfl) hR hcs (Nat.le_of_ble_eq_true rfl) dX12_readNet_103 rfl (hM c0) (fun y g hp => (v_drop (lvLe_n (lvLe_n lvLe_e)) ((q c0) y g hp)))
theorem c_X12_readNet_106 {X : CX} {R : Room} {Q : Option Value → AH → Prop} {nx sz mc ms : Nat} {h : AH} {s0 : Int32} (hq : Q none h) : V X m_X12_readNet R (ZM X Q nx sz mc ms) (nx, sz, mc, ms) 106 [none, none] [.int s0] h := by
  refine v_pop dX12_readNet_106 rfl ?_
  exact v_vret dX12_readNet_107 rfl hq
theorem e_X12_fault {X : CX} {d nx sz : Nat} {Q : Option Value → AH → Prop} {h : AH} {x1 : Int32} (q : V X m_X12_fault (rm d 0 0) (ZM X Q nx sz 0 0) (nx, sz, 0, 0) 0 [some (.ref 68), some (.int x1)] [] h) : Mk X d m_X12_fault [.ref 68, .int x1] h nx sz Q := by
  refine Mok.ofV mo_X12_fault (Nat.le_of_ble_eq_true rfl) (L := [some (.ref 68), some (.int x1)]) (lvLe_s (lvLe_s lvLe_e)) (v_grow (n := 0) ?_)
  exact q
theorem c_X12_fault_0 {X : CX} {R : Room} {Z : ZX} {A : AX} {h : AH} {x1 : Int32} {d : Nat} {P8 : Int32 → AH → Prop} (hA0 : 91 ≤ A.1) (hR : RO R (d + 1)) (hcs : A.2.2.1 ≤ R.cells ∧ A.2.2.2 ≤ R.slots) (hM : Mk X d m_X12_isIn [.int x1, .int 0, .int 1] (setI h 68 0 0) A.1 A.2.1 (RI P8)) (q : ∀ (y : Int32) (g : AH), P8 y g → V X m_X12_fault R Z A 11 [some (.ref 68), some (.int x1)] [.int y] g) : V X m_X12_fault R Z A 0 [some (.ref 68), some (.int x1)] [] h := by
  refine v_aload_n dX12_fault_0 rfl ?_
  refine v_iconst dX12_fault_1 ci_0 ?_
  refine v_putI rfl rfl rfl dX12_fault_2 fl_RX12_103 (Or.inl rfl) kd_68 (ltA hA0 rfl) ?_
  refine v_iload_n dX12_fault_5 rfl ?_
  refine v_iconst dX12_fault_6 ci_0 ?_
  refine v_iconst dX12_fault_7 ci_1 ?_
  exact v_cSI (mt := m_X12_fault) mo_X12_isIn ml_RX12_232 mz_X12_isIn rfl hR hcs (Nat.le_of_ble_eq_true rfl) dX12_fault_8 rfl hM (fun y g hp => (q y g hp))
theorem c_X12_fault_11 {X : CX} {R : Room} {Q : Option Value → AH → Prop} {nx sz mc ms : Nat} {h : AH} {x1 s0 : Int32} {d : Nat} {P38 P22 : AH → Prop} (hA0 : 91 ≤ nx) (hF : Fx h) (hR : RO R (d + 1)) (hcs : mc ≤ R.cells ∧ ms ≤ R.slots) (hM : ¬ s0 = 0 → ¬ x1 = 0 → Mk X d m_X12_goThrough [.ref 68, .ref 69, .int 0, .int (h.1 68 7)] h nx sz (RV P38)) (q : ¬ s0 = 0 → ¬ x1 = 0 → ∀ (g : AH), P38 g → V X m_X12_fault R (ZM X Q nx sz mc ms) (nx, sz, mc, ms) 41 [some (.ref 68), none] [] g) (hM_1 : ¬ s0 = 0 → x1 = 0 → Mk X d m_X12_readNet [.ref 68] h nx sz (RV P22)) (q_1 : ¬ s0 = 0 → x1 = 0 → ∀ (g : AH), P22 g → V X m_X12_fault R (ZM X Q nx sz mc ms) (nx, sz, mc, ms) 25 [some (.ref 68), none] [] g) (hq : s0 = 0 → Q (some (.int (-2))) h) : V X m_X12_fault R (ZM X Q nx sz mc ms) (nx, sz, mc, ms) 11 [some (.ref 68), some (.int x1)] [.int s0] h := by
  refine v_if_ne (tgt := 17) dX12_fault_11 (by decide) (fun c0 => ?_) (fun c0 => ?_)
  · refine v_iload_n dX12_fault_17 rfl ?_
    refine v_if_ne (tgt := 28) dX12_fault_18 (by decide) (fun c1 => ?_) (fun c1 => ?_)
    · refine v_aload_n dX12_fault_28 rfl ?_
      refine v_aload_n dX12_fault_29 rfl ?_
      refine v_getR dX12_fault_30 fl_RX12_9 kd_68 (ltA hA0 rfl) rfl (hF 68 2 69 rfl) ?_
      refine v_iconst dX12_fault_33 ci_0 ?_
      refine v_aload_n dX12_fault_34 rfl ?_
      refine v_getI dX12_fault_35 fl_RX12_116 kd_68 (ltA hA0 rfl) rfl ?_
      exact v_cVV (mt := m_X12_fault) mo_X12_goThrough ml_RX12_239 mi_X12_goThrough mv_X12_goThrough rfl kd_68 cl_12 rfl (ltA hA0 rfl) hR hcs (Nat.le_of_ble_eq_true rfl) dX12_fault_38 rfl (hM c0 c1) (fun g hp => (v_drop (lvLe_s (lvLe_n lvLe_e)) ((q c0 c1) g hp)))
    · refine v_aload_n dX12_fault_21 rfl ?_
      exact v_cVV (mt := m_X12_fault) mo_X12_readNet ml_RX12_236 mi_X12_readNet mv_X12_readNet rfl kd_68 cl_12 rfl (ltA hA0 rfl) hR hcs (Nat.le_of_ble_eq_true rfl) dX12_fault_22 rfl (hM_1 c0 c1) (fun g hp => (v_drop (lvLe_s (lvLe_n lvLe_e)) ((q_1 c0 c1) g hp)))
  · refine v_bipush dX12_fault_14 cb_m2 ?_
    exact v_iret dX12_fault_16 rfl (hq c0)
theorem c_X12_fault_25 {X : CX} {R : Room} {Z : ZX} {A : AX} {h : AH} (q : V X m_X12_fault R Z A 41 [some (.ref 68), none] [] h) : V X m_X12_fault R Z A 25 [some (.ref 68), none] [] h := by
  refine v_goto (tgt := 41) dX12_fault_25 (by decide) ?_
  exact q
theorem c_X12_fault_41 {X : CX} {R : Room} {Q : Option Value → AH → Prop} {nx sz mc ms : Nat} {h : AH} (hA0 : 91 ≤ nx) (hq : Q (some (.int (h.1 68 12))) h) : V X m_X12_fault R (ZM X Q nx sz mc ms) (nx, sz, mc, ms) 41 [some (.ref 68), none] [] h := by
  refine v_aload_n dX12_fault_41 rfl ?_
  refine v_getI dX12_fault_42 fl_RX12_135 kd_68 (ltA hA0 rfl) rfl ?_
  exact v_iret dX12_fault_45 rfl hq
theorem e_X12_ties {X : CX} {d nx sz : Nat} {Q : Option Value → AH → Prop} {h : AH} (q : V X m_X12_ties (rm d 0 0) (ZM X Q nx sz 0 0) (nx, sz, 0, 0) 0 [some (.ref 68), none, none] [] h) : Mk X d m_X12_ties [.ref 68] h nx sz Q := by
  refine Mok.ofV mo_X12_ties (Nat.le_of_ble_eq_true rfl) (L := [some (.ref 68)]) (lvLe_s lvLe_e) (v_grow (n := 2) ?_)
  exact q
theorem c_X12_ties_0 {X : CX} {R : Room} {Z : ZX} {A : AX} {h : AH} (q : V X m_X12_ties R Z A 4 [some (.ref 68), some (.int 0), some (.int 0)] [] h) : V X m_X12_ties R Z A 0 [some (.ref 68), none, none] [] h := by
  refine v_iconst dX12_ties_0 ci_0 ?_
  refine v_istore_n dX12_ties_1 (by decide) (L' := [some (.ref 68), some (.int 0), none]) rfl ?_
  refine v_iconst dX12_ties_2 ci_0 ?_
  refine v_istore_n dX12_ties_3 (by decide) (L' := [some (.ref 68), some (.int 0), some (.int 0)]) rfl ?_
  exact q
theorem c_X12_ties_4 {X : CX} {R : Room} {Q : Option Value → AH → Prop} {nx sz mc ms : Nat} {h : AH} {x1 x2 : Int32} {d : Nat} {P19 : Int32 → AH → Prop} (hA0 : 91 ≤ nx) (hF : Fx h) (hR : RO R (d + 1)) (hcs : mc ≤ R.cells ∧ ms ≤ R.slots) (hq : (h.1 68 1) ≤ x2 → Q (some (.int (x1 / 2))) h) (hi_18 : ¬ (h.1 68 1) ≤ x2 → vp_in x2 20) (hM : ¬ (h.1 68 1) ≤ x2 → Mk X d m_J6_bitCount_0f7a4 [.int (h.1 73 x2.toNatClampNeg)] h nx sz (RI P19)) (q : ¬ (h.1 68 1) ≤ x2 → ∀ (y : Int32) (g : AH), P19 y g → V X m_X12_ties R (ZM X Q nx sz mc ms) (nx, sz, mc, ms) 22 [some (.ref 68), none, some (.int x2)] [.int y, .int x1] g) : V X m_X12_ties R (ZM X Q nx sz mc ms) (nx, sz, mc, ms) 4 [some (.ref 68), some (.int x1), some (.int x2)] [] h := by
  refine v_iload_n dX12_ties_4 rfl ?_
  refine v_aload_n dX12_ties_5 rfl ?_
  refine v_getI dX12_ties_6 fl_RX12_99 kd_68 (ltA hA0 rfl) rfl ?_
  refine v_icmp_ge (tgt := 30) dX12_ties_9 (by decide) (fun c0 => ?_) (fun c0 => ?_)
  · refine v_iload_n dX12_ties_30 rfl ?_
    refine v_iconst dX12_ties_31 ci_2 ?_
    refine v_idiv dX12_ties_32 (by decide) ?_
    exact v_iret dX12_ties_33 rfl (hq c0)
  · refine v_iload_n dX12_ties_12 rfl ?_
    refine v_aload_n dX12_ties_13 rfl ?_
    refine v_getR dX12_ties_14 fl_RX12_37 kd_68 (ltA hA0 rfl) rfl (hF 68 19 73 rfl) ?_
    refine v_iload_n dX12_ties_17 rfl ?_
    refine v_iald dX12_ties_18 kd_73 (ltA hA0 rfl) (hi_18 c0) ?_
    exact v_cSI (mt := m_X12_ties) mo_J6_bitCount_0f7a4 ml_RX12_224 mz_J6_bitCount_0f7a4 rfl hR hcs (Nat.le_of_ble_eq_true rfl) dX12_ties_19 rfl (hM c0) (fun y g hp => (v_drop (lvLe_s (lvLe_n (lvLe_s lvLe_e))) ((q c0) y g hp)))
theorem c_X12_ties_22 {X : CX} {R : Room} {Z : ZX} {A : AX} {h : AH} {x2 s0 s1 : Int32} (q : V X m_X12_ties R Z A 4 [some (.ref 68), some (.int (s0 + s1)), some (.int (x2 + 1))] [] h) : V X m_X12_ties R Z A 22 [some (.ref 68), none, some (.int x2)] [.int s1, .int s0] h := by
  refine v_iadd dX12_ties_22 ?_
  refine v_istore_n dX12_ties_23 (by decide) (L' := [some (.ref 68), some (.int (s0 + s1)), some (.int x2)]) rfl ?_
  refine v_iinc (y := (x2 + 1)) dX12_ties_24 rfl rfl (by decide) (L' := [some (.ref 68), some (.int (s0 + s1)), some (.int (x2 + 1))]) rfl ?_
  refine v_goto (tgt := 4) dX12_ties_27 (by decide) ?_
  exact q
theorem e_X12_text {X : CX} {d nx sz : Nat} {Q : Option Value → AH → Prop} {h : AH} {x1 : Int32} (q : V X m_X12_text (rm d 0 0) (ZM X Q nx sz 0 0) (nx, sz, 0, 0) 0 [some (.ref 68), some (.int x1), none] [] h) : Mk X d m_X12_text [.ref 68, .int x1] h nx sz Q := by
  refine Mok.ofV mo_X12_text (Nat.le_of_ble_eq_true rfl) (L := [some (.ref 68), some (.int x1)]) (lvLe_s (lvLe_s lvLe_e)) (v_grow (n := 1) ?_)
  exact q
theorem c_X12_text_0 {X : CX} {R : Room} {Z : ZX} {A : AX} {h : AH} {x1 : Int32} {d : Nat} {P8 : Int32 → AH → Prop} (hA0 : 91 ≤ A.1) (hR : RO R (d + 1)) (hcs : A.2.2.1 ≤ R.cells ∧ A.2.2.2 ≤ R.slots) (hM : Mk X d m_X12_isIn [.int x1, .int 0, .int 1] (setI h 68 0 0) A.1 A.2.1 (RI P8)) (q : ∀ (y : Int32) (g : AH), P8 y g → V X m_X12_text R Z A 11 [some (.ref 68), some (.int x1), none] [.int y] g) : V X m_X12_text R Z A 0 [some (.ref 68), some (.int x1), none] [] h := by
  refine v_aload_n dX12_text_0 rfl ?_
  refine v_iconst dX12_text_1 ci_0 ?_
  refine v_putI rfl rfl rfl dX12_text_2 fl_RX12_103 (Or.inl rfl) kd_68 (ltA hA0 rfl) ?_
  refine v_iload_n dX12_text_5 rfl ?_
  refine v_iconst dX12_text_6 ci_0 ?_
  refine v_iconst dX12_text_7 ci_1 ?_
  exact v_cSI (mt := m_X12_text) mo_X12_isIn ml_RX12_232 mz_X12_isIn rfl hR hcs (Nat.le_of_ble_eq_true rfl) dX12_text_8 rfl hM (fun y g hp => (q y g hp))
theorem c_X12_text_11 {X : CX} {R : Room} {Q : Option Value → AH → Prop} {nx sz mc ms : Nat} {h : AH} {x1 s0 : Int32} {d : Nat} {P30 P30_1 : Int32 → AH → Prop} (hA0 : 91 ≤ nx) (hR : RO R (d + 1)) (hcs : mc ≤ R.cells ∧ ms ≤ R.slots) (hq : s0 = 0 → Q (some (.int (-1))) h) (hM : ¬ s0 = 0 → ¬ x1 = 1 → Mk X d m_X12_fault [.ref 68, .int x1] h nx sz (RI P30)) (q : ¬ s0 = 0 → ¬ x1 = 1 → ∀ (y : Int32) (g : AH), P30 y g → V X m_X12_text R (ZM X Q nx sz mc ms) (nx, sz, mc, ms) 33 [some (.ref 68), some (.int x1), none] [.int y] g) (hq_1 : ¬ s0 = 0 → x1 = 1 → (h.1 68 8) = 6 → Q (some (.int (-1))) h) (hM_1 : ¬ s0 = 0 → x1 = 1 → ¬ (h.1 68 8) = 6 → Mk X d m_X12_fault [.ref 68, .int x1] h nx sz (RI P30_1)) (q_1 : ¬ s0 = 0 → x1 = 1 → ¬ (h.1 68 8) = 6 → ∀ (y : Int32) (g : AH), P30_1 y g → V X m_X12_text R (ZM X Q nx sz mc ms) (nx, sz, mc, ms) 33 [some (.ref 68), some (.int x1), none] [.int y] g) : V X m_X12_text R (ZM X Q nx sz mc ms) (nx, sz, mc, ms) 11 [some (.ref 68), some (.int x1), none] [.int s0] h := by
  refine v_if_eq (tgt := 37) dX12_text_11 (by decide) (fun c0 => ?_) (fun c0 => ?_)
  · refine v_iconst dX12_text_37 ci_m1 ?_
    exact v_iret dX12_text_38 rfl (hq c0)
  · refine v_iload_n dX12_text_14 rfl ?_
    refine v_iconst dX12_text_15 ci_1 ?_
    refine v_icmp_ne (tgt := 28) dX12_text_16 (by decide) (fun c1 => ?_) (fun c1 => ?_)
    · refine v_aload_n dX12_text_28 rfl ?_
      refine v_iload_n dX12_text_29 rfl ?_
      exact v_cVI (mt := m_X12_text) mo_X12_fault ml_RX12_245 mi_X12_fault mv_X12_fault rfl kd_68 cl_12 rfl (ltA hA0 rfl) hR hcs (Nat.le_of_ble_eq_true rfl) dX12_text_30 rfl (hM c0 c1) (fun y g hp => ((q c0 c1) y g hp))
    · refine v_aload_n dX12_text_19 rfl ?_
      refine v_getI dX12_text_20 fl_RX12_242 kd_68 (ltA hA0 rfl) rfl ?_
      refine v_bipush dX12_text_23 cb_6 ?_
      refine v_icmp_eq (tgt := 37) dX12_text_25 (by decide) (fun c2 => ?_) (fun c2 => ?_)
      · refine v_iconst dX12_text_37 ci_m1 ?_
        exact v_iret dX12_text_38 rfl (hq_1 c0 c1 c2)
      · refine v_aload_n dX12_text_28 rfl ?_
        refine v_iload_n dX12_text_29 rfl ?_
        exact v_cVI (mt := m_X12_text) mo_X12_fault ml_RX12_245 mi_X12_fault mv_X12_fault rfl kd_68 cl_12 rfl (ltA hA0 rfl) hR hcs (Nat.le_of_ble_eq_true rfl) dX12_text_30 rfl (hM_1 c0 c1 c2) (fun y g hp => ((q_1 c0 c1 c2) y g hp))
theorem c_X12_text_33 {X : CX} {R : Room} {Q : Option Value → AH → Prop} {nx sz mc ms : Nat} {h : AH} {x1 s0 : Int32} (q : s0 = (-1) → ¬ x1 = 0 → V X m_X12_text R (ZM X Q nx sz mc ms) (nx, sz, mc, ms) 83 [some (.ref 68), none, some (.int 0)] [] h) (q_1 : s0 = (-1) → x1 = 0 → V X m_X12_text R (ZM X Q nx sz mc ms) (nx, sz, mc, ms) 45 [some (.ref 68), none, some (.int 0)] [] h) (hq : ¬ s0 = (-1) → Q (some (.int (-1))) h) : V X m_X12_text R (ZM X Q nx sz mc ms) (nx, sz, mc, ms) 33 [some (.ref 68), some (.int x1), none] [.int s0] h := by
  refine v_iconst dX12_text_33 ci_m1 ?_
  refine v_icmp_eq (tgt := 39) dX12_text_34 (by decide) (fun c0 => ?_) (fun c0 => ?_)
  · refine v_iload_n dX12_text_39 rfl ?_
    refine v_if_ne (tgt := 81) dX12_text_40 (by decide) (fun c1 => ?_) (fun c1 => ?_)
    · refine v_iconst dX12_text_81 ci_0 ?_
      refine v_istore_n dX12_text_82 (by decide) (L' := [some (.ref 68), some (.int x1), some (.int 0)]) rfl ?_
      exact (v_drop (lvLe_s (lvLe_n (lvLe_s lvLe_e))) (q c0 c1))
    · refine v_iconst dX12_text_43 ci_0 ?_
      refine v_istore_n dX12_text_44 (by decide) (L' := [some (.ref 68), some (.int x1), some (.int 0)]) rfl ?_
      exact (v_drop (lvLe_s (lvLe_n (lvLe_s lvLe_e))) (q_1 c0 c1))
  · refine v_iconst dX12_text_37 ci_m1 ?_
    exact v_iret dX12_text_38 rfl (hq c0)
theorem c_X12_text_45 {X : CX} {R : Room} {Z : ZX} {A : AX} {h : AH} {x2 : Int32} {d : Nat} {P77 : Int32 → AH → Prop} (hA0 : 91 ≤ A.1) (hF : Fx h) (hR : RO R (d + 1)) (hcs : A.2.2.1 ≤ R.cells ∧ A.2.2.2 ≤ R.slots) (hM : (h.1 68 1) ≤ x2 → Mk X d m_X12_ties [.ref 68] (setI h 68 7 0) A.1 A.2.1 (RI P77)) (q : (h.1 68 1) ≤ x2 → ∀ (y : Int32) (g : AH), P77 y g → V X m_X12_text R Z A 80 [none, none, none] [.int y] g) (hi_63 : ¬ (h.1 68 1) ≤ x2 → vp_in x2 20) (hi_64 : ¬ (h.1 68 1) ≤ x2 → vp_in x2 20) (q_1 : ¬ (h.1 68 1) ≤ x2 → V X m_X12_text R Z A 45 [some (.ref 68), none, some (.int (x2 + 1))] [] (setI h 73 x2.toNatClampNeg (h.1 74 x2.toNatClampNeg))) : V X m_X12_text R Z A 45 [some (.ref 68), none, some (.int x2)] [] h := by
  refine v_iload_n dX12_text_45 rfl ?_
  refine v_aload_n dX12_text_46 rfl ?_
  refine v_getI dX12_text_47 fl_RX12_99 kd_68 (ltA hA0 rfl) rfl ?_
  refine v_icmp_ge (tgt := 71) dX12_text_50 (by decide) (fun c0 => ?_) (fun c0 => ?_)
  · refine v_aload_n dX12_text_71 rfl ?_
    refine v_iconst dX12_text_72 ci_0 ?_
    refine v_putI rfl rfl rfl dX12_text_73 fl_RX12_116 (Or.inl rfl) kd_68 (ltA hA0 rfl) ?_
    refine v_aload_n dX12_text_76 rfl ?_
    exact v_cVI (mt := m_X12_text) mo_X12_ties ml_RX12_247 mi_X12_ties mv_X12_ties rfl kd_68 cl_12 rfl (ltA hA0 rfl) hR hcs (Nat.le_of_ble_eq_true rfl) dX12_text_77 rfl (hM c0) (fun y g hp => (v_drop (lvLe_n (lvLe_n (lvLe_n lvLe_e))) ((q c0) y g hp)))
  · refine v_aload_n dX12_text_53 rfl ?_
    refine v_getR dX12_text_54 fl_RX12_37 kd_68 (ltA hA0 rfl) rfl (hF 68 19 73 rfl) ?_
    refine v_iload_n dX12_text_57 rfl ?_
    refine v_aload_n dX12_text_58 rfl ?_
    refine v_getR dX12_text_59 fl_RX12_40 kd_68 (ltA hA0 rfl) rfl (hF 68 20 74 rfl) ?_
    refine v_iload_n dX12_text_62 rfl ?_
    refine v_iald dX12_text_63 kd_74 (ltA hA0 rfl) (hi_63 c0) ?_
    refine v_iast dX12_text_64 kd_73 (ltA hA0 rfl) (hi_64 c0) ?_
    refine v_iinc (y := (x2 + 1)) dX12_text_65 rfl rfl (by decide) (L' := [some (.ref 68), none, some (.int (x2 + 1))]) rfl ?_
    refine v_goto (tgt := 45) dX12_text_68 (by decide) ?_
    exact (q_1 c0)
theorem c_X12_text_80 {X : CX} {R : Room} {Q : Option Value → AH → Prop} {nx sz mc ms : Nat} {h : AH} {s0 : Int32} (hq : Q (some (.int s0)) h) : V X m_X12_text R (ZM X Q nx sz mc ms) (nx, sz, mc, ms) 80 [none, none, none] [.int s0] h := by
  exact v_iret dX12_text_80 rfl hq
theorem c_X12_text_83 {X : CX} {R : Room} {Q : Option Value → AH → Prop} {nx sz mc ms : Nat} {h : AH} {x2 : Int32} (hA0 : 91 ≤ nx) (hF : Fx h) (hi_130 : (h.1 68 7) ≤ x2 → vp_in (h.1 68 8) 6) (hq : (h.1 68 7) ≤ x2 → Q (some (.int (((h.1 68 8) + 1) - 1))) (setI (setI (setI h 71 (h.1 68 8).toNatClampNeg (h.1 68 7)) 68 7 0) 68 8 ((h.1 68 8) + 1))) (hi_110 : ¬ (h.1 68 7) ≤ x2 → vp_in x2 200) (hi_111 : ¬ (h.1 68 7) ≤ x2 → vp_in ((200 * (h.1 68 8)) + x2) 1200) (hb_111 : ¬ (h.1 68 7) ≤ x2 → narrow .byte (.int (h.1 69 x2.toNatClampNeg)) = .int (h.1 69 x2.toNatClampNeg)) (q : ¬ (h.1 68 7) ≤ x2 → V X m_X12_text R (ZM X Q nx sz mc ms) (nx, sz, mc, ms) 83 [some (.ref 68), none, some (.int (x2 + 1))] [] (setI h 70 ((200 * (h.1 68 8)) + x2).toNatClampNeg (h.1 69 x2.toNatClampNeg))) : V X m_X12_text R (ZM X Q nx sz mc ms) (nx, sz, mc, ms) 83 [some (.ref 68), none, some (.int x2)] [] h := by
  refine v_iload_n dX12_text_83 rfl ?_
  refine v_aload_n dX12_text_84 rfl ?_
  refine v_getI dX12_text_85 fl_RX12_116 kd_68 (ltA hA0 rfl) rfl ?_
  refine v_icmp_ge (tgt := 118) dX12_text_88 (by decide) (fun c0 => ?_) (fun c0 => ?_)
  · refine v_aload_n dX12_text_118 rfl ?_
    refine v_getR dX12_text_119 fl_RX12_16 kd_68 (ltA hA0 rfl) rfl (hF 68 4 71 rfl) ?_
    refine v_aload_n dX12_text_122 rfl ?_
    refine v_getI dX12_text_123 fl_RX12_242 kd_68 (ltA hA0 rfl) rfl ?_
    refine v_aload_n dX12_text_126 rfl ?_
    refine v_getI dX12_text_127 fl_RX12_116 kd_68 (ltA hA0 rfl) rfl ?_
    refine v_iast dX12_text_130 kd_71 (ltA hA0 rfl) (hi_130 c0) ?_
    refine v_aload_n dX12_text_131 rfl ?_
    refine v_iconst dX12_text_132 ci_0 ?_
    refine v_putI rfl rfl rfl dX12_text_133 fl_RX12_116 (Or.inl rfl) kd_68 (ltA hA0 rfl) ?_
    refine v_aload_n dX12_text_136 rfl ?_
    refine v_dup dX12_text_137 rfl ?_
    refine v_getI dX12_text_138 fl_RX12_242 kd_68 (ltA hA0 rfl) rfl ?_
    refine v_iconst dX12_text_141 ci_1 ?_
    refine v_iadd dX12_text_142 ?_
    refine v_putI rfl rfl rfl dX12_text_143 fl_RX12_242 (Or.inl rfl) kd_68 (ltA hA0 rfl) ?_
    refine v_aload_n dX12_text_146 rfl ?_
    refine v_getI dX12_text_147 fl_RX12_242 kd_68 (ltA hA0 rfl) rfl ?_
    refine v_iconst dX12_text_150 ci_1 ?_
    refine v_isub dX12_text_151 ?_
    exact v_iret dX12_text_152 rfl (hq c0)
  · refine v_aload_n dX12_text_91 rfl ?_
    refine v_getR dX12_text_92 fl_RX12_13 kd_68 (ltA hA0 rfl) rfl (hF 68 3 70 rfl) ?_
    refine v_sipush dX12_text_95 cs_200 ?_
    refine v_aload_n dX12_text_98 rfl ?_
    refine v_getI dX12_text_99 fl_RX12_242 kd_68 (ltA hA0 rfl) rfl ?_
    refine v_imul dX12_text_102 ?_
    refine v_iload_n dX12_text_103 rfl ?_
    refine v_iadd dX12_text_104 ?_
    refine v_aload_n dX12_text_105 rfl ?_
    refine v_getR dX12_text_106 fl_RX12_9 kd_68 (ltA hA0 rfl) rfl (hF 68 2 69 rfl) ?_
    refine v_iload_n dX12_text_109 rfl ?_
    refine v_bald dX12_text_110 kd_69 (ltA hA0 rfl) (hi_110 c0) ?_
    refine v_bast dX12_text_111 kd_70 (ltA hA0 rfl) (hi_111 c0) (hb_111 c0) ?_
    refine v_iinc (y := (x2 + 1)) dX12_text_112 rfl rfl (by decide) (L' := [some (.ref 68), none, some (.int (x2 + 1))]) rfl ?_
    refine v_goto (tgt := 83) dX12_text_115 (by decide) ?_
    exact (q c0)
theorem e_X12_isOne {X : CX} {d nx sz : Nat} {Q : Option Value → AH → Prop} {h : AH} {x1 : Int32} (q : V X m_X12_isOne (rm d 0 0) (ZM X Q nx sz 0 0) (nx, sz, 0, 0) 0 [some (.ref 68), some (.int x1)] [] h) : Mk X d m_X12_isOne [.ref 68, .int x1] h nx sz Q := by
  refine Mok.ofV mo_X12_isOne (Nat.le_of_ble_eq_true rfl) (L := [some (.ref 68), some (.int x1)]) (lvLe_s (lvLe_s lvLe_e)) (v_grow (n := 0) ?_)
  exact q
theorem c_X12_isOne_0 {X : CX} {R : Room} {Q : Option Value → AH → Prop} {nx sz mc ms : Nat} {h : AH} {x1 : Int32} (hA0 : 91 ≤ nx) (hq : x1 < 0 → Q (some (.int 0)) h) (hq_1 : ¬ x1 < 0 → (h.1 68 1) ≤ x1 → Q (some (.int 0)) h) (hq_2 : ¬ x1 < 0 → ¬ (h.1 68 1) ≤ x1 → Q (some (.int 1)) h) : V X m_X12_isOne R (ZM X Q nx sz mc ms) (nx, sz, mc, ms) 0 [some (.ref 68), some (.int x1)] [] h := by
  refine v_iload_n dX12_isOne_0 rfl ?_
  refine v_if_lt (tgt := 16) dX12_isOne_1 (by decide) (fun c0 => ?_) (fun c0 => ?_)
  · refine v_iconst dX12_isOne_16 ci_0 ?_
    exact v_zret (ty := .boolean) dX12_isOne_17 rfl rfl (hq c0)
  · refine v_iload_n dX12_isOne_4 rfl ?_
    refine v_aload_n dX12_isOne_5 rfl ?_
    refine v_getI dX12_isOne_6 fl_RX12_99 kd_68 (ltA hA0 rfl) rfl ?_
    refine v_icmp_ge (tgt := 16) dX12_isOne_9 (by decide) (fun c1 => ?_) (fun c1 => ?_)
    · refine v_iconst dX12_isOne_16 ci_0 ?_
      exact v_zret (ty := .boolean) dX12_isOne_17 rfl rfl (hq_1 c0 c1)
    · refine v_iconst dX12_isOne_12 ci_1 ?_
      refine v_goto (tgt := 17) dX12_isOne_13 (by decide) ?_
      exact v_zret (ty := .boolean) dX12_isOne_17 rfl rfl (hq_2 c0 c1)
theorem e_X12_areTwo {X : CX} {d nx sz : Nat} {Q : Option Value → AH → Prop} {h : AH} {x1 x2 : Int32} (q : V X m_X12_areTwo (rm d 0 0) (ZM X Q nx sz 0 0) (nx, sz, 0, 0) 0 [some (.ref 68), some (.int x1), some (.int x2)] [] h) : Mk X d m_X12_areTwo [.ref 68, .int x1, .int x2] h nx sz Q := by
  refine Mok.ofV mo_X12_areTwo (Nat.le_of_ble_eq_true rfl) (L := [some (.ref 68), some (.int x1), some (.int x2)]) (lvLe_s (lvLe_s (lvLe_s lvLe_e))) (v_grow (n := 0) ?_)
  exact q
theorem c_X12_areTwo_0 {X : CX} {R : Room} {Z : ZX} {A : AX} {h : AH} {x1 x2 : Int32} {d : Nat} {P2 : Int32 → AH → Prop} (hA0 : 91 ≤ A.1) (hR : RO R (d + 1)) (hcs : A.2.2.1 ≤ R.cells ∧ A.2.2.2 ≤ R.slots) (hM : Mk X d m_X12_isOne [.ref 68, .int x1] h A.1 A.2.1 (RI P2)) (q : ∀ (y : Int32) (g : AH), P2 y g → V X m_X12_areTwo R Z A 5 [some (.ref 68), some (.int x1), some (.int x2)] [.int y] g) : V X m_X12_areTwo R Z A 0 [some (.ref 68), some (.int x1), some (.int x2)] [] h := by
  refine v_aload_n dX12_areTwo_0 rfl ?_
  refine v_iload_n dX12_areTwo_1 rfl ?_
  exact v_cVI (mt := m_X12_areTwo) mo_X12_isOne ml_RX12_250 mi_X12_isOne mv_X12_isOne rfl kd_68 cl_12 rfl (ltA hA0 rfl) hR hcs (Nat.le_of_ble_eq_true rfl) dX12_areTwo_2 rfl hM (fun y g hp => (q y g hp))
theorem c_X12_areTwo_5 {X : CX} {R : Room} {Q : Option Value → AH → Prop} {nx sz mc ms : Nat} {h : AH} {x1 x2 s0 : Int32} {d : Nat} {P10 : Int32 → AH → Prop} (hA0 : 91 ≤ nx) (hR : RO R (d + 1)) (hcs : mc ≤ R.cells ∧ ms ≤ R.slots) (hq : s0 = 0 → Q (some (.int 0)) h) (hM : ¬ s0 = 0 → Mk X d m_X12_isOne [.ref 68, .int x2] h nx sz (RI P10)) (q : ¬ s0 = 0 → ∀ (y : Int32) (g : AH), P10 y g → V X m_X12_areTwo R (ZM X Q nx sz mc ms) (nx, sz, mc, ms) 13 [none, some (.int x1), some (.int x2)] [.int y] g) : V X m_X12_areTwo R (ZM X Q nx sz mc ms) (nx, sz, mc, ms) 5 [some (.ref 68), some (.int x1), some (.int x2)] [.int s0] h := by
  refine v_if_eq (tgt := 25) dX12_areTwo_5 (by decide) (fun c0 => ?_) (fun c0 => ?_)
  · refine v_iconst dX12_areTwo_25 ci_0 ?_
    exact v_zret (ty := .boolean) dX12_areTwo_26 rfl rfl (hq c0)
  · refine v_aload_n dX12_areTwo_8 rfl ?_
    refine v_iload_n dX12_areTwo_9 rfl ?_
    exact v_cVI (mt := m_X12_areTwo) mo_X12_isOne ml_RX12_250 mi_X12_isOne mv_X12_isOne rfl kd_68 cl_12 rfl (ltA hA0 rfl) hR hcs (Nat.le_of_ble_eq_true rfl) dX12_areTwo_10 rfl (hM c0) (fun y g hp => (v_drop (lvLe_n (lvLe_s (lvLe_s lvLe_e))) ((q c0) y g hp)))
theorem c_X12_areTwo_13 {X : CX} {R : Room} {Q : Option Value → AH → Prop} {nx sz mc ms : Nat} {h : AH} {x1 x2 s0 : Int32} (hq : s0 = 0 → Q (some (.int 0)) h) (hq_1 : ¬ s0 = 0 → x1 = x2 → Q (some (.int 0)) h) (hq_2 : ¬ s0 = 0 → ¬ x1 = x2 → Q (some (.int 1)) h) : V X m_X12_areTwo R (ZM X Q nx sz mc ms) (nx, sz, mc, ms) 13 [none, some (.int x1), some (.int x2)] [.int s0] h := by
  refine v_if_eq (tgt := 25) dX12_areTwo_13 (by decide) (fun c0 => ?_) (fun c0 => ?_)
  · refine v_iconst dX12_areTwo_25 ci_0 ?_
    exact v_zret (ty := .boolean) dX12_areTwo_26 rfl rfl (hq c0)
  · refine v_iload_n dX12_areTwo_16 rfl ?_
    refine v_iload_n dX12_areTwo_17 rfl ?_
    refine v_icmp_eq (tgt := 25) dX12_areTwo_18 (by decide) (fun c1 => ?_) (fun c1 => ?_)
    · refine v_iconst dX12_areTwo_25 ci_0 ?_
      exact v_zret (ty := .boolean) dX12_areTwo_26 rfl rfl (hq_1 c0 c1)
    · refine v_iconst dX12_areTwo_21 ci_1 ?_
      refine v_goto (tgt := 26) dX12_areTwo_22 (by decide) ?_
      exact v_zret (ty := .boolean) dX12_areTwo_26 rfl rfl (hq_2 c0 c1)
theorem e_X12_many {X : CX} {d nx sz : Nat} {Q : Option Value → AH → Prop} {h : AH} {x1 : Int32} (q : V X m_X12_many (rm d 0 0) (ZM X Q nx sz 0 0) (nx, sz, 0, 0) 0 [some (.ref 68), some (.int x1)] [] h) : Mk X d m_X12_many [.ref 68, .int x1] h nx sz Q := by
  refine Mok.ofV mo_X12_many (Nat.le_of_ble_eq_true rfl) (L := [some (.ref 68), some (.int x1)]) (lvLe_s (lvLe_s lvLe_e)) (v_grow (n := 0) ?_)
  exact q
theorem c_X12_many_0 {X : CX} {R : Room} {Z : ZX} {A : AX} {h : AH} {x1 : Int32} {d : Nat} {P6 : Int32 → AH → Prop} (hA0 : 91 ≤ A.1) (hF : Fx h) (hR : RO R (d + 1)) (hcs : A.2.2.1 ≤ R.cells ∧ A.2.2.2 ≤ R.slots) (hi_5 : vp_in x1 20) (hM : Mk X d m_J6_bitCount_0f7a4 [.int (h.1 73 x1.toNatClampNeg)] h A.1 A.2.1 (RI P6)) (q : ∀ (y : Int32) (g : AH), P6 y g → V X m_X12_many R Z A 9 [none, none] [.int y] g) : V X m_X12_many R Z A 0 [some (.ref 68), some (.int x1)] [] h := by
  refine v_aload_n dX12_many_0 rfl ?_
  refine v_getR dX12_many_1 fl_RX12_37 kd_68 (ltA hA0 rfl) rfl (hF 68 19 73 rfl) ?_
  refine v_iload_n dX12_many_4 rfl ?_
  refine v_iald dX12_many_5 kd_73 (ltA hA0 rfl) hi_5 ?_
  exact v_cSI (mt := m_X12_many) mo_J6_bitCount_0f7a4 ml_RX12_224 mz_J6_bitCount_0f7a4 rfl hR hcs (Nat.le_of_ble_eq_true rfl) dX12_many_6 rfl hM (fun y g hp => (v_drop (lvLe_n (lvLe_n lvLe_e)) (q y g hp)))
theorem c_X12_many_9 {X : CX} {R : Room} {Q : Option Value → AH → Prop} {nx sz mc ms : Nat} {h : AH} {s0 : Int32} (hq : Q (some (.int s0)) h) : V X m_X12_many R (ZM X Q nx sz mc ms) (nx, sz, mc, ms) 9 [none, none] [.int s0] h := by
  exact v_iret dX12_many_9 rfl hq
theorem e_X12_most {X : CX} {d nx sz : Nat} {Q : Option Value → AH → Prop} {h : AH} {x1 x2 : Int32} (q : V X m_X12_most (rm d 0 0) (ZM X Q nx sz 0 0) (nx, sz, 0, 0) 0 [some (.ref 68), some (.int x1), some (.int x2)] [] h) : Mk X d m_X12_most [.ref 68, .int x1, .int x2] h nx sz Q := by
  refine Mok.ofV mo_X12_most (Nat.le_of_ble_eq_true rfl) (L := [some (.ref 68), some (.int x1), some (.int x2)]) (lvLe_s (lvLe_s (lvLe_s lvLe_e))) (v_grow (n := 0) ?_)
  exact q
theorem c_X12_most_0 {X : CX} {R : Room} {Z : ZX} {A : AX} {h : AH} {x1 x2 : Int32} {d : Nat} {P7 : Int32 → AH → Prop} (hA0 : 91 ≤ A.1) (hR : RO R (d + 1)) (hcs : A.2.2.1 ≤ R.cells ∧ A.2.2.2 ≤ R.slots) (hM : Mk X d m_X12_isOne [.ref 68, .int x1] (setI h 68 0 0) A.1 A.2.1 (RI P7)) (q : ∀ (y : Int32) (g : AH), P7 y g → V X m_X12_most R Z A 10 [some (.ref 68), some (.int x1), some (.int x2)] [.int y] g) : V X m_X12_most R Z A 0 [some (.ref 68), some (.int x1), some (.int x2)] [] h := by
  refine v_aload_n dX12_most_0 rfl ?_
  refine v_iconst dX12_most_1 ci_0 ?_
  refine v_putI rfl rfl rfl dX12_most_2 fl_RX12_103 (Or.inl rfl) kd_68 (ltA hA0 rfl) ?_
  refine v_aload_n dX12_most_5 rfl ?_
  refine v_iload_n dX12_most_6 rfl ?_
  exact v_cVI (mt := m_X12_most) mo_X12_isOne ml_RX12_250 mi_X12_isOne mv_X12_isOne rfl kd_68 cl_12 rfl (ltA hA0 rfl) hR hcs (Nat.le_of_ble_eq_true rfl) dX12_most_7 rfl hM (fun y g hp => (q y g hp))
theorem c_X12_most_10 {X : CX} {R : Room} {Q : Option Value → AH → Prop} {nx sz mc ms : Nat} {h : AH} {x1 x2 s0 : Int32} {d : Nat} {P17 : Int32 → AH → Prop} (hR : RO R (d + 1)) (hcs : mc ≤ R.cells ∧ ms ≤ R.slots) (hq : s0 = 0 → Q (some (.int 0)) h) (hM : ¬ s0 = 0 → Mk X d m_X12_isIn [.int x2, .int 0, .int 9] h nx sz (RI P17)) (q : ¬ s0 = 0 → ∀ (y : Int32) (g : AH), P17 y g → V X m_X12_most R (ZM X Q nx sz mc ms) (nx, sz, mc, ms) 20 [some (.ref 68), some (.int x1), some (.int x2)] [.int y] g) : V X m_X12_most R (ZM X Q nx sz mc ms) (nx, sz, mc, ms) 10 [some (.ref 68), some (.int x1), some (.int x2)] [.int s0] h := by
  refine v_if_eq (tgt := 32) dX12_most_10 (by decide) (fun c0 => ?_) (fun c0 => ?_)
  · refine v_iconst dX12_most_32 ci_0 ?_
    exact v_zret (ty := .boolean) dX12_most_33 rfl rfl (hq c0)
  · refine v_iload_n dX12_most_13 rfl ?_
    refine v_iconst dX12_most_14 ci_0 ?_
    refine v_bipush dX12_most_15 cb_9 ?_
    exact v_cSI (mt := m_X12_most) mo_X12_isIn ml_RX12_232 mz_X12_isIn rfl hR hcs (Nat.le_of_ble_eq_true rfl) dX12_most_17 rfl (hM c0) (fun y g hp => ((q c0) y g hp))
theorem c_X12_most_20 {X : CX} {R : Room} {Q : Option Value → AH → Prop} {nx sz mc ms : Nat} {h : AH} {x1 x2 s0 : Int32} {d : Nat} {P26 : Int32 → AH → Prop} (hA0 : 91 ≤ nx) (hR : RO R (d + 1)) (hcs : mc ≤ R.cells ∧ ms ≤ R.slots) (hq : s0 = 0 → Q (some (.int 0)) h) (hM : ¬ s0 = 0 → Mk X d m_X12_many [.ref 68, .int x1] h nx sz (RI P26)) (q : ¬ s0 = 0 → ∀ (y : Int32) (g : AH), P26 y g → V X m_X12_most R (ZM X Q nx sz mc ms) (nx, sz, mc, ms) 29 [some (.ref 68), some (.int x1), some (.int x2)] [.int y, .int x2] g) : V X m_X12_most R (ZM X Q nx sz mc ms) (nx, sz, mc, ms) 20 [some (.ref 68), some (.int x1), some (.int x2)] [.int s0] h := by
  refine v_if_eq (tgt := 32) dX12_most_20 (by decide) (fun c0 => ?_) (fun c0 => ?_)
  · refine v_iconst dX12_most_32 ci_0 ?_
    exact v_zret (ty := .boolean) dX12_most_33 rfl rfl (hq c0)
  · refine v_iload_n dX12_most_23 rfl ?_
    refine v_aload_n dX12_most_24 rfl ?_
    refine v_iload_n dX12_most_25 rfl ?_
    exact v_cVI (mt := m_X12_most) mo_X12_many ml_RX12_253 mi_X12_many mv_X12_many rfl kd_68 cl_12 rfl (ltA hA0 rfl) hR hcs (Nat.le_of_ble_eq_true rfl) dX12_most_26 rfl (hM c0) (fun y g hp => ((q c0) y g hp))
theorem c_X12_most_29 {X : CX} {R : Room} {Q : Option Value → AH → Prop} {nx sz mc ms : Nat} {h : AH} {x1 x2 s0 s1 : Int32} (hA0 : 91 ≤ nx) (hF : Fx h) (hi_40 : s1 ≤ s0 → vp_in x1 20) (hq : s1 ≤ s0 → Q (some (.int 1)) (setI h 75 x1.toNatClampNeg x2)) (hq_1 : ¬ s1 ≤ s0 → Q (some (.int 0)) h) : V X m_X12_most R (ZM X Q nx sz mc ms) (nx, sz, mc, ms) 29 [some (.ref 68), some (.int x1), some (.int x2)] [.int s1, .int s0] h := by
  refine v_icmp_ge (tgt := 34) dX12_most_29 (by decide) (fun c0 => ?_) (fun c0 => ?_)
  · refine v_aload_n dX12_most_34 rfl ?_
    refine v_getR dX12_most_35 fl_RX12_43 kd_68 (ltA hA0 rfl) rfl (hF 68 21 75 rfl) ?_
    refine v_iload_n dX12_most_38 rfl ?_
    refine v_iload_n dX12_most_39 rfl ?_
    refine v_iast dX12_most_40 kd_75 (ltA hA0 rfl) (hi_40 c0) ?_
    refine v_iconst dX12_most_41 ci_1 ?_
    exact v_zret (ty := .boolean) dX12_most_42 rfl rfl (hq c0)
  · refine v_iconst dX12_most_32 ci_0 ?_
    exact v_zret (ty := .boolean) dX12_most_33 rfl rfl (hq_1 c0)
theorem e_X12_join {X : CX} {d nx sz : Nat} {Q : Option Value → AH → Prop} {h : AH} {x1 x2 : Int32} (q : V X m_X12_join (rm d 0 0) (ZM X Q nx sz 0 0) (nx, sz, 0, 0) 0 [some (.ref 68), some (.int x1), some (.int x2)] [] h) : Mk X d m_X12_join [.ref 68, .int x1, .int x2] h nx sz Q := by
  refine Mok.ofV mo_X12_join (Nat.le_of_ble_eq_true rfl) (L := [some (.ref 68), some (.int x1), some (.int x2)]) (lvLe_s (lvLe_s (lvLe_s lvLe_e))) (v_grow (n := 0) ?_)
  exact q
theorem c_X12_join_0 {X : CX} {R : Room} {Q : Option Value → AH → Prop} {nx sz mc ms : Nat} {h : AH} {x1 x2 : Int32} (hA0 : 91 ≤ nx) (hF : Fx h) (hi_6 : vp_in x1 20) (hi_11 : vp_in x1 20) (hi_18 : vp_in x2 20) (hi_23 : vp_in x2 20) (hq : Q none (setI (setI h 73 x1.toNatClampNeg ((h.1 73 x1.toNatClampNeg) ||| ((1 : Int32) <<< ((x2 : Int32) &&& 31)))) 73 x2.toNatClampNeg (((setI h 73 x1.toNatClampNeg ((h.1 73 x1.toNatClampNeg) ||| ((1 : Int32) <<< ((x2 : Int32) &&& 31)))).1 73 x2.toNatClampNeg) ||| ((1 : Int32) <<< ((x1 : Int32) &&& 31))))) : V X m_X12_join R (ZM X Q nx sz mc ms) (nx, sz, mc, ms) 0 [some (.ref 68), some (.int x1), some (.int x2)] [] h := by
  refine v_aload_n dX12_join_0 rfl ?_
  refine v_getR dX12_join_1 fl_RX12_37 kd_68 (ltA hA0 rfl) rfl (hF 68 19 73 rfl) ?_
  refine v_iload_n dX12_join_4 rfl ?_
  refine v_dup2 dX12_join_5 rfl rfl ?_
  refine v_iald dX12_join_6 kd_73 (ltA hA0 rfl) hi_6 ?_
  refine v_iconst dX12_join_7 ci_1 ?_
  refine v_iload_n dX12_join_8 rfl ?_
  refine v_ishl dX12_join_9 ?_
  refine v_ior dX12_join_10 ?_
  refine v_iast dX12_join_11 kd_73 (ltA hA0 rfl) hi_11 ?_
  refine v_aload_n dX12_join_12 rfl ?_
  refine v_getR dX12_join_13 fl_RX12_37 kd_68 (ltA hA0 rfl) rfl (hF 68 19 73 rfl) ?_
  refine v_iload_n dX12_join_16 rfl ?_
  refine v_dup2 dX12_join_17 rfl rfl ?_
  refine v_iald dX12_join_18 kd_73 (ltA hA0 rfl) hi_18 ?_
  refine v_iconst dX12_join_19 ci_1 ?_
  refine v_iload_n dX12_join_20 rfl ?_
  refine v_ishl dX12_join_21 ?_
  refine v_ior dX12_join_22 ?_
  refine v_iast dX12_join_23 kd_73 (ltA hA0 rfl) hi_23 ?_
  exact v_vret dX12_join_24 rfl hq
theorem e_X12_part_ {X : CX} {d nx sz : Nat} {Q : Option Value → AH → Prop} {h : AH} {x1 x2 : Int32} (q : V X m_X12_part_ (rm d 0 0) (ZM X Q nx sz 0 0) (nx, sz, 0, 0) 0 [some (.ref 68), some (.int x1), some (.int x2)] [] h) : Mk X d m_X12_part_ [.ref 68, .int x1, .int x2] h nx sz Q := by
  refine Mok.ofV mo_X12_part_ (Nat.le_of_ble_eq_true rfl) (L := [some (.ref 68), some (.int x1), some (.int x2)]) (lvLe_s (lvLe_s (lvLe_s lvLe_e))) (v_grow (n := 0) ?_)
  exact q
theorem c_X12_part__0 {X : CX} {R : Room} {Q : Option Value → AH → Prop} {nx sz mc ms : Nat} {h : AH} {x1 x2 : Int32} (hA0 : 91 ≤ nx) (hF : Fx h) (hi_6 : vp_in x1 20) (hi_13 : vp_in x1 20) (hi_20 : vp_in x2 20) (hi_27 : vp_in x2 20) (hq : Q none (setI (setI h 73 x1.toNatClampNeg ((h.1 73 x1.toNatClampNeg) &&& (((1 : Int32) <<< ((x2 : Int32) &&& 31)) ^^^ (-1)))) 73 x2.toNatClampNeg (((setI h 73 x1.toNatClampNeg ((h.1 73 x1.toNatClampNeg) &&& (((1 : Int32) <<< ((x2 : Int32) &&& 31)) ^^^ (-1)))).1 73 x2.toNatClampNeg) &&& (((1 : Int32) <<< ((x1 : Int32) &&& 31)) ^^^ (-1))))) : V X m_X12_part_ R (ZM X Q nx sz mc ms) (nx, sz, mc, ms) 0 [some (.ref 68), some (.int x1), some (.int x2)] [] h := by
  refine v_aload_n dX12_part__0 rfl ?_
  refine v_getR dX12_part__1 fl_RX12_37 kd_68 (ltA hA0 rfl) rfl (hF 68 19 73 rfl) ?_
  refine v_iload_n dX12_part__4 rfl ?_
  refine v_dup2 dX12_part__5 rfl rfl ?_
  refine v_iald dX12_part__6 kd_73 (ltA hA0 rfl) hi_6 ?_
  refine v_iconst dX12_part__7 ci_1 ?_
  refine v_iload_n dX12_part__8 rfl ?_
  refine v_ishl dX12_part__9 ?_
  refine v_iconst dX12_part__10 ci_m1 ?_
  refine v_ixor dX12_part__11 ?_
  refine v_iand dX12_part__12 ?_
  refine v_iast dX12_part__13 kd_73 (ltA hA0 rfl) hi_13 ?_
  refine v_aload_n dX12_part__14 rfl ?_
  refine v_getR dX12_part__15 fl_RX12_37 kd_68 (ltA hA0 rfl) rfl (hF 68 19 73 rfl) ?_
  refine v_iload_n dX12_part__18 rfl ?_
  refine v_dup2 dX12_part__19 rfl rfl ?_
  refine v_iald dX12_part__20 kd_73 (ltA hA0 rfl) hi_20 ?_
  refine v_iconst dX12_part__21 ci_1 ?_
  refine v_iload_n dX12_part__22 rfl ?_
  refine v_ishl dX12_part__23 ?_
  refine v_iconst dX12_part__24 ci_m1 ?_
  refine v_ixor dX12_part__25 ?_
  refine v_iand dX12_part__26 ?_
  refine v_iast dX12_part__27 kd_73 (ltA hA0 rfl) hi_27 ?_
  exact v_vret dX12_part__28 rfl hq
theorem e_X12_tie {X : CX} {d nx sz : Nat} {Q : Option Value → AH → Prop} {h : AH} {x1 x2 : Int32} (q : V X m_X12_tie (rm d 0 0) (ZM X Q nx sz 0 0) (nx, sz, 0, 0) 0 [some (.ref 68), some (.int x1), some (.int x2)] [] h) : Mk X d m_X12_tie [.ref 68, .int x1, .int x2] h nx sz Q := by
  refine Mok.ofV mo_X12_tie (Nat.le_of_ble_eq_true rfl) (L := [some (.ref 68), some (.int x1), some (.int x2)]) (lvLe_s (lvLe_s (lvLe_s lvLe_e))) (v_grow (n := 0) ?_)
  exact q
theorem c_X12_tie_0 {X : CX} {R : Room} {Z : ZX} {A : AX} {h : AH} {x1 x2 : Int32} {d : Nat} {P8 : Int32 → AH → Prop} (hA0 : 91 ≤ A.1) (hR : RO R (d + 1)) (hcs : A.2.2.1 ≤ R.cells ∧ A.2.2.2 ≤ R.slots) (hM : Mk X d m_X12_areTwo [.ref 68, .int x1, .int x2] (setI h 68 0 0) A.1 A.2.1 (RI P8)) (q : ∀ (y : Int32) (g : AH), P8 y g → V X m_X12_tie R Z A 11 [some (.ref 68), some (.int x1), some (.int x2)] [.int y] g) : V X m_X12_tie R Z A 0 [some (.ref 68), some (.int x1), some (.int x2)] [] h := by
  refine v_aload_n dX12_tie_0 rfl ?_
  refine v_iconst dX12_tie_1 ci_0 ?_
  refine v_putI rfl rfl rfl dX12_tie_2 fl_RX12_103 (Or.inl rfl) kd_68 (ltA hA0 rfl) ?_
  refine v_aload_n dX12_tie_5 rfl ?_
  refine v_iload_n dX12_tie_6 rfl ?_
  refine v_iload_n dX12_tie_7 rfl ?_
  exact v_cVI (mt := m_X12_tie) mo_X12_areTwo ml_RX12_256 mi_X12_areTwo mv_X12_areTwo rfl kd_68 cl_12 rfl (ltA hA0 rfl) hR hcs (Nat.le_of_ble_eq_true rfl) dX12_tie_8 rfl hM (fun y g hp => (q y g hp))
theorem c_X12_tie_11 {X : CX} {R : Room} {Q : Option Value → AH → Prop} {nx sz mc ms : Nat} {h : AH} {x1 x2 s0 : Int32} {d : Nat} {P21 : Int32 → AH → Prop} (hA0 : 91 ≤ nx) (hF : Fx h) (hR : RO R (d + 1)) (hcs : mc ≤ R.cells ∧ ms ≤ R.slots) (hq : s0 = 0 → Q (some (.int 0)) h) (hi_19 : ¬ s0 = 0 → vp_in x1 20) (hM : ¬ s0 = 0 → Mk X d m_X12_has [.int (h.1 73 x1.toNatClampNeg), .int x2] h nx sz (RI P21)) (q : ¬ s0 = 0 → ∀ (y : Int32) (g : AH), P21 y g → V X m_X12_tie R (ZM X Q nx sz mc ms) (nx, sz, mc, ms) 24 [some (.ref 68), some (.int x1), some (.int x2)] [.int y] g) : V X m_X12_tie R (ZM X Q nx sz mc ms) (nx, sz, mc, ms) 11 [some (.ref 68), some (.int x1), some (.int x2)] [.int s0] h := by
  refine v_if_eq (tgt := 55) dX12_tie_11 (by decide) (fun c0 => ?_) (fun c0 => ?_)
  · refine v_iconst dX12_tie_55 ci_0 ?_
    exact v_zret (ty := .boolean) dX12_tie_56 rfl rfl (hq c0)
  · refine v_aload_n dX12_tie_14 rfl ?_
    refine v_getR dX12_tie_15 fl_RX12_37 kd_68 (ltA hA0 rfl) rfl (hF 68 19 73 rfl) ?_
    refine v_iload_n dX12_tie_18 rfl ?_
    refine v_iald dX12_tie_19 kd_73 (ltA hA0 rfl) (hi_19 c0) ?_
    refine v_iload_n dX12_tie_20 rfl ?_
    exact v_cSI (mt := m_X12_tie) mo_X12_has ml_RX12_220 mz_X12_has rfl hR hcs (Nat.le_of_ble_eq_true rfl) dX12_tie_21 rfl (hM c0) (fun y g hp => ((q c0) y g hp))
theorem c_X12_tie_24 {X : CX} {R : Room} {Q : Option Value → AH → Prop} {nx sz mc ms : Nat} {h : AH} {x1 x2 s0 : Int32} {d : Nat} {P29 : Int32 → AH → Prop} (hA0 : 91 ≤ nx) (hR : RO R (d + 1)) (hcs : mc ≤ R.cells ∧ ms ≤ R.slots) (hq : ¬ s0 = 0 → Q (some (.int 0)) h) (hM : s0 = 0 → Mk X d m_X12_many [.ref 68, .int x1] h nx sz (RI P29)) (q : s0 = 0 → ∀ (y : Int32) (g : AH), P29 y g → V X m_X12_tie R (ZM X Q nx sz mc ms) (nx, sz, mc, ms) 32 [some (.ref 68), some (.int x1), some (.int x2)] [.int y] g) : V X m_X12_tie R (ZM X Q nx sz mc ms) (nx, sz, mc, ms) 24 [some (.ref 68), some (.int x1), some (.int x2)] [.int s0] h := by
  refine v_if_ne (tgt := 55) dX12_tie_24 (by decide) (fun c0 => ?_) (fun c0 => ?_)
  · refine v_iconst dX12_tie_55 ci_0 ?_
    exact v_zret (ty := .boolean) dX12_tie_56 rfl rfl (hq c0)
  · refine v_aload_n dX12_tie_27 rfl ?_
    refine v_iload_n dX12_tie_28 rfl ?_
    exact v_cVI (mt := m_X12_tie) mo_X12_many ml_RX12_253 mi_X12_many mv_X12_many rfl kd_68 cl_12 rfl (ltA hA0 rfl) hR hcs (Nat.le_of_ble_eq_true rfl) dX12_tie_29 rfl (hM c0) (fun y g hp => ((q c0) y g hp))
theorem c_X12_tie_32 {X : CX} {R : Room} {Q : Option Value → AH → Prop} {nx sz mc ms : Nat} {h : AH} {x1 x2 s0 : Int32} {d : Nat} {P43 : Int32 → AH → Prop} (hA0 : 91 ≤ nx) (hF : Fx h) (hR : RO R (d + 1)) (hcs : mc ≤ R.cells ∧ ms ≤ R.slots) (hi_37 : vp_in x1 20) (hq : s0 = (h.1 75 x1.toNatClampNeg) → Q (some (.int 0)) h) (hM : ¬ s0 = (h.1 75 x1.toNatClampNeg) → Mk X d m_X12_many [.ref 68, .int x2] h nx sz (RI P43)) (q : ¬ s0 = (h.1 75 x1.toNatClampNeg) → ∀ (y : Int32) (g : AH), P43 y g → V X m_X12_tie R (ZM X Q nx sz mc ms) (nx, sz, mc, ms) 46 [some (.ref 68), some (.int x1), some (.int x2)] [.int y] g) : V X m_X12_tie R (ZM X Q nx sz mc ms) (nx, sz, mc, ms) 32 [some (.ref 68), some (.int x1), some (.int x2)] [.int s0] h := by
  refine v_aload_n dX12_tie_32 rfl ?_
  refine v_getR dX12_tie_33 fl_RX12_43 kd_68 (ltA hA0 rfl) rfl (hF 68 21 75 rfl) ?_
  refine v_iload_n dX12_tie_36 rfl ?_
  refine v_iald dX12_tie_37 kd_75 (ltA hA0 rfl) hi_37 ?_
  refine v_icmp_eq (tgt := 55) dX12_tie_38 (by decide) (fun c0 => ?_) (fun c0 => ?_)
  · refine v_iconst dX12_tie_55 ci_0 ?_
    exact v_zret (ty := .boolean) dX12_tie_56 rfl rfl (hq c0)
  · refine v_aload_n dX12_tie_41 rfl ?_
    refine v_iload_n dX12_tie_42 rfl ?_
    exact v_cVI (mt := m_X12_tie) mo_X12_many ml_RX12_253 mi_X12_many mv_X12_many rfl kd_68 cl_12 rfl (ltA hA0 rfl) hR hcs (Nat.le_of_ble_eq_true rfl) dX12_tie_43 rfl (hM c0) (fun y g hp => ((q c0) y g hp))
theorem c_X12_tie_46 {X : CX} {R : Room} {Q : Option Value → AH → Prop} {nx sz mc ms : Nat} {h : AH} {x1 x2 s0 : Int32} {d : Nat} {P60 : AH → Prop} (hA0 : 91 ≤ nx) (hF : Fx h) (hR : RO R (d + 1)) (hcs : mc ≤ R.cells ∧ ms ≤ R.slots) (hi_51 : vp_in x2 20) (hM : ¬ s0 = (h.1 75 x2.toNatClampNeg) → Mk X d m_X12_join [.ref 68, .int x1, .int x2] h nx sz (RV P60)) (q : ¬ s0 = (h.1 75 x2.toNatClampNeg) → ∀ (g : AH), P60 g → V X m_X12_tie R (ZM X Q nx sz mc ms) (nx, sz, mc, ms) 63 [none, none, none] [] g) (hq : s0 = (h.1 75 x2.toNatClampNeg) → Q (some (.int 0)) h) : V X m_X12_tie R (ZM X Q nx sz mc ms) (nx, sz, mc, ms) 46 [some (.ref 68), some (.int x1), some (.int x2)] [.int s0] h := by
  refine v_aload_n dX12_tie_46 rfl ?_
  refine v_getR dX12_tie_47 fl_RX12_43 kd_68 (ltA hA0 rfl) rfl (hF 68 21 75 rfl) ?_
  refine v_iload_n dX12_tie_50 rfl ?_
  refine v_iald dX12_tie_51 kd_75 (ltA hA0 rfl) hi_51 ?_
  refine v_icmp_ne (tgt := 57) dX12_tie_52 (by decide) (fun c0 => ?_) (fun c0 => ?_)
  · refine v_aload_n dX12_tie_57 rfl ?_
    refine v_iload_n dX12_tie_58 rfl ?_
    refine v_iload_n dX12_tie_59 rfl ?_
    exact v_cVV (mt := m_X12_tie) mo_X12_join ml_RX12_259 mi_X12_join mv_X12_join rfl kd_68 cl_12 rfl (ltA hA0 rfl) hR hcs (Nat.le_of_ble_eq_true rfl) dX12_tie_60 rfl (hM c0) (fun g hp => (v_drop (lvLe_n (lvLe_n (lvLe_n lvLe_e))) ((q c0) g hp)))
  · refine v_iconst dX12_tie_55 ci_0 ?_
    exact v_zret (ty := .boolean) dX12_tie_56 rfl rfl (hq c0)
theorem c_X12_tie_63 {X : CX} {R : Room} {Q : Option Value → AH → Prop} {nx sz mc ms : Nat} {h : AH} (hq : Q (some (.int 1)) h) : V X m_X12_tie R (ZM X Q nx sz mc ms) (nx, sz, mc, ms) 63 [none, none, none] [] h := by
  refine v_iconst dX12_tie_63 ci_1 ?_
  exact v_zret (ty := .boolean) dX12_tie_64 rfl rfl hq
theorem e_X12_drop {X : CX} {d nx sz : Nat} {Q : Option Value → AH → Prop} {h : AH} {x1 x2 : Int32} (q : V X m_X12_drop (rm d 0 0) (ZM X Q nx sz 0 0) (nx, sz, 0, 0) 0 [some (.ref 68), some (.int x1), some (.int x2)] [] h) : Mk X d m_X12_drop [.ref 68, .int x1, .int x2] h nx sz Q := by
  refine Mok.ofV mo_X12_drop (Nat.le_of_ble_eq_true rfl) (L := [some (.ref 68), some (.int x1), some (.int x2)]) (lvLe_s (lvLe_s (lvLe_s lvLe_e))) (v_grow (n := 0) ?_)
  exact q
theorem c_X12_drop_0 {X : CX} {R : Room} {Z : ZX} {A : AX} {h : AH} {x1 x2 : Int32} {d : Nat} {P8 : Int32 → AH → Prop} (hA0 : 91 ≤ A.1) (hR : RO R (d + 1)) (hcs : A.2.2.1 ≤ R.cells ∧ A.2.2.2 ≤ R.slots) (hM : Mk X d m_X12_areTwo [.ref 68, .int x1, .int x2] (setI h 68 0 0) A.1 A.2.1 (RI P8)) (q : ∀ (y : Int32) (g : AH), P8 y g → V X m_X12_drop R Z A 11 [some (.ref 68), some (.int x1), some (.int x2)] [.int y] g) : V X m_X12_drop R Z A 0 [some (.ref 68), some (.int x1), some (.int x2)] [] h := by
  refine v_aload_n dX12_drop_0 rfl ?_
  refine v_iconst dX12_drop_1 ci_0 ?_
  refine v_putI rfl rfl rfl dX12_drop_2 fl_RX12_103 (Or.inl rfl) kd_68 (ltA hA0 rfl) ?_
  refine v_aload_n dX12_drop_5 rfl ?_
  refine v_iload_n dX12_drop_6 rfl ?_
  refine v_iload_n dX12_drop_7 rfl ?_
  exact v_cVI (mt := m_X12_drop) mo_X12_areTwo ml_RX12_256 mi_X12_areTwo mv_X12_areTwo rfl kd_68 cl_12 rfl (ltA hA0 rfl) hR hcs (Nat.le_of_ble_eq_true rfl) dX12_drop_8 rfl hM (fun y g hp => (q y g hp))
theorem c_X12_drop_11 {X : CX} {R : Room} {Q : Option Value → AH → Prop} {nx sz mc ms : Nat} {h : AH} {x1 x2 s0 : Int32} {d : Nat} {P21 : Int32 → AH → Prop} (hA0 : 91 ≤ nx) (hF : Fx h) (hR : RO R (d + 1)) (hcs : mc ≤ R.cells ∧ ms ≤ R.slots) (hq : s0 = 0 → Q (some (.int 0)) h) (hi_19 : ¬ s0 = 0 → vp_in x1 20) (hM : ¬ s0 = 0 → Mk X d m_X12_has [.int (h.1 73 x1.toNatClampNeg), .int x2] h nx sz (RI P21)) (q : ¬ s0 = 0 → ∀ (y : Int32) (g : AH), P21 y g → V X m_X12_drop R (ZM X Q nx sz mc ms) (nx, sz, mc, ms) 24 [some (.ref 68), some (.int x1), some (.int x2)] [.int y] g) : V X m_X12_drop R (ZM X Q nx sz mc ms) (nx, sz, mc, ms) 11 [some (.ref 68), some (.int x1), some (.int x2)] [.int s0] h := by
  refine v_if_eq (tgt := 27) dX12_drop_11 (by decide) (fun c0 => ?_) (fun c0 => ?_)
  · refine v_iconst dX12_drop_27 ci_0 ?_
    exact v_zret (ty := .boolean) dX12_drop_28 rfl rfl (hq c0)
  · refine v_aload_n dX12_drop_14 rfl ?_
    refine v_getR dX12_drop_15 fl_RX12_37 kd_68 (ltA hA0 rfl) rfl (hF 68 19 73 rfl) ?_
    refine v_iload_n dX12_drop_18 rfl ?_
    refine v_iald dX12_drop_19 kd_73 (ltA hA0 rfl) (hi_19 c0) ?_
    refine v_iload_n dX12_drop_20 rfl ?_
    exact v_cSI (mt := m_X12_drop) mo_X12_has ml_RX12_220 mz_X12_has rfl hR hcs (Nat.le_of_ble_eq_true rfl) dX12_drop_21 rfl (hM c0) (fun y g hp => ((q c0) y g hp))
theorem c_X12_drop_24 {X : CX} {R : Room} {Q : Option Value → AH → Prop} {nx sz mc ms : Nat} {h : AH} {x1 x2 s0 : Int32} {d : Nat} {P32 : AH → Prop} (hA0 : 91 ≤ nx) (hR : RO R (d + 1)) (hcs : mc ≤ R.cells ∧ ms ≤ R.slots) (hM : ¬ s0 = 0 → Mk X d m_X12_part_ [.ref 68, .int x1, .int x2] h nx sz (RV P32)) (q : ¬ s0 = 0 → ∀ (g : AH), P32 g → V X m_X12_drop R (ZM X Q nx sz mc ms) (nx, sz, mc, ms) 35 [none, none, none] [] g) (hq : s0 = 0 → Q (some (.int 0)) h) : V X m_X12_drop R (ZM X Q nx sz mc ms) (nx, sz, mc, ms) 24 [some (.ref 68), some (.int x1), some (.int x2)] [.int s0] h := by
  refine v_if_ne (tgt := 29) dX12_drop_24 (by decide) (fun c0 => ?_) (fun c0 => ?_)
  · refine v_aload_n dX12_drop_29 rfl ?_
    refine v_iload_n dX12_drop_30 rfl ?_
    refine v_iload_n dX12_drop_31 rfl ?_
    exact v_cVV (mt := m_X12_drop) mo_X12_part_ ml_RX12_263 mi_X12_part_ mv_X12_part_ rfl kd_68 cl_12 rfl (ltA hA0 rfl) hR hcs (Nat.le_of_ble_eq_true rfl) dX12_drop_32 rfl (hM c0) (fun g hp => (v_drop (lvLe_n (lvLe_n (lvLe_n lvLe_e))) ((q c0) g hp)))
  · refine v_iconst dX12_drop_27 ci_0 ?_
    exact v_zret (ty := .boolean) dX12_drop_28 rfl rfl (hq c0)
theorem c_X12_drop_35 {X : CX} {R : Room} {Q : Option Value → AH → Prop} {nx sz mc ms : Nat} {h : AH} (hq : Q (some (.int 1)) h) : V X m_X12_drop R (ZM X Q nx sz mc ms) (nx, sz, mc, ms) 35 [none, none, none] [] h := by
  refine v_iconst dX12_drop_35 ci_1 ?_
  exact v_zret (ty := .boolean) dX12_drop_36 rfl rfl hq
theorem e_X12_knows {X : CX} {d nx sz : Nat} {Q : Option Value → AH → Prop} {h : AH} {x1 : Int32} (q : V X m_X12_knows (rm d 0 0) (ZM X Q nx sz 0 0) (nx, sz, 0, 0) 0 [some (.ref 68), some (.int x1)] [] h) : Mk X d m_X12_knows [.ref 68, .int x1] h nx sz Q := by
  refine Mok.ofV mo_X12_knows (Nat.le_of_ble_eq_true rfl) (L := [some (.ref 68), some (.int x1)]) (lvLe_s (lvLe_s lvLe_e)) (v_grow (n := 0) ?_)
  exact q
theorem c_X12_knows_0 {X : CX} {R : Room} {Z : ZX} {A : AX} {h : AH} {x1 : Int32} {d : Nat} {P3 : Int32 → AH → Prop} (hA0 : 91 ≤ A.1) (hR : RO R (d + 1)) (hcs : A.2.2.1 ≤ R.cells ∧ A.2.2.2 ≤ R.slots) (hM : Mk X d m_X12_isOne [.ref 68, .int x1] h A.1 A.2.1 (RI P3)) (q : ∀ (y : Int32) (g : AH), P3 y g → V X m_X12_knows R Z A 6 [some (.ref 68), some (.int x1)] [.int y, .ref 68] g) : V X m_X12_knows R Z A 0 [some (.ref 68), some (.int x1)] [] h := by
  refine v_aload_n dX12_knows_0 rfl ?_
  refine v_aload_n dX12_knows_1 rfl ?_
  refine v_iload_n dX12_knows_2 rfl ?_
  exact v_cVI (mt := m_X12_knows) mo_X12_isOne ml_RX12_250 mi_X12_isOne mv_X12_isOne rfl kd_68 cl_12 rfl (ltA hA0 rfl) hR hcs (Nat.le_of_ble_eq_true rfl) dX12_knows_3 rfl hM (fun y g hp => (q y g hp))
theorem c_X12_knows_6 {X : CX} {R : Room} {Q : Option Value → AH → Prop} {nx sz mc ms : Nat} {h : AH} {x1 s1 : Int32} (hA0 : 91 ≤ nx) (hF : Fx h) (hq : s1 = 0 → Q (some (.int 0)) (setI h 68 0 1)) (hi_33 : ¬ s1 = 0 → vp_in x1 20) (hq_1 : ¬ s1 = 0 → Q (some (.int (h.1 73 x1.toNatClampNeg))) (setI h 68 0 0)) : V X m_X12_knows R (ZM X Q nx sz mc ms) (nx, sz, mc, ms) 6 [some (.ref 68), some (.int x1)] [.int s1, .ref 68] h := by
  refine v_if_eq (tgt := 13) dX12_knows_6 (by decide) (fun c0 => ?_) (fun c0 => ?_)
  · refine v_iconst dX12_knows_13 ci_1 ?_
    refine v_putI rfl rfl rfl dX12_knows_14 fl_RX12_103 (Or.inl rfl) kd_68 (ltA hA0 rfl) ?_
    refine v_aload_n dX12_knows_17 rfl ?_
    refine v_getI dX12_knows_18 fl_RX12_103 kd_68 (ltA hA0 rfl) rfl ?_
    refine v_if_le (tgt := 28) dX12_knows_21 (by decide) (fun z => absurd (show (1 : Int32) ≤ 0 from z) (by decide)) (fun _ => ?_)
    refine v_iconst dX12_knows_24 ci_0 ?_
    refine v_goto (tgt := 34) dX12_knows_25 (by decide) ?_
    exact v_iret dX12_knows_34 rfl (hq c0)
  · refine v_iconst dX12_knows_9 ci_0 ?_
    refine v_goto (tgt := 14) dX12_knows_10 (by decide) ?_
    refine v_putI rfl rfl rfl dX12_knows_14 fl_RX12_103 (Or.inl rfl) kd_68 (ltA hA0 rfl) ?_
    refine v_aload_n dX12_knows_17 rfl ?_
    refine v_getI dX12_knows_18 fl_RX12_103 kd_68 (ltA hA0 rfl) rfl ?_
    refine v_if_le (tgt := 28) dX12_knows_21 (by decide) (fun _ => ?_) (fun z => absurd (show ¬ (0 : Int32) ≤ 0 from z) (by decide))
    refine v_aload_n dX12_knows_28 rfl ?_
    refine v_getR dX12_knows_29 fl_RX12_37 kd_68 (ltA hA0 rfl) rfl (hF 68 19 73 rfl) ?_
    refine v_iload_n dX12_knows_32 rfl ?_
    refine v_iald dX12_knows_33 kd_73 (ltA hA0 rfl) (hi_33 c0) ?_
    exact v_iret dX12_knows_34 rfl (hq_1 c0)
theorem e_X12_around {X : CX} {d nx sz : Nat} {Q : Option Value → AH → Prop} {h : AH} {x1 x2 : Int32} (q : V X m_X12_around (rm d 0 0) (ZM X Q nx sz 0 0) (nx, sz, 0, 0) 0 [some (.ref 68), some (.int x1), some (.int x2), none, none] [] h) : Mk X d m_X12_around [.ref 68, .int x1, .int x2] h nx sz Q := by
  refine Mok.ofV mo_X12_around (Nat.le_of_ble_eq_true rfl) (L := [some (.ref 68), some (.int x1), some (.int x2)]) (lvLe_s (lvLe_s (lvLe_s lvLe_e))) (v_grow (n := 2) ?_)
  exact q
theorem c_X12_around_0 {X : CX} {R : Room} {Z : ZX} {A : AX} {h : AH} {x1 x2 : Int32} (q : V X m_X12_around R Z A 5 [some (.ref 68), some (.int x1), some (.int x2), some (.int 0), some (.int 0)] [] h) : V X m_X12_around R Z A 0 [some (.ref 68), some (.int x1), some (.int x2), none, none] [] h := by
  refine v_iconst dX12_around_0 ci_0 ?_
  refine v_istore_n dX12_around_1 (by decide) (L' := [some (.ref 68), some (.int x1), some (.int x2), some (.int 0), none]) rfl ?_
  refine v_iconst dX12_around_2 ci_0 ?_
  refine v_istore dX12_around_3 (by decide) (L' := [some (.ref 68), some (.int x1), some (.int x2), some (.int 0), some (.int 0)]) rfl ?_
  exact q
theorem c_X12_around_5 {X : CX} {R : Room} {Q : Option Value → AH → Prop} {nx sz mc ms : Nat} {h : AH} {x1 x2 x3 x4 : Int32} {d : Nat} {P18 : Int32 → AH → Prop} (hA0 : 91 ≤ nx) (hR : RO R (d + 1)) (hcs : mc ≤ R.cells ∧ ms ≤ R.slots) (hq : (h.1 68 1) ≤ x4 → Q (some (.int (x3 &&& (x2 ^^^ (-1))))) h) (hM : ¬ (h.1 68 1) ≤ x4 → Mk X d m_X12_has [.int x1, .int x4] h nx sz (RI P18)) (q : ¬ (h.1 68 1) ≤ x4 → ∀ (y : Int32) (g : AH), P18 y g → V X m_X12_around R (ZM X Q nx sz mc ms) (nx, sz, mc, ms) 21 [some (.ref 68), some (.int x1), some (.int x2), none, some (.int x4)] [.int y, .int x3] g) : V X m_X12_around R (ZM X Q nx sz mc ms) (nx, sz, mc, ms) 5 [some (.ref 68), some (.int x1), some (.int x2), some (.int x3), some (.int x4)] [] h := by
  refine v_iload dX12_around_5 rfl ?_
  refine v_aload_n dX12_around_7 rfl ?_
  refine v_getI dX12_around_8 fl_RX12_99 kd_68 (ltA hA0 rfl) rfl ?_
  refine v_icmp_ge (tgt := 43) dX12_around_11 (by decide) (fun c0 => ?_) (fun c0 => ?_)
  · refine v_iload_n dX12_around_43 rfl ?_
    refine v_iload_n dX12_around_44 rfl ?_
    refine v_iconst dX12_around_45 ci_m1 ?_
    refine v_ixor dX12_around_46 ?_
    refine v_iand dX12_around_47 ?_
    exact v_iret dX12_around_48 rfl (hq c0)
  · refine v_iload_n dX12_around_14 rfl ?_
    refine v_iload_n dX12_around_15 rfl ?_
    refine v_iload dX12_around_16 rfl ?_
    exact v_cSI (mt := m_X12_around) mo_X12_has ml_RX12_220 mz_X12_has rfl hR hcs (Nat.le_of_ble_eq_true rfl) dX12_around_18 rfl (hM c0) (fun y g hp => (v_drop (lvLe_s (lvLe_s (lvLe_s (lvLe_n (lvLe_s lvLe_e))))) ((q c0) y g hp)))
theorem c_X12_around_21 {X : CX} {R : Room} {Z : ZX} {A : AX} {h : AH} {x1 x2 x4 s0 s1 : Int32} (hA0 : 91 ≤ A.1) (hF : Fx h) (q : s1 = 0 → V X m_X12_around R Z A 5 [some (.ref 68), some (.int x1), some (.int x2), some (.int (s0 ||| 0)), some (.int (x4 + 1))] [] h) (hi_30 : ¬ s1 = 0 → vp_in x4 20) (q_1 : ¬ s1 = 0 → V X m_X12_around R Z A 5 [some (.ref 68), some (.int x1), some (.int x2), some (.int (s0 ||| (h.1 73 x4.toNatClampNeg))), some (.int (x4 + 1))] [] h) : V X m_X12_around R Z A 21 [some (.ref 68), some (.int x1), some (.int x2), none, some (.int x4)] [.int s1, .int s0] h := by
  refine v_if_eq (tgt := 34) dX12_around_21 (by decide) (fun c0 => ?_) (fun c0 => ?_)
  · refine v_iconst dX12_around_34 ci_0 ?_
    refine v_ior dX12_around_35 ?_
    refine v_istore_n dX12_around_36 (by decide) (L' := [some (.ref 68), some (.int x1), some (.int x2), some (.int (s0 ||| 0)), some (.int x4)]) rfl ?_
    refine v_iinc (y := (x4 + 1)) dX12_around_37 rfl rfl (by decide) (L' := [some (.ref 68), some (.int x1), some (.int x2), some (.int (s0 ||| 0)), some (.int (x4 + 1))]) rfl ?_
    refine v_goto (tgt := 5) dX12_around_40 (by decide) ?_
    exact (q c0)
  · refine v_aload_n dX12_around_24 rfl ?_
    refine v_getR dX12_around_25 fl_RX12_37 kd_68 (ltA hA0 rfl) rfl (hF 68 19 73 rfl) ?_
    refine v_iload dX12_around_28 rfl ?_
    refine v_iald dX12_around_30 kd_73 (ltA hA0 rfl) (hi_30 c0) ?_
    refine v_goto (tgt := 35) dX12_around_31 (by decide) ?_
    refine v_ior dX12_around_35 ?_
    refine v_istore_n dX12_around_36 (by decide) (L' := [some (.ref 68), some (.int x1), some (.int x2), some (.int (s0 ||| (h.1 73 x4.toNatClampNeg))), some (.int x4)]) rfl ?_
    refine v_iinc (y := (x4 + 1)) dX12_around_37 rfl rfl (by decide) (L' := [some (.ref 68), some (.int x1), some (.int x2), some (.int (s0 ||| (h.1 73 x4.toNatClampNeg))), some (.int (x4 + 1))]) rfl ?_
    refine v_goto (tgt := 5) dX12_around_40 (by decide) ?_
    exact (q_1 c0)
theorem e_X12_partOf {X : CX} {d nx sz : Nat} {Q : Option Value → AH → Prop} {h : AH} {x1 x2 : Int32} (q : V X m_X12_partOf (rm d 0 0) (ZM X Q nx sz 0 0) (nx, sz, 0, 0) 0 [some (.ref 68), some (.int x1), some (.int x2), none, none] [] h) : Mk X d m_X12_partOf [.ref 68, .int x1, .int x2] h nx sz Q := by
  refine Mok.ofV mo_X12_partOf (Nat.le_of_ble_eq_true rfl) (L := [some (.ref 68), some (.int x1), some (.int x2)]) (lvLe_s (lvLe_s (lvLe_s lvLe_e))) (v_grow (n := 2) ?_)
  exact q
theorem c_X12_partOf_0 {X : CX} {R : Room} {Z : ZX} {A : AX} {h : AH} {x1 x2 : Int32} {d : Nat} {P8 : Int32 → AH → Prop} (hA0 : 91 ≤ A.1) (hR : RO R (d + 1)) (hcs : A.2.2.1 ≤ R.cells ∧ A.2.2.2 ≤ R.slots) (hM : Mk X d m_X12_around [.ref 68, .int ((1 : Int32) <<< ((x1 : Int32) &&& 31)), .int x2] h A.1 A.2.1 (RI P8)) (q : ∀ (y : Int32) (g : AH), P8 y g → V X m_X12_partOf R Z A 11 [some (.ref 68), none, some (.int x2), some (.int ((1 : Int32) <<< ((x1 : Int32) &&& 31))), none] [.int y, .int ((1 : Int32) <<< ((x1 : Int32) &&& 31))] g) : V X m_X12_partOf R Z A 0 [some (.ref 68), some (.int x1), some (.int x2), none, none] [] h := by
  refine v_iconst dX12_partOf_0 ci_1 ?_
  refine v_iload_n dX12_partOf_1 rfl ?_
  refine v_ishl dX12_partOf_2 ?_
  refine v_istore_n dX12_partOf_3 (by decide) (L' := [some (.ref 68), some (.int x1), some (.int x2), some (.int ((1 : Int32) <<< ((x1 : Int32) &&& 31))), none]) rfl ?_
  refine v_iload_n dX12_partOf_4 rfl ?_
  refine v_aload_n dX12_partOf_5 rfl ?_
  refine v_iload_n dX12_partOf_6 rfl ?_
  refine v_iload_n dX12_partOf_7 rfl ?_
  exact v_cVI (mt := m_X12_partOf) mo_X12_around ml_RX12_265 mi_X12_around mv_X12_around rfl kd_68 cl_12 rfl (ltA hA0 rfl) hR hcs (Nat.le_of_ble_eq_true rfl) dX12_partOf_8 rfl hM (fun y g hp => (v_drop (lvLe_s (lvLe_n (lvLe_s (lvLe_s (lvLe_n lvLe_e))))) (q y g hp)))
theorem c_X12_partOf_11 {X : CX} {R : Room} {Z : ZX} {A : AX} {h : AH} {x2 x3 s0 s1 : Int32} (q : V X m_X12_partOf R Z A 14 [some (.ref 68), none, some (.int x2), some (.int x3), some (.int (s0 ||| s1))] [] h) : V X m_X12_partOf R Z A 11 [some (.ref 68), none, some (.int x2), some (.int x3), none] [.int s1, .int s0] h := by
  refine v_ior dX12_partOf_11 ?_
  refine v_istore dX12_partOf_12 (by decide) (L' := [some (.ref 68), none, some (.int x2), some (.int x3), some (.int (s0 ||| s1))]) rfl ?_
  exact q
theorem c_X12_partOf_14 {X : CX} {R : Room} {Q : Option Value → AH → Prop} {nx sz mc ms : Nat} {h : AH} {x2 x3 x4 : Int32} {d : Nat} {P27 : Int32 → AH → Prop} (hA0 : 91 ≤ nx) (hR : RO R (d + 1)) (hcs : mc ≤ R.cells ∧ ms ≤ R.slots) (hq : x4 = x3 → Q (some (.int x3)) h) (hM : ¬ x4 = x3 → Mk X d m_X12_around [.ref 68, .int x4, .int x2] h nx sz (RI P27)) (q : ¬ x4 = x3 → ∀ (y : Int32) (g : AH), P27 y g → V X m_X12_partOf R (ZM X Q nx sz mc ms) (nx, sz, mc, ms) 30 [some (.ref 68), none, some (.int x2), some (.int x4), none] [.int y, .int x4] g) : V X m_X12_partOf R (ZM X Q nx sz mc ms) (nx, sz, mc, ms) 14 [some (.ref 68), none, some (.int x2), some (.int x3), some (.int x4)] [] h := by
  refine v_iload dX12_partOf_14 rfl ?_
  refine v_iload_n dX12_partOf_16 rfl ?_
  refine v_icmp_eq (tgt := 36) dX12_partOf_17 (by decide) (fun c0 => ?_) (fun c0 => ?_)
  · refine v_iload_n dX12_partOf_36 rfl ?_
    exact v_iret dX12_partOf_37 rfl (hq c0)
  · refine v_iload dX12_partOf_20 rfl ?_
    refine v_istore_n dX12_partOf_22 (by decide) (L' := [some (.ref 68), none, some (.int x2), some (.int x4), some (.int x4)]) rfl ?_
    refine v_iload_n dX12_partOf_23 rfl ?_
    refine v_aload_n dX12_partOf_24 rfl ?_
    refine v_iload_n dX12_partOf_25 rfl ?_
    refine v_iload_n dX12_partOf_26 rfl ?_
    exact v_cVI (mt := m_X12_partOf) mo_X12_around ml_RX12_265 mi_X12_around mv_X12_around rfl kd_68 cl_12 rfl (ltA hA0 rfl) hR hcs (Nat.le_of_ble_eq_true rfl) dX12_partOf_27 rfl (hM c0) (fun y g hp => (v_drop (lvLe_s (lvLe_n (lvLe_s (lvLe_s (lvLe_n lvLe_e))))) ((q c0) y g hp)))
theorem c_X12_partOf_30 {X : CX} {R : Room} {Z : ZX} {A : AX} {h : AH} {x2 x3 s0 s1 : Int32} (q : V X m_X12_partOf R Z A 14 [some (.ref 68), none, some (.int x2), some (.int x3), some (.int (s0 ||| s1))] [] h) : V X m_X12_partOf R Z A 30 [some (.ref 68), none, some (.int x2), some (.int x3), none] [.int s1, .int s0] h := by
  refine v_ior dX12_partOf_30 ?_
  refine v_istore dX12_partOf_31 (by decide) (L' := [some (.ref 68), none, some (.int x2), some (.int x3), some (.int (s0 ||| s1))]) rfl ?_
  refine v_goto (tgt := 14) dX12_partOf_33 (by decide) ?_
  exact q
theorem e_X12_farOf {X : CX} {d nx sz : Nat} {Q : Option Value → AH → Prop} {h : AH} {x1 x2 : Int32} (q : V X m_X12_farOf (rm d 0 0) (ZM X Q nx sz 0 0) (nx, sz, 0, 0) 0 [some (.ref 68), some (.int x1), some (.int x2), none, none] [] h) : Mk X d m_X12_farOf [.ref 68, .int x1, .int x2] h nx sz Q := by
  refine Mok.ofV mo_X12_farOf (Nat.le_of_ble_eq_true rfl) (L := [some (.ref 68), some (.int x1), some (.int x2)]) (lvLe_s (lvLe_s (lvLe_s lvLe_e))) (v_grow (n := 2) ?_)
  exact q
theorem c_X12_farOf_0 {X : CX} {R : Room} {Z : ZX} {A : AX} {h : AH} {x1 x2 : Int32} (q : V X m_X12_farOf R Z A 7 [some (.ref 68), none, some (.int x2), some (.int ((1 : Int32) <<< ((x1 : Int32) &&& 31))), some (.int 0)] [] h) : V X m_X12_farOf R Z A 0 [some (.ref 68), some (.int x1), some (.int x2), none, none] [] h := by
  refine v_iconst dX12_farOf_0 ci_1 ?_
  refine v_iload_n dX12_farOf_1 rfl ?_
  refine v_ishl dX12_farOf_2 ?_
  refine v_istore_n dX12_farOf_3 (by decide) (L' := [some (.ref 68), some (.int x1), some (.int x2), some (.int ((1 : Int32) <<< ((x1 : Int32) &&& 31))), none]) rfl ?_
  refine v_iconst dX12_farOf_4 ci_0 ?_
  refine v_istore dX12_farOf_5 (by decide) (L' := [some (.ref 68), some (.int x1), some (.int x2), some (.int ((1 : Int32) <<< ((x1 : Int32) &&& 31))), some (.int 0)]) rfl ?_
  exact (v_drop (lvLe_s (lvLe_n (lvLe_s (lvLe_s (lvLe_s lvLe_e))))) q)
theorem c_X12_farOf_7 {X : CX} {R : Room} {Q : Option Value → AH → Prop} {nx sz mc ms : Nat} {h : AH} {x2 x3 x4 : Int32} {d : Nat} {P18 : Int32 → AH → Prop} (hA0 : 91 ≤ nx) (hR : RO R (d + 1)) (hcs : mc ≤ R.cells ∧ ms ≤ R.slots) (hq : (h.1 68 1) ≤ x4 → Q (some (.int (-1))) h) (hM : ¬ (h.1 68 1) ≤ x4 → Mk X d m_X12_has [.int x3, .int x2] h nx sz (RI P18)) (q : ¬ (h.1 68 1) ≤ x4 → ∀ (y : Int32) (g : AH), P18 y g → V X m_X12_farOf R (ZM X Q nx sz mc ms) (nx, sz, mc, ms) 21 [some (.ref 68), none, some (.int x2), some (.int x3), some (.int x4)] [.int y] g) : V X m_X12_farOf R (ZM X Q nx sz mc ms) (nx, sz, mc, ms) 7 [some (.ref 68), none, some (.int x2), some (.int x3), some (.int x4)] [] h := by
  refine v_iload dX12_farOf_7 rfl ?_
  refine v_aload_n dX12_farOf_9 rfl ?_
  refine v_getI dX12_farOf_10 fl_RX12_99 kd_68 (ltA hA0 rfl) rfl ?_
  refine v_icmp_ge (tgt := 42) dX12_farOf_13 (by decide) (fun c0 => ?_) (fun c0 => ?_)
  · refine v_iconst dX12_farOf_42 ci_m1 ?_
    exact v_iret dX12_farOf_43 rfl (hq c0)
  · refine v_iload_n dX12_farOf_16 rfl ?_
    refine v_iload_n dX12_farOf_17 rfl ?_
    exact v_cSI (mt := m_X12_farOf) mo_X12_has ml_RX12_220 mz_X12_has rfl hR hcs (Nat.le_of_ble_eq_true rfl) dX12_farOf_18 rfl (hM c0) (fun y g hp => ((q c0) y g hp))
theorem c_X12_farOf_21 {X : CX} {R : Room} {Q : Option Value → AH → Prop} {nx sz mc ms : Nat} {h : AH} {x2 x3 x4 s0 : Int32} {d : Nat} {P31 : Int32 → AH → Prop} (hA0 : 91 ≤ nx) (hR : RO R (d + 1)) (hcs : mc ≤ R.cells ∧ ms ≤ R.slots) (hM : s0 = 0 → Mk X d m_X12_around [.ref 68, .int x3, .int 0] h nx sz (RI P31)) (q : s0 = 0 → ∀ (y : Int32) (g : AH), P31 y g → V X m_X12_farOf R (ZM X Q nx sz mc ms) (nx, sz, mc, ms) 34 [some (.ref 68), none, some (.int x2), none, some (.int x4)] [.int y, .int x3] g) (hq : ¬ s0 = 0 → Q (some (.int x4)) h) : V X m_X12_farOf R (ZM X Q nx sz mc ms) (nx, sz, mc, ms) 21 [some (.ref 68), none, some (.int x2), some (.int x3), some (.int x4)] [.int s0] h := by
  refine v_if_eq (tgt := 27) dX12_farOf_21 (by decide) (fun c0 => ?_) (fun c0 => ?_)
  · refine v_iload_n dX12_farOf_27 rfl ?_
    refine v_aload_n dX12_farOf_28 rfl ?_
    refine v_iload_n dX12_farOf_29 rfl ?_
    refine v_iconst dX12_farOf_30 ci_0 ?_
    exact v_cVI (mt := m_X12_farOf) mo_X12_around ml_RX12_265 mi_X12_around mv_X12_around rfl kd_68 cl_12 rfl (ltA hA0 rfl) hR hcs (Nat.le_of_ble_eq_true rfl) dX12_farOf_31 rfl (hM c0) (fun y g hp => (v_drop (lvLe_s (lvLe_n (lvLe_s (lvLe_n (lvLe_s lvLe_e))))) ((q c0) y g hp)))
  · refine v_iload dX12_farOf_24 rfl ?_
    exact v_iret dX12_farOf_26 rfl (hq c0)
theorem c_X12_farOf_34 {X : CX} {R : Room} {Z : ZX} {A : AX} {h : AH} {x2 x4 s0 s1 : Int32} (q : V X m_X12_farOf R Z A 7 [some (.ref 68), none, some (.int x2), some (.int (s0 ||| s1)), some (.int (x4 + 1))] [] h) : V X m_X12_farOf R Z A 34 [some (.ref 68), none, some (.int x2), none, some (.int x4)] [.int s1, .int s0] h := by
  refine v_ior dX12_farOf_34 ?_
  refine v_istore_n dX12_farOf_35 (by decide) (L' := [some (.ref 68), none, some (.int x2), some (.int (s0 ||| s1)), some (.int x4)]) rfl ?_
  refine v_iinc (y := (x4 + 1)) dX12_farOf_36 rfl rfl (by decide) (L' := [some (.ref 68), none, some (.int x2), some (.int (s0 ||| s1)), some (.int (x4 + 1))]) rfl ?_
  refine v_goto (tgt := 7) dX12_farOf_39 (by decide) ?_
  exact q
theorem e_X12_far {X : CX} {d nx sz : Nat} {Q : Option Value → AH → Prop} {h : AH} {x1 x2 : Int32} (q : V X m_X12_far (rm d 0 0) (ZM X Q nx sz 0 0) (nx, sz, 0, 0) 0 [some (.ref 68), some (.int x1), some (.int x2)] [] h) : Mk X d m_X12_far [.ref 68, .int x1, .int x2] h nx sz Q := by
  refine Mok.ofV mo_X12_far (Nat.le_of_ble_eq_true rfl) (L := [some (.ref 68), some (.int x1), some (.int x2)]) (lvLe_s (lvLe_s (lvLe_s lvLe_e))) (v_grow (n := 0) ?_)
  exact q
theorem c_X12_far_0 {X : CX} {R : Room} {Z : ZX} {A : AX} {h : AH} {x1 x2 : Int32} {d : Nat} {P7 : Int32 → AH → Prop} (hA0 : 91 ≤ A.1) (hR : RO R (d + 1)) (hcs : A.2.2.1 ≤ R.cells ∧ A.2.2.2 ≤ R.slots) (hM : Mk X d m_X12_isOne [.ref 68, .int x1] (setI h 68 0 0) A.1 A.2.1 (RI P7)) (q : ∀ (y : Int32) (g : AH), P7 y g → V X m_X12_far R Z A 10 [some (.ref 68), some (.int x1), some (.int x2)] [.int y] g) : V X m_X12_far R Z A 0 [some (.ref 68), some (.int x1), some (.int x2)] [] h := by
  refine v_aload_n dX12_far_0 rfl ?_
  refine v_iconst dX12_far_1 ci_0 ?_
  refine v_putI rfl rfl rfl dX12_far_2 fl_RX12_103 (Or.inl rfl) kd_68 (ltA hA0 rfl) ?_
  refine v_aload_n dX12_far_5 rfl ?_
  refine v_iload_n dX12_far_6 rfl ?_
  exact v_cVI (mt := m_X12_far) mo_X12_isOne ml_RX12_250 mi_X12_isOne mv_X12_isOne rfl kd_68 cl_12 rfl (ltA hA0 rfl) hR hcs (Nat.le_of_ble_eq_true rfl) dX12_far_7 rfl hM (fun y g hp => (q y g hp))
theorem c_X12_far_10 {X : CX} {R : Room} {Q : Option Value → AH → Prop} {nx sz mc ms : Nat} {h : AH} {x1 x2 s0 : Int32} {d : Nat} {P15 : Int32 → AH → Prop} (hA0 : 91 ≤ nx) (hR : RO R (d + 1)) (hcs : mc ≤ R.cells ∧ ms ≤ R.slots) (hq : s0 = 0 → Q (some (.int (-1))) h) (hM : ¬ s0 = 0 → Mk X d m_X12_isOne [.ref 68, .int x2] h nx sz (RI P15)) (q : ¬ s0 = 0 → ∀ (y : Int32) (g : AH), P15 y g → V X m_X12_far R (ZM X Q nx sz mc ms) (nx, sz, mc, ms) 18 [some (.ref 68), some (.int x1), some (.int x2)] [.int y] g) : V X m_X12_far R (ZM X Q nx sz mc ms) (nx, sz, mc, ms) 10 [some (.ref 68), some (.int x1), some (.int x2)] [.int s0] h := by
  refine v_if_eq (tgt := 30) dX12_far_10 (by decide) (fun c0 => ?_) (fun c0 => ?_)
  · refine v_iconst dX12_far_30 ci_m1 ?_
    exact v_iret dX12_far_31 rfl (hq c0)
  · refine v_aload_n dX12_far_13 rfl ?_
    refine v_iload_n dX12_far_14 rfl ?_
    exact v_cVI (mt := m_X12_far) mo_X12_isOne ml_RX12_250 mi_X12_isOne mv_X12_isOne rfl kd_68 cl_12 rfl (ltA hA0 rfl) hR hcs (Nat.le_of_ble_eq_true rfl) dX12_far_15 rfl (hM c0) (fun y g hp => ((q c0) y g hp))
theorem c_X12_far_18 {X : CX} {R : Room} {Q : Option Value → AH → Prop} {nx sz mc ms : Nat} {h : AH} {x1 x2 s0 : Int32} {d : Nat} {P24 : Int32 → AH → Prop} (hA0 : 91 ≤ nx) (hR : RO R (d + 1)) (hcs : mc ≤ R.cells ∧ ms ≤ R.slots) (hq : s0 = 0 → Q (some (.int (-1))) h) (hM : ¬ s0 = 0 → Mk X d m_X12_farOf [.ref 68, .int x1, .int x2] h nx sz (RI P24)) (q : ¬ s0 = 0 → ∀ (y : Int32) (g : AH), P24 y g → V X m_X12_far R (ZM X Q nx sz mc ms) (nx, sz, mc, ms) 27 [none, none, none] [.int y] g) : V X m_X12_far R (ZM X Q nx sz mc ms) (nx, sz, mc, ms) 18 [some (.ref 68), some (.int x1), some (.int x2)] [.int s0] h := by
  refine v_if_eq (tgt := 30) dX12_far_18 (by decide) (fun c0 => ?_) (fun c0 => ?_)
  · refine v_iconst dX12_far_30 ci_m1 ?_
    exact v_iret dX12_far_31 rfl (hq c0)
  · refine v_aload_n dX12_far_21 rfl ?_
    refine v_iload_n dX12_far_22 rfl ?_
    refine v_iload_n dX12_far_23 rfl ?_
    exact v_cVI (mt := m_X12_far) mo_X12_farOf ml_RX12_268 mi_X12_farOf mv_X12_farOf rfl kd_68 cl_12 rfl (ltA hA0 rfl) hR hcs (Nat.le_of_ble_eq_true rfl) dX12_far_24 rfl (hM c0) (fun y g hp => (v_drop (lvLe_n (lvLe_n (lvLe_n lvLe_e))) ((q c0) y g hp)))
theorem c_X12_far_27 {X : CX} {R : Room} {Q : Option Value → AH → Prop} {nx sz mc ms : Nat} {h : AH} {s0 : Int32} (hq : Q (some (.int s0)) h) : V X m_X12_far R (ZM X Q nx sz mc ms) (nx, sz, mc, ms) 27 [none, none, none] [.int s0] h := by
  refine v_goto (tgt := 31) dX12_far_27 (by decide) ?_
  exact v_iret dX12_far_31 rfl hq
theorem e_X12_farNow {X : CX} {d nx sz : Nat} {Q : Option Value → AH → Prop} {h : AH} {x1 x2 : Int32} (q : V X m_X12_farNow (rm d 0 0) (ZM X Q nx sz 0 0) (nx, sz, 0, 0) 0 [some (.ref 68), some (.int x1), some (.int x2)] [] h) : Mk X d m_X12_farNow [.ref 68, .int x1, .int x2] h nx sz Q := by
  refine Mok.ofV mo_X12_farNow (Nat.le_of_ble_eq_true rfl) (L := [some (.ref 68), some (.int x1), some (.int x2)]) (lvLe_s (lvLe_s (lvLe_s lvLe_e))) (v_grow (n := 0) ?_)
  exact q
theorem c_X12_farNow_0 {X : CX} {R : Room} {Q : Option Value → AH → Prop} {nx sz mc ms : Nat} {h : AH} {x1 x2 : Int32} (hA0 : 91 ≤ nx) (hF : Fx h) (hi_10 : vp_in ((20 * x1) + x2) 400) (hq : Q (some (.int (h.1 78 ((20 * x1) + x2).toNatClampNeg))) h) : V X m_X12_farNow R (ZM X Q nx sz mc ms) (nx, sz, mc, ms) 0 [some (.ref 68), some (.int x1), some (.int x2)] [] h := by
  refine v_aload_n dX12_farNow_0 rfl ?_
  refine v_getR dX12_farNow_1 fl_RX12_53 kd_68 (ltA hA0 rfl) rfl (hF 68 24 78 rfl) ?_
  refine v_bipush dX12_farNow_4 cb_20 ?_
  refine v_iload_n dX12_farNow_6 rfl ?_
  refine v_imul dX12_farNow_7 ?_
  refine v_iload_n dX12_farNow_8 rfl ?_
  refine v_iadd dX12_farNow_9 ?_
  refine v_iald dX12_farNow_10 kd_78 (ltA hA0 rfl) hi_10 ?_
  exact v_iret dX12_farNow_11 rfl hq
theorem e_X12_rowsNow {X : CX} {d nx sz : Nat} {Q : Option Value → AH → Prop} {h : AH} {x1 x2 : Int32} (q : V X m_X12_rowsNow (rm d 0 0) (ZM X Q nx sz 0 0) (nx, sz, 0, 0) 0 [some (.ref 68), some (.int x1), some (.int x2)] [] h) : Mk X d m_X12_rowsNow [.ref 68, .int x1, .int x2] h nx sz Q := by
  refine Mok.ofV mo_X12_rowsNow (Nat.le_of_ble_eq_true rfl) (L := [some (.ref 68), some (.int x1), some (.int x2)]) (lvLe_s (lvLe_s (lvLe_s lvLe_e))) (v_grow (n := 0) ?_)
  exact q
theorem c_X12_rowsNow_0 {X : CX} {R : Room} {Q : Option Value → AH → Prop} {nx sz mc ms : Nat} {h : AH} {x1 x2 : Int32} (hA0 : 91 ≤ nx) (hF : Fx h) (hi_10 : vp_in ((20 * x1) + x2) 400) (hq : Q (some (.long (h.2.1 79 ((20 * x1) + x2).toNatClampNeg))) h) : V X m_X12_rowsNow R (ZM X Q nx sz mc ms) (nx, sz, mc, ms) 0 [some (.ref 68), some (.int x1), some (.int x2)] [] h := by
  refine v_aload_n dX12_rowsNow_0 rfl ?_
  refine v_getR dX12_rowsNow_1 fl_RX12_56 kd_68 (ltA hA0 rfl) rfl (hF 68 25 79 rfl) ?_
  refine v_bipush dX12_rowsNow_4 cb_20 ?_
  refine v_iload_n dX12_rowsNow_6 rfl ?_
  refine v_imul dX12_rowsNow_7 ?_
  refine v_iload_n dX12_rowsNow_8 rfl ?_
  refine v_iadd dX12_rowsNow_9 ?_
  refine v_lald dX12_rowsNow_10 kd_79 (ltA hA0 rfl) hi_10 ?_
  exact v_lret dX12_rowsNow_11 rfl hq
theorem e_X12_layFrom {X : CX} {d nx sz : Nat} {Q : Option Value → AH → Prop} {h : AH} {x1 : Int32} (q : V X m_X12_layFrom (rm d 0 0) (ZM X Q nx sz 0 0) (nx, sz, 0, 0) 0 [some (.ref 68), some (.int x1), none, none, none] [] h) : Mk X d m_X12_layFrom [.ref 68, .int x1] h nx sz Q := by
  refine Mok.ofV mo_X12_layFrom (Nat.le_of_ble_eq_true rfl) (L := [some (.ref 68), some (.int x1)]) (lvLe_s (lvLe_s lvLe_e)) (v_grow (n := 3) ?_)
  exact q
theorem c_X12_layFrom_0 {X : CX} {R : Room} {Z : ZX} {A : AX} {h : AH} {x1 : Int32} (q : V X m_X12_layFrom R Z A 2 [some (.ref 68), some (.int x1), some (.int 0), none, none] [] h) : V X m_X12_layFrom R Z A 0 [some (.ref 68), some (.int x1), none, none, none] [] h := by
  refine v_iconst dX12_layFrom_0 ci_0 ?_
  refine v_istore_n dX12_layFrom_1 (by decide) (L' := [some (.ref 68), some (.int x1), some (.int 0), none, none]) rfl ?_
  exact q
theorem c_X12_layFrom_2 {X : CX} {R : Room} {Z : ZX} {A : AX} {h : AH} {x1 x2 : Int32} {d : Nat} {P23 : Int32 → AH → Prop} (hA0 : 91 ≤ A.1) (hF : Fx h) (hR : RO R (d + 1)) (hcs : A.2.2.1 ≤ R.cells ∧ A.2.2.2 ≤ R.slots) (q : (h.1 68 1) ≤ x2 → V X m_X12_layFrom R Z A 56 [some (.ref 68), some (.int x1), some (.int 1), none, none] [] h) (hM : ¬ (h.1 68 1) ≤ x2 → Mk X d m_X12_farOf [.ref 68, .int x1, .int x2] h A.1 A.2.1 (RI P23)) (q_1 : ¬ (h.1 68 1) ≤ x2 → ∀ (y : Int32) (g : AH), P23 y g → V X m_X12_layFrom R Z A 26 [some (.ref 68), some (.int x1), some (.int x2), none, none] [.int y, .int ((20 * x1) + x2), .ref 78] g) : V X m_X12_layFrom R Z A 2 [some (.ref 68), some (.int x1), some (.int x2), none, none] [] h := by
  refine v_iload_n dX12_layFrom_2 rfl ?_
  refine v_aload_n dX12_layFrom_3 rfl ?_
  refine v_getI dX12_layFrom_4 fl_RX12_99 kd_68 (ltA hA0 rfl) rfl ?_
  refine v_icmp_ge (tgt := 54) dX12_layFrom_7 (by decide) (fun c0 => ?_) (fun c0 => ?_)
  · refine v_iconst dX12_layFrom_54 ci_1 ?_
    refine v_istore_n dX12_layFrom_55 (by decide) (L' := [some (.ref 68), some (.int x1), some (.int 1), none, none]) rfl ?_
    exact (q c0)
  · refine v_aload_n dX12_layFrom_10 rfl ?_
    refine v_getR dX12_layFrom_11 fl_RX12_53 kd_68 (ltA hA0 rfl) rfl (hF 68 24 78 rfl) ?_
    refine v_bipush dX12_layFrom_14 cb_20 ?_
    refine v_iload_n dX12_layFrom_16 rfl ?_
    refine v_imul dX12_layFrom_17 ?_
    refine v_iload_n dX12_layFrom_18 rfl ?_
    refine v_iadd dX12_layFrom_19 ?_
    refine v_aload_n dX12_layFrom_20 rfl ?_
    refine v_iload_n dX12_layFrom_21 rfl ?_
    refine v_iload_n dX12_layFrom_22 rfl ?_
    exact v_cVI (mt := m_X12_layFrom) mo_X12_farOf ml_RX12_268 mi_X12_farOf mv_X12_farOf rfl kd_68 cl_12 rfl (ltA hA0 rfl) hR hcs (Nat.le_of_ble_eq_true rfl) dX12_layFrom_23 rfl (hM c0) (fun y g hp => ((q_1 c0) y g hp))
theorem c_X12_layFrom_26 {X : CX} {R : Room} {Z : ZX} {A : AX} {h : AH} {x1 x2 s1 s2 : Int32} (hA0 : 91 ≤ A.1) (hF : Fx h) (hi_26 : vp_in s1 400) (hi_47 : ¬ x2 = x1 → vp_in ((20 * x1) + x2) 400) (q : ¬ x2 = x1 → V X m_X12_layFrom R Z A 2 [some (.ref 68), some (.int x1), some (.int (x2 + 1)), none, none] [] (setL (setI h 78 s1.toNatClampNeg s2) 79 ((20 * x1) + x2).toNatClampNeg 0)) (hi_47_1 : x2 = x1 → vp_in ((20 * x1) + x2) 400) (q_1 : x2 = x1 → V X m_X12_layFrom R Z A 2 [some (.ref 68), some (.int x1), some (.int (x2 + 1)), none, none] [] (setL (setI h 78 s1.toNatClampNeg s2) 79 ((20 * x1) + x2).toNatClampNeg 1)) : V X m_X12_layFrom R Z A 26 [some (.ref 68), some (.int x1), some (.int x2), none, none] [.int s2, .int s1, .ref 78] h := by
  refine v_iast dX12_layFrom_26 kd_78 (ltA hA0 rfl) hi_26 ?_
  refine v_aload_n dX12_layFrom_27 rfl ?_
  refine v_getR dX12_layFrom_28 fl_RX12_56 kd_68 (ltA hA0 rfl) rfl (hF 68 25 79 rfl) ?_
  refine v_bipush dX12_layFrom_31 cb_20 ?_
  refine v_iload_n dX12_layFrom_33 rfl ?_
  refine v_imul dX12_layFrom_34 ?_
  refine v_iload_n dX12_layFrom_35 rfl ?_
  refine v_iadd dX12_layFrom_36 ?_
  refine v_iload_n dX12_layFrom_37 rfl ?_
  refine v_iload_n dX12_layFrom_38 rfl ?_
  refine v_icmp_ne (tgt := 46) dX12_layFrom_39 (by decide) (fun c0 => ?_) (fun c0 => ?_)
  · refine v_lconst dX12_layFrom_46 cl_l0 ?_
    refine v_last dX12_layFrom_47 kd_79 (ltA hA0 rfl) (hi_47 c0) ?_
    refine v_iinc (y := (x2 + 1)) dX12_layFrom_48 rfl rfl (by decide) (L' := [some (.ref 68), some (.int x1), some (.int (x2 + 1)), none, none]) rfl ?_
    refine v_goto (tgt := 2) dX12_layFrom_51 (by decide) ?_
    exact (q c0)
  · refine v_lconst dX12_layFrom_42 cl_l1 ?_
    refine v_goto (tgt := 47) dX12_layFrom_43 (by decide) ?_
    refine v_last dX12_layFrom_47 kd_79 (ltA hA0 rfl) (hi_47_1 c0) ?_
    refine v_iinc (y := (x2 + 1)) dX12_layFrom_48 rfl rfl (by decide) (L' := [some (.ref 68), some (.int x1), some (.int (x2 + 1)), none, none]) rfl ?_
    refine v_goto (tgt := 2) dX12_layFrom_51 (by decide) ?_
    exact (q_1 c0)
theorem c_X12_layFrom_56 {X : CX} {R : Room} {Q : Option Value → AH → Prop} {nx sz mc ms : Nat} {h : AH} {x1 x2 : Int32} (hA0 : 91 ≤ nx) (hq : (h.1 68 1) ≤ x2 → Q none h) (q : ¬ (h.1 68 1) ≤ x2 → V X m_X12_layFrom R (ZM X Q nx sz mc ms) (nx, sz, mc, ms) 66 [some (.ref 68), some (.int x1), some (.int x2), some (.int 0), none] [] h) : V X m_X12_layFrom R (ZM X Q nx sz mc ms) (nx, sz, mc, ms) 56 [some (.ref 68), some (.int x1), some (.int x2), none, none] [] h := by
  refine v_iload_n dX12_layFrom_56 rfl ?_
  refine v_aload_n dX12_layFrom_57 rfl ?_
  refine v_getI dX12_layFrom_58 fl_RX12_99 kd_68 (ltA hA0 rfl) rfl ?_
  refine v_icmp_ge (tgt := 165) dX12_layFrom_61 (by decide) (fun c0 => ?_) (fun c0 => ?_)
  · exact v_vret dX12_layFrom_165 rfl (hq c0)
  · refine v_iconst dX12_layFrom_64 ci_0 ?_
    refine v_istore_n dX12_layFrom_65 (by decide) (L' := [some (.ref 68), some (.int x1), some (.int x2), some (.int 0), none]) rfl ?_
    exact (q c0)
theorem c_X12_layFrom_66 {X : CX} {R : Room} {Z : ZX} {A : AX} {h : AH} {x1 x2 x3 : Int32} {d : Nat} {P77 : Int32 → AH → Prop} (hA0 : 91 ≤ A.1) (hR : RO R (d + 1)) (hcs : A.2.2.1 ≤ R.cells ∧ A.2.2.2 ≤ R.slots) (q : (h.1 68 1) ≤ x3 → V X m_X12_layFrom R Z A 56 [some (.ref 68), some (.int x1), some (.int (x2 + 1)), none, none] [] h) (hM : ¬ (h.1 68 1) ≤ x3 → Mk X d m_X12_farNow [.ref 68, .int x1, .int x3] h A.1 A.2.1 (RI P77)) (q_1 : ¬ (h.1 68 1) ≤ x3 → ∀ (y : Int32) (g : AH), P77 y g → V X m_X12_layFrom R Z A 80 [some (.ref 68), some (.int x1), some (.int x2), some (.int x3), none] [.int y] g) : V X m_X12_layFrom R Z A 66 [some (.ref 68), some (.int x1), some (.int x2), some (.int x3), none] [] h := by
  refine v_iload_n dX12_layFrom_66 rfl ?_
  refine v_aload_n dX12_layFrom_67 rfl ?_
  refine v_getI dX12_layFrom_68 fl_RX12_99 kd_68 (ltA hA0 rfl) rfl ?_
  refine v_icmp_ge (tgt := 159) dX12_layFrom_71 (by decide) (fun c0 => ?_) (fun c0 => ?_)
  · refine v_iinc (y := (x2 + 1)) dX12_layFrom_159 rfl rfl (by decide) (L' := [some (.ref 68), some (.int x1), some (.int (x2 + 1)), some (.int x3), none]) rfl ?_
    refine v_goto (tgt := 56) dX12_layFrom_162 (by decide) ?_
    exact (v_drop (lvLe_s (lvLe_s (lvLe_s (lvLe_n (lvLe_n lvLe_e))))) (q c0))
  · refine v_aload_n dX12_layFrom_74 rfl ?_
    refine v_iload_n dX12_layFrom_75 rfl ?_
    refine v_iload_n dX12_layFrom_76 rfl ?_
    exact v_cVI (mt := m_X12_layFrom) mo_X12_farNow ml_RX12_271 mi_X12_farNow mv_X12_farNow rfl kd_68 cl_12 rfl (ltA hA0 rfl) hR hcs (Nat.le_of_ble_eq_true rfl) dX12_layFrom_77 rfl (hM c0) (fun y g hp => ((q_1 c0) y g hp))
theorem c_X12_layFrom_80 {X : CX} {R : Room} {Z : ZX} {A : AX} {h : AH} {x1 x2 x3 s0 : Int32} (q : s0 = x2 → V X m_X12_layFrom R Z A 90 [some (.ref 68), some (.int x1), some (.int x2), some (.int x3), some (.int 0)] [] h) (q_1 : ¬ s0 = x2 → V X m_X12_layFrom R Z A 66 [some (.ref 68), some (.int x1), some (.int x2), some (.int (x3 + 1)), none] [] h) : V X m_X12_layFrom R Z A 80 [some (.ref 68), some (.int x1), some (.int x2), some (.int x3), none] [.int s0] h := by
  refine v_iload_n dX12_layFrom_80 rfl ?_
  refine v_icmp_eq (tgt := 87) dX12_layFrom_81 (by decide) (fun c0 => ?_) (fun c0 => ?_)
  · refine v_iconst dX12_layFrom_87 ci_0 ?_
    refine v_istore dX12_layFrom_88 (by decide) (L' := [some (.ref 68), some (.int x1), some (.int x2), some (.int x3), some (.int 0)]) rfl ?_
    exact (q c0)
  · refine v_goto (tgt := 153) dX12_layFrom_84 (by decide) ?_
    refine v_iinc (y := (x3 + 1)) dX12_layFrom_153 rfl rfl (by decide) (L' := [some (.ref 68), some (.int x1), some (.int x2), some (.int (x3 + 1)), none]) rfl ?_
    refine v_goto (tgt := 66) dX12_layFrom_156 (by decide) ?_
    exact (q_1 c0)
theorem c_X12_layFrom_90 {X : CX} {R : Room} {Z : ZX} {A : AX} {h : AH} {x1 x2 x3 x4 : Int32} {d : Nat} {P107 : Int32 → AH → Prop} (hA0 : 91 ≤ A.1) (hF : Fx h) (hR : RO R (d + 1)) (hcs : A.2.2.1 ≤ R.cells ∧ A.2.2.2 ≤ R.slots) (q : (h.1 68 1) ≤ x4 → V X m_X12_layFrom R Z A 66 [some (.ref 68), some (.int x1), some (.int x2), some (.int (x3 + 1)), none] [] h) (hi_104 : ¬ (h.1 68 1) ≤ x4 → vp_in x3 20) (hM : ¬ (h.1 68 1) ≤ x4 → Mk X d m_X12_has [.int (h.1 73 x3.toNatClampNeg), .int x4] h A.1 A.2.1 (RI P107)) (q_1 : ¬ (h.1 68 1) ≤ x4 → ∀ (y : Int32) (g : AH), P107 y g → V X m_X12_layFrom R Z A 110 [some (.ref 68), some (.int x1), some (.int x2), some (.int x3), some (.int x4)] [.int y] g) : V X m_X12_layFrom R Z A 90 [some (.ref 68), some (.int x1), some (.int x2), some (.int x3), some (.int x4)] [] h := by
  refine v_iload dX12_layFrom_90 rfl ?_
  refine v_aload_n dX12_layFrom_92 rfl ?_
  refine v_getI dX12_layFrom_93 fl_RX12_99 kd_68 (ltA hA0 rfl) rfl ?_
  refine v_icmp_ge (tgt := 153) dX12_layFrom_96 (by decide) (fun c0 => ?_) (fun c0 => ?_)
  · refine v_iinc (y := (x3 + 1)) dX12_layFrom_153 rfl rfl (by decide) (L' := [some (.ref 68), some (.int x1), some (.int x2), some (.int (x3 + 1)), some (.int x4)]) rfl ?_
    refine v_goto (tgt := 66) dX12_layFrom_156 (by decide) ?_
    exact (v_drop (lvLe_s (lvLe_s (lvLe_s (lvLe_s (lvLe_n lvLe_e))))) (q c0))
  · refine v_aload_n dX12_layFrom_99 rfl ?_
    refine v_getR dX12_layFrom_100 fl_RX12_37 kd_68 (ltA hA0 rfl) rfl (hF 68 19 73 rfl) ?_
    refine v_iload_n dX12_layFrom_103 rfl ?_
    refine v_iald dX12_layFrom_104 kd_73 (ltA hA0 rfl) (hi_104 c0) ?_
    refine v_iload dX12_layFrom_105 rfl ?_
    exact v_cSI (mt := m_X12_layFrom) mo_X12_has ml_RX12_220 mz_X12_has rfl hR hcs (Nat.le_of_ble_eq_true rfl) dX12_layFrom_107 rfl (hM c0) (fun y g hp => ((q_1 c0) y g hp))
theorem c_X12_layFrom_110 {X : CX} {R : Room} {Z : ZX} {A : AX} {h : AH} {x1 x2 x3 x4 s0 : Int32} {d : Nat} {P117 : Int32 → AH → Prop} (hA0 : 91 ≤ A.1) (hR : RO R (d + 1)) (hcs : A.2.2.1 ≤ R.cells ∧ A.2.2.2 ≤ R.slots) (q : s0 = 0 → V X m_X12_layFrom R Z A 90 [some (.ref 68), some (.int x1), some (.int x2), some (.int x3), some (.int (x4 + 1))] [] h) (hM : ¬ s0 = 0 → Mk X d m_X12_farNow [.ref 68, .int x1, .int x4] h A.1 A.2.1 (RI P117)) (q_1 : ¬ s0 = 0 → ∀ (y : Int32) (g : AH), P117 y g → V X m_X12_layFrom R Z A 120 [some (.ref 68), some (.int x1), some (.int x2), some (.int x3), some (.int x4)] [.int y] g) : V X m_X12_layFrom R Z A 110 [some (.ref 68), some (.int x1), some (.int x2), some (.int x3), some (.int x4)] [.int s0] h := by
  refine v_if_eq (tgt := 147) dX12_layFrom_110 (by decide) (fun c0 => ?_) (fun c0 => ?_)
  · refine v_iinc (y := (x4 + 1)) dX12_layFrom_147 rfl rfl (by decide) (L' := [some (.ref 68), some (.int x1), some (.int x2), some (.int x3), some (.int (x4 + 1))]) rfl ?_
    refine v_goto (tgt := 90) dX12_layFrom_150 (by decide) ?_
    exact (q c0)
  · refine v_aload_n dX12_layFrom_113 rfl ?_
    refine v_iload_n dX12_layFrom_114 rfl ?_
    refine v_iload dX12_layFrom_115 rfl ?_
    exact v_cVI (mt := m_X12_layFrom) mo_X12_farNow ml_RX12_271 mi_X12_farNow mv_X12_farNow rfl kd_68 cl_12 rfl (ltA hA0 rfl) hR hcs (Nat.le_of_ble_eq_true rfl) dX12_layFrom_117 rfl (hM c0) (fun y g hp => ((q_1 c0) y g hp))
theorem c_X12_layFrom_120 {X : CX} {R : Room} {Z : ZX} {A : AX} {h : AH} {x1 x2 x3 x4 s0 : Int32} {d : Nat} {P142 : Int64 → AH → Prop} (hA0 : 91 ≤ A.1) (hF : Fx h) (hR : RO R (d + 1)) (hcs : A.2.2.1 ≤ R.cells ∧ A.2.2.2 ≤ R.slots) (q : ¬ s0 = (x2 - 1) → V X m_X12_layFrom R Z A 90 [some (.ref 68), some (.int x1), some (.int x2), some (.int x3), some (.int (x4 + 1))] [] h) (hi_137 : s0 = (x2 - 1) → vp_in ((20 * x1) + x3) 400) (hM : s0 = (x2 - 1) → Mk X d m_X12_rowsNow [.ref 68, .int x1, .int x4] h A.1 A.2.1 (RJ P142)) (q_1 : s0 = (x2 - 1) → ∀ (y : Int64) (g : AH), P142 y g → V X m_X12_layFrom R Z A 145 [some (.ref 68), some (.int x1), some (.int x2), some (.int x3), some (.int x4)] [.long y, .long (h.2.1 79 ((20 * x1) + x3).toNatClampNeg), .int ((20 * x1) + x3), .ref 79] g) : V X m_X12_layFrom R Z A 120 [some (.ref 68), some (.int x1), some (.int x2), some (.int x3), some (.int x4)] [.int s0] h := by
  refine v_iload_n dX12_layFrom_120 rfl ?_
  refine v_iconst dX12_layFrom_121 ci_1 ?_
  refine v_isub dX12_layFrom_122 ?_
  refine v_icmp_ne (tgt := 147) dX12_layFrom_123 (by decide) (fun c0 => ?_) (fun c0 => ?_)
  · refine v_iinc (y := (x4 + 1)) dX12_layFrom_147 rfl rfl (by decide) (L' := [some (.ref 68), some (.int x1), some (.int x2), some (.int x3), some (.int (x4 + 1))]) rfl ?_
    refine v_goto (tgt := 90) dX12_layFrom_150 (by decide) ?_
    exact (q c0)
  · refine v_aload_n dX12_layFrom_126 rfl ?_
    refine v_getR dX12_layFrom_127 fl_RX12_56 kd_68 (ltA hA0 rfl) rfl (hF 68 25 79 rfl) ?_
    refine v_bipush dX12_layFrom_130 cb_20 ?_
    refine v_iload_n dX12_layFrom_132 rfl ?_
    refine v_imul dX12_layFrom_133 ?_
    refine v_iload_n dX12_layFrom_134 rfl ?_
    refine v_iadd dX12_layFrom_135 ?_
    refine v_dup2 dX12_layFrom_136 rfl rfl ?_
    refine v_lald dX12_layFrom_137 kd_79 (ltA hA0 rfl) (hi_137 c0) ?_
    refine v_aload_n dX12_layFrom_138 rfl ?_
    refine v_iload_n dX12_layFrom_139 rfl ?_
    refine v_iload dX12_layFrom_140 rfl ?_
    exact v_cVL (mt := m_X12_layFrom) mo_X12_rowsNow ml_RX12_274 mi_X12_rowsNow mv_X12_rowsNow rfl kd_68 cl_12 rfl (ltA hA0 rfl) hR hcs (Nat.le_of_ble_eq_true rfl) dX12_layFrom_142 rfl (hM c0) (fun y g hp => ((q_1 c0) y g hp))
theorem c_X12_layFrom_145 {X : CX} {R : Room} {Z : ZX} {A : AX} {h : AH} {x1 x2 x3 x4 s1 : Int32} {t2 t3 : Int64} (hA0 : 91 ≤ A.1) (hi_146 : vp_in s1 400) (q : V X m_X12_layFrom R Z A 90 [some (.ref 68), some (.int x1), some (.int x2), some (.int x3), some (.int (x4 + 1))] [] (setL h 79 s1.toNatClampNeg (t2 + t3))) : V X m_X12_layFrom R Z A 145 [some (.ref 68), some (.int x1), some (.int x2), some (.int x3), some (.int x4)] [.long t3, .long t2, .int s1, .ref 79] h := by
  refine v_ladd dX12_layFrom_145 ?_
  refine v_last dX12_layFrom_146 kd_79 (ltA hA0 rfl) hi_146 ?_
  refine v_iinc (y := (x4 + 1)) dX12_layFrom_147 rfl rfl (by decide) (L' := [some (.ref 68), some (.int x1), some (.int x2), some (.int x3), some (.int (x4 + 1))]) rfl ?_
  refine v_goto (tgt := 90) dX12_layFrom_150 (by decide) ?_
  exact q
theorem e_X12_layAll {X : CX} {d nx sz : Nat} {Q : Option Value → AH → Prop} {h : AH} (q : V X m_X12_layAll (rm d 0 0) (ZM X Q nx sz 0 0) (nx, sz, 0, 0) 0 [some (.ref 68), none] [] h) : Mk X d m_X12_layAll [.ref 68] h nx sz Q := by
  refine Mok.ofV mo_X12_layAll (Nat.le_of_ble_eq_true rfl) (L := [some (.ref 68)]) (lvLe_s lvLe_e) (v_grow (n := 1) ?_)
  exact q
theorem c_X12_layAll_0 {X : CX} {R : Room} {Z : ZX} {A : AX} {h : AH} (q : V X m_X12_layAll R Z A 2 [some (.ref 68), some (.int 0)] [] h) : V X m_X12_layAll R Z A 0 [some (.ref 68), none] [] h := by
  refine v_iconst dX12_layAll_0 ci_0 ?_
  refine v_istore_n dX12_layAll_1 (by decide) (L' := [some (.ref 68), some (.int 0)]) rfl ?_
  exact q
theorem c_X12_layAll_2 {X : CX} {R : Room} {Q : Option Value → AH → Prop} {nx sz mc ms : Nat} {h : AH} {x1 : Int32} {d : Nat} {P12 : AH → Prop} (hA0 : 91 ≤ nx) (hR : RO R (d + 1)) (hcs : mc ≤ R.cells ∧ ms ≤ R.slots) (hq : (h.1 68 1) ≤ x1 → Q none h) (hM : ¬ (h.1 68 1) ≤ x1 → Mk X d m_X12_layFrom [.ref 68, .int x1] h nx sz (RV P12)) (q : ¬ (h.1 68 1) ≤ x1 → ∀ (g : AH), P12 g → V X m_X12_layAll R (ZM X Q nx sz mc ms) (nx, sz, mc, ms) 15 [some (.ref 68), some (.int x1)] [] g) : V X m_X12_layAll R (ZM X Q nx sz mc ms) (nx, sz, mc, ms) 2 [some (.ref 68), some (.int x1)] [] h := by
  refine v_iload_n dX12_layAll_2 rfl ?_
  refine v_aload_n dX12_layAll_3 rfl ?_
  refine v_getI dX12_layAll_4 fl_RX12_99 kd_68 (ltA hA0 rfl) rfl ?_
  refine v_icmp_ge (tgt := 21) dX12_layAll_7 (by decide) (fun c0 => ?_) (fun c0 => ?_)
  · exact v_vret dX12_layAll_21 rfl (hq c0)
  · refine v_aload_n dX12_layAll_10 rfl ?_
    refine v_iload_n dX12_layAll_11 rfl ?_
    exact v_cVV (mt := m_X12_layAll) mo_X12_layFrom ml_RX12_278 mi_X12_layFrom mv_X12_layFrom rfl kd_68 cl_12 rfl (ltA hA0 rfl) hR hcs (Nat.le_of_ble_eq_true rfl) dX12_layAll_12 rfl (hM c0) (fun g hp => ((q c0) g hp))
theorem c_X12_layAll_15 {X : CX} {R : Room} {Z : ZX} {A : AX} {h : AH} {x1 : Int32} (q : V X m_X12_layAll R Z A 2 [some (.ref 68), some (.int (x1 + 1))] [] h) : V X m_X12_layAll R Z A 15 [some (.ref 68), some (.int x1)] [] h := by
  refine v_iinc (y := (x1 + 1)) dX12_layAll_15 rfl rfl (by decide) (L' := [some (.ref 68), some (.int (x1 + 1))]) rfl ?_
  refine v_goto (tgt := 2) dX12_layAll_18 (by decide) ?_
  exact q
theorem e_X12_ways {X : CX} {d nx sz : Nat} {Q : Option Value → AH → Prop} {h : AH} {x1 x2 : Int32} (q : V X m_X12_ways (rm d 0 0) (ZM X Q nx sz 0 0) (nx, sz, 0, 0) 0 [some (.ref 68), some (.int x1), some (.int x2)] [] h) : Mk X d m_X12_ways [.ref 68, .int x1, .int x2] h nx sz Q := by
  refine Mok.ofV mo_X12_ways (Nat.le_of_ble_eq_true rfl) (L := [some (.ref 68), some (.int x1), some (.int x2)]) (lvLe_s (lvLe_s (lvLe_s lvLe_e))) (v_grow (n := 0) ?_)
  exact q
theorem c_X12_ways_0 {X : CX} {R : Room} {Z : ZX} {A : AX} {h : AH} {x1 x2 : Int32} {d : Nat} {P7 : Int32 → AH → Prop} (hA0 : 91 ≤ A.1) (hR : RO R (d + 1)) (hcs : A.2.2.1 ≤ R.cells ∧ A.2.2.2 ≤ R.slots) (hM : Mk X d m_X12_isOne [.ref 68, .int x1] (setI h 68 0 0) A.1 A.2.1 (RI P7)) (q : ∀ (y : Int32) (g : AH), P7 y g → V X m_X12_ways R Z A 10 [some (.ref 68), some (.int x1), some (.int x2)] [.int y] g) : V X m_X12_ways R Z A 0 [some (.ref 68), some (.int x1), some (.int x2)] [] h := by
  refine v_aload_n dX12_ways_0 rfl ?_
  refine v_iconst dX12_ways_1 ci_0 ?_
  refine v_putI rfl rfl rfl dX12_ways_2 fl_RX12_103 (Or.inl rfl) kd_68 (ltA hA0 rfl) ?_
  refine v_aload_n dX12_ways_5 rfl ?_
  refine v_iload_n dX12_ways_6 rfl ?_
  exact v_cVI (mt := m_X12_ways) mo_X12_isOne ml_RX12_250 mi_X12_isOne mv_X12_isOne rfl kd_68 cl_12 rfl (ltA hA0 rfl) hR hcs (Nat.le_of_ble_eq_true rfl) dX12_ways_7 rfl hM (fun y g hp => (q y g hp))
theorem c_X12_ways_10 {X : CX} {R : Room} {Q : Option Value → AH → Prop} {nx sz mc ms : Nat} {h : AH} {x1 x2 s0 : Int32} {d : Nat} {P15 : Int32 → AH → Prop} (hA0 : 91 ≤ nx) (hR : RO R (d + 1)) (hcs : mc ≤ R.cells ∧ ms ≤ R.slots) (hq : s0 = 0 → Q (some (.long (-1))) h) (hM : ¬ s0 = 0 → Mk X d m_X12_isOne [.ref 68, .int x2] h nx sz (RI P15)) (q : ¬ s0 = 0 → ∀ (y : Int32) (g : AH), P15 y g → V X m_X12_ways R (ZM X Q nx sz mc ms) (nx, sz, mc, ms) 18 [some (.ref 68), some (.int x1), some (.int x2)] [.int y] g) : V X m_X12_ways R (ZM X Q nx sz mc ms) (nx, sz, mc, ms) 10 [some (.ref 68), some (.int x1), some (.int x2)] [.int s0] h := by
  refine v_if_eq (tgt := 21) dX12_ways_10 (by decide) (fun c0 => ?_) (fun c0 => ?_)
  · refine v_ldc2 dX12_ways_21 kl_RX12_281 ?_
    exact v_lret dX12_ways_24 rfl (hq c0)
  · refine v_aload_n dX12_ways_13 rfl ?_
    refine v_iload_n dX12_ways_14 rfl ?_
    exact v_cVI (mt := m_X12_ways) mo_X12_isOne ml_RX12_250 mi_X12_isOne mv_X12_isOne rfl kd_68 cl_12 rfl (ltA hA0 rfl) hR hcs (Nat.le_of_ble_eq_true rfl) dX12_ways_15 rfl (hM c0) (fun y g hp => ((q c0) y g hp))
theorem c_X12_ways_18 {X : CX} {R : Room} {Q : Option Value → AH → Prop} {nx sz mc ms : Nat} {h : AH} {x1 x2 s0 : Int32} {d : Nat} {P27 : AH → Prop} (hA0 : 91 ≤ nx) (hR : RO R (d + 1)) (hcs : mc ≤ R.cells ∧ ms ≤ R.slots) (hM : ¬ s0 = 0 → Mk X d m_X12_layFrom [.ref 68, .int x1] h nx sz (RV P27)) (q : ¬ s0 = 0 → ∀ (g : AH), P27 g → V X m_X12_ways R (ZM X Q nx sz mc ms) (nx, sz, mc, ms) 30 [some (.ref 68), some (.int x1), some (.int x2)] [] g) (hq : s0 = 0 → Q (some (.long (-1))) h) : V X m_X12_ways R (ZM X Q nx sz mc ms) (nx, sz, mc, ms) 18 [some (.ref 68), some (.int x1), some (.int x2)] [.int s0] h := by
  refine v_if_ne (tgt := 25) dX12_ways_18 (by decide) (fun c0 => ?_) (fun c0 => ?_)
  · refine v_aload_n dX12_ways_25 rfl ?_
    refine v_iload_n dX12_ways_26 rfl ?_
    exact v_cVV (mt := m_X12_ways) mo_X12_layFrom ml_RX12_278 mi_X12_layFrom mv_X12_layFrom rfl kd_68 cl_12 rfl (ltA hA0 rfl) hR hcs (Nat.le_of_ble_eq_true rfl) dX12_ways_27 rfl (hM c0) (fun g hp => ((q c0) g hp))
  · refine v_ldc2 dX12_ways_21 kl_RX12_281 ?_
    exact v_lret dX12_ways_24 rfl (hq c0)
theorem c_X12_ways_30 {X : CX} {R : Room} {Z : ZX} {A : AX} {h : AH} {x1 x2 : Int32} {d : Nat} {P33 : Int32 → AH → Prop} (hA0 : 91 ≤ A.1) (hR : RO R (d + 1)) (hcs : A.2.2.1 ≤ R.cells ∧ A.2.2.2 ≤ R.slots) (hM : Mk X d m_X12_farNow [.ref 68, .int x1, .int x2] h A.1 A.2.1 (RI P33)) (q : ∀ (y : Int32) (g : AH), P33 y g → V X m_X12_ways R Z A 36 [some (.ref 68), some (.int x1), some (.int x2)] [.int y] g) : V X m_X12_ways R Z A 30 [some (.ref 68), some (.int x1), some (.int x2)] [] h := by
  refine v_aload_n dX12_ways_30 rfl ?_
  refine v_iload_n dX12_ways_31 rfl ?_
  refine v_iload_n dX12_ways_32 rfl ?_
  exact v_cVI (mt := m_X12_ways) mo_X12_farNow ml_RX12_271 mi_X12_farNow mv_X12_farNow rfl kd_68 cl_12 rfl (ltA hA0 rfl) hR hcs (Nat.le_of_ble_eq_true rfl) dX12_ways_33 rfl hM (fun y g hp => (q y g hp))
theorem c_X12_ways_36 {X : CX} {R : Room} {Z : ZX} {A : AX} {h : AH} {x1 x2 s0 : Int32} {d : Nat} {P49 : Int64 → AH → Prop} (hA0 : 91 ≤ A.1) (hR : RO R (d + 1)) (hcs : A.2.2.1 ≤ R.cells ∧ A.2.2.2 ≤ R.slots) (hM : ¬ s0 = (-1) → Mk X d m_X12_rowsNow [.ref 68, .int x1, .int x2] h A.1 A.2.1 (RJ P49)) (q : ¬ s0 = (-1) → ∀ (y : Int64) (g : AH), P49 y g → V X m_X12_ways R Z A 52 [none, none, none] [.long y] g) (q_1 : s0 = (-1) → V X m_X12_ways R Z A 52 [none, none, none] [.long (-1)] h) : V X m_X12_ways R Z A 36 [some (.ref 68), some (.int x1), some (.int x2)] [.int s0] h := by
  refine v_iconst dX12_ways_36 ci_m1 ?_
  refine v_icmp_ne (tgt := 46) dX12_ways_37 (by decide) (fun c0 => ?_) (fun c0 => ?_)
  · refine v_aload_n dX12_ways_46 rfl ?_
    refine v_iload_n dX12_ways_47 rfl ?_
    refine v_iload_n dX12_ways_48 rfl ?_
    exact v_cVL (mt := m_X12_ways) mo_X12_rowsNow ml_RX12_274 mi_X12_rowsNow mv_X12_rowsNow rfl kd_68 cl_12 rfl (ltA hA0 rfl) hR hcs (Nat.le_of_ble_eq_true rfl) dX12_ways_49 rfl (hM c0) (fun y g hp => (v_drop (lvLe_n (lvLe_n (lvLe_n lvLe_e))) ((q c0) y g hp)))
  · refine v_ldc2 dX12_ways_40 kl_RX12_281 ?_
    refine v_goto (tgt := 52) dX12_ways_43 (by decide) ?_
    exact (v_drop (lvLe_n (lvLe_n (lvLe_n lvLe_e))) (q_1 c0))
theorem c_X12_ways_52 {X : CX} {R : Room} {Q : Option Value → AH → Prop} {nx sz mc ms : Nat} {h : AH} {t0 : Int64} (hq : Q (some (.long t0)) h) : V X m_X12_ways R (ZM X Q nx sz mc ms) (nx, sz, mc, ms) 52 [none, none, none] [.long t0] h := by
  exact v_lret dX12_ways_52 rfl hq
theorem e_X12_over {X : CX} {d nx sz : Nat} {Q : Option Value → AH → Prop} {h : AH} {x1 x2 x3 : Int32} (q : V X m_X12_over (rm d 0 0) (ZM X Q nx sz 0 0) (nx, sz, 0, 0) 0 [some (.ref 68), some (.int x1), some (.int x2), some (.int x3), none, none] [] h) : Mk X d m_X12_over [.ref 68, .int x1, .int x2, .int x3] h nx sz Q := by
  refine Mok.ofV mo_X12_over (Nat.le_of_ble_eq_true rfl) (L := [some (.ref 68), some (.int x1), some (.int x2), some (.int x3)]) (lvLe_s (lvLe_s (lvLe_s (lvLe_s lvLe_e)))) (v_grow (n := 2) ?_)
  exact q
theorem c_X12_over_0 {X : CX} {R : Room} {Z : ZX} {A : AX} {h : AH} {x1 x2 x3 : Int32} {d : Nat} {P7 : Int32 → AH → Prop} (hA0 : 91 ≤ A.1) (hR : RO R (d + 1)) (hcs : A.2.2.1 ≤ R.cells ∧ A.2.2.2 ≤ R.slots) (hM : Mk X d m_X12_isOne [.ref 68, .int x1] (setI h 68 0 0) A.1 A.2.1 (RI P7)) (q : ∀ (y : Int32) (g : AH), P7 y g → V X m_X12_over R Z A 10 [some (.ref 68), some (.int x1), some (.int x2), some (.int x3), none, none] [.int y] g) : V X m_X12_over R Z A 0 [some (.ref 68), some (.int x1), some (.int x2), some (.int x3), none, none] [] h := by
  refine v_aload_n dX12_over_0 rfl ?_
  refine v_iconst dX12_over_1 ci_0 ?_
  refine v_putI rfl rfl rfl dX12_over_2 fl_RX12_103 (Or.inl rfl) kd_68 (ltA hA0 rfl) ?_
  refine v_aload_n dX12_over_5 rfl ?_
  refine v_iload_n dX12_over_6 rfl ?_
  exact v_cVI (mt := m_X12_over) mo_X12_isOne ml_RX12_250 mi_X12_isOne mv_X12_isOne rfl kd_68 cl_12 rfl (ltA hA0 rfl) hR hcs (Nat.le_of_ble_eq_true rfl) dX12_over_7 rfl hM (fun y g hp => (q y g hp))
theorem c_X12_over_10 {X : CX} {R : Room} {Q : Option Value → AH → Prop} {nx sz mc ms : Nat} {h : AH} {x1 x2 x3 s0 : Int32} {d : Nat} {P15 : Int32 → AH → Prop} (hA0 : 91 ≤ nx) (hR : RO R (d + 1)) (hcs : mc ≤ R.cells ∧ ms ≤ R.slots) (hq : s0 = 0 → Q (some (.int (-1))) h) (hM : ¬ s0 = 0 → Mk X d m_X12_isOne [.ref 68, .int x2] h nx sz (RI P15)) (q : ¬ s0 = 0 → ∀ (y : Int32) (g : AH), P15 y g → V X m_X12_over R (ZM X Q nx sz mc ms) (nx, sz, mc, ms) 18 [some (.ref 68), some (.int x1), some (.int x2), some (.int x3), none, none] [.int y] g) : V X m_X12_over R (ZM X Q nx sz mc ms) (nx, sz, mc, ms) 10 [some (.ref 68), some (.int x1), some (.int x2), some (.int x3), none, none] [.int s0] h := by
  refine v_if_eq (tgt := 40) dX12_over_10 (by decide) (fun c0 => ?_) (fun c0 => ?_)
  · refine v_iconst dX12_over_40 ci_m1 ?_
    exact v_iret dX12_over_41 rfl (hq c0)
  · refine v_aload_n dX12_over_13 rfl ?_
    refine v_iload_n dX12_over_14 rfl ?_
    exact v_cVI (mt := m_X12_over) mo_X12_isOne ml_RX12_250 mi_X12_isOne mv_X12_isOne rfl kd_68 cl_12 rfl (ltA hA0 rfl) hR hcs (Nat.le_of_ble_eq_true rfl) dX12_over_15 rfl (hM c0) (fun y g hp => ((q c0) y g hp))
theorem c_X12_over_18 {X : CX} {R : Room} {Q : Option Value → AH → Prop} {nx sz mc ms : Nat} {h : AH} {x1 x2 x3 s0 : Int32} {d : Nat} {P24 : Int32 → AH → Prop} (hR : RO R (d + 1)) (hcs : mc ≤ R.cells ∧ ms ≤ R.slots) (hq : s0 = 0 → Q (some (.int (-1))) h) (hM : ¬ s0 = 0 → Mk X d m_X12_isIn [.int x3, .int 0, .int 1] h nx sz (RI P24)) (q : ¬ s0 = 0 → ∀ (y : Int32) (g : AH), P24 y g → V X m_X12_over R (ZM X Q nx sz mc ms) (nx, sz, mc, ms) 27 [some (.ref 68), some (.int x1), some (.int x2), some (.int x3), none, none] [.int y] g) : V X m_X12_over R (ZM X Q nx sz mc ms) (nx, sz, mc, ms) 18 [some (.ref 68), some (.int x1), some (.int x2), some (.int x3), none, none] [.int s0] h := by
  refine v_if_eq (tgt := 40) dX12_over_18 (by decide) (fun c0 => ?_) (fun c0 => ?_)
  · refine v_iconst dX12_over_40 ci_m1 ?_
    exact v_iret dX12_over_41 rfl (hq c0)
  · refine v_iload_n dX12_over_21 rfl ?_
    refine v_iconst dX12_over_22 ci_0 ?_
    refine v_iconst dX12_over_23 ci_1 ?_
    exact v_cSI (mt := m_X12_over) mo_X12_isIn ml_RX12_232 mz_X12_isIn rfl hR hcs (Nat.le_of_ble_eq_true rfl) dX12_over_24 rfl (hM c0) (fun y g hp => ((q c0) y g hp))
theorem c_X12_over_27 {X : CX} {R : Room} {Q : Option Value → AH → Prop} {nx sz mc ms : Nat} {h : AH} {x1 x2 x3 s0 : Int32} {d : Nat} {P33 : Int32 → AH → Prop} (hA0 : 91 ≤ nx) (hR : RO R (d + 1)) (hcs : mc ≤ R.cells ∧ ms ≤ R.slots) (hq : s0 = 0 → Q (some (.int (-1))) h) (hM : ¬ s0 = 0 → Mk X d m_X12_farOf [.ref 68, .int x1, .int x2] h nx sz (RI P33)) (q : ¬ s0 = 0 → ∀ (y : Int32) (g : AH), P33 y g → V X m_X12_over R (ZM X Q nx sz mc ms) (nx, sz, mc, ms) 36 [some (.ref 68), some (.int x1), some (.int x2), some (.int x3), none, none] [.int y] g) : V X m_X12_over R (ZM X Q nx sz mc ms) (nx, sz, mc, ms) 27 [some (.ref 68), some (.int x1), some (.int x2), some (.int x3), none, none] [.int s0] h := by
  refine v_if_eq (tgt := 40) dX12_over_27 (by decide) (fun c0 => ?_) (fun c0 => ?_)
  · refine v_iconst dX12_over_40 ci_m1 ?_
    exact v_iret dX12_over_41 rfl (hq c0)
  · refine v_aload_n dX12_over_30 rfl ?_
    refine v_iload_n dX12_over_31 rfl ?_
    refine v_iload_n dX12_over_32 rfl ?_
    exact v_cVI (mt := m_X12_over) mo_X12_farOf ml_RX12_268 mi_X12_farOf mv_X12_farOf rfl kd_68 cl_12 rfl (ltA hA0 rfl) hR hcs (Nat.le_of_ble_eq_true rfl) dX12_over_33 rfl (hM c0) (fun y g hp => ((q c0) y g hp))
theorem c_X12_over_36 {X : CX} {R : Room} {Q : Option Value → AH → Prop} {nx sz mc ms : Nat} {h : AH} {x1 x2 x3 s0 : Int32} {d : Nat} {P44 : AH → Prop} (hA0 : 91 ≤ nx) (hR : RO R (d + 1)) (hcs : mc ≤ R.cells ∧ ms ≤ R.slots) (hM : ¬ s0 = (-1) → Mk X d m_X12_layFrom [.ref 68, .int x1] h nx sz (RV P44)) (q : ¬ s0 = (-1) → ∀ (g : AH), P44 g → V X m_X12_over R (ZM X Q nx sz mc ms) (nx, sz, mc, ms) 47 [some (.ref 68), some (.int x1), some (.int x2), some (.int x3), none, none] [] g) (hq : s0 = (-1) → Q (some (.int (-1))) h) : V X m_X12_over R (ZM X Q nx sz mc ms) (nx, sz, mc, ms) 36 [some (.ref 68), some (.int x1), some (.int x2), some (.int x3), none, none] [.int s0] h := by
  refine v_iconst dX12_over_36 ci_m1 ?_
  refine v_icmp_ne (tgt := 42) dX12_over_37 (by decide) (fun c0 => ?_) (fun c0 => ?_)
  · refine v_aload_n dX12_over_42 rfl ?_
    refine v_iload_n dX12_over_43 rfl ?_
    exact v_cVV (mt := m_X12_over) mo_X12_layFrom ml_RX12_278 mi_X12_layFrom mv_X12_layFrom rfl kd_68 cl_12 rfl (ltA hA0 rfl) hR hcs (Nat.le_of_ble_eq_true rfl) dX12_over_44 rfl (hM c0) (fun g hp => ((q c0) g hp))
  · refine v_iconst dX12_over_40 ci_m1 ?_
    exact v_iret dX12_over_41 rfl (hq c0)
theorem c_X12_over_47 {X : CX} {R : Room} {Z : ZX} {A : AX} {h : AH} {x1 x2 x3 : Int32} {d : Nat} {P49 : AH → Prop} (hA0 : 91 ≤ A.1) (hR : RO R (d + 1)) (hcs : A.2.2.1 ≤ R.cells ∧ A.2.2.2 ≤ R.slots) (hM : Mk X d m_X12_layFrom [.ref 68, .int x2] h A.1 A.2.1 (RV P49)) (q : ∀ (g : AH), P49 g → V X m_X12_over R Z A 52 [some (.ref 68), some (.int x1), some (.int x2), some (.int x3), none, none] [] g) : V X m_X12_over R Z A 47 [some (.ref 68), some (.int x1), some (.int x2), some (.int x3), none, none] [] h := by
  refine v_aload_n dX12_over_47 rfl ?_
  refine v_iload_n dX12_over_48 rfl ?_
  exact v_cVV (mt := m_X12_over) mo_X12_layFrom ml_RX12_278 mi_X12_layFrom mv_X12_layFrom rfl kd_68 cl_12 rfl (ltA hA0 rfl) hR hcs (Nat.le_of_ble_eq_true rfl) dX12_over_49 rfl hM (fun g hp => (q g hp))
theorem c_X12_over_52 {X : CX} {R : Room} {Z : ZX} {A : AX} {h : AH} {x1 x2 x3 : Int32} (q : V X m_X12_over R Z A 58 [some (.ref 68), some (.int x1), some (.int x2), some (.int x3), some (.int 0), some (.int 0)] [] h) : V X m_X12_over R Z A 52 [some (.ref 68), some (.int x1), some (.int x2), some (.int x3), none, none] [] h := by
  refine v_iconst dX12_over_52 ci_0 ?_
  refine v_istore dX12_over_53 (by decide) (L' := [some (.ref 68), some (.int x1), some (.int x2), some (.int x3), some (.int 0), none]) rfl ?_
  refine v_iconst dX12_over_55 ci_0 ?_
  refine v_istore dX12_over_56 (by decide) (L' := [some (.ref 68), some (.int x1), some (.int x2), some (.int x3), some (.int 0), some (.int 0)]) rfl ?_
  exact q
theorem c_X12_over_58 {X : CX} {R : Room} {Q : Option Value → AH → Prop} {nx sz mc ms : Nat} {h : AH} {x1 x2 x3 x4 x5 : Int32} {d : Nat} {P83 : Int32 → AH → Prop} (hA0 : 91 ≤ nx) (hR : RO R (d + 1)) (hcs : mc ≤ R.cells ∧ ms ≤ R.slots) (hq : (h.1 68 1) ≤ x5 → Q (some (.int x4)) h) (q : ¬ (h.1 68 1) ≤ x5 → x5 = x1 → V X m_X12_over R (ZM X Q nx sz mc ms) (nx, sz, mc, ms) 58 [some (.ref 68), some (.int x1), some (.int x2), some (.int x3), some (.int x4), some (.int (x5 + 1))] [] h) (q_1 : ¬ (h.1 68 1) ≤ x5 → ¬ x5 = x1 → x5 = x2 → V X m_X12_over R (ZM X Q nx sz mc ms) (nx, sz, mc, ms) 58 [some (.ref 68), some (.int x1), some (.int x2), some (.int x3), some (.int x4), some (.int (x5 + 1))] [] h) (hM : ¬ (h.1 68 1) ≤ x5 → ¬ x5 = x1 → ¬ x5 = x2 → Mk X d m_X12_farNow [.ref 68, .int x1, .int x5] h nx sz (RI P83)) (q_2 : ¬ (h.1 68 1) ≤ x5 → ¬ x5 = x1 → ¬ x5 = x2 → ∀ (y : Int32) (g : AH), P83 y g → V X m_X12_over R (ZM X Q nx sz mc ms) (nx, sz, mc, ms) 86 [some (.ref 68), some (.int x1), some (.int x2), some (.int x3), some (.int x4), some (.int x5)] [.int y] g) : V X m_X12_over R (ZM X Q nx sz mc ms) (nx, sz, mc, ms) 58 [some (.ref 68), some (.int x1), some (.int x2), some (.int x3), some (.int x4), some (.int x5)] [] h := by
  refine v_iload dX12_over_58 rfl ?_
  refine v_aload_n dX12_over_60 rfl ?_
  refine v_getI dX12_over_61 fl_RX12_99 kd_68 (ltA hA0 rfl) rfl ?_
  refine v_icmp_ge (tgt := 162) dX12_over_64 (by decide) (fun c0 => ?_) (fun c0 => ?_)
  · refine v_iload dX12_over_162 rfl ?_
    exact v_iret dX12_over_164 rfl (hq c0)
  · refine v_iload dX12_over_67 rfl ?_
    refine v_iload_n dX12_over_69 rfl ?_
    refine v_icmp_eq (tgt := 156) dX12_over_70 (by decide) (fun c1 => ?_) (fun c1 => ?_)
    · refine v_iinc (y := (x5 + 1)) dX12_over_156 rfl rfl (by decide) (L' := [some (.ref 68), some (.int x1), some (.int x2), some (.int x3), some (.int x4), some (.int (x5 + 1))]) rfl ?_
      refine v_goto (tgt := 58) dX12_over_159 (by decide) ?_
      exact (q c0 c1)
    · refine v_iload dX12_over_73 rfl ?_
      refine v_iload_n dX12_over_75 rfl ?_
      refine v_icmp_eq (tgt := 156) dX12_over_76 (by decide) (fun c2 => ?_) (fun c2 => ?_)
      · refine v_iinc (y := (x5 + 1)) dX12_over_156 rfl rfl (by decide) (L' := [some (.ref 68), some (.int x1), some (.int x2), some (.int x3), some (.int x4), some (.int (x5 + 1))]) rfl ?_
        refine v_goto (tgt := 58) dX12_over_159 (by decide) ?_
        exact (q_1 c0 c1 c2)
      · refine v_aload_n dX12_over_79 rfl ?_
        refine v_iload_n dX12_over_80 rfl ?_
        refine v_iload dX12_over_81 rfl ?_
        exact v_cVI (mt := m_X12_over) mo_X12_farNow ml_RX12_271 mi_X12_farNow mv_X12_farNow rfl kd_68 cl_12 rfl (ltA hA0 rfl) hR hcs (Nat.le_of_ble_eq_true rfl) dX12_over_83 rfl (hM c0 c1 c2) (fun y g hp => ((q_2 c0 c1 c2) y g hp))
theorem c_X12_over_86 {X : CX} {R : Room} {Z : ZX} {A : AX} {h : AH} {x1 x2 x3 x4 x5 s0 : Int32} {d : Nat} {P94 : Int32 → AH → Prop} (hA0 : 91 ≤ A.1) (hR : RO R (d + 1)) (hcs : A.2.2.1 ≤ R.cells ∧ A.2.2.2 ≤ R.slots) (q : s0 = (-1) → V X m_X12_over R Z A 58 [some (.ref 68), some (.int x1), some (.int x2), some (.int x3), some (.int x4), some (.int (x5 + 1))] [] h) (hM : ¬ s0 = (-1) → Mk X d m_X12_farNow [.ref 68, .int x1, .int x5] h A.1 A.2.1 (RI P94)) (q_1 : ¬ s0 = (-1) → ∀ (y : Int32) (g : AH), P94 y g → V X m_X12_over R Z A 97 [some (.ref 68), some (.int x1), some (.int x2), some (.int x3), some (.int x4), some (.int x5)] [.int y] g) : V X m_X12_over R Z A 86 [some (.ref 68), some (.int x1), some (.int x2), some (.int x3), some (.int x4), some (.int x5)] [.int s0] h := by
  refine v_iconst dX12_over_86 ci_m1 ?_
  refine v_icmp_eq (tgt := 156) dX12_over_87 (by decide) (fun c0 => ?_) (fun c0 => ?_)
  · refine v_iinc (y := (x5 + 1)) dX12_over_156 rfl rfl (by decide) (L' := [some (.ref 68), some (.int x1), some (.int x2), some (.int x3), some (.int x4), some (.int (x5 + 1))]) rfl ?_
    refine v_goto (tgt := 58) dX12_over_159 (by decide) ?_
    exact (q c0)
  · refine v_aload_n dX12_over_90 rfl ?_
    refine v_iload_n dX12_over_91 rfl ?_
    refine v_iload dX12_over_92 rfl ?_
    exact v_cVI (mt := m_X12_over) mo_X12_farNow ml_RX12_271 mi_X12_farNow mv_X12_farNow rfl kd_68 cl_12 rfl (ltA hA0 rfl) hR hcs (Nat.le_of_ble_eq_true rfl) dX12_over_94 rfl (hM c0) (fun y g hp => ((q_1 c0) y g hp))
theorem c_X12_over_97 {X : CX} {R : Room} {Z : ZX} {A : AX} {h : AH} {x1 x2 x3 x4 x5 s0 : Int32} {d : Nat} {P101 : Int32 → AH → Prop} (hA0 : 91 ≤ A.1) (hR : RO R (d + 1)) (hcs : A.2.2.1 ≤ R.cells ∧ A.2.2.2 ≤ R.slots) (hM : Mk X d m_X12_farNow [.ref 68, .int x2, .int x5] h A.1 A.2.1 (RI P101)) (q : ∀ (y : Int32) (g : AH), P101 y g → V X m_X12_over R Z A 104 [some (.ref 68), some (.int x1), some (.int x2), some (.int x3), some (.int x4), some (.int x5)] [.int y, .int s0] g) : V X m_X12_over R Z A 97 [some (.ref 68), some (.int x1), some (.int x2), some (.int x3), some (.int x4), some (.int x5)] [.int s0] h := by
  refine v_aload_n dX12_over_97 rfl ?_
  refine v_iload_n dX12_over_98 rfl ?_
  refine v_iload dX12_over_99 rfl ?_
  exact v_cVI (mt := m_X12_over) mo_X12_farNow ml_RX12_271 mi_X12_farNow mv_X12_farNow rfl kd_68 cl_12 rfl (ltA hA0 rfl) hR hcs (Nat.le_of_ble_eq_true rfl) dX12_over_101 rfl hM (fun y g hp => (q y g hp))
theorem c_X12_over_104 {X : CX} {R : Room} {Z : ZX} {A : AX} {h : AH} {x1 x2 x3 x4 x5 s0 s1 : Int32} {d : Nat} {P108 : Int32 → AH → Prop} (hA0 : 91 ≤ A.1) (hR : RO R (d + 1)) (hcs : A.2.2.1 ≤ R.cells ∧ A.2.2.2 ≤ R.slots) (hM : Mk X d m_X12_farNow [.ref 68, .int x1, .int x2] h A.1 A.2.1 (RI P108)) (q : ∀ (y : Int32) (g : AH), P108 y g → V X m_X12_over R Z A 111 [some (.ref 68), some (.int x1), some (.int x2), some (.int x3), some (.int x4), some (.int x5)] [.int y, .int (s0 + s1)] g) : V X m_X12_over R Z A 104 [some (.ref 68), some (.int x1), some (.int x2), some (.int x3), some (.int x4), some (.int x5)] [.int s1, .int s0] h := by
  refine v_iadd dX12_over_104 ?_
  refine v_aload_n dX12_over_105 rfl ?_
  refine v_iload_n dX12_over_106 rfl ?_
  refine v_iload_n dX12_over_107 rfl ?_
  exact v_cVI (mt := m_X12_over) mo_X12_farNow ml_RX12_271 mi_X12_farNow mv_X12_farNow rfl kd_68 cl_12 rfl (ltA hA0 rfl) hR hcs (Nat.le_of_ble_eq_true rfl) dX12_over_108 rfl hM (fun y g hp => (q y g hp))
theorem c_X12_over_111 {X : CX} {R : Room} {Z : ZX} {A : AX} {h : AH} {x1 x2 x3 x4 x5 s0 s1 : Int32} {d : Nat} {P126 : Int64 → AH → Prop} (hA0 : 91 ≤ A.1) (hR : RO R (d + 1)) (hcs : A.2.2.1 ≤ R.cells ∧ A.2.2.2 ≤ R.slots) (q : s0 = s1 → x3 = 1 → V X m_X12_over R Z A 58 [some (.ref 68), some (.int x1), some (.int x2), some (.int x3), some (.int (x4 ||| ((1 : Int32) <<< ((x5 : Int32) &&& 31)))), some (.int (x5 + 1))] [] h) (hM : s0 = s1 → ¬ x3 = 1 → Mk X d m_X12_rowsNow [.ref 68, .int x1, .int x5] h A.1 A.2.1 (RJ P126)) (q_1 : s0 = s1 → ¬ x3 = 1 → ∀ (y : Int64) (g : AH), P126 y g → V X m_X12_over R Z A 129 [some (.ref 68), some (.int x1), some (.int x2), some (.int x3), some (.int x4), some (.int x5)] [.long y] g) (q_2 : ¬ s0 = s1 → V X m_X12_over R Z A 58 [some (.ref 68), some (.int x1), some (.int x2), some (.int x3), some (.int x4), some (.int (x5 + 1))] [] h) : V X m_X12_over R Z A 111 [some (.ref 68), some (.int x1), some (.int x2), some (.int x3), some (.int x4), some (.int x5)] [.int s1, .int s0] h := by
  refine v_icmp_eq (tgt := 117) dX12_over_111 (by decide) (fun c0 => ?_) (fun c0 => ?_)
  · refine v_iload_n dX12_over_117 rfl ?_
    refine v_iconst dX12_over_118 ci_1 ?_
    refine v_icmp_eq (tgt := 147) dX12_over_119 (by decide) (fun c1 => ?_) (fun c1 => ?_)
    · refine v_iload dX12_over_147 rfl ?_
      refine v_iconst dX12_over_149 ci_1 ?_
      refine v_iload dX12_over_150 rfl ?_
      refine v_ishl dX12_over_152 ?_
      refine v_ior dX12_over_153 ?_
      refine v_istore dX12_over_154 (by decide) (L' := [some (.ref 68), some (.int x1), some (.int x2), some (.int x3), some (.int (x4 ||| ((1 : Int32) <<< ((x5 : Int32) &&& 31)))), some (.int x5)]) rfl ?_
      refine v_iinc (y := (x5 + 1)) dX12_over_156 rfl rfl (by decide) (L' := [some (.ref 68), some (.int x1), some (.int x2), some (.int x3), some (.int (x4 ||| ((1 : Int32) <<< ((x5 : Int32) &&& 31)))), some (.int (x5 + 1))]) rfl ?_
      refine v_goto (tgt := 58) dX12_over_159 (by decide) ?_
      exact (q c0 c1)
    · refine v_aload_n dX12_over_122 rfl ?_
      refine v_iload_n dX12_over_123 rfl ?_
      refine v_iload dX12_over_124 rfl ?_
      exact v_cVL (mt := m_X12_over) mo_X12_rowsNow ml_RX12_274 mi_X12_rowsNow mv_X12_rowsNow rfl kd_68 cl_12 rfl (ltA hA0 rfl) hR hcs (Nat.le_of_ble_eq_true rfl) dX12_over_126 rfl (hM c0 c1) (fun y g hp => ((q_1 c0 c1) y g hp))
  · refine v_goto (tgt := 156) dX12_over_114 (by decide) ?_
    refine v_iinc (y := (x5 + 1)) dX12_over_156 rfl rfl (by decide) (L' := [some (.ref 68), some (.int x1), some (.int x2), some (.int x3), some (.int x4), some (.int (x5 + 1))]) rfl ?_
    refine v_goto (tgt := 58) dX12_over_159 (by decide) ?_
    exact (q_2 c0)
theorem c_X12_over_129 {X : CX} {R : Room} {Z : ZX} {A : AX} {h : AH} {x1 x2 x3 x4 x5 : Int32} {t0 : Int64} {d : Nat} {P133 : Int64 → AH → Prop} (hA0 : 91 ≤ A.1) (hR : RO R (d + 1)) (hcs : A.2.2.1 ≤ R.cells ∧ A.2.2.2 ≤ R.slots) (hM : Mk X d m_X12_rowsNow [.ref 68, .int x2, .int x5] h A.1 A.2.1 (RJ P133)) (q : ∀ (y : Int64) (g : AH), P133 y g → V X m_X12_over R Z A 136 [some (.ref 68), some (.int x1), some (.int x2), some (.int x3), some (.int x4), some (.int x5)] [.long y, .long t0] g) : V X m_X12_over R Z A 129 [some (.ref 68), some (.int x1), some (.int x2), some (.int x3), some (.int x4), some (.int x5)] [.long t0] h := by
  refine v_aload_n dX12_over_129 rfl ?_
  refine v_iload_n dX12_over_130 rfl ?_
  refine v_iload dX12_over_131 rfl ?_
  exact v_cVL (mt := m_X12_over) mo_X12_rowsNow ml_RX12_274 mi_X12_rowsNow mv_X12_rowsNow rfl kd_68 cl_12 rfl (ltA hA0 rfl) hR hcs (Nat.le_of_ble_eq_true rfl) dX12_over_133 rfl hM (fun y g hp => (q y g hp))
theorem c_X12_over_136 {X : CX} {R : Room} {Z : ZX} {A : AX} {h : AH} {x1 x2 x3 x4 x5 : Int32} {t0 t1 : Int64} {d : Nat} {P140 : Int64 → AH → Prop} (hA0 : 91 ≤ A.1) (hR : RO R (d + 1)) (hcs : A.2.2.1 ≤ R.cells ∧ A.2.2.2 ≤ R.slots) (hM : Mk X d m_X12_rowsNow [.ref 68, .int x1, .int x2] h A.1 A.2.1 (RJ P140)) (q : ∀ (y : Int64) (g : AH), P140 y g → V X m_X12_over R Z A 143 [some (.ref 68), some (.int x1), some (.int x2), some (.int x3), some (.int x4), some (.int x5)] [.long y, .long (t0 * t1)] g) : V X m_X12_over R Z A 136 [some (.ref 68), some (.int x1), some (.int x2), some (.int x3), some (.int x4), some (.int x5)] [.long t1, .long t0] h := by
  refine v_lmul dX12_over_136 ?_
  refine v_aload_n dX12_over_137 rfl ?_
  refine v_iload_n dX12_over_138 rfl ?_
  refine v_iload_n dX12_over_139 rfl ?_
  exact v_cVL (mt := m_X12_over) mo_X12_rowsNow ml_RX12_274 mi_X12_rowsNow mv_X12_rowsNow rfl kd_68 cl_12 rfl (ltA hA0 rfl) hR hcs (Nat.le_of_ble_eq_true rfl) dX12_over_140 rfl hM (fun y g hp => (q y g hp))
theorem c_X12_over_143 {X : CX} {R : Room} {Z : ZX} {A : AX} {h : AH} {x1 x2 x3 x4 x5 : Int32} {t0 t1 : Int64} (q : ¬ (lg_cmp t0 t1) = 0 → V X m_X12_over R Z A 58 [some (.ref 68), some (.int x1), some (.int x2), some (.int x3), some (.int x4), some (.int (x5 + 1))] [] h) (q_1 : (lg_cmp t0 t1) = 0 → V X m_X12_over R Z A 58 [some (.ref 68), some (.int x1), some (.int x2), some (.int x3), some (.int (x4 ||| ((1 : Int32) <<< ((x5 : Int32) &&& 31)))), some (.int (x5 + 1))] [] h) : V X m_X12_over R Z A 143 [some (.ref 68), some (.int x1), some (.int x2), some (.int x3), some (.int x4), some (.int x5)] [.long t1, .long t0] h := by
  refine v_lcmp dX12_over_143 ?_
  refine v_if_ne (tgt := 156) dX12_over_144 (by decide) (fun c0 => ?_) (fun c0 => ?_)
  · refine v_iinc (y := (x5 + 1)) dX12_over_156 rfl rfl (by decide) (L' := [some (.ref 68), some (.int x1), some (.int x2), some (.int x3), some (.int x4), some (.int (x5 + 1))]) rfl ?_
    refine v_goto (tgt := 58) dX12_over_159 (by decide) ?_
    exact (q c0)
  · refine v_iload dX12_over_147 rfl ?_
    refine v_iconst dX12_over_149 ci_1 ?_
    refine v_iload dX12_over_150 rfl ?_
    refine v_ishl dX12_over_152 ?_
    refine v_ior dX12_over_153 ?_
    refine v_istore dX12_over_154 (by decide) (L' := [some (.ref 68), some (.int x1), some (.int x2), some (.int x3), some (.int (x4 ||| ((1 : Int32) <<< ((x5 : Int32) &&& 31)))), some (.int x5)]) rfl ?_
    refine v_iinc (y := (x5 + 1)) dX12_over_156 rfl rfl (by decide) (L' := [some (.ref 68), some (.int x1), some (.int x2), some (.int x3), some (.int (x4 ||| ((1 : Int32) <<< ((x5 : Int32) &&& 31)))), some (.int (x5 + 1))]) rfl ?_
    refine v_goto (tgt := 58) dX12_over_159 (by decide) ?_
    exact (q_1 c0)
theorem e_X12_sumOf {X : CX} {d nx sz : Nat} {Q : Option Value → AH → Prop} {h : AH} {x1 : Int32} (q : V X m_X12_sumOf (rm d 0 0) (ZM X Q nx sz 0 0) (nx, sz, 0, 0) 0 [some (.ref 68), some (.int x1), none, none, none] [] h) : Mk X d m_X12_sumOf [.ref 68, .int x1] h nx sz Q := by
  refine Mok.ofV mo_X12_sumOf (Nat.le_of_ble_eq_true rfl) (L := [some (.ref 68), some (.int x1)]) (lvLe_s (lvLe_s lvLe_e)) (v_grow (n := 3) ?_)
  exact q
theorem c_X12_sumOf_0 {X : CX} {R : Room} {Z : ZX} {A : AX} {h : AH} {x1 : Int32} (q : V X m_X12_sumOf R Z A 4 [some (.ref 68), some (.int x1), some (.int 0), some (.int 0), none] [] h) : V X m_X12_sumOf R Z A 0 [some (.ref 68), some (.int x1), none, none, none] [] h := by
  refine v_iconst dX12_sumOf_0 ci_0 ?_
  refine v_istore_n dX12_sumOf_1 (by decide) (L' := [some (.ref 68), some (.int x1), some (.int 0), none, none]) rfl ?_
  refine v_iconst dX12_sumOf_2 ci_0 ?_
  refine v_istore_n dX12_sumOf_3 (by decide) (L' := [some (.ref 68), some (.int x1), some (.int 0), some (.int 0), none]) rfl ?_
  exact q
theorem c_X12_sumOf_4 {X : CX} {R : Room} {Q : Option Value → AH → Prop} {nx sz mc ms : Nat} {h : AH} {x1 x2 x3 : Int32} {d : Nat} {P15 : Int32 → AH → Prop} (hA0 : 91 ≤ nx) (hR : RO R (d + 1)) (hcs : mc ≤ R.cells ∧ ms ≤ R.slots) (hq : (h.1 68 1) ≤ x3 → Q (some (.int x2)) h) (hM : ¬ (h.1 68 1) ≤ x3 → Mk X d m_X12_farOf [.ref 68, .int x1, .int x3] h nx sz (RI P15)) (q : ¬ (h.1 68 1) ≤ x3 → ∀ (y : Int32) (g : AH), P15 y g → V X m_X12_sumOf R (ZM X Q nx sz mc ms) (nx, sz, mc, ms) 18 [some (.ref 68), some (.int x1), some (.int x2), some (.int x3), none] [.int y] g) : V X m_X12_sumOf R (ZM X Q nx sz mc ms) (nx, sz, mc, ms) 4 [some (.ref 68), some (.int x1), some (.int x2), some (.int x3), none] [] h := by
  refine v_iload_n dX12_sumOf_4 rfl ?_
  refine v_aload_n dX12_sumOf_5 rfl ?_
  refine v_getI dX12_sumOf_6 fl_RX12_99 kd_68 (ltA hA0 rfl) rfl ?_
  refine v_icmp_ge (tgt := 44) dX12_sumOf_9 (by decide) (fun c0 => ?_) (fun c0 => ?_)
  · refine v_iload_n dX12_sumOf_44 rfl ?_
    exact v_iret dX12_sumOf_45 rfl (hq c0)
  · refine v_aload_n dX12_sumOf_12 rfl ?_
    refine v_iload_n dX12_sumOf_13 rfl ?_
    refine v_iload_n dX12_sumOf_14 rfl ?_
    exact v_cVI (mt := m_X12_sumOf) mo_X12_farOf ml_RX12_268 mi_X12_farOf mv_X12_farOf rfl kd_68 cl_12 rfl (ltA hA0 rfl) hR hcs (Nat.le_of_ble_eq_true rfl) dX12_sumOf_15 rfl (hM c0) (fun y g hp => ((q c0) y g hp))
theorem c_X12_sumOf_18 {X : CX} {R : Room} {Z : ZX} {A : AX} {h : AH} {x1 x2 x3 s0 : Int32} (hA0 : 91 ≤ A.1) (q : ¬ s0 = (-1) → V X m_X12_sumOf R Z A 4 [some (.ref 68), some (.int x1), some (.int (x2 + s0)), some (.int (x3 + 1)), none] [] h) (q_1 : s0 = (-1) → V X m_X12_sumOf R Z A 4 [some (.ref 68), some (.int x1), some (.int (x2 + (h.1 68 1))), some (.int (x3 + 1)), none] [] h) : V X m_X12_sumOf R Z A 18 [some (.ref 68), some (.int x1), some (.int x2), some (.int x3), none] [.int s0] h := by
  refine v_istore dX12_sumOf_18 (by decide) (L' := [some (.ref 68), some (.int x1), some (.int x2), some (.int x3), some (.int s0)]) rfl ?_
  refine v_iload_n dX12_sumOf_20 rfl ?_
  refine v_iload dX12_sumOf_21 rfl ?_
  refine v_iconst dX12_sumOf_23 ci_m1 ?_
  refine v_icmp_ne (tgt := 34) dX12_sumOf_24 (by decide) (fun c0 => ?_) (fun c0 => ?_)
  · refine v_iload dX12_sumOf_34 rfl ?_
    refine v_iadd dX12_sumOf_36 ?_
    refine v_istore_n dX12_sumOf_37 (by decide) (L' := [some (.ref 68), some (.int x1), some (.int (x2 + s0)), some (.int x3), some (.int s0)]) rfl ?_
    refine v_iinc (y := (x3 + 1)) dX12_sumOf_38 rfl rfl (by decide) (L' := [some (.ref 68), some (.int x1), some (.int (x2 + s0)), some (.int (x3 + 1)), some (.int s0)]) rfl ?_
    refine v_goto (tgt := 4) dX12_sumOf_41 (by decide) ?_
    exact (v_drop (lvLe_s (lvLe_s (lvLe_s (lvLe_s (lvLe_n lvLe_e))))) (q c0))
  · refine v_aload_n dX12_sumOf_27 rfl ?_
    refine v_getI dX12_sumOf_28 fl_RX12_99 kd_68 (ltA hA0 rfl) rfl ?_
    refine v_goto (tgt := 36) dX12_sumOf_31 (by decide) ?_
    refine v_iadd dX12_sumOf_36 ?_
    refine v_istore_n dX12_sumOf_37 (by decide) (L' := [some (.ref 68), some (.int x1), some (.int (x2 + (h.1 68 1))), some (.int x3), some (.int s0)]) rfl ?_
    refine v_iinc (y := (x3 + 1)) dX12_sumOf_38 rfl rfl (by decide) (L' := [some (.ref 68), some (.int x1), some (.int (x2 + (h.1 68 1))), some (.int (x3 + 1)), some (.int s0)]) rfl ?_
    refine v_goto (tgt := 4) dX12_sumOf_41 (by decide) ?_
    exact (v_drop (lvLe_s (lvLe_s (lvLe_s (lvLe_s (lvLe_n lvLe_e))))) (q_1 c0))
theorem e_X12_cutBy {X : CX} {d nx sz : Nat} {Q : Option Value → AH → Prop} {h : AH} {x1 : Int32} (q : V X m_X12_cutBy (rm d 0 0) (ZM X Q nx sz 0 0) (nx, sz, 0, 0) 0 [some (.ref 68), some (.int x1), none, none] [] h) : Mk X d m_X12_cutBy [.ref 68, .int x1] h nx sz Q := by
  refine Mok.ofV mo_X12_cutBy (Nat.le_of_ble_eq_true rfl) (L := [some (.ref 68), some (.int x1)]) (lvLe_s (lvLe_s lvLe_e)) (v_grow (n := 2) ?_)
  exact q
theorem c_X12_cutBy_0 {X : CX} {R : Room} {Z : ZX} {A : AX} {h : AH} {x1 : Int32} (q : V X m_X12_cutBy R Z A 4 [some (.ref 68), some (.int x1), some (.int 0), some (.int 0)] [] h) : V X m_X12_cutBy R Z A 0 [some (.ref 68), some (.int x1), none, none] [] h := by
  refine v_iconst dX12_cutBy_0 ci_0 ?_
  refine v_istore_n dX12_cutBy_1 (by decide) (L' := [some (.ref 68), some (.int x1), some (.int 0), none]) rfl ?_
  refine v_iconst dX12_cutBy_2 ci_0 ?_
  refine v_istore_n dX12_cutBy_3 (by decide) (L' := [some (.ref 68), some (.int x1), some (.int 0), some (.int 0)]) rfl ?_
  exact q
theorem c_X12_cutBy_4 {X : CX} {R : Room} {Q : Option Value → AH → Prop} {nx sz mc ms : Nat} {h : AH} {x1 x2 x3 : Int32} {d : Nat} {P24 : Int32 → AH → Prop} (hA0 : 91 ≤ nx) (hR : RO R (d + 1)) (hcs : mc ≤ R.cells ∧ ms ≤ R.slots) (hq : (h.1 68 1) ≤ x3 → Q (some (.int (x2 / 2))) h) (hM : ¬ (h.1 68 1) ≤ x3 → ¬ x3 = x1 → Mk X d m_X12_partOf [.ref 68, .int x3, .int 0] h nx sz (RI P24)) (q : ¬ (h.1 68 1) ≤ x3 → ¬ x3 = x1 → ∀ (y : Int32) (g : AH), P24 y g → V X m_X12_cutBy R (ZM X Q nx sz mc ms) (nx, sz, mc, ms) 27 [some (.ref 68), some (.int x1), none, some (.int x3)] [.int y, .int x2] g) (q_1 : ¬ (h.1 68 1) ≤ x3 → x3 = x1 → V X m_X12_cutBy R (ZM X Q nx sz mc ms) (nx, sz, mc, ms) 4 [some (.ref 68), some (.int x1), some (.int x2), some (.int (x3 + 1))] [] h) : V X m_X12_cutBy R (ZM X Q nx sz mc ms) (nx, sz, mc, ms) 4 [some (.ref 68), some (.int x1), some (.int x2), some (.int x3)] [] h := by
  refine v_iload_n dX12_cutBy_4 rfl ?_
  refine v_aload_n dX12_cutBy_5 rfl ?_
  refine v_getI dX12_cutBy_6 fl_RX12_99 kd_68 (ltA hA0 rfl) rfl ?_
  refine v_icmp_ge (tgt := 55) dX12_cutBy_9 (by decide) (fun c0 => ?_) (fun c0 => ?_)
  · refine v_iload_n dX12_cutBy_55 rfl ?_
    refine v_iconst dX12_cutBy_56 ci_2 ?_
    refine v_idiv dX12_cutBy_57 (by decide) ?_
    exact v_iret dX12_cutBy_58 rfl (hq c0)
  · refine v_iload_n dX12_cutBy_12 rfl ?_
    refine v_iload_n dX12_cutBy_13 rfl ?_
    refine v_icmp_ne (tgt := 20) dX12_cutBy_14 (by decide) (fun c1 => ?_) (fun c1 => ?_)
    · refine v_iload_n dX12_cutBy_20 rfl ?_
      refine v_aload_n dX12_cutBy_21 rfl ?_
      refine v_iload_n dX12_cutBy_22 rfl ?_
      refine v_iconst dX12_cutBy_23 ci_0 ?_
      exact v_cVI (mt := m_X12_cutBy) mo_X12_partOf ml_RX12_283 mi_X12_partOf mv_X12_partOf rfl kd_68 cl_12 rfl (ltA hA0 rfl) hR hcs (Nat.le_of_ble_eq_true rfl) dX12_cutBy_24 rfl (hM c0 c1) (fun y g hp => (v_drop (lvLe_s (lvLe_s (lvLe_n (lvLe_s lvLe_e)))) ((q c0 c1) y g hp)))
    · refine v_goto (tgt := 49) dX12_cutBy_17 (by decide) ?_
      refine v_iinc (y := (x3 + 1)) dX12_cutBy_49 rfl rfl (by decide) (L' := [some (.ref 68), some (.int x1), some (.int x2), some (.int (x3 + 1))]) rfl ?_
      refine v_goto (tgt := 4) dX12_cutBy_52 (by decide) ?_
      exact (q_1 c0 c1)
theorem c_X12_cutBy_27 {X : CX} {R : Room} {Z : ZX} {A : AX} {h : AH} {x1 x3 s0 s1 : Int32} {d : Nat} {P32 : Int32 → AH → Prop} (hA0 : 91 ≤ A.1) (hR : RO R (d + 1)) (hcs : A.2.2.1 ≤ R.cells ∧ A.2.2.2 ≤ R.slots) (hM : Mk X d m_X12_partOf [.ref 68, .int x3, .int ((1 : Int32) <<< ((x1 : Int32) &&& 31))] h A.1 A.2.1 (RI P32)) (q : ∀ (y : Int32) (g : AH), P32 y g → V X m_X12_cutBy R Z A 35 [some (.ref 68), some (.int x1), none, some (.int x3)] [.int y, .int s1, .int s0] g) : V X m_X12_cutBy R Z A 27 [some (.ref 68), some (.int x1), none, some (.int x3)] [.int s1, .int s0] h := by
  refine v_aload_n dX12_cutBy_27 rfl ?_
  refine v_iload_n dX12_cutBy_28 rfl ?_
  refine v_iconst dX12_cutBy_29 ci_1 ?_
  refine v_iload_n dX12_cutBy_30 rfl ?_
  refine v_ishl dX12_cutBy_31 ?_
  exact v_cVI (mt := m_X12_cutBy) mo_X12_partOf ml_RX12_283 mi_X12_partOf mv_X12_partOf rfl kd_68 cl_12 rfl (ltA hA0 rfl) hR hcs (Nat.le_of_ble_eq_true rfl) dX12_cutBy_32 rfl hM (fun y g hp => (q y g hp))
theorem c_X12_cutBy_35 {X : CX} {R : Room} {Z : ZX} {A : AX} {h : AH} {x1 x3 s0 s1 s2 : Int32} {d : Nat} {P44 : Int32 → AH → Prop} (hR : RO R (d + 1)) (hcs : A.2.2.1 ≤ R.cells ∧ A.2.2.2 ≤ R.slots) (hM : Mk X d m_J6_bitCount_0f7a4 [.int ((s1 &&& (s2 ^^^ (-1))) &&& (((1 : Int32) <<< ((x1 : Int32) &&& 31)) ^^^ (-1)))] h A.1 A.2.1 (RI P44)) (q : ∀ (y : Int32) (g : AH), P44 y g → V X m_X12_cutBy R Z A 47 [some (.ref 68), some (.int x1), none, some (.int x3)] [.int y, .int s0] g) : V X m_X12_cutBy R Z A 35 [some (.ref 68), some (.int x1), none, some (.int x3)] [.int s2, .int s1, .int s0] h := by
  refine v_iconst dX12_cutBy_35 ci_m1 ?_
  refine v_ixor dX12_cutBy_36 ?_
  refine v_iand dX12_cutBy_37 ?_
  refine v_iconst dX12_cutBy_38 ci_1 ?_
  refine v_iload_n dX12_cutBy_39 rfl ?_
  refine v_ishl dX12_cutBy_40 ?_
  refine v_iconst dX12_cutBy_41 ci_m1 ?_
  refine v_ixor dX12_cutBy_42 ?_
  refine v_iand dX12_cutBy_43 ?_
  exact v_cSI (mt := m_X12_cutBy) mo_J6_bitCount_0f7a4 ml_RX12_224 mz_J6_bitCount_0f7a4 rfl hR hcs (Nat.le_of_ble_eq_true rfl) dX12_cutBy_44 rfl hM (fun y g hp => (q y g hp))
theorem c_X12_cutBy_47 {X : CX} {R : Room} {Z : ZX} {A : AX} {h : AH} {x1 x3 s0 s1 : Int32} (q : V X m_X12_cutBy R Z A 4 [some (.ref 68), some (.int x1), some (.int (s0 + s1)), some (.int (x3 + 1))] [] h) : V X m_X12_cutBy R Z A 47 [some (.ref 68), some (.int x1), none, some (.int x3)] [.int s1, .int s0] h := by
  refine v_iadd dX12_cutBy_47 ?_
  refine v_istore_n dX12_cutBy_48 (by decide) (L' := [some (.ref 68), some (.int x1), some (.int (s0 + s1)), some (.int x3)]) rfl ?_
  refine v_iinc (y := (x3 + 1)) dX12_cutBy_49 rfl rfl (by decide) (L' := [some (.ref 68), some (.int x1), some (.int (s0 + s1)), some (.int (x3 + 1))]) rfl ?_
  refine v_goto (tgt := 4) dX12_cutBy_52 (by decide) ?_
  exact q
theorem e_X12_of {X : CX} {d nx sz : Nat} {Q : Option Value → AH → Prop} {h : AH} {x1 x2 : Int32} (q : V X m_X12_of (rm d 0 0) (ZM X Q nx sz 0 0) (nx, sz, 0, 0) 0 [some (.ref 68), some (.int x1), some (.int x2)] [] h) : Mk X d m_X12_of [.ref 68, .int x1, .int x2] h nx sz Q := by
  refine Mok.ofV mo_X12_of (Nat.le_of_ble_eq_true rfl) (L := [some (.ref 68), some (.int x1), some (.int x2)]) (lvLe_s (lvLe_s (lvLe_s lvLe_e))) (v_grow (n := 0) ?_)
  exact q
theorem c_X12_of_0 {X : CX} {R : Room} {Z : ZX} {A : AX} {h : AH} {x1 x2 : Int32} {d : Nat} {P7 : Int32 → AH → Prop} (hA0 : 91 ≤ A.1) (hR : RO R (d + 1)) (hcs : A.2.2.1 ≤ R.cells ∧ A.2.2.2 ≤ R.slots) (hM : Mk X d m_X12_isOne [.ref 68, .int x1] (setI h 68 0 0) A.1 A.2.1 (RI P7)) (q : ∀ (y : Int32) (g : AH), P7 y g → V X m_X12_of R Z A 10 [some (.ref 68), some (.int x1), some (.int x2)] [.int y] g) : V X m_X12_of R Z A 0 [some (.ref 68), some (.int x1), some (.int x2)] [] h := by
  refine v_aload_n dX12_of_0 rfl ?_
  refine v_iconst dX12_of_1 ci_0 ?_
  refine v_putI rfl rfl rfl dX12_of_2 fl_RX12_103 (Or.inl rfl) kd_68 (ltA hA0 rfl) ?_
  refine v_aload_n dX12_of_5 rfl ?_
  refine v_iload_n dX12_of_6 rfl ?_
  exact v_cVI (mt := m_X12_of) mo_X12_isOne ml_RX12_250 mi_X12_isOne mv_X12_isOne rfl kd_68 cl_12 rfl (ltA hA0 rfl) hR hcs (Nat.le_of_ble_eq_true rfl) dX12_of_7 rfl hM (fun y g hp => (q y g hp))
theorem c_X12_of_10 {X : CX} {R : Room} {Q : Option Value → AH → Prop} {nx sz mc ms : Nat} {h : AH} {x1 x2 s0 : Int32} {d : Nat} {P16 : Int32 → AH → Prop} (hR : RO R (d + 1)) (hcs : mc ≤ R.cells ∧ ms ≤ R.slots) (hq : s0 = 0 → Q (some (.int (-1))) h) (hM : ¬ s0 = 0 → Mk X d m_X12_isIn [.int x2, .int 0, .int 4] h nx sz (RI P16)) (q : ¬ s0 = 0 → ∀ (y : Int32) (g : AH), P16 y g → V X m_X12_of R (ZM X Q nx sz mc ms) (nx, sz, mc, ms) 19 [some (.ref 68), some (.int x1), some (.int x2)] [.int y] g) : V X m_X12_of R (ZM X Q nx sz mc ms) (nx, sz, mc, ms) 10 [some (.ref 68), some (.int x1), some (.int x2)] [.int s0] h := by
  refine v_if_eq (tgt := 22) dX12_of_10 (by decide) (fun c0 => ?_) (fun c0 => ?_)
  · refine v_iconst dX12_of_22 ci_m1 ?_
    exact v_iret dX12_of_23 rfl (hq c0)
  · refine v_iload_n dX12_of_13 rfl ?_
    refine v_iconst dX12_of_14 ci_0 ?_
    refine v_iconst dX12_of_15 ci_4 ?_
    exact v_cSI (mt := m_X12_of) mo_X12_isIn ml_RX12_232 mz_X12_isIn rfl hR hcs (Nat.le_of_ble_eq_true rfl) dX12_of_16 rfl (hM c0) (fun y g hp => ((q c0) y g hp))
theorem c_X12_of_19 {X : CX} {R : Room} {Q : Option Value → AH → Prop} {nx sz mc ms : Nat} {h : AH} {x1 x2 s0 : Int32} {d : Nat} {P58 P65 P71 : Int32 → AH → Prop} (hA0 : 91 ≤ nx) (hF : Fx h) (hR : RO R (d + 1)) (hcs : mc ≤ R.cells ∧ ms ≤ R.slots) (hi_87 : ¬ s0 = 0 → ((x2 : Int32).toInt < 0 ∨ 3 < (x2 : Int32).toInt) → vp_in x1 20) (hq : ¬ s0 = 0 → ((x2 : Int32).toInt < 0 ∨ 3 < (x2 : Int32).toInt) → Q (some (.int (h.1 75 x1.toNatClampNeg))) h) (hM : ¬ s0 = 0 → (x2 : Int32).toInt = 0 → Mk X d m_X12_sumOf [.ref 68, .int x1] h nx sz (RI P58)) (q : ¬ s0 = 0 → (x2 : Int32).toInt = 0 → ∀ (y : Int32) (g : AH), P58 y g → V X m_X12_of R (ZM X Q nx sz mc ms) (nx, sz, mc, ms) 61 [none, none, none] [.int y] g) (hM_1 : ¬ s0 = 0 → (x2 : Int32).toInt = 1 → Mk X d m_X12_partOf [.ref 68, .int x1, .int 0] h nx sz (RI P65)) (q_1 : ¬ s0 = 0 → (x2 : Int32).toInt = 1 → ∀ (y : Int32) (g : AH), P65 y g → V X m_X12_of R (ZM X Q nx sz mc ms) (nx, sz, mc, ms) 68 [none, none, none] [.int y] g) (hM_2 : ¬ s0 = 0 → (x2 : Int32).toInt = 2 → Mk X d m_X12_cutBy [.ref 68, .int x1] h nx sz (RI P71)) (q_2 : ¬ s0 = 0 → (x2 : Int32).toInt = 2 → ∀ (y : Int32) (g : AH), P71 y g → V X m_X12_of R (ZM X Q nx sz mc ms) (nx, sz, mc, ms) 74 [none, none, none] [.int y] g) (hi_80 : ¬ s0 = 0 → (x2 : Int32).toInt = 3 → vp_in x1 20) (hq_1 : ¬ s0 = 0 → (x2 : Int32).toInt = 3 → Q (some (.int (h.1 76 x1.toNatClampNeg))) h) (hq_2 : s0 = 0 → Q (some (.int (-1))) h) : V X m_X12_of R (ZM X Q nx sz mc ms) (nx, sz, mc, ms) 19 [some (.ref 68), some (.int x1), some (.int x2)] [.int s0] h := by
  refine v_if_ne (tgt := 24) dX12_of_19 (by decide) (fun c0 => ?_) (fun c0 => ?_)
  · refine v_iload_n dX12_of_24 rfl ?_
    rcases (by omega : ((x2 : Int32).toInt < 0 ∨ 3 < (x2 : Int32).toInt) ∨ (x2 : Int32).toInt = 0 ∨ (x2 : Int32).toInt = 1 ∨ (x2 : Int32).toInt = 2 ∨ (x2 : Int32).toInt = 3) with c1 | c1 | c1 | c1 | c1
    · refine v_tableOut (tgt := 82) dX12_of_25 c1 (by decide) ?_
      refine v_aload_n dX12_of_82 rfl ?_
      refine v_getR dX12_of_83 fl_RX12_43 kd_68 (ltA hA0 rfl) rfl (hF 68 21 75 rfl) ?_
      refine v_iload_n dX12_of_86 rfl ?_
      refine v_iald dX12_of_87 kd_75 (ltA hA0 rfl) (hi_87 c0 c1) ?_
      exact v_iret dX12_of_88 rfl (hq c0 c1)
    · refine v_tableIn (tgt := 56) (off := 31) dX12_of_25 (by rw [c1]; decide) (by rw [c1]; decide) (by rw [c1]; rfl) (by decide) ?_
      refine v_aload_n dX12_of_56 rfl ?_
      refine v_iload_n dX12_of_57 rfl ?_
      exact v_cVI (mt := m_X12_of) mo_X12_sumOf ml_RX12_286 mi_X12_sumOf mv_X12_sumOf rfl kd_68 cl_12 rfl (ltA hA0 rfl) hR hcs (Nat.le_of_ble_eq_true rfl) dX12_of_58 rfl (hM c0 c1) (fun y g hp => (v_drop (lvLe_n (lvLe_n (lvLe_n lvLe_e))) ((q c0 c1) y g hp)))
    · refine v_tableIn (tgt := 62) (off := 37) dX12_of_25 (by rw [c1]; decide) (by rw [c1]; decide) (by rw [c1]; rfl) (by decide) ?_
      refine v_aload_n dX12_of_62 rfl ?_
      refine v_iload_n dX12_of_63 rfl ?_
      refine v_iconst dX12_of_64 ci_0 ?_
      exact v_cVI (mt := m_X12_of) mo_X12_partOf ml_RX12_283 mi_X12_partOf mv_X12_partOf rfl kd_68 cl_12 rfl (ltA hA0 rfl) hR hcs (Nat.le_of_ble_eq_true rfl) dX12_of_65 rfl (hM_1 c0 c1) (fun y g hp => (v_drop (lvLe_n (lvLe_n (lvLe_n lvLe_e))) ((q_1 c0 c1) y g hp)))
    · refine v_tableIn (tgt := 69) (off := 44) dX12_of_25 (by rw [c1]; decide) (by rw [c1]; decide) (by rw [c1]; rfl) (by decide) ?_
      refine v_aload_n dX12_of_69 rfl ?_
      refine v_iload_n dX12_of_70 rfl ?_
      exact v_cVI (mt := m_X12_of) mo_X12_cutBy ml_RX12_289 mi_X12_cutBy mv_X12_cutBy rfl kd_68 cl_12 rfl (ltA hA0 rfl) hR hcs (Nat.le_of_ble_eq_true rfl) dX12_of_71 rfl (hM_2 c0 c1) (fun y g hp => (v_drop (lvLe_n (lvLe_n (lvLe_n lvLe_e))) ((q_2 c0 c1) y g hp)))
    · refine v_tableIn (tgt := 75) (off := 50) dX12_of_25 (by rw [c1]; decide) (by rw [c1]; decide) (by rw [c1]; rfl) (by decide) ?_
      refine v_aload_n dX12_of_75 rfl ?_
      refine v_getR dX12_of_76 fl_RX12_46 kd_68 (ltA hA0 rfl) rfl (hF 68 22 76 rfl) ?_
      refine v_iload_n dX12_of_79 rfl ?_
      refine v_iald dX12_of_80 kd_76 (ltA hA0 rfl) (hi_80 c0 c1) ?_
      exact v_iret dX12_of_81 rfl (hq_1 c0 c1)
  · refine v_iconst dX12_of_22 ci_m1 ?_
    exact v_iret dX12_of_23 rfl (hq_2 c0)
theorem c_X12_of_61 {X : CX} {R : Room} {Q : Option Value → AH → Prop} {nx sz mc ms : Nat} {h : AH} {s0 : Int32} (hq : Q (some (.int s0)) h) : V X m_X12_of R (ZM X Q nx sz mc ms) (nx, sz, mc, ms) 61 [none, none, none] [.int s0] h := by
  exact v_iret dX12_of_61 rfl hq
theorem c_X12_of_68 {X : CX} {R : Room} {Q : Option Value → AH → Prop} {nx sz mc ms : Nat} {h : AH} {s0 : Int32} (hq : Q (some (.int s0)) h) : V X m_X12_of R (ZM X Q nx sz mc ms) (nx, sz, mc, ms) 68 [none, none, none] [.int s0] h := by
  exact v_iret dX12_of_68 rfl hq
theorem c_X12_of_74 {X : CX} {R : Room} {Q : Option Value → AH → Prop} {nx sz mc ms : Nat} {h : AH} {s0 : Int32} (hq : Q (some (.int s0)) h) : V X m_X12_of R (ZM X Q nx sz mc ms) (nx, sz, mc, ms) 74 [none, none, none] [.int s0] h := by
  exact v_iret dX12_of_74 rfl hq
theorem e_X12_partsNow {X : CX} {d nx sz : Nat} {Q : Option Value → AH → Prop} {h : AH} (q : V X m_X12_partsNow (rm d 0 0) (ZM X Q nx sz 0 0) (nx, sz, 0, 0) 0 [some (.ref 68), none, none, none] [] h) : Mk X d m_X12_partsNow [.ref 68] h nx sz Q := by
  refine Mok.ofV mo_X12_partsNow (Nat.le_of_ble_eq_true rfl) (L := [some (.ref 68)]) (lvLe_s lvLe_e) (v_grow (n := 3) ?_)
  exact q
theorem c_X12_partsNow_0 {X : CX} {R : Room} {Z : ZX} {A : AX} {h : AH} (q : V X m_X12_partsNow R Z A 6 [some (.ref 68), some (.int 0), some (.int 0), some (.int 0)] [] h) : V X m_X12_partsNow R Z A 0 [some (.ref 68), none, none, none] [] h := by
  refine v_iconst dX12_partsNow_0 ci_0 ?_
  refine v_istore_n dX12_partsNow_1 (by decide) (L' := [some (.ref 68), some (.int 0), none, none]) rfl ?_
  refine v_iconst dX12_partsNow_2 ci_0 ?_
  refine v_istore_n dX12_partsNow_3 (by decide) (L' := [some (.ref 68), some (.int 0), some (.int 0), none]) rfl ?_
  refine v_iconst dX12_partsNow_4 ci_0 ?_
  refine v_istore_n dX12_partsNow_5 (by decide) (L' := [some (.ref 68), some (.int 0), some (.int 0), some (.int 0)]) rfl ?_
  exact q
theorem c_X12_partsNow_6 {X : CX} {R : Room} {Q : Option Value → AH → Prop} {nx sz mc ms : Nat} {h : AH} {x1 x2 x3 : Int32} {d : Nat} {P16 : Int32 → AH → Prop} (hA0 : 91 ≤ nx) (hR : RO R (d + 1)) (hcs : mc ≤ R.cells ∧ ms ≤ R.slots) (hq : (h.1 68 1) ≤ x3 → Q (some (.int x1)) h) (hM : ¬ (h.1 68 1) ≤ x3 → Mk X d m_X12_has [.int x2, .int x3] h nx sz (RI P16)) (q : ¬ (h.1 68 1) ≤ x3 → ∀ (y : Int32) (g : AH), P16 y g → V X m_X12_partsNow R (ZM X Q nx sz mc ms) (nx, sz, mc, ms) 19 [some (.ref 68), some (.int x1), some (.int x2), some (.int x3)] [.int y] g) : V X m_X12_partsNow R (ZM X Q nx sz mc ms) (nx, sz, mc, ms) 6 [some (.ref 68), some (.int x1), some (.int x2), some (.int x3)] [] h := by
  refine v_iload_n dX12_partsNow_6 rfl ?_
  refine v_aload_n dX12_partsNow_7 rfl ?_
  refine v_getI dX12_partsNow_8 fl_RX12_99 kd_68 (ltA hA0 rfl) rfl ?_
  refine v_icmp_ge (tgt := 43) dX12_partsNow_11 (by decide) (fun c0 => ?_) (fun c0 => ?_)
  · refine v_iload_n dX12_partsNow_43 rfl ?_
    exact v_iret dX12_partsNow_44 rfl (hq c0)
  · refine v_iload_n dX12_partsNow_14 rfl ?_
    refine v_iload_n dX12_partsNow_15 rfl ?_
    exact v_cSI (mt := m_X12_partsNow) mo_X12_has ml_RX12_220 mz_X12_has rfl hR hcs (Nat.le_of_ble_eq_true rfl) dX12_partsNow_16 rfl (hM c0) (fun y g hp => ((q c0) y g hp))
theorem c_X12_partsNow_19 {X : CX} {R : Room} {Z : ZX} {A : AX} {h : AH} {x1 x2 x3 s0 : Int32} {d : Nat} {P29 : Int32 → AH → Prop} (hA0 : 91 ≤ A.1) (hR : RO R (d + 1)) (hcs : A.2.2.1 ≤ R.cells ∧ A.2.2.2 ≤ R.slots) (hM : s0 = 0 → Mk X d m_X12_partOf [.ref 68, .int x3, .int 0] h A.1 A.2.1 (RI P29)) (q : s0 = 0 → ∀ (y : Int32) (g : AH), P29 y g → V X m_X12_partsNow R Z A 32 [some (.ref 68), some (.int x1), none, some (.int x3)] [.int y, .int x2] g) (q_1 : ¬ s0 = 0 → V X m_X12_partsNow R Z A 6 [some (.ref 68), some (.int x1), some (.int x2), some (.int (x3 + 1))] [] h) : V X m_X12_partsNow R Z A 19 [some (.ref 68), some (.int x1), some (.int x2), some (.int x3)] [.int s0] h := by
  refine v_if_eq (tgt := 25) dX12_partsNow_19 (by decide) (fun c0 => ?_) (fun c0 => ?_)
  · refine v_iload_n dX12_partsNow_25 rfl ?_
    refine v_aload_n dX12_partsNow_26 rfl ?_
    refine v_iload_n dX12_partsNow_27 rfl ?_
    refine v_iconst dX12_partsNow_28 ci_0 ?_
    exact v_cVI (mt := m_X12_partsNow) mo_X12_partOf ml_RX12_283 mi_X12_partOf mv_X12_partOf rfl kd_68 cl_12 rfl (ltA hA0 rfl) hR hcs (Nat.le_of_ble_eq_true rfl) dX12_partsNow_29 rfl (hM c0) (fun y g hp => (v_drop (lvLe_s (lvLe_s (lvLe_n (lvLe_s lvLe_e)))) ((q c0) y g hp)))
  · refine v_goto (tgt := 37) dX12_partsNow_22 (by decide) ?_
    refine v_iinc (y := (x3 + 1)) dX12_partsNow_37 rfl rfl (by decide) (L' := [some (.ref 68), some (.int x1), some (.int x2), some (.int (x3 + 1))]) rfl ?_
    refine v_goto (tgt := 6) dX12_partsNow_40 (by decide) ?_
    exact (q_1 c0)
theorem c_X12_partsNow_32 {X : CX} {R : Room} {Z : ZX} {A : AX} {h : AH} {x1 x3 s0 s1 : Int32} (q : V X m_X12_partsNow R Z A 6 [some (.ref 68), some (.int (x1 + 1)), some (.int (s0 ||| s1)), some (.int (x3 + 1))] [] h) : V X m_X12_partsNow R Z A 32 [some (.ref 68), some (.int x1), none, some (.int x3)] [.int s1, .int s0] h := by
  refine v_ior dX12_partsNow_32 ?_
  refine v_istore_n dX12_partsNow_33 (by decide) (L' := [some (.ref 68), some (.int x1), some (.int (s0 ||| s1)), some (.int x3)]) rfl ?_
  refine v_iinc (y := (x1 + 1)) dX12_partsNow_34 rfl rfl (by decide) (L' := [some (.ref 68), some (.int (x1 + 1)), some (.int (s0 ||| s1)), some (.int x3)]) rfl ?_
  refine v_iinc (y := (x3 + 1)) dX12_partsNow_37 rfl rfl (by decide) (L' := [some (.ref 68), some (.int (x1 + 1)), some (.int (s0 ||| s1)), some (.int (x3 + 1))]) rfl ?_
  refine v_goto (tgt := 6) dX12_partsNow_40 (by decide) ?_
  exact q
theorem e_X12_all {X : CX} {d nx sz : Nat} {Q : Option Value → AH → Prop} {h : AH} {x1 : Int32} (q : V X m_X12_all (rm d 0 0) (ZM X Q nx sz 0 0) (nx, sz, 0, 0) 0 [some (.ref 68), some (.int x1), none, none, none] [] h) : Mk X d m_X12_all [.ref 68, .int x1] h nx sz Q := by
  refine Mok.ofV mo_X12_all (Nat.le_of_ble_eq_true rfl) (L := [some (.ref 68), some (.int x1)]) (lvLe_s (lvLe_s lvLe_e)) (v_grow (n := 3) ?_)
  exact q
theorem c_X12_all_0 {X : CX} {R : Room} {Q : Option Value → AH → Prop} {nx sz mc ms : Nat} {h : AH} {x1 : Int32} {d : Nat} {P90 P131 : Int32 → AH → Prop} (hA0 : 91 ≤ nx) (hR : RO R (d + 1)) (hcs : mc ≤ R.cells ∧ ms ≤ R.slots) (hq : ((x1 : Int32).toInt < 0 ∨ 4 < (x1 : Int32).toInt) → Q (some (.int (-1))) (setI h 68 0 0)) (q : (x1 : Int32).toInt = 0 → V X m_X12_all R (ZM X Q nx sz mc ms) (nx, sz, mc, ms) 46 [some (.ref 68), none, some (.int 0), some (.int 0), none] [] (setI h 68 0 0)) (hM : (x1 : Int32).toInt = 1 → Mk X d m_X12_partsNow [.ref 68] (setI h 68 0 0) nx sz (RI P90)) (q_1 : (x1 : Int32).toInt = 1 → ∀ (y : Int32) (g : AH), P90 y g → V X m_X12_all R (ZM X Q nx sz mc ms) (nx, sz, mc, ms) 93 [none, none, none, none, none] [.int y] g) (q_2 : (x1 : Int32).toInt = 2 → V X m_X12_all R (ZM X Q nx sz mc ms) (nx, sz, mc, ms) 96 [some (.ref 68), none, some (.int 0), some (.int 0), none] [] (setI h 68 0 0)) (hM_1 : (x1 : Int32).toInt = 3 → Mk X d m_X12_ties [.ref 68] (setI h 68 0 0) nx sz (RI P131)) (q_3 : (x1 : Int32).toInt = 3 → ∀ (y : Int32) (g : AH), P131 y g → V X m_X12_all R (ZM X Q nx sz mc ms) (nx, sz, mc, ms) 134 [none, none, none, none, none] [.int y] g) (q_4 : (x1 : Int32).toInt = 4 → V X m_X12_all R (ZM X Q nx sz mc ms) (nx, sz, mc, ms) 137 [some (.ref 68), none, some (.int 0), some (.int 0), none] [] (setI h 68 0 0)) : V X m_X12_all R (ZM X Q nx sz mc ms) (nx, sz, mc, ms) 0 [some (.ref 68), some (.int x1), none, none, none] [] h := by
  refine v_aload_n dX12_all_0 rfl ?_
  refine v_iconst dX12_all_1 ci_0 ?_
  refine v_putI rfl rfl rfl dX12_all_2 fl_RX12_103 (Or.inl rfl) kd_68 (ltA hA0 rfl) ?_
  refine v_iconst dX12_all_5 ci_0 ?_
  refine v_istore_n dX12_all_6 (by decide) (L' := [some (.ref 68), some (.int x1), some (.int 0), none, none]) rfl ?_
  refine v_iload_n dX12_all_7 rfl ?_
  rcases (by omega : ((x1 : Int32).toInt < 0 ∨ 4 < (x1 : Int32).toInt) ∨ (x1 : Int32).toInt = 0 ∨ (x1 : Int32).toInt = 1 ∨ (x1 : Int32).toInt = 2 ∨ (x1 : Int32).toInt = 3 ∨ (x1 : Int32).toInt = 4) with c0 | c0 | c0 | c0 | c0 | c0
  · refine v_tableOut (tgt := 161) dX12_all_8 c0 (by decide) ?_
    refine v_iconst dX12_all_161 ci_m1 ?_
    exact v_iret dX12_all_162 rfl (hq c0)
  · refine v_tableIn (tgt := 44) (off := 36) dX12_all_8 (by rw [c0]; decide) (by rw [c0]; decide) (by rw [c0]; rfl) (by decide) ?_
    refine v_iconst dX12_all_44 ci_0 ?_
    refine v_istore_n dX12_all_45 (by decide) (L' := [some (.ref 68), some (.int x1), some (.int 0), some (.int 0), none]) rfl ?_
    exact (v_drop (lvLe_s (lvLe_n (lvLe_s (lvLe_s (lvLe_n lvLe_e))))) (q c0))
  · refine v_tableIn (tgt := 89) (off := 81) dX12_all_8 (by rw [c0]; decide) (by rw [c0]; decide) (by rw [c0]; rfl) (by decide) ?_
    refine v_aload_n dX12_all_89 rfl ?_
    exact v_cVI (mt := m_X12_all) mo_X12_partsNow ml_RX12_292 mi_X12_partsNow mv_X12_partsNow rfl kd_68 cl_12 rfl (ltA hA0 rfl) hR hcs (Nat.le_of_ble_eq_true rfl) dX12_all_90 rfl (hM c0) (fun y g hp => (v_drop (lvLe_n (lvLe_n (lvLe_n (lvLe_n (lvLe_n lvLe_e))))) ((q_1 c0) y g hp)))
  · refine v_tableIn (tgt := 94) (off := 86) dX12_all_8 (by rw [c0]; decide) (by rw [c0]; decide) (by rw [c0]; rfl) (by decide) ?_
    refine v_iconst dX12_all_94 ci_0 ?_
    refine v_istore_n dX12_all_95 (by decide) (L' := [some (.ref 68), some (.int x1), some (.int 0), some (.int 0), none]) rfl ?_
    exact (v_drop (lvLe_s (lvLe_n (lvLe_s (lvLe_s (lvLe_n lvLe_e))))) (q_2 c0))
  · refine v_tableIn (tgt := 130) (off := 122) dX12_all_8 (by rw [c0]; decide) (by rw [c0]; decide) (by rw [c0]; rfl) (by decide) ?_
    refine v_aload_n dX12_all_130 rfl ?_
    exact v_cVI (mt := m_X12_all) mo_X12_ties ml_RX12_247 mi_X12_ties mv_X12_ties rfl kd_68 cl_12 rfl (ltA hA0 rfl) hR hcs (Nat.le_of_ble_eq_true rfl) dX12_all_131 rfl (hM_1 c0) (fun y g hp => (v_drop (lvLe_n (lvLe_n (lvLe_n (lvLe_n (lvLe_n lvLe_e))))) ((q_3 c0) y g hp)))
  · refine v_tableIn (tgt := 135) (off := 127) dX12_all_8 (by rw [c0]; decide) (by rw [c0]; decide) (by rw [c0]; rfl) (by decide) ?_
    refine v_iconst dX12_all_135 ci_0 ?_
    refine v_istore_n dX12_all_136 (by decide) (L' := [some (.ref 68), some (.int x1), some (.int 0), some (.int 0), none]) rfl ?_
    exact (v_drop (lvLe_s (lvLe_n (lvLe_s (lvLe_s (lvLe_n lvLe_e))))) (q_4 c0))
theorem c_X12_all_46 {X : CX} {R : Room} {Q : Option Value → AH → Prop} {nx sz mc ms : Nat} {h : AH} {x2 x3 : Int32} (hA0 : 91 ≤ nx) (hq : (h.1 68 1) ≤ x3 → Q (some (.int x2)) h) (q : ¬ (h.1 68 1) ≤ x3 → V X m_X12_all R (ZM X Q nx sz mc ms) (nx, sz, mc, ms) 57 [some (.ref 68), none, some (.int x2), some (.int x3), some (.int 0)] [] h) : V X m_X12_all R (ZM X Q nx sz mc ms) (nx, sz, mc, ms) 46 [some (.ref 68), none, some (.int x2), some (.int x3), none] [] h := by
  refine v_iload_n dX12_all_46 rfl ?_
  refine v_aload_n dX12_all_47 rfl ?_
  refine v_getI dX12_all_48 fl_RX12_99 kd_68 (ltA hA0 rfl) rfl ?_
  refine v_icmp_ge (tgt := 87) dX12_all_51 (by decide) (fun c0 => ?_) (fun c0 => ?_)
  · refine v_iload_n dX12_all_87 rfl ?_
    exact v_iret dX12_all_88 rfl (hq c0)
  · refine v_iconst dX12_all_54 ci_0 ?_
    refine v_istore dX12_all_55 (by decide) (L' := [some (.ref 68), none, some (.int x2), some (.int x3), some (.int 0)]) rfl ?_
    exact (q c0)
theorem c_X12_all_57 {X : CX} {R : Room} {Z : ZX} {A : AX} {h : AH} {x2 x3 x4 : Int32} {d : Nat} {P68 : Int32 → AH → Prop} (hA0 : 91 ≤ A.1) (hR : RO R (d + 1)) (hcs : A.2.2.1 ≤ R.cells ∧ A.2.2.2 ≤ R.slots) (q : x3 ≤ x4 → V X m_X12_all R Z A 46 [some (.ref 68), none, some (.int x2), some (.int (x3 + 1)), none] [] h) (hM : ¬ x3 ≤ x4 → Mk X d m_X12_farOf [.ref 68, .int x3, .int x4] h A.1 A.2.1 (RI P68)) (q_1 : ¬ x3 ≤ x4 → ∀ (y : Int32) (g : AH), P68 y g → V X m_X12_all R Z A 71 [some (.ref 68), none, none, some (.int x3), some (.int x4)] [.int y, .int x2] g) : V X m_X12_all R Z A 57 [some (.ref 68), none, some (.int x2), some (.int x3), some (.int x4)] [] h := by
  refine v_iload dX12_all_57 rfl ?_
  refine v_iload_n dX12_all_59 rfl ?_
  refine v_icmp_ge (tgt := 81) dX12_all_60 (by decide) (fun c0 => ?_) (fun c0 => ?_)
  · refine v_iinc (y := (x3 + 1)) dX12_all_81 rfl rfl (by decide) (L' := [some (.ref 68), none, some (.int x2), some (.int (x3 + 1)), some (.int x4)]) rfl ?_
    refine v_goto (tgt := 46) dX12_all_84 (by decide) ?_
    exact (v_drop (lvLe_s (lvLe_n (lvLe_s (lvLe_s (lvLe_n lvLe_e))))) (q c0))
  · refine v_iload_n dX12_all_63 rfl ?_
    refine v_aload_n dX12_all_64 rfl ?_
    refine v_iload_n dX12_all_65 rfl ?_
    refine v_iload dX12_all_66 rfl ?_
    exact v_cVI (mt := m_X12_all) mo_X12_farOf ml_RX12_268 mi_X12_farOf mv_X12_farOf rfl kd_68 cl_12 rfl (ltA hA0 rfl) hR hcs (Nat.le_of_ble_eq_true rfl) dX12_all_68 rfl (hM c0) (fun y g hp => (v_drop (lvLe_s (lvLe_n (lvLe_n (lvLe_s (lvLe_s lvLe_e))))) ((q_1 c0) y g hp)))
theorem c_X12_all_71 {X : CX} {R : Room} {Z : ZX} {A : AX} {h : AH} {x3 x4 s0 s1 : Int32} {d : Nat} (hR : RO R (d + 1)) (hcs : A.2.2.1 ≤ R.cells ∧ A.2.2.2 ≤ R.slots) (q : V X m_X12_all R Z A 57 [some (.ref 68), none, some (.int (if s0 < s1 then s1 else s0)), some (.int x3), some (.int (x4 + 1))] [] h) : V X m_X12_all R Z A 71 [some (.ref 68), none, none, some (.int x3), some (.int x4)] [.int s1, .int s0] h := by
  refine v_mmax dX12_all_71 ml_RX12_96 mz_mmax in_math mc_mmax (RO_1 hR) hcs (Nat.le_of_ble_eq_true rfl) ?_
  refine v_istore_n dX12_all_74 (by decide) (L' := [some (.ref 68), none, some (.int (if s0 < s1 then s1 else s0)), some (.int x3), some (.int x4)]) rfl ?_
  refine v_iinc (y := (x4 + 1)) dX12_all_75 rfl rfl (by decide) (L' := [some (.ref 68), none, some (.int (if s0 < s1 then s1 else s0)), some (.int x3), some (.int (x4 + 1))]) rfl ?_
  refine v_goto (tgt := 57) dX12_all_78 (by decide) ?_
  exact q
theorem c_X12_all_93 {X : CX} {R : Room} {Q : Option Value → AH → Prop} {nx sz mc ms : Nat} {h : AH} {s0 : Int32} (hq : Q (some (.int s0)) h) : V X m_X12_all R (ZM X Q nx sz mc ms) (nx, sz, mc, ms) 93 [none, none, none, none, none] [.int s0] h := by
  exact v_iret dX12_all_93 rfl hq
theorem c_X12_all_96 {X : CX} {R : Room} {Q : Option Value → AH → Prop} {nx sz mc ms : Nat} {h : AH} {x2 x3 : Int32} {d : Nat} {P107 : Int32 → AH → Prop} (hA0 : 91 ≤ nx) (hR : RO R (d + 1)) (hcs : mc ≤ R.cells ∧ ms ≤ R.slots) (hq : (h.1 68 1) ≤ x3 → Q (some (.int x2)) h) (hM : ¬ (h.1 68 1) ≤ x3 → Mk X d m_X12_cutBy [.ref 68, .int x3] h nx sz (RI P107)) (q : ¬ (h.1 68 1) ≤ x3 → ∀ (y : Int32) (g : AH), P107 y g → V X m_X12_all R (ZM X Q nx sz mc ms) (nx, sz, mc, ms) 110 [some (.ref 68), none, none, some (.int x3), none] [.int y, .int x2] g) : V X m_X12_all R (ZM X Q nx sz mc ms) (nx, sz, mc, ms) 96 [some (.ref 68), none, some (.int x2), some (.int x3), none] [] h := by
  refine v_iload_n dX12_all_96 rfl ?_
  refine v_aload_n dX12_all_97 rfl ?_
  refine v_getI dX12_all_98 fl_RX12_99 kd_68 (ltA hA0 rfl) rfl ?_
  refine v_icmp_ge (tgt := 128) dX12_all_101 (by decide) (fun c0 => ?_) (fun c0 => ?_)
  · refine v_iload_n dX12_all_128 rfl ?_
    exact v_iret dX12_all_129 rfl (hq c0)
  · refine v_iload_n dX12_all_104 rfl ?_
    refine v_aload_n dX12_all_105 rfl ?_
    refine v_iload_n dX12_all_106 rfl ?_
    exact v_cVI (mt := m_X12_all) mo_X12_cutBy ml_RX12_289 mi_X12_cutBy mv_X12_cutBy rfl kd_68 cl_12 rfl (ltA hA0 rfl) hR hcs (Nat.le_of_ble_eq_true rfl) dX12_all_107 rfl (hM c0) (fun y g hp => (v_drop (lvLe_s (lvLe_n (lvLe_n (lvLe_s (lvLe_n lvLe_e))))) ((q c0) y g hp)))
theorem c_X12_all_110 {X : CX} {R : Room} {Z : ZX} {A : AX} {h : AH} {x3 s0 s1 : Int32} (q : s1 ≤ 0 → V X m_X12_all R Z A 96 [some (.ref 68), none, some (.int (s0 ||| 0)), some (.int (x3 + 1)), none] [] h) (q_1 : ¬ s1 ≤ 0 → V X m_X12_all R Z A 96 [some (.ref 68), none, some (.int (s0 ||| ((1 : Int32) <<< ((x3 : Int32) &&& 31)))), some (.int (x3 + 1)), none] [] h) : V X m_X12_all R Z A 110 [some (.ref 68), none, none, some (.int x3), none] [.int s1, .int s0] h := by
  refine v_if_le (tgt := 119) dX12_all_110 (by decide) (fun c0 => ?_) (fun c0 => ?_)
  · refine v_iconst dX12_all_119 ci_0 ?_
    refine v_ior dX12_all_120 ?_
    refine v_istore_n dX12_all_121 (by decide) (L' := [some (.ref 68), none, some (.int (s0 ||| 0)), some (.int x3), none]) rfl ?_
    refine v_iinc (y := (x3 + 1)) dX12_all_122 rfl rfl (by decide) (L' := [some (.ref 68), none, some (.int (s0 ||| 0)), some (.int (x3 + 1)), none]) rfl ?_
    refine v_goto (tgt := 96) dX12_all_125 (by decide) ?_
    exact (q c0)
  · refine v_iconst dX12_all_113 ci_1 ?_
    refine v_iload_n dX12_all_114 rfl ?_
    refine v_ishl dX12_all_115 ?_
    refine v_goto (tgt := 120) dX12_all_116 (by decide) ?_
    refine v_ior dX12_all_120 ?_
    refine v_istore_n dX12_all_121 (by decide) (L' := [some (.ref 68), none, some (.int (s0 ||| ((1 : Int32) <<< ((x3 : Int32) &&& 31)))), some (.int x3), none]) rfl ?_
    refine v_iinc (y := (x3 + 1)) dX12_all_122 rfl rfl (by decide) (L' := [some (.ref 68), none, some (.int (s0 ||| ((1 : Int32) <<< ((x3 : Int32) &&& 31)))), some (.int (x3 + 1)), none]) rfl ?_
    refine v_goto (tgt := 96) dX12_all_125 (by decide) ?_
    exact (q_1 c0)
theorem c_X12_all_134 {X : CX} {R : Room} {Q : Option Value → AH → Prop} {nx sz mc ms : Nat} {h : AH} {s0 : Int32} (hq : Q (some (.int s0)) h) : V X m_X12_all R (ZM X Q nx sz mc ms) (nx, sz, mc, ms) 134 [none, none, none, none, none] [.int s0] h := by
  exact v_iret dX12_all_134 rfl hq
theorem c_X12_all_137 {X : CX} {R : Room} {Q : Option Value → AH → Prop} {nx sz mc ms : Nat} {h : AH} {x2 x3 : Int32} {d : Nat} {P148 : Int32 → AH → Prop} (hA0 : 91 ≤ nx) (hR : RO R (d + 1)) (hcs : mc ≤ R.cells ∧ ms ≤ R.slots) (hq : (h.1 68 1) ≤ x3 → Q (some (.int x2)) h) (hM : ¬ (h.1 68 1) ≤ x3 → Mk X d m_X12_sumOf [.ref 68, .int x3] h nx sz (RI P148)) (q : ¬ (h.1 68 1) ≤ x3 → ∀ (y : Int32) (g : AH), P148 y g → V X m_X12_all R (ZM X Q nx sz mc ms) (nx, sz, mc, ms) 151 [some (.ref 68), none, none, some (.int x3), none] [.int y, .int x2] g) : V X m_X12_all R (ZM X Q nx sz mc ms) (nx, sz, mc, ms) 137 [some (.ref 68), none, some (.int x2), some (.int x3), none] [] h := by
  refine v_iload_n dX12_all_137 rfl ?_
  refine v_aload_n dX12_all_138 rfl ?_
  refine v_getI dX12_all_139 fl_RX12_99 kd_68 (ltA hA0 rfl) rfl ?_
  refine v_icmp_ge (tgt := 159) dX12_all_142 (by decide) (fun c0 => ?_) (fun c0 => ?_)
  · refine v_iload_n dX12_all_159 rfl ?_
    exact v_iret dX12_all_160 rfl (hq c0)
  · refine v_iload_n dX12_all_145 rfl ?_
    refine v_aload_n dX12_all_146 rfl ?_
    refine v_iload_n dX12_all_147 rfl ?_
    exact v_cVI (mt := m_X12_all) mo_X12_sumOf ml_RX12_286 mi_X12_sumOf mv_X12_sumOf rfl kd_68 cl_12 rfl (ltA hA0 rfl) hR hcs (Nat.le_of_ble_eq_true rfl) dX12_all_148 rfl (hM c0) (fun y g hp => (v_drop (lvLe_s (lvLe_n (lvLe_n (lvLe_s (lvLe_n lvLe_e))))) ((q c0) y g hp)))
theorem c_X12_all_151 {X : CX} {R : Room} {Z : ZX} {A : AX} {h : AH} {x3 s0 s1 : Int32} (q : V X m_X12_all R Z A 137 [some (.ref 68), none, some (.int (s0 + s1)), some (.int (x3 + 1)), none] [] h) : V X m_X12_all R Z A 151 [some (.ref 68), none, none, some (.int x3), none] [.int s1, .int s0] h := by
  refine v_iadd dX12_all_151 ?_
  refine v_istore_n dX12_all_152 (by decide) (L' := [some (.ref 68), none, some (.int (s0 + s1)), some (.int x3), none]) rfl ?_
  refine v_iinc (y := (x3 + 1)) dX12_all_153 rfl rfl (by decide) (L' := [some (.ref 68), none, some (.int (s0 + s1)), some (.int (x3 + 1)), none]) rfl ?_
  refine v_goto (tgt := 137) dX12_all_156 (by decide) ?_
  exact q
theorem e_X12_goesBy {X : CX} {d nx sz : Nat} {Q : Option Value → AH → Prop} {h : AH} {x1 x2 x3 x4 : Int32} (q : V X m_X12_goesBy (rm d 0 0) (ZM X Q nx sz 0 0) (nx, sz, 0, 0) 0 [some (.ref 68), some (.int x1), some (.int x2), some (.int x3), some (.int x4)] [] h) : Mk X d m_X12_goesBy [.ref 68, .int x1, .int x2, .int x3, .int x4] h nx sz Q := by
  refine Mok.ofV mo_X12_goesBy (Nat.le_of_ble_eq_true rfl) (L := [some (.ref 68), some (.int x1), some (.int x2), some (.int x3), some (.int x4)]) (lvLe_s (lvLe_s (lvLe_s (lvLe_s (lvLe_s lvLe_e))))) (v_grow (n := 0) ?_)
  exact q
theorem c_X12_goesBy_0 {X : CX} {R : Room} {Z : ZX} {A : AX} {h : AH} {x1 x2 x3 x4 : Int32} {d : Nat} {P3 : Int32 → AH → Prop} (hA0 : 91 ≤ A.1) (hR : RO R (d + 1)) (hcs : A.2.2.1 ≤ R.cells ∧ A.2.2.2 ≤ R.slots) (hM : Mk X d m_X12_farNow [.ref 68, .int x1, .int x3] h A.1 A.2.1 (RI P3)) (q : ∀ (y : Int32) (g : AH), P3 y g → V X m_X12_goesBy R Z A 6 [some (.ref 68), some (.int x1), some (.int x2), some (.int x3), some (.int x4)] [.int y] g) : V X m_X12_goesBy R Z A 0 [some (.ref 68), some (.int x1), some (.int x2), some (.int x3), some (.int x4)] [] h := by
  refine v_aload_n dX12_goesBy_0 rfl ?_
  refine v_iload_n dX12_goesBy_1 rfl ?_
  refine v_iload_n dX12_goesBy_2 rfl ?_
  exact v_cVI (mt := m_X12_goesBy) mo_X12_farNow ml_RX12_271 mi_X12_farNow mv_X12_farNow rfl kd_68 cl_12 rfl (ltA hA0 rfl) hR hcs (Nat.le_of_ble_eq_true rfl) dX12_goesBy_3 rfl hM (fun y g hp => (q y g hp))
theorem c_X12_goesBy_6 {X : CX} {R : Room} {Q : Option Value → AH → Prop} {nx sz mc ms : Nat} {h : AH} {x1 x2 x3 x4 s0 : Int32} {d : Nat} {P13 : Int32 → AH → Prop} (hA0 : 91 ≤ nx) (hR : RO R (d + 1)) (hcs : mc ≤ R.cells ∧ ms ≤ R.slots) (hq : s0 = (-1) → Q (some (.int 0)) h) (hM : ¬ s0 = (-1) → Mk X d m_X12_farNow [.ref 68, .int x1, .int x3] h nx sz (RI P13)) (q : ¬ s0 = (-1) → ∀ (y : Int32) (g : AH), P13 y g → V X m_X12_goesBy R (ZM X Q nx sz mc ms) (nx, sz, mc, ms) 16 [some (.ref 68), some (.int x1), some (.int x2), some (.int x3), some (.int x4)] [.int y] g) : V X m_X12_goesBy R (ZM X Q nx sz mc ms) (nx, sz, mc, ms) 6 [some (.ref 68), some (.int x1), some (.int x2), some (.int x3), some (.int x4)] [.int s0] h := by
  refine v_iconst dX12_goesBy_6 ci_m1 ?_
  refine v_icmp_eq (tgt := 63) dX12_goesBy_7 (by decide) (fun c0 => ?_) (fun c0 => ?_)
  · refine v_iconst dX12_goesBy_63 ci_0 ?_
    exact v_zret (ty := .boolean) dX12_goesBy_64 rfl rfl (hq c0)
  · refine v_aload_n dX12_goesBy_10 rfl ?_
    refine v_iload_n dX12_goesBy_11 rfl ?_
    refine v_iload_n dX12_goesBy_12 rfl ?_
    exact v_cVI (mt := m_X12_goesBy) mo_X12_farNow ml_RX12_271 mi_X12_farNow mv_X12_farNow rfl kd_68 cl_12 rfl (ltA hA0 rfl) hR hcs (Nat.le_of_ble_eq_true rfl) dX12_goesBy_13 rfl (hM c0) (fun y g hp => ((q c0) y g hp))
theorem c_X12_goesBy_16 {X : CX} {R : Room} {Z : ZX} {A : AX} {h : AH} {x1 x2 x3 x4 s0 : Int32} {d : Nat} {P22 : Int32 → AH → Prop} (hA0 : 91 ≤ A.1) (hR : RO R (d + 1)) (hcs : A.2.2.1 ≤ R.cells ∧ A.2.2.2 ≤ R.slots) (hM : Mk X d m_X12_farNow [.ref 68, .int x4, .int x2] h A.1 A.2.1 (RI P22)) (q : ∀ (y : Int32) (g : AH), P22 y g → V X m_X12_goesBy R Z A 25 [some (.ref 68), some (.int x1), some (.int x2), some (.int x3), some (.int x4)] [.int y, .int (s0 + 1)] g) : V X m_X12_goesBy R Z A 16 [some (.ref 68), some (.int x1), some (.int x2), some (.int x3), some (.int x4)] [.int s0] h := by
  refine v_iconst dX12_goesBy_16 ci_1 ?_
  refine v_iadd dX12_goesBy_17 ?_
  refine v_aload_n dX12_goesBy_18 rfl ?_
  refine v_iload dX12_goesBy_19 rfl ?_
  refine v_iload_n dX12_goesBy_21 rfl ?_
  exact v_cVI (mt := m_X12_goesBy) mo_X12_farNow ml_RX12_271 mi_X12_farNow mv_X12_farNow rfl kd_68 cl_12 rfl (ltA hA0 rfl) hR hcs (Nat.le_of_ble_eq_true rfl) dX12_goesBy_22 rfl hM (fun y g hp => (q y g hp))
theorem c_X12_goesBy_25 {X : CX} {R : Room} {Z : ZX} {A : AX} {h : AH} {x1 x2 x3 x4 s0 s1 : Int32} {d : Nat} {P29 : Int32 → AH → Prop} (hA0 : 91 ≤ A.1) (hR : RO R (d + 1)) (hcs : A.2.2.1 ≤ R.cells ∧ A.2.2.2 ≤ R.slots) (hM : Mk X d m_X12_farNow [.ref 68, .int x1, .int x2] h A.1 A.2.1 (RI P29)) (q : ∀ (y : Int32) (g : AH), P29 y g → V X m_X12_goesBy R Z A 32 [some (.ref 68), some (.int x1), some (.int x2), some (.int x3), some (.int x4)] [.int y, .int (s0 + s1)] g) : V X m_X12_goesBy R Z A 25 [some (.ref 68), some (.int x1), some (.int x2), some (.int x3), some (.int x4)] [.int s1, .int s0] h := by
  refine v_iadd dX12_goesBy_25 ?_
  refine v_aload_n dX12_goesBy_26 rfl ?_
  refine v_iload_n dX12_goesBy_27 rfl ?_
  refine v_iload_n dX12_goesBy_28 rfl ?_
  exact v_cVI (mt := m_X12_goesBy) mo_X12_farNow ml_RX12_271 mi_X12_farNow mv_X12_farNow rfl kd_68 cl_12 rfl (ltA hA0 rfl) hR hcs (Nat.le_of_ble_eq_true rfl) dX12_goesBy_29 rfl hM (fun y g hp => (q y g hp))
theorem c_X12_goesBy_32 {X : CX} {R : Room} {Q : Option Value → AH → Prop} {nx sz mc ms : Nat} {h : AH} {x1 x2 x3 x4 s0 s1 : Int32} {d : Nat} {P38 : Int64 → AH → Prop} (hA0 : 91 ≤ nx) (hR : RO R (d + 1)) (hcs : mc ≤ R.cells ∧ ms ≤ R.slots) (hq : ¬ s0 = s1 → Q (some (.int 0)) h) (hM : s0 = s1 → Mk X d m_X12_rowsNow [.ref 68, .int x1, .int x3] h nx sz (RJ P38)) (q : s0 = s1 → ∀ (y : Int64) (g : AH), P38 y g → V X m_X12_goesBy R (ZM X Q nx sz mc ms) (nx, sz, mc, ms) 41 [some (.ref 68), some (.int x1), some (.int x2), none, some (.int x4)] [.long y] g) : V X m_X12_goesBy R (ZM X Q nx sz mc ms) (nx, sz, mc, ms) 32 [some (.ref 68), some (.int x1), some (.int x2), some (.int x3), some (.int x4)] [.int s1, .int s0] h := by
  refine v_icmp_ne (tgt := 63) dX12_goesBy_32 (by decide) (fun c0 => ?_) (fun c0 => ?_)
  · refine v_iconst dX12_goesBy_63 ci_0 ?_
    exact v_zret (ty := .boolean) dX12_goesBy_64 rfl rfl (hq c0)
  · refine v_aload_n dX12_goesBy_35 rfl ?_
    refine v_iload_n dX12_goesBy_36 rfl ?_
    refine v_iload_n dX12_goesBy_37 rfl ?_
    exact v_cVL (mt := m_X12_goesBy) mo_X12_rowsNow ml_RX12_274 mi_X12_rowsNow mv_X12_rowsNow rfl kd_68 cl_12 rfl (ltA hA0 rfl) hR hcs (Nat.le_of_ble_eq_true rfl) dX12_goesBy_38 rfl (hM c0) (fun y g hp => (v_drop (lvLe_s (lvLe_s (lvLe_s (lvLe_n (lvLe_s lvLe_e))))) ((q c0) y g hp)))
theorem c_X12_goesBy_41 {X : CX} {R : Room} {Z : ZX} {A : AX} {h : AH} {x1 x2 x4 : Int32} {t0 : Int64} {d : Nat} {P45 : Int64 → AH → Prop} (hA0 : 91 ≤ A.1) (hR : RO R (d + 1)) (hcs : A.2.2.1 ≤ R.cells ∧ A.2.2.2 ≤ R.slots) (hM : Mk X d m_X12_rowsNow [.ref 68, .int x4, .int x2] h A.1 A.2.1 (RJ P45)) (q : ∀ (y : Int64) (g : AH), P45 y g → V X m_X12_goesBy R Z A 48 [some (.ref 68), some (.int x1), some (.int x2), none, none] [.long y, .long t0] g) : V X m_X12_goesBy R Z A 41 [some (.ref 68), some (.int x1), some (.int x2), none, some (.int x4)] [.long t0] h := by
  refine v_aload_n dX12_goesBy_41 rfl ?_
  refine v_iload dX12_goesBy_42 rfl ?_
  refine v_iload_n dX12_goesBy_44 rfl ?_
  exact v_cVL (mt := m_X12_goesBy) mo_X12_rowsNow ml_RX12_274 mi_X12_rowsNow mv_X12_rowsNow rfl kd_68 cl_12 rfl (ltA hA0 rfl) hR hcs (Nat.le_of_ble_eq_true rfl) dX12_goesBy_45 rfl hM (fun y g hp => (v_drop (lvLe_s (lvLe_s (lvLe_s (lvLe_n (lvLe_n lvLe_e))))) (q y g hp)))
theorem c_X12_goesBy_48 {X : CX} {R : Room} {Z : ZX} {A : AX} {h : AH} {x1 x2 : Int32} {t0 t1 : Int64} {d : Nat} {P52 : Int64 → AH → Prop} (hA0 : 91 ≤ A.1) (hR : RO R (d + 1)) (hcs : A.2.2.1 ≤ R.cells ∧ A.2.2.2 ≤ R.slots) (hM : Mk X d m_X12_rowsNow [.ref 68, .int x1, .int x2] h A.1 A.2.1 (RJ P52)) (q : ∀ (y : Int64) (g : AH), P52 y g → V X m_X12_goesBy R Z A 55 [none, none, none, none, none] [.long y, .long (t0 * t1)] g) : V X m_X12_goesBy R Z A 48 [some (.ref 68), some (.int x1), some (.int x2), none, none] [.long t1, .long t0] h := by
  refine v_lmul dX12_goesBy_48 ?_
  refine v_aload_n dX12_goesBy_49 rfl ?_
  refine v_iload_n dX12_goesBy_50 rfl ?_
  refine v_iload_n dX12_goesBy_51 rfl ?_
  exact v_cVL (mt := m_X12_goesBy) mo_X12_rowsNow ml_RX12_274 mi_X12_rowsNow mv_X12_rowsNow rfl kd_68 cl_12 rfl (ltA hA0 rfl) hR hcs (Nat.le_of_ble_eq_true rfl) dX12_goesBy_52 rfl hM (fun y g hp => (v_drop (lvLe_n (lvLe_n (lvLe_n (lvLe_n (lvLe_n lvLe_e))))) (q y g hp)))
theorem c_X12_goesBy_55 {X : CX} {R : Room} {Q : Option Value → AH → Prop} {nx sz mc ms : Nat} {h : AH} {t0 t1 : Int64} (hq : ¬ (lg_cmp t0 t1) = 0 → Q (some (.int 0)) h) (hq_1 : (lg_cmp t0 t1) = 0 → Q (some (.int 1)) h) : V X m_X12_goesBy R (ZM X Q nx sz mc ms) (nx, sz, mc, ms) 55 [none, none, none, none, none] [.long t1, .long t0] h := by
  refine v_lcmp dX12_goesBy_55 ?_
  refine v_if_ne (tgt := 63) dX12_goesBy_56 (by decide) (fun c0 => ?_) (fun c0 => ?_)
  · refine v_iconst dX12_goesBy_63 ci_0 ?_
    exact v_zret (ty := .boolean) dX12_goesBy_64 rfl rfl (hq c0)
  · refine v_iconst dX12_goesBy_59 ci_1 ?_
    refine v_goto (tgt := 64) dX12_goesBy_60 (by decide) ?_
    exact v_zret (ty := .boolean) dX12_goesBy_64 rfl rfl (hq_1 c0)
theorem e_X12_load {X : CX} {d nx sz : Nat} {Q : Option Value → AH → Prop} {h : AH} {x1 x2 : Int32} (q : V X m_X12_load (rm d 0 0) (ZM X Q nx sz 0 0) (nx, sz, 0, 0) 0 [some (.ref 68), some (.int x1), some (.int x2), none, none, none] [] h) : Mk X d m_X12_load [.ref 68, .int x1, .int x2] h nx sz Q := by
  refine Mok.ofV mo_X12_load (Nat.le_of_ble_eq_true rfl) (L := [some (.ref 68), some (.int x1), some (.int x2)]) (lvLe_s (lvLe_s (lvLe_s lvLe_e))) (v_grow (n := 3) ?_)
  exact q
theorem c_X12_load_0 {X : CX} {R : Room} {Z : ZX} {A : AX} {h : AH} {x1 x2 : Int32} {d : Nat} {P8 : Int32 → AH → Prop} (hA0 : 91 ≤ A.1) (hR : RO R (d + 1)) (hcs : A.2.2.1 ≤ R.cells ∧ A.2.2.2 ≤ R.slots) (hM : Mk X d m_X12_areTwo [.ref 68, .int x1, .int x2] (setI h 68 0 0) A.1 A.2.1 (RI P8)) (q : ∀ (y : Int32) (g : AH), P8 y g → V X m_X12_load R Z A 11 [some (.ref 68), some (.int x1), some (.int x2), none, none, none] [.int y] g) : V X m_X12_load R Z A 0 [some (.ref 68), some (.int x1), some (.int x2), none, none, none] [] h := by
  refine v_aload_n dX12_load_0 rfl ?_
  refine v_iconst dX12_load_1 ci_0 ?_
  refine v_putI rfl rfl rfl dX12_load_2 fl_RX12_103 (Or.inl rfl) kd_68 (ltA hA0 rfl) ?_
  refine v_aload_n dX12_load_5 rfl ?_
  refine v_iload_n dX12_load_6 rfl ?_
  refine v_iload_n dX12_load_7 rfl ?_
  exact v_cVI (mt := m_X12_load) mo_X12_areTwo ml_RX12_256 mi_X12_areTwo mv_X12_areTwo rfl kd_68 cl_12 rfl (ltA hA0 rfl) hR hcs (Nat.le_of_ble_eq_true rfl) dX12_load_8 rfl hM (fun y g hp => (q y g hp))
theorem c_X12_load_11 {X : CX} {R : Room} {Q : Option Value → AH → Prop} {nx sz mc ms : Nat} {h : AH} {x1 x2 s0 : Int32} {d : Nat} {P21 : Int32 → AH → Prop} (hA0 : 91 ≤ nx) (hF : Fx h) (hR : RO R (d + 1)) (hcs : mc ≤ R.cells ∧ ms ≤ R.slots) (hq : s0 = 0 → Q (some (.int (-1))) h) (hi_19 : ¬ s0 = 0 → vp_in x1 20) (hM : ¬ s0 = 0 → Mk X d m_X12_has [.int (h.1 73 x1.toNatClampNeg), .int x2] h nx sz (RI P21)) (q : ¬ s0 = 0 → ∀ (y : Int32) (g : AH), P21 y g → V X m_X12_load R (ZM X Q nx sz mc ms) (nx, sz, mc, ms) 24 [some (.ref 68), some (.int x1), some (.int x2), none, none, none] [.int y] g) : V X m_X12_load R (ZM X Q nx sz mc ms) (nx, sz, mc, ms) 11 [some (.ref 68), some (.int x1), some (.int x2), none, none, none] [.int s0] h := by
  refine v_if_eq (tgt := 27) dX12_load_11 (by decide) (fun c0 => ?_) (fun c0 => ?_)
  · refine v_iconst dX12_load_27 ci_m1 ?_
    exact v_iret dX12_load_28 rfl (hq c0)
  · refine v_aload_n dX12_load_14 rfl ?_
    refine v_getR dX12_load_15 fl_RX12_37 kd_68 (ltA hA0 rfl) rfl (hF 68 19 73 rfl) ?_
    refine v_iload_n dX12_load_18 rfl ?_
    refine v_iald dX12_load_19 kd_73 (ltA hA0 rfl) (hi_19 c0) ?_
    refine v_iload_n dX12_load_20 rfl ?_
    exact v_cSI (mt := m_X12_load) mo_X12_has ml_RX12_220 mz_X12_has rfl hR hcs (Nat.le_of_ble_eq_true rfl) dX12_load_21 rfl (hM c0) (fun y g hp => ((q c0) y g hp))
theorem c_X12_load_24 {X : CX} {R : Room} {Q : Option Value → AH → Prop} {nx sz mc ms : Nat} {h : AH} {x1 x2 s0 : Int32} {d : Nat} {P30 : AH → Prop} (hA0 : 91 ≤ nx) (hR : RO R (d + 1)) (hcs : mc ≤ R.cells ∧ ms ≤ R.slots) (hM : ¬ s0 = 0 → Mk X d m_X12_layAll [.ref 68] h nx sz (RV P30)) (q : ¬ s0 = 0 → ∀ (g : AH), P30 g → V X m_X12_load R (ZM X Q nx sz mc ms) (nx, sz, mc, ms) 33 [some (.ref 68), some (.int x1), some (.int x2), none, none, none] [] g) (hq : s0 = 0 → Q (some (.int (-1))) h) : V X m_X12_load R (ZM X Q nx sz mc ms) (nx, sz, mc, ms) 24 [some (.ref 68), some (.int x1), some (.int x2), none, none, none] [.int s0] h := by
  refine v_if_ne (tgt := 29) dX12_load_24 (by decide) (fun c0 => ?_) (fun c0 => ?_)
  · refine v_aload_n dX12_load_29 rfl ?_
    exact v_cVV (mt := m_X12_load) mo_X12_layAll ml_RX12_295 mi_X12_layAll mv_X12_layAll rfl kd_68 cl_12 rfl (ltA hA0 rfl) hR hcs (Nat.le_of_ble_eq_true rfl) dX12_load_30 rfl (hM c0) (fun g hp => ((q c0) g hp))
  · refine v_iconst dX12_load_27 ci_m1 ?_
    exact v_iret dX12_load_28 rfl (hq c0)
theorem c_X12_load_33 {X : CX} {R : Room} {Z : ZX} {A : AX} {h : AH} {x1 x2 : Int32} (q : V X m_X12_load R Z A 38 [some (.ref 68), some (.int x1), some (.int x2), some (.int 0), some (.int 0), none] [] h) : V X m_X12_load R Z A 33 [some (.ref 68), some (.int x1), some (.int x2), none, none, none] [] h := by
  refine v_iconst dX12_load_33 ci_0 ?_
  refine v_istore_n dX12_load_34 (by decide) (L' := [some (.ref 68), some (.int x1), some (.int x2), some (.int 0), none, none]) rfl ?_
  refine v_iconst dX12_load_35 ci_0 ?_
  refine v_istore dX12_load_36 (by decide) (L' := [some (.ref 68), some (.int x1), some (.int x2), some (.int 0), some (.int 0), none]) rfl ?_
  exact q
theorem c_X12_load_38 {X : CX} {R : Room} {Q : Option Value → AH → Prop} {nx sz mc ms : Nat} {h : AH} {x1 x2 x3 x4 : Int32} (hA0 : 91 ≤ nx) (hq : (h.1 68 1) ≤ x4 → Q (some (.int x3)) h) (q : ¬ (h.1 68 1) ≤ x4 → V X m_X12_load R (ZM X Q nx sz mc ms) (nx, sz, mc, ms) 50 [some (.ref 68), some (.int x1), some (.int x2), some (.int x3), some (.int x4), some (.int 0)] [] h) : V X m_X12_load R (ZM X Q nx sz mc ms) (nx, sz, mc, ms) 38 [some (.ref 68), some (.int x1), some (.int x2), some (.int x3), some (.int x4), none] [] h := by
  refine v_iload dX12_load_38 rfl ?_
  refine v_aload_n dX12_load_40 rfl ?_
  refine v_getI dX12_load_41 fl_RX12_99 kd_68 (ltA hA0 rfl) rfl ?_
  refine v_icmp_ge (tgt := 115) dX12_load_44 (by decide) (fun c0 => ?_) (fun c0 => ?_)
  · refine v_iload_n dX12_load_115 rfl ?_
    exact v_iret dX12_load_116 rfl (hq c0)
  · refine v_iconst dX12_load_47 ci_0 ?_
    refine v_istore dX12_load_48 (by decide) (L' := [some (.ref 68), some (.int x1), some (.int x2), some (.int x3), some (.int x4), some (.int 0)]) rfl ?_
    exact (q c0)
theorem c_X12_load_50 {X : CX} {R : Room} {Z : ZX} {A : AX} {h : AH} {x1 x2 x3 x4 x5 : Int32} {d : Nat} {P63 : Int32 → AH → Prop} (hA0 : 91 ≤ A.1) (hR : RO R (d + 1)) (hcs : A.2.2.1 ≤ R.cells ∧ A.2.2.2 ≤ R.slots) (q : x4 ≤ x5 → V X m_X12_load R Z A 38 [some (.ref 68), some (.int x1), some (.int x2), some (.int x3), some (.int (x4 + 1)), none] [] h) (hM : ¬ x4 ≤ x5 → Mk X d m_X12_farNow [.ref 68, .int x4, .int x5] h A.1 A.2.1 (RI P63)) (q_1 : ¬ x4 ≤ x5 → ∀ (y : Int32) (g : AH), P63 y g → V X m_X12_load R Z A 66 [some (.ref 68), some (.int x1), some (.int x2), none, some (.int x4), some (.int x5)] [.int y, .int x3] g) : V X m_X12_load R Z A 50 [some (.ref 68), some (.int x1), some (.int x2), some (.int x3), some (.int x4), some (.int x5)] [] h := by
  refine v_iload dX12_load_50 rfl ?_
  refine v_iload dX12_load_52 rfl ?_
  refine v_icmp_ge (tgt := 109) dX12_load_54 (by decide) (fun c0 => ?_) (fun c0 => ?_)
  · refine v_iinc (y := (x4 + 1)) dX12_load_109 rfl rfl (by decide) (L' := [some (.ref 68), some (.int x1), some (.int x2), some (.int x3), some (.int (x4 + 1)), some (.int x5)]) rfl ?_
    refine v_goto (tgt := 38) dX12_load_112 (by decide) ?_
    exact (v_drop (lvLe_s (lvLe_s (lvLe_s (lvLe_s (lvLe_s (lvLe_n lvLe_e)))))) (q c0))
  · refine v_iload_n dX12_load_57 rfl ?_
    refine v_aload_n dX12_load_58 rfl ?_
    refine v_iload dX12_load_59 rfl ?_
    refine v_iload dX12_load_61 rfl ?_
    exact v_cVI (mt := m_X12_load) mo_X12_farNow ml_RX12_271 mi_X12_farNow mv_X12_farNow rfl kd_68 cl_12 rfl (ltA hA0 rfl) hR hcs (Nat.le_of_ble_eq_true rfl) dX12_load_63 rfl (hM c0) (fun y g hp => (v_drop (lvLe_s (lvLe_s (lvLe_s (lvLe_n (lvLe_s (lvLe_s lvLe_e)))))) ((q_1 c0) y g hp)))
theorem c_X12_load_66 {X : CX} {R : Room} {Z : ZX} {A : AX} {h : AH} {x1 x2 x4 x5 s0 s1 : Int32} {d : Nat} {P77 : Int32 → AH → Prop} (hA0 : 91 ≤ A.1) (hR : RO R (d + 1)) (hcs : A.2.2.1 ≤ R.cells ∧ A.2.2.2 ≤ R.slots) (q : s1 = (-1) → V X m_X12_load R Z A 50 [some (.ref 68), some (.int x1), some (.int x2), some (.int (s0 + 0)), some (.int x4), some (.int (x5 + 1))] [] h) (hM : ¬ s1 = (-1) → Mk X d m_X12_goesBy [.ref 68, .int x4, .int x5, .int x1, .int x2] h A.1 A.2.1 (RI P77)) (q_1 : ¬ s1 = (-1) → ∀ (y : Int32) (g : AH), P77 y g → V X m_X12_load R Z A 80 [some (.ref 68), some (.int x1), some (.int x2), none, some (.int x4), some (.int x5)] [.int y, .int s0] g) : V X m_X12_load R Z A 66 [some (.ref 68), some (.int x1), some (.int x2), none, some (.int x4), some (.int x5)] [.int s1, .int s0] h := by
  refine v_iconst dX12_load_66 ci_m1 ?_
  refine v_icmp_eq (tgt := 100) dX12_load_67 (by decide) (fun c0 => ?_) (fun c0 => ?_)
  · refine v_iconst dX12_load_100 ci_0 ?_
    refine v_iadd dX12_load_101 ?_
    refine v_istore_n dX12_load_102 (by decide) (L' := [some (.ref 68), some (.int x1), some (.int x2), some (.int (s0 + 0)), some (.int x4), some (.int x5)]) rfl ?_
    refine v_iinc (y := (x5 + 1)) dX12_load_103 rfl rfl (by decide) (L' := [some (.ref 68), some (.int x1), some (.int x2), some (.int (s0 + 0)), some (.int x4), some (.int (x5 + 1))]) rfl ?_
    refine v_goto (tgt := 50) dX12_load_106 (by decide) ?_
    exact (q c0)
  · refine v_aload_n dX12_load_70 rfl ?_
    refine v_iload dX12_load_71 rfl ?_
    refine v_iload dX12_load_73 rfl ?_
    refine v_iload_n dX12_load_75 rfl ?_
    refine v_iload_n dX12_load_76 rfl ?_
    exact v_cVI (mt := m_X12_load) mo_X12_goesBy ml_RX12_298 mi_X12_goesBy mv_X12_goesBy rfl kd_68 cl_12 rfl (ltA hA0 rfl) hR hcs (Nat.le_of_ble_eq_true rfl) dX12_load_77 rfl (hM c0) (fun y g hp => ((q_1 c0) y g hp))
theorem c_X12_load_80 {X : CX} {R : Room} {Z : ZX} {A : AX} {h : AH} {x1 x2 x4 x5 s0 s1 : Int32} {d : Nat} {P90 : Int32 → AH → Prop} (hA0 : 91 ≤ A.1) (hR : RO R (d + 1)) (hcs : A.2.2.1 ≤ R.cells ∧ A.2.2.2 ≤ R.slots) (q : ¬ s1 = 0 → V X m_X12_load R Z A 50 [some (.ref 68), some (.int x1), some (.int x2), some (.int (s0 + 1)), some (.int x4), some (.int (x5 + 1))] [] h) (hM : s1 = 0 → Mk X d m_X12_goesBy [.ref 68, .int x4, .int x5, .int x2, .int x1] h A.1 A.2.1 (RI P90)) (q_1 : s1 = 0 → ∀ (y : Int32) (g : AH), P90 y g → V X m_X12_load R Z A 93 [some (.ref 68), some (.int x1), some (.int x2), none, some (.int x4), some (.int x5)] [.int y, .int s0] g) : V X m_X12_load R Z A 80 [some (.ref 68), some (.int x1), some (.int x2), none, some (.int x4), some (.int x5)] [.int s1, .int s0] h := by
  refine v_if_ne (tgt := 96) dX12_load_80 (by decide) (fun c0 => ?_) (fun c0 => ?_)
  · refine v_iconst dX12_load_96 ci_1 ?_
    refine v_goto (tgt := 101) dX12_load_97 (by decide) ?_
    refine v_iadd dX12_load_101 ?_
    refine v_istore_n dX12_load_102 (by decide) (L' := [some (.ref 68), some (.int x1), some (.int x2), some (.int (s0 + 1)), some (.int x4), some (.int x5)]) rfl ?_
    refine v_iinc (y := (x5 + 1)) dX12_load_103 rfl rfl (by decide) (L' := [some (.ref 68), some (.int x1), some (.int x2), some (.int (s0 + 1)), some (.int x4), some (.int (x5 + 1))]) rfl ?_
    refine v_goto (tgt := 50) dX12_load_106 (by decide) ?_
    exact (q c0)
  · refine v_aload_n dX12_load_83 rfl ?_
    refine v_iload dX12_load_84 rfl ?_
    refine v_iload dX12_load_86 rfl ?_
    refine v_iload_n dX12_load_88 rfl ?_
    refine v_iload_n dX12_load_89 rfl ?_
    exact v_cVI (mt := m_X12_load) mo_X12_goesBy ml_RX12_298 mi_X12_goesBy mv_X12_goesBy rfl kd_68 cl_12 rfl (ltA hA0 rfl) hR hcs (Nat.le_of_ble_eq_true rfl) dX12_load_90 rfl (hM c0) (fun y g hp => ((q_1 c0) y g hp))
theorem c_X12_load_93 {X : CX} {R : Room} {Z : ZX} {A : AX} {h : AH} {x1 x2 x4 x5 s0 s1 : Int32} (q : s1 = 0 → V X m_X12_load R Z A 50 [some (.ref 68), some (.int x1), some (.int x2), some (.int (s0 + 0)), some (.int x4), some (.int (x5 + 1))] [] h) (q_1 : ¬ s1 = 0 → V X m_X12_load R Z A 50 [some (.ref 68), some (.int x1), some (.int x2), some (.int (s0 + 1)), some (.int x4), some (.int (x5 + 1))] [] h) : V X m_X12_load R Z A 93 [some (.ref 68), some (.int x1), some (.int x2), none, some (.int x4), some (.int x5)] [.int s1, .int s0] h := by
  refine v_if_eq (tgt := 100) dX12_load_93 (by decide) (fun c0 => ?_) (fun c0 => ?_)
  · refine v_iconst dX12_load_100 ci_0 ?_
    refine v_iadd dX12_load_101 ?_
    refine v_istore_n dX12_load_102 (by decide) (L' := [some (.ref 68), some (.int x1), some (.int x2), some (.int (s0 + 0)), some (.int x4), some (.int x5)]) rfl ?_
    refine v_iinc (y := (x5 + 1)) dX12_load_103 rfl rfl (by decide) (L' := [some (.ref 68), some (.int x1), some (.int x2), some (.int (s0 + 0)), some (.int x4), some (.int (x5 + 1))]) rfl ?_
    refine v_goto (tgt := 50) dX12_load_106 (by decide) ?_
    exact (q c0)
  · refine v_iconst dX12_load_96 ci_1 ?_
    refine v_goto (tgt := 101) dX12_load_97 (by decide) ?_
    refine v_iadd dX12_load_101 ?_
    refine v_istore_n dX12_load_102 (by decide) (L' := [some (.ref 68), some (.int x1), some (.int x2), some (.int (s0 + 1)), some (.int x4), some (.int x5)]) rfl ?_
    refine v_iinc (y := (x5 + 1)) dX12_load_103 rfl rfl (by decide) (L' := [some (.ref 68), some (.int x1), some (.int x2), some (.int (s0 + 1)), some (.int x4), some (.int (x5 + 1))]) rfl ?_
    refine v_goto (tgt := 50) dX12_load_106 (by decide) ?_
    exact (q_1 c0)
theorem e_X12_openAll {X : CX} {d nx sz : Nat} {Q : Option Value → AH → Prop} {h : AH} (q : V X m_X12_openAll (rm d 0 0) (ZM X Q nx sz 0 0) (nx, sz, 0, 0) 0 [some (.ref 68), none, none] [] h) : Mk X d m_X12_openAll [.ref 68] h nx sz Q := by
  refine Mok.ofV mo_X12_openAll (Nat.le_of_ble_eq_true rfl) (L := [some (.ref 68)]) (lvLe_s lvLe_e) (v_grow (n := 2) ?_)
  exact q
theorem c_X12_openAll_0 {X : CX} {R : Room} {Z : ZX} {A : AX} {h : AH} (q : V X m_X12_openAll R Z A 2 [some (.ref 68), some (.int 0), none] [] h) : V X m_X12_openAll R Z A 0 [some (.ref 68), none, none] [] h := by
  refine v_iconst dX12_openAll_0 ci_0 ?_
  refine v_istore_n dX12_openAll_1 (by decide) (L' := [some (.ref 68), some (.int 0), none]) rfl ?_
  exact q
theorem c_X12_openAll_2 {X : CX} {R : Room} {Z : ZX} {A : AX} {h : AH} {x1 : Int32} (hA0 : 91 ≤ A.1) (hF : Fx h) (q : 1600 ≤ x1 → V X m_X12_openAll R Z A 24 [some (.ref 68), some (.int 0), none] [] h) (hi_15 : ¬ 1600 ≤ x1 → vp_in x1 1600) (q_1 : ¬ 1600 ≤ x1 → V X m_X12_openAll R Z A 2 [some (.ref 68), some (.int (x1 + 1)), none] [] (setI h 80 x1.toNatClampNeg 0)) : V X m_X12_openAll R Z A 2 [some (.ref 68), some (.int x1), none] [] h := by
  refine v_iload_n dX12_openAll_2 rfl ?_
  refine v_sipush dX12_openAll_3 cs_1600 ?_
  refine v_icmp_ge (tgt := 22) dX12_openAll_6 (by decide) (fun c0 => ?_) (fun c0 => ?_)
  · refine v_iconst dX12_openAll_22 ci_0 ?_
    refine v_istore_n dX12_openAll_23 (by decide) (L' := [some (.ref 68), some (.int 0), none]) rfl ?_
    exact (q c0)
  · refine v_aload_n dX12_openAll_9 rfl ?_
    refine v_getR dX12_openAll_10 fl_RX12_59 kd_68 (ltA hA0 rfl) rfl (hF 68 26 80 rfl) ?_
    refine v_iload_n dX12_openAll_13 rfl ?_
    refine v_iconst dX12_openAll_14 ci_0 ?_
    refine v_zast dX12_openAll_15 kd_80 (ltA hA0 rfl) (hi_15 c0) rfl ?_
    refine v_iinc (y := (x1 + 1)) dX12_openAll_16 rfl rfl (by decide) (L' := [some (.ref 68), some (.int (x1 + 1)), none]) rfl ?_
    refine v_goto (tgt := 2) dX12_openAll_19 (by decide) ?_
    exact (q_1 c0)
theorem c_X12_openAll_24 {X : CX} {R : Room} {Q : Option Value → AH → Prop} {nx sz mc ms : Nat} {h : AH} {x1 : Int32} (hA0 : 91 ≤ nx) (hF : Fx h) (hq : (h.1 68 1) ≤ x1 → Q none h) (hi_47 : ¬ (h.1 68 1) ≤ x1 → vp_in (((80 * x1) + (2 * x1)) + 1) 1600) (q : ¬ (h.1 68 1) ≤ x1 → V X m_X12_openAll R (ZM X Q nx sz mc ms) (nx, sz, mc, ms) 50 [some (.ref 68), some (.int x1), some (.int 0)] [] (setI h 80 (((80 * x1) + (2 * x1)) + 1).toNatClampNeg 1)) : V X m_X12_openAll R (ZM X Q nx sz mc ms) (nx, sz, mc, ms) 24 [some (.ref 68), some (.int x1), none] [] h := by
  refine v_iload_n dX12_openAll_24 rfl ?_
  refine v_aload_n dX12_openAll_25 rfl ?_
  refine v_getI dX12_openAll_26 fl_RX12_99 kd_68 (ltA hA0 rfl) rfl ?_
  refine v_icmp_ge (tgt := 101) dX12_openAll_29 (by decide) (fun c0 => ?_) (fun c0 => ?_)
  · exact v_vret dX12_openAll_101 rfl (hq c0)
  · refine v_aload_n dX12_openAll_32 rfl ?_
    refine v_getR dX12_openAll_33 fl_RX12_59 kd_68 (ltA hA0 rfl) rfl (hF 68 26 80 rfl) ?_
    refine v_bipush dX12_openAll_36 cb_80 ?_
    refine v_iload_n dX12_openAll_38 rfl ?_
    refine v_imul dX12_openAll_39 ?_
    refine v_iconst dX12_openAll_40 ci_2 ?_
    refine v_iload_n dX12_openAll_41 rfl ?_
    refine v_imul dX12_openAll_42 ?_
    refine v_iadd dX12_openAll_43 ?_
    refine v_iconst dX12_openAll_44 ci_1 ?_
    refine v_iadd dX12_openAll_45 ?_
    refine v_iconst dX12_openAll_46 ci_1 ?_
    refine v_zast dX12_openAll_47 kd_80 (ltA hA0 rfl) (hi_47 c0) rfl ?_
    refine v_iconst dX12_openAll_48 ci_0 ?_
    refine v_istore_n dX12_openAll_49 (by decide) (L' := [some (.ref 68), some (.int x1), some (.int 0)]) rfl ?_
    exact (q c0)
theorem c_X12_openAll_50 {X : CX} {R : Room} {Z : ZX} {A : AX} {h : AH} {x1 x2 : Int32} {d : Nat} {P65 : Int32 → AH → Prop} (hA0 : 91 ≤ A.1) (hF : Fx h) (hR : RO R (d + 1)) (hcs : A.2.2.1 ≤ R.cells ∧ A.2.2.2 ≤ R.slots) (q : (h.1 68 1) ≤ x2 → V X m_X12_openAll R Z A 24 [some (.ref 68), some (.int (x1 + 1)), none] [] h) (hi_63 : ¬ (h.1 68 1) ≤ x2 → vp_in x1 20) (hM : ¬ (h.1 68 1) ≤ x2 → Mk X d m_X12_has [.int (h.1 73 x1.toNatClampNeg), .int x2] h A.1 A.2.1 (RI P65)) (q_1 : ¬ (h.1 68 1) ≤ x2 → ∀ (y : Int32) (g : AH), P65 y g → V X m_X12_openAll R Z A 68 [some (.ref 68), some (.int x1), some (.int x2)] [.int y] g) : V X m_X12_openAll R Z A 50 [some (.ref 68), some (.int x1), some (.int x2)] [] h := by
  refine v_iload_n dX12_openAll_50 rfl ?_
  refine v_aload_n dX12_openAll_51 rfl ?_
  refine v_getI dX12_openAll_52 fl_RX12_99 kd_68 (ltA hA0 rfl) rfl ?_
  refine v_icmp_ge (tgt := 95) dX12_openAll_55 (by decide) (fun c0 => ?_) (fun c0 => ?_)
  · refine v_iinc (y := (x1 + 1)) dX12_openAll_95 rfl rfl (by decide) (L' := [some (.ref 68), some (.int (x1 + 1)), some (.int x2)]) rfl ?_
    refine v_goto (tgt := 24) dX12_openAll_98 (by decide) ?_
    exact (v_drop (lvLe_s (lvLe_s (lvLe_n lvLe_e))) (q c0))
  · refine v_aload_n dX12_openAll_58 rfl ?_
    refine v_getR dX12_openAll_59 fl_RX12_37 kd_68 (ltA hA0 rfl) rfl (hF 68 19 73 rfl) ?_
    refine v_iload_n dX12_openAll_62 rfl ?_
    refine v_iald dX12_openAll_63 kd_73 (ltA hA0 rfl) (hi_63 c0) ?_
    refine v_iload_n dX12_openAll_64 rfl ?_
    exact v_cSI (mt := m_X12_openAll) mo_X12_has ml_RX12_220 mz_X12_has rfl hR hcs (Nat.le_of_ble_eq_true rfl) dX12_openAll_65 rfl (hM c0) (fun y g hp => ((q_1 c0) y g hp))
theorem c_X12_openAll_68 {X : CX} {R : Room} {Z : ZX} {A : AX} {h : AH} {x1 x2 s0 : Int32} (hA0 : 91 ≤ A.1) (hF : Fx h) (q : s0 = 0 → V X m_X12_openAll R Z A 50 [some (.ref 68), some (.int x1), some (.int (x2 + 1))] [] h) (hi_88 : ¬ s0 = 0 → vp_in ((40 * ((2 * x1) + 1)) + (2 * x2)) 1600) (q_1 : ¬ s0 = 0 → V X m_X12_openAll R Z A 50 [some (.ref 68), some (.int x1), some (.int (x2 + 1))] [] (setI h 80 ((40 * ((2 * x1) + 1)) + (2 * x2)).toNatClampNeg 1)) : V X m_X12_openAll R Z A 68 [some (.ref 68), some (.int x1), some (.int x2)] [.int s0] h := by
  refine v_if_eq (tgt := 89) dX12_openAll_68 (by decide) (fun c0 => ?_) (fun c0 => ?_)
  · refine v_iinc (y := (x2 + 1)) dX12_openAll_89 rfl rfl (by decide) (L' := [some (.ref 68), some (.int x1), some (.int (x2 + 1))]) rfl ?_
    refine v_goto (tgt := 50) dX12_openAll_92 (by decide) ?_
    exact (q c0)
  · refine v_aload_n dX12_openAll_71 rfl ?_
    refine v_getR dX12_openAll_72 fl_RX12_59 kd_68 (ltA hA0 rfl) rfl (hF 68 26 80 rfl) ?_
    refine v_bipush dX12_openAll_75 cb_40 ?_
    refine v_iconst dX12_openAll_77 ci_2 ?_
    refine v_iload_n dX12_openAll_78 rfl ?_
    refine v_imul dX12_openAll_79 ?_
    refine v_iconst dX12_openAll_80 ci_1 ?_
    refine v_iadd dX12_openAll_81 ?_
    refine v_imul dX12_openAll_82 ?_
    refine v_iconst dX12_openAll_83 ci_2 ?_
    refine v_iload_n dX12_openAll_84 rfl ?_
    refine v_imul dX12_openAll_85 ?_
    refine v_iadd dX12_openAll_86 ?_
    refine v_iconst dX12_openAll_87 ci_1 ?_
    refine v_zast dX12_openAll_88 kd_80 (ltA hA0 rfl) (hi_88 c0) rfl ?_
    refine v_iinc (y := (x2 + 1)) dX12_openAll_89 rfl rfl (by decide) (L' := [some (.ref 68), some (.int x1), some (.int (x2 + 1))]) rfl ?_
    refine v_goto (tgt := 50) dX12_openAll_92 (by decide) ?_
    exact (q_1 c0)
theorem e_X12_oneMore {X : CX} {d nx sz : Nat} {Q : Option Value → AH → Prop} {h : AH} {x1 x2 : Int32} (q : V X m_X12_oneMore (rm d 0 0) (ZM X Q nx sz 0 0) (nx, sz, 0, 0) 0 [some (.ref 68), some (.int x1), some (.int x2), none, none, none] [] h) : Mk X d m_X12_oneMore [.ref 68, .int x1, .int x2] h nx sz Q := by
  refine Mok.ofV mo_X12_oneMore (Nat.le_of_ble_eq_true rfl) (L := [some (.ref 68), some (.int x1), some (.int x2)]) (lvLe_s (lvLe_s (lvLe_s lvLe_e))) (v_grow (n := 3) ?_)
  exact q
theorem c_X12_oneMore_0 {X : CX} {R : Room} {Z : ZX} {A : AX} {h : AH} {x1 x2 : Int32} (q : V X m_X12_oneMore R Z A 2 [some (.ref 68), some (.int x1), some (.int x2), some (.int 0), none, none] [] h) : V X m_X12_oneMore R Z A 0 [some (.ref 68), some (.int x1), some (.int x2), none, none, none] [] h := by
  refine v_iconst dX12_oneMore_0 ci_0 ?_
  refine v_istore_n dX12_oneMore_1 (by decide) (L' := [some (.ref 68), some (.int x1), some (.int x2), some (.int 0), none, none]) rfl ?_
  exact q
theorem c_X12_oneMore_2 {X : CX} {R : Room} {Z : ZX} {A : AX} {h : AH} {x1 x2 x3 : Int32} (hA0 : 91 ≤ A.1) (hF : Fx h) (hi_27 : 40 ≤ x3 → vp_in x1 40) (q : 40 ≤ x3 → V X m_X12_oneMore R Z A 40 [some (.ref 68), some (.int x1), some (.int x2), some (.int 1), some (.int 0), none] [] (setI (setI h 81 x1.toNatClampNeg x1) 82 0 x1)) (hi_14 : ¬ 40 ≤ x3 → vp_in x3 40) (q_1 : ¬ 40 ≤ x3 → V X m_X12_oneMore R Z A 2 [some (.ref 68), some (.int x1), some (.int x2), some (.int (x3 + 1)), none, none] [] (setI h 81 x3.toNatClampNeg (-1))) : V X m_X12_oneMore R Z A 2 [some (.ref 68), some (.int x1), some (.int x2), some (.int x3), none, none] [] h := by
  refine v_iload_n dX12_oneMore_2 rfl ?_
  refine v_bipush dX12_oneMore_3 cb_40 ?_
  refine v_icmp_ge (tgt := 21) dX12_oneMore_5 (by decide) (fun c0 => ?_) (fun c0 => ?_)
  · refine v_aload_n dX12_oneMore_21 rfl ?_
    refine v_getR dX12_oneMore_22 fl_RX12_63 kd_68 (ltA hA0 rfl) rfl (hF 68 27 81 rfl) ?_
    refine v_iload_n dX12_oneMore_25 rfl ?_
    refine v_iload_n dX12_oneMore_26 rfl ?_
    refine v_iast dX12_oneMore_27 kd_81 (ltA hA0 rfl) (hi_27 c0) ?_
    refine v_aload_n dX12_oneMore_28 rfl ?_
    refine v_getR dX12_oneMore_29 fl_RX12_66 kd_68 (ltA hA0 rfl) rfl (hF 68 28 82 rfl) ?_
    refine v_iconst dX12_oneMore_32 ci_0 ?_
    refine v_iload_n dX12_oneMore_33 rfl ?_
    refine v_iast dX12_oneMore_34 kd_82 (ltA hA0 rfl) (vp_lit (by decide)) ?_
    refine v_iconst dX12_oneMore_35 ci_1 ?_
    refine v_istore_n dX12_oneMore_36 (by decide) (L' := [some (.ref 68), some (.int x1), some (.int x2), some (.int 1), none, none]) rfl ?_
    refine v_iconst dX12_oneMore_37 ci_0 ?_
    refine v_istore dX12_oneMore_38 (by decide) (L' := [some (.ref 68), some (.int x1), some (.int x2), some (.int 1), some (.int 0), none]) rfl ?_
    exact (q c0)
  · refine v_aload_n dX12_oneMore_8 rfl ?_
    refine v_getR dX12_oneMore_9 fl_RX12_63 kd_68 (ltA hA0 rfl) rfl (hF 68 27 81 rfl) ?_
    refine v_iload_n dX12_oneMore_12 rfl ?_
    refine v_iconst dX12_oneMore_13 ci_m1 ?_
    refine v_iast dX12_oneMore_14 kd_81 (ltA hA0 rfl) (hi_14 c0) ?_
    refine v_iinc (y := (x3 + 1)) dX12_oneMore_15 rfl rfl (by decide) (L' := [some (.ref 68), some (.int x1), some (.int x2), some (.int (x3 + 1)), none, none]) rfl ?_
    refine v_goto (tgt := 2) dX12_oneMore_18 (by decide) ?_
    exact (q_1 c0)
theorem c_X12_oneMore_40 {X : CX} {R : Room} {Q : Option Value → AH → Prop} {nx sz mc ms : Nat} {h : AH} {x1 x2 x3 x4 : Int32} (hA0 : 91 ≤ nx) (hF : Fx h) (hi_143 : x3 ≤ x4 → vp_in x2 40) (q : x3 ≤ x4 → ¬ (h.1 81 x2.toNatClampNeg) = (-1) → V X m_X12_oneMore R (ZM X Q nx sz mc ms) (nx, sz, mc, ms) 153 [some (.ref 68), some (.int x1), none, none, some (.int x2), none] [] h) (hq : x3 ≤ x4 → (h.1 81 x2.toNatClampNeg) = (-1) → Q (some (.int 0)) h) (hi_51 : ¬ x3 ≤ x4 → vp_in x2 40) (hi_143_1 : ¬ x3 ≤ x4 → ¬ (h.1 81 x2.toNatClampNeg) = (-1) → vp_in x2 40) (q_1 : ¬ x3 ≤ x4 → ¬ (h.1 81 x2.toNatClampNeg) = (-1) → ¬ (h.1 81 x2.toNatClampNeg) = (-1) → V X m_X12_oneMore R (ZM X Q nx sz mc ms) (nx, sz, mc, ms) 153 [some (.ref 68), some (.int x1), none, none, some (.int x2), none] [] h) (hq_1 : ¬ x3 ≤ x4 → ¬ (h.1 81 x2.toNatClampNeg) = (-1) → (h.1 81 x2.toNatClampNeg) = (-1) → Q (some (.int 0)) h) (q_2 : ¬ x3 ≤ x4 → (h.1 81 x2.toNatClampNeg) = (-1) → V X m_X12_oneMore R (ZM X Q nx sz mc ms) (nx, sz, mc, ms) 59 [some (.ref 68), some (.int x1), some (.int x2), some (.int x3), some (.int x4), some (.int 0)] [] h) : V X m_X12_oneMore R (ZM X Q nx sz mc ms) (nx, sz, mc, ms) 40 [some (.ref 68), some (.int x1), some (.int x2), some (.int x3), some (.int x4), none] [] h := by
  refine v_iload dX12_oneMore_40 rfl ?_
  refine v_iload_n dX12_oneMore_42 rfl ?_
  refine v_icmp_ge (tgt := 138) dX12_oneMore_43 (by decide) (fun c0 => ?_) (fun c0 => ?_)
  · refine v_aload_n dX12_oneMore_138 rfl ?_
    refine v_getR dX12_oneMore_139 fl_RX12_63 kd_68 (ltA hA0 rfl) rfl (hF 68 27 81 rfl) ?_
    refine v_iload_n dX12_oneMore_142 rfl ?_
    refine v_iald dX12_oneMore_143 kd_81 (ltA hA0 rfl) (hi_143 c0) ?_
    refine v_iconst dX12_oneMore_144 ci_m1 ?_
    refine v_icmp_ne (tgt := 150) dX12_oneMore_145 (by decide) (fun c1 => ?_) (fun c1 => ?_)
    · refine v_iload_n dX12_oneMore_150 rfl ?_
      refine v_istore dX12_oneMore_151 (by decide) (L' := [some (.ref 68), some (.int x1), some (.int x2), some (.int x3), some (.int x2), none]) rfl ?_
      exact (v_drop (lvLe_s (lvLe_s (lvLe_n (lvLe_n (lvLe_s (lvLe_n lvLe_e)))))) (q c0 c1))
    · refine v_iconst dX12_oneMore_148 ci_0 ?_
      exact v_zret (ty := .boolean) dX12_oneMore_149 rfl rfl (hq c0 c1)
  · refine v_aload_n dX12_oneMore_46 rfl ?_
    refine v_getR dX12_oneMore_47 fl_RX12_63 kd_68 (ltA hA0 rfl) rfl (hF 68 27 81 rfl) ?_
    refine v_iload_n dX12_oneMore_50 rfl ?_
    refine v_iald dX12_oneMore_51 kd_81 (ltA hA0 rfl) (hi_51 c0) ?_
    refine v_iconst dX12_oneMore_52 ci_m1 ?_
    refine v_icmp_ne (tgt := 138) dX12_oneMore_53 (by decide) (fun c1 => ?_) (fun c1 => ?_)
    · refine v_aload_n dX12_oneMore_138 rfl ?_
      refine v_getR dX12_oneMore_139 fl_RX12_63 kd_68 (ltA hA0 rfl) rfl (hF 68 27 81 rfl) ?_
      refine v_iload_n dX12_oneMore_142 rfl ?_
      refine v_iald dX12_oneMore_143 kd_81 (ltA hA0 rfl) (hi_143_1 c0 c1) ?_
      refine v_iconst dX12_oneMore_144 ci_m1 ?_
      refine v_icmp_ne (tgt := 150) dX12_oneMore_145 (by decide) (fun c2 => ?_) (fun c2 => ?_)
      · refine v_iload_n dX12_oneMore_150 rfl ?_
        refine v_istore dX12_oneMore_151 (by decide) (L' := [some (.ref 68), some (.int x1), some (.int x2), some (.int x3), some (.int x2), none]) rfl ?_
        exact (v_drop (lvLe_s (lvLe_s (lvLe_n (lvLe_n (lvLe_s (lvLe_n lvLe_e)))))) (q_1 c0 c1 c2))
      · refine v_iconst dX12_oneMore_148 ci_0 ?_
        exact v_zret (ty := .boolean) dX12_oneMore_149 rfl rfl (hq_1 c0 c1 c2)
    · refine v_iconst dX12_oneMore_56 ci_0 ?_
      refine v_istore dX12_oneMore_57 (by decide) (L' := [some (.ref 68), some (.int x1), some (.int x2), some (.int x3), some (.int x4), some (.int 0)]) rfl ?_
      exact (q_2 c0 c1)
theorem c_X12_oneMore_59 {X : CX} {R : Room} {Z : ZX} {A : AX} {h : AH} {x1 x2 x3 x4 x5 : Int32} (hA0 : 91 ≤ A.1) (hF : Fx h) (q : 40 ≤ x5 → V X m_X12_oneMore R Z A 40 [some (.ref 68), some (.int x1), some (.int x2), some (.int x3), some (.int (x4 + 1)), none] [] h) (hi_78 : ¬ 40 ≤ x5 → vp_in x4 40) (hi_83 : ¬ 40 ≤ x5 → vp_in ((40 * (h.1 82 x4.toNatClampNeg)) + x5) 1600) (q_1 : ¬ 40 ≤ x5 → (h.1 80 ((40 * (h.1 82 x4.toNatClampNeg)) + x5).toNatClampNeg) = 0 → V X m_X12_oneMore R Z A 59 [some (.ref 68), some (.int x1), some (.int x2), some (.int x3), some (.int x4), some (.int (x5 + 1))] [] h) (hi_93 : ¬ 40 ≤ x5 → ¬ (h.1 80 ((40 * (h.1 82 x4.toNatClampNeg)) + x5).toNatClampNeg) = 0 → vp_in x5 40) (hi_113 : ¬ 40 ≤ x5 → ¬ (h.1 80 ((40 * (h.1 82 x4.toNatClampNeg)) + x5).toNatClampNeg) = 0 → (h.1 81 x5.toNatClampNeg) = (-1) → vp_in x4 40) (hi_114 : ¬ 40 ≤ x5 → ¬ (h.1 80 ((40 * (h.1 82 x4.toNatClampNeg)) + x5).toNatClampNeg) = 0 → (h.1 81 x5.toNatClampNeg) = (-1) → vp_in x5 40) (hi_122 : ¬ 40 ≤ x5 → ¬ (h.1 80 ((40 * (h.1 82 x4.toNatClampNeg)) + x5).toNatClampNeg) = 0 → (h.1 81 x5.toNatClampNeg) = (-1) → vp_in x3 40) (q_2 : ¬ 40 ≤ x5 → ¬ (h.1 80 ((40 * (h.1 82 x4.toNatClampNeg)) + x5).toNatClampNeg) = 0 → (h.1 81 x5.toNatClampNeg) = (-1) → V X m_X12_oneMore R Z A 59 [some (.ref 68), some (.int x1), some (.int x2), some (.int (x3 + 1)), some (.int x4), some (.int (x5 + 1))] [] (setI (setI h 81 x5.toNatClampNeg (h.1 82 x4.toNatClampNeg)) 82 x3.toNatClampNeg x5)) (q_3 : ¬ 40 ≤ x5 → ¬ (h.1 80 ((40 * (h.1 82 x4.toNatClampNeg)) + x5).toNatClampNeg) = 0 → ¬ (h.1 81 x5.toNatClampNeg) = (-1) → V X m_X12_oneMore R Z A 59 [some (.ref 68), some (.int x1), some (.int x2), some (.int x3), some (.int x4), some (.int (x5 + 1))] [] h) : V X m_X12_oneMore R Z A 59 [some (.ref 68), some (.int x1), some (.int x2), some (.int x3), some (.int x4), some (.int x5)] [] h := by
  refine v_iload dX12_oneMore_59 rfl ?_
  refine v_bipush dX12_oneMore_61 cb_40 ?_
  refine v_icmp_ge (tgt := 132) dX12_oneMore_63 (by decide) (fun c0 => ?_) (fun c0 => ?_)
  · refine v_iinc (y := (x4 + 1)) dX12_oneMore_132 rfl rfl (by decide) (L' := [some (.ref 68), some (.int x1), some (.int x2), some (.int x3), some (.int (x4 + 1)), some (.int x5)]) rfl ?_
    refine v_goto (tgt := 40) dX12_oneMore_135 (by decide) ?_
    exact (v_drop (lvLe_s (lvLe_s (lvLe_s (lvLe_s (lvLe_s (lvLe_n lvLe_e)))))) (q c0))
  · refine v_aload_n dX12_oneMore_66 rfl ?_
    refine v_getR dX12_oneMore_67 fl_RX12_59 kd_68 (ltA hA0 rfl) rfl (hF 68 26 80 rfl) ?_
    refine v_bipush dX12_oneMore_70 cb_40 ?_
    refine v_aload_n dX12_oneMore_72 rfl ?_
    refine v_getR dX12_oneMore_73 fl_RX12_66 kd_68 (ltA hA0 rfl) rfl (hF 68 28 82 rfl) ?_
    refine v_iload dX12_oneMore_76 rfl ?_
    refine v_iald dX12_oneMore_78 kd_82 (ltA hA0 rfl) (hi_78 c0) ?_
    refine v_imul dX12_oneMore_79 ?_
    refine v_iload dX12_oneMore_80 rfl ?_
    refine v_iadd dX12_oneMore_82 ?_
    refine v_zald dX12_oneMore_83 kd_80 (ltA hA0 rfl) (hi_83 c0) ?_
    refine v_if_eq (tgt := 126) dX12_oneMore_84 (by decide) (fun c1 => ?_) (fun c1 => ?_)
    · refine v_iinc (y := (x5 + 1)) dX12_oneMore_126 rfl rfl (by decide) (L' := [some (.ref 68), some (.int x1), some (.int x2), some (.int x3), some (.int x4), some (.int (x5 + 1))]) rfl ?_
      refine v_goto (tgt := 59) dX12_oneMore_129 (by decide) ?_
      exact (q_1 c0 c1)
    · refine v_aload_n dX12_oneMore_87 rfl ?_
      refine v_getR dX12_oneMore_88 fl_RX12_63 kd_68 (ltA hA0 rfl) rfl (hF 68 27 81 rfl) ?_
      refine v_iload dX12_oneMore_91 rfl ?_
      refine v_iald dX12_oneMore_93 kd_81 (ltA hA0 rfl) (hi_93 c0 c1) ?_
      refine v_iconst dX12_oneMore_94 ci_m1 ?_
      refine v_icmp_eq (tgt := 101) dX12_oneMore_95 (by decide) (fun c2 => ?_) (fun c2 => ?_)
      · refine v_aload_n dX12_oneMore_101 rfl ?_
        refine v_getR dX12_oneMore_102 fl_RX12_63 kd_68 (ltA hA0 rfl) rfl (hF 68 27 81 rfl) ?_
        refine v_iload dX12_oneMore_105 rfl ?_
        refine v_aload_n dX12_oneMore_107 rfl ?_
        refine v_getR dX12_oneMore_108 fl_RX12_66 kd_68 (ltA hA0 rfl) rfl (hF 68 28 82 rfl) ?_
        refine v_iload dX12_oneMore_111 rfl ?_
        refine v_iald dX12_oneMore_113 kd_82 (ltA hA0 rfl) (hi_113 c0 c1 c2) ?_
        refine v_iast dX12_oneMore_114 kd_81 (ltA hA0 rfl) (hi_114 c0 c1 c2) ?_
        refine v_aload_n dX12_oneMore_115 rfl ?_
        refine v_getR dX12_oneMore_116 fl_RX12_66 kd_68 (ltA hA0 rfl) rfl (hF 68 28 82 rfl) ?_
        refine v_iload_n dX12_oneMore_119 rfl ?_
        refine v_iload dX12_oneMore_120 rfl ?_
        refine v_iast dX12_oneMore_122 kd_82 (ltA hA0 rfl) (hi_122 c0 c1 c2) ?_
        refine v_iinc (y := (x3 + 1)) dX12_oneMore_123 rfl rfl (by decide) (L' := [some (.ref 68), some (.int x1), some (.int x2), some (.int (x3 + 1)), some (.int x4), some (.int x5)]) rfl ?_
        refine v_iinc (y := (x5 + 1)) dX12_oneMore_126 rfl rfl (by decide) (L' := [some (.ref 68), some (.int x1), some (.int x2), some (.int (x3 + 1)), some (.int x4), some (.int (x5 + 1))]) rfl ?_
        refine v_goto (tgt := 59) dX12_oneMore_129 (by decide) ?_
        exact (q_2 c0 c1 c2)
      · refine v_goto (tgt := 126) dX12_oneMore_98 (by decide) ?_
        refine v_iinc (y := (x5 + 1)) dX12_oneMore_126 rfl rfl (by decide) (L' := [some (.ref 68), some (.int x1), some (.int x2), some (.int x3), some (.int x4), some (.int (x5 + 1))]) rfl ?_
        refine v_goto (tgt := 59) dX12_oneMore_129 (by decide) ?_
        exact (q_3 c0 c1 c2)
theorem c_X12_oneMore_153 {X : CX} {R : Room} {Q : Option Value → AH → Prop} {nx sz mc ms : Nat} {h : AH} {x1 x4 : Int32} (hA0 : 91 ≤ nx) (hF : Fx h) (hq : x4 = x1 → Q (some (.int 1)) h) (hi_171 : ¬ x4 = x1 → vp_in x4 40) (hi_177 : ¬ x4 = x1 → vp_in ((40 * (h.1 81 x4.toNatClampNeg)) + x4) 1600) (hi_193 : ¬ x4 = x1 → vp_in x4 40) (hi_196 : ¬ x4 = x1 → vp_in ((40 * x4) + (h.1 81 x4.toNatClampNeg)) 1600) (hi_203 : ¬ x4 = x1 → vp_in x4 40) (q : ¬ x4 = x1 → V X m_X12_oneMore R (ZM X Q nx sz mc ms) (nx, sz, mc, ms) 153 [some (.ref 68), some (.int x1), none, none, some (.int (h.1 81 x4.toNatClampNeg)), none] [] (setI (setI h 80 ((40 * (h.1 81 x4.toNatClampNeg)) + x4).toNatClampNeg 0) 80 ((40 * x4) + (h.1 81 x4.toNatClampNeg)).toNatClampNeg 1)) : V X m_X12_oneMore R (ZM X Q nx sz mc ms) (nx, sz, mc, ms) 153 [some (.ref 68), some (.int x1), none, none, some (.int x4), none] [] h := by
  refine v_iload dX12_oneMore_153 rfl ?_
  refine v_iload_n dX12_oneMore_155 rfl ?_
  refine v_icmp_eq (tgt := 209) dX12_oneMore_156 (by decide) (fun c0 => ?_) (fun c0 => ?_)
  · refine v_iconst dX12_oneMore_209 ci_1 ?_
    exact v_zret (ty := .boolean) dX12_oneMore_210 rfl rfl (hq c0)
  · refine v_aload_n dX12_oneMore_159 rfl ?_
    refine v_getR dX12_oneMore_160 fl_RX12_59 kd_68 (ltA hA0 rfl) rfl (hF 68 26 80 rfl) ?_
    refine v_bipush dX12_oneMore_163 cb_40 ?_
    refine v_aload_n dX12_oneMore_165 rfl ?_
    refine v_getR dX12_oneMore_166 fl_RX12_63 kd_68 (ltA hA0 rfl) rfl (hF 68 27 81 rfl) ?_
    refine v_iload dX12_oneMore_169 rfl ?_
    refine v_iald dX12_oneMore_171 kd_81 (ltA hA0 rfl) (hi_171 c0) ?_
    refine v_imul dX12_oneMore_172 ?_
    refine v_iload dX12_oneMore_173 rfl ?_
    refine v_iadd dX12_oneMore_175 ?_
    refine v_iconst dX12_oneMore_176 ci_0 ?_
    refine v_zast dX12_oneMore_177 kd_80 (ltA hA0 rfl) (hi_177 c0) rfl ?_
    refine v_aload_n dX12_oneMore_178 rfl ?_
    refine v_getR dX12_oneMore_179 fl_RX12_59 kd_68 (ltA hA0 rfl) rfl (hF 68 26 80 rfl) ?_
    refine v_bipush dX12_oneMore_182 cb_40 ?_
    refine v_iload dX12_oneMore_184 rfl ?_
    refine v_imul dX12_oneMore_186 ?_
    refine v_aload_n dX12_oneMore_187 rfl ?_
    refine v_getR dX12_oneMore_188 fl_RX12_63 kd_68 (ltA hA0 rfl) rfl (hF 68 27 81 rfl) ?_
    refine v_iload dX12_oneMore_191 rfl ?_
    refine v_iald dX12_oneMore_193 kd_81 (ltA hA0 rfl) (hi_193 c0) ?_
    refine v_iadd dX12_oneMore_194 ?_
    refine v_iconst dX12_oneMore_195 ci_1 ?_
    refine v_zast dX12_oneMore_196 kd_80 (ltA hA0 rfl) (hi_196 c0) rfl ?_
    refine v_aload_n dX12_oneMore_197 rfl ?_
    refine v_getR dX12_oneMore_198 fl_RX12_63 kd_68 (ltA hA0 rfl) rfl (hF 68 27 81 rfl) ?_
    refine v_iload dX12_oneMore_201 rfl ?_
    refine v_iald dX12_oneMore_203 kd_81 (ltA hA0 rfl) (hi_203 c0) ?_
    refine v_istore dX12_oneMore_204 (by decide) (L' := [some (.ref 68), some (.int x1), none, none, some (.int (h.1 81 x4.toNatClampNeg)), none]) rfl ?_
    refine v_goto (tgt := 153) dX12_oneMore_206 (by decide) ?_
    exact (q c0)
theorem e_X12_apart {X : CX} {d nx sz : Nat} {Q : Option Value → AH → Prop} {h : AH} {x1 x2 : Int32} (q : V X m_X12_apart (rm d 0 0) (ZM X Q nx sz 0 0) (nx, sz, 0, 0) 0 [some (.ref 68), some (.int x1), some (.int x2), none] [] h) : Mk X d m_X12_apart [.ref 68, .int x1, .int x2] h nx sz Q := by
  refine Mok.ofV mo_X12_apart (Nat.le_of_ble_eq_true rfl) (L := [some (.ref 68), some (.int x1), some (.int x2)]) (lvLe_s (lvLe_s (lvLe_s lvLe_e))) (v_grow (n := 1) ?_)
  exact q
theorem c_X12_apart_0 {X : CX} {R : Room} {Z : ZX} {A : AX} {h : AH} {x1 x2 : Int32} {d : Nat} {P8 : Int32 → AH → Prop} (hA0 : 91 ≤ A.1) (hR : RO R (d + 1)) (hcs : A.2.2.1 ≤ R.cells ∧ A.2.2.2 ≤ R.slots) (hM : Mk X d m_X12_areTwo [.ref 68, .int x1, .int x2] (setI h 68 0 0) A.1 A.2.1 (RI P8)) (q : ∀ (y : Int32) (g : AH), P8 y g → V X m_X12_apart R Z A 11 [some (.ref 68), some (.int x1), some (.int x2), none] [.int y] g) : V X m_X12_apart R Z A 0 [some (.ref 68), some (.int x1), some (.int x2), none] [] h := by
  refine v_aload_n dX12_apart_0 rfl ?_
  refine v_iconst dX12_apart_1 ci_0 ?_
  refine v_putI rfl rfl rfl dX12_apart_2 fl_RX12_103 (Or.inl rfl) kd_68 (ltA hA0 rfl) ?_
  refine v_aload_n dX12_apart_5 rfl ?_
  refine v_iload_n dX12_apart_6 rfl ?_
  refine v_iload_n dX12_apart_7 rfl ?_
  exact v_cVI (mt := m_X12_apart) mo_X12_areTwo ml_RX12_256 mi_X12_areTwo mv_X12_areTwo rfl kd_68 cl_12 rfl (ltA hA0 rfl) hR hcs (Nat.le_of_ble_eq_true rfl) dX12_apart_8 rfl hM (fun y g hp => (q y g hp))
theorem c_X12_apart_11 {X : CX} {R : Room} {Q : Option Value → AH → Prop} {nx sz mc ms : Nat} {h : AH} {x1 x2 s0 : Int32} {d : Nat} {P21 : Int32 → AH → Prop} (hA0 : 91 ≤ nx) (hF : Fx h) (hR : RO R (d + 1)) (hcs : mc ≤ R.cells ∧ ms ≤ R.slots) (hq : s0 = 0 → Q (some (.int (-1))) h) (hi_19 : ¬ s0 = 0 → vp_in x1 20) (hM : ¬ s0 = 0 → Mk X d m_X12_has [.int (h.1 73 x1.toNatClampNeg), .int x2] h nx sz (RI P21)) (q : ¬ s0 = 0 → ∀ (y : Int32) (g : AH), P21 y g → V X m_X12_apart R (ZM X Q nx sz mc ms) (nx, sz, mc, ms) 24 [some (.ref 68), some (.int x1), some (.int x2), none] [.int y] g) : V X m_X12_apart R (ZM X Q nx sz mc ms) (nx, sz, mc, ms) 11 [some (.ref 68), some (.int x1), some (.int x2), none] [.int s0] h := by
  refine v_if_eq (tgt := 27) dX12_apart_11 (by decide) (fun c0 => ?_) (fun c0 => ?_)
  · refine v_iconst dX12_apart_27 ci_m1 ?_
    exact v_iret dX12_apart_28 rfl (hq c0)
  · refine v_aload_n dX12_apart_14 rfl ?_
    refine v_getR dX12_apart_15 fl_RX12_37 kd_68 (ltA hA0 rfl) rfl (hF 68 19 73 rfl) ?_
    refine v_iload_n dX12_apart_18 rfl ?_
    refine v_iald dX12_apart_19 kd_73 (ltA hA0 rfl) (hi_19 c0) ?_
    refine v_iload_n dX12_apart_20 rfl ?_
    exact v_cSI (mt := m_X12_apart) mo_X12_has ml_RX12_220 mz_X12_has rfl hR hcs (Nat.le_of_ble_eq_true rfl) dX12_apart_21 rfl (hM c0) (fun y g hp => ((q c0) y g hp))
theorem c_X12_apart_24 {X : CX} {R : Room} {Q : Option Value → AH → Prop} {nx sz mc ms : Nat} {h : AH} {x1 x2 s0 : Int32} {d : Nat} {P30 : AH → Prop} (hA0 : 91 ≤ nx) (hR : RO R (d + 1)) (hcs : mc ≤ R.cells ∧ ms ≤ R.slots) (hM : s0 = 0 → Mk X d m_X12_openAll [.ref 68] h nx sz (RV P30)) (q : s0 = 0 → ∀ (g : AH), P30 g → V X m_X12_apart R (ZM X Q nx sz mc ms) (nx, sz, mc, ms) 33 [some (.ref 68), some (.int x1), some (.int x2), none] [] g) (hq : ¬ s0 = 0 → Q (some (.int (-1))) h) : V X m_X12_apart R (ZM X Q nx sz mc ms) (nx, sz, mc, ms) 24 [some (.ref 68), some (.int x1), some (.int x2), none] [.int s0] h := by
  refine v_if_eq (tgt := 29) dX12_apart_24 (by decide) (fun c0 => ?_) (fun c0 => ?_)
  · refine v_aload_n dX12_apart_29 rfl ?_
    exact v_cVV (mt := m_X12_apart) mo_X12_openAll ml_RX12_302 mi_X12_openAll mv_X12_openAll rfl kd_68 cl_12 rfl (ltA hA0 rfl) hR hcs (Nat.le_of_ble_eq_true rfl) dX12_apart_30 rfl (hM c0) (fun g hp => ((q c0) g hp))
  · refine v_iconst dX12_apart_27 ci_m1 ?_
    exact v_iret dX12_apart_28 rfl (hq c0)
theorem c_X12_apart_33 {X : CX} {R : Room} {Z : ZX} {A : AX} {h : AH} {x1 x2 : Int32} (q : V X m_X12_apart R Z A 35 [some (.ref 68), some (.int x1), some (.int x2), some (.int 0)] [] h) : V X m_X12_apart R Z A 33 [some (.ref 68), some (.int x1), some (.int x2), none] [] h := by
  refine v_iconst dX12_apart_33 ci_0 ?_
  refine v_istore_n dX12_apart_34 (by decide) (L' := [some (.ref 68), some (.int x1), some (.int x2), some (.int 0)]) rfl ?_
  exact q
theorem c_X12_apart_35 {X : CX} {R : Room} {Z : ZX} {A : AX} {h : AH} {x1 x2 x3 : Int32} {d : Nat} {P44 : Int32 → AH → Prop} (hA0 : 91 ≤ A.1) (hR : RO R (d + 1)) (hcs : A.2.2.1 ≤ R.cells ∧ A.2.2.2 ≤ R.slots) (hM : Mk X d m_X12_oneMore [.ref 68, .int ((2 * x1) + 1), .int (2 * x2)] h A.1 A.2.1 (RI P44)) (q : ∀ (y : Int32) (g : AH), P44 y g → V X m_X12_apart R Z A 47 [some (.ref 68), some (.int x1), some (.int x2), some (.int x3)] [.int y] g) : V X m_X12_apart R Z A 35 [some (.ref 68), some (.int x1), some (.int x2), some (.int x3)] [] h := by
  refine v_aload_n dX12_apart_35 rfl ?_
  refine v_iconst dX12_apart_36 ci_2 ?_
  refine v_iload_n dX12_apart_37 rfl ?_
  refine v_imul dX12_apart_38 ?_
  refine v_iconst dX12_apart_39 ci_1 ?_
  refine v_iadd dX12_apart_40 ?_
  refine v_iconst dX12_apart_41 ci_2 ?_
  refine v_iload_n dX12_apart_42 rfl ?_
  refine v_imul dX12_apart_43 ?_
  exact v_cVI (mt := m_X12_apart) mo_X12_oneMore ml_RX12_305 mi_X12_oneMore mv_X12_oneMore rfl kd_68 cl_12 rfl (ltA hA0 rfl) hR hcs (Nat.le_of_ble_eq_true rfl) dX12_apart_44 rfl hM (fun y g hp => (q y g hp))
theorem c_X12_apart_47 {X : CX} {R : Room} {Q : Option Value → AH → Prop} {nx sz mc ms : Nat} {h : AH} {x1 x2 x3 s0 : Int32} (hq : s0 = 0 → Q (some (.int x3)) h) (q : ¬ s0 = 0 → V X m_X12_apart R (ZM X Q nx sz mc ms) (nx, sz, mc, ms) 35 [some (.ref 68), some (.int x1), some (.int x2), some (.int (x3 + 1))] [] h) : V X m_X12_apart R (ZM X Q nx sz mc ms) (nx, sz, mc, ms) 47 [some (.ref 68), some (.int x1), some (.int x2), some (.int x3)] [.int s0] h := by
  refine v_if_eq (tgt := 56) dX12_apart_47 (by decide) (fun c0 => ?_) (fun c0 => ?_)
  · refine v_iload_n dX12_apart_56 rfl ?_
    exact v_iret dX12_apart_57 rfl (hq c0)
  · refine v_iinc (y := (x3 + 1)) dX12_apart_50 rfl rfl (by decide) (L' := [some (.ref 68), some (.int x1), some (.int x2), some (.int (x3 + 1))]) rfl ?_
    refine v_goto (tgt := 35) dX12_apart_53 (by decide) ?_
    exact (q c0)
theorem e_X12_areJoinedWithout {X : CX} {d nx sz : Nat} {Q : Option Value → AH → Prop} {h : AH} {x1 : Int32} (q : V X m_X12_areJoinedWithout (rm d 0 0) (ZM X Q nx sz 0 0) (nx, sz, 0, 0) 0 [some (.ref 68), some (.int x1), none] [] h) : Mk X d m_X12_areJoinedWithout [.ref 68, .int x1] h nx sz Q := by
  refine Mok.ofV mo_X12_areJoinedWithout (Nat.le_of_ble_eq_true rfl) (L := [some (.ref 68), some (.int x1)]) (lvLe_s (lvLe_s lvLe_e)) (v_grow (n := 1) ?_)
  exact q
theorem c_X12_areJoinedWithout_0 {X : CX} {R : Room} {Q : Option Value → AH → Prop} {nx sz mc ms : Nat} {h : AH} {x1 : Int32} {d : Nat} {P19 : Int32 → AH → Prop} (hA0 : 91 ≤ nx) (hR : RO R (d + 1)) (hcs : mc ≤ R.cells ∧ ms ≤ R.slots) (hq : ((((1 : Int32) <<< (((h.1 68 1) : Int32) &&& 31)) - 1) &&& (x1 ^^^ (-1))) = 0 → Q (some (.int 1)) h) (hM : ¬ ((((1 : Int32) <<< (((h.1 68 1) : Int32) &&& 31)) - 1) &&& (x1 ^^^ (-1))) = 0 → Mk X d m_J6_numberOfTrailingZeros_0f7a4 [.int ((((1 : Int32) <<< (((h.1 68 1) : Int32) &&& 31)) - 1) &&& (x1 ^^^ (-1)))] h nx sz (RI P19)) (q : ¬ ((((1 : Int32) <<< (((h.1 68 1) : Int32) &&& 31)) - 1) &&& (x1 ^^^ (-1))) = 0 → ∀ (y : Int32) (g : AH), P19 y g → V X m_X12_areJoinedWithout R (ZM X Q nx sz mc ms) (nx, sz, mc, ms) 22 [none, some (.int x1), some (.int ((((1 : Int32) <<< (((h.1 68 1) : Int32) &&& 31)) - 1) &&& (x1 ^^^ (-1))))] [.int y, .ref 68] g) : V X m_X12_areJoinedWithout R (ZM X Q nx sz mc ms) (nx, sz, mc, ms) 0 [some (.ref 68), some (.int x1), none] [] h := by
  refine v_iconst dX12_areJoinedWithout_0 ci_1 ?_
  refine v_aload_n dX12_areJoinedWithout_1 rfl ?_
  refine v_getI dX12_areJoinedWithout_2 fl_RX12_99 kd_68 (ltA hA0 rfl) rfl ?_
  refine v_ishl dX12_areJoinedWithout_5 ?_
  refine v_iconst dX12_areJoinedWithout_6 ci_1 ?_
  refine v_isub dX12_areJoinedWithout_7 ?_
  refine v_iload_n dX12_areJoinedWithout_8 rfl ?_
  refine v_iconst dX12_areJoinedWithout_9 ci_m1 ?_
  refine v_ixor dX12_areJoinedWithout_10 ?_
  refine v_iand dX12_areJoinedWithout_11 ?_
  refine v_istore_n dX12_areJoinedWithout_12 (by decide) (L' := [some (.ref 68), some (.int x1), some (.int ((((1 : Int32) <<< (((h.1 68 1) : Int32) &&& 31)) - 1) &&& (x1 ^^^ (-1))))]) rfl ?_
  refine v_iload_n dX12_areJoinedWithout_13 rfl ?_
  refine v_if_eq (tgt := 30) dX12_areJoinedWithout_14 (by decide) (fun c0 => ?_) (fun c0 => ?_)
  · refine v_iconst dX12_areJoinedWithout_30 ci_1 ?_
    refine v_goto (tgt := 35) dX12_areJoinedWithout_31 (by decide) ?_
    exact v_zret (ty := .boolean) dX12_areJoinedWithout_35 rfl rfl (hq c0)
  · refine v_aload_n dX12_areJoinedWithout_17 rfl ?_
    refine v_iload_n dX12_areJoinedWithout_18 rfl ?_
    exact v_cSI (mt := m_X12_areJoinedWithout) mo_J6_numberOfTrailingZeros_0f7a4 ml_RX12_308 mz_J6_numberOfTrailingZeros_0f7a4 rfl hR hcs (Nat.le_of_ble_eq_true rfl) dX12_areJoinedWithout_19 rfl (hM c0) (fun y g hp => (v_drop (lvLe_n (lvLe_s (lvLe_s lvLe_e))) ((q c0) y g hp)))
theorem c_X12_areJoinedWithout_22 {X : CX} {R : Room} {Z : ZX} {A : AX} {h : AH} {x1 x2 s1 : Int32} {d : Nat} {P23 : Int32 → AH → Prop} (hA0 : 91 ≤ A.1) (hR : RO R (d + 1)) (hcs : A.2.2.1 ≤ R.cells ∧ A.2.2.2 ≤ R.slots) (hM : Mk X d m_X12_partOf [.ref 68, .int s1, .int x1] h A.1 A.2.1 (RI P23)) (q : ∀ (y : Int32) (g : AH), P23 y g → V X m_X12_areJoinedWithout R Z A 26 [none, none, some (.int x2)] [.int y] g) : V X m_X12_areJoinedWithout R Z A 22 [none, some (.int x1), some (.int x2)] [.int s1, .ref 68] h := by
  refine v_iload_n dX12_areJoinedWithout_22 rfl ?_
  exact v_cVI (mt := m_X12_areJoinedWithout) mo_X12_partOf ml_RX12_283 mi_X12_partOf mv_X12_partOf rfl kd_68 cl_12 rfl (ltA hA0 rfl) hR hcs (Nat.le_of_ble_eq_true rfl) dX12_areJoinedWithout_23 rfl hM (fun y g hp => (v_drop (lvLe_n (lvLe_n (lvLe_s lvLe_e))) (q y g hp)))
theorem c_X12_areJoinedWithout_26 {X : CX} {R : Room} {Q : Option Value → AH → Prop} {nx sz mc ms : Nat} {h : AH} {x2 s0 : Int32} (hq : ¬ s0 = x2 → Q (some (.int 0)) h) (hq_1 : s0 = x2 → Q (some (.int 1)) h) : V X m_X12_areJoinedWithout R (ZM X Q nx sz mc ms) (nx, sz, mc, ms) 26 [none, none, some (.int x2)] [.int s0] h := by
  refine v_iload_n dX12_areJoinedWithout_26 rfl ?_
  refine v_icmp_ne (tgt := 34) dX12_areJoinedWithout_27 (by decide) (fun c0 => ?_) (fun c0 => ?_)
  · refine v_iconst dX12_areJoinedWithout_34 ci_0 ?_
    exact v_zret (ty := .boolean) dX12_areJoinedWithout_35 rfl rfl (hq c0)
  · refine v_iconst dX12_areJoinedWithout_30 ci_1 ?_
    refine v_goto (tgt := 35) dX12_areJoinedWithout_31 (by decide) ?_
    exact v_zret (ty := .boolean) dX12_areJoinedWithout_35 rfl rfl (hq_1 c0)
theorem e_X12_firstBreak {X : CX} {d nx sz : Nat} {Q : Option Value → AH → Prop} {h : AH} {x1 x2 x3 : Int32} (q : V X m_X12_firstBreak (rm d 0 0) (ZM X Q nx sz 0 0) (nx, sz, 0, 0) 0 [some (.ref 68), some (.int x1), some (.int x2), some (.int x3), none, none] [] h) : Mk X d m_X12_firstBreak [.ref 68, .int x1, .int x2, .int x3] h nx sz Q := by
  refine Mok.ofV mo_X12_firstBreak (Nat.le_of_ble_eq_true rfl) (L := [some (.ref 68), some (.int x1), some (.int x2), some (.int x3)]) (lvLe_s (lvLe_s (lvLe_s (lvLe_s lvLe_e)))) (v_grow (n := 2) ?_)
  exact q
theorem c_X12_firstBreak_0 {X : CX} {R : Room} {Z : ZX} {A : AX} {h : AH} {x1 x2 x3 : Int32} {d : Nat} {P6 : Int32 → AH → Prop} (hA0 : 91 ≤ A.1) (hR : RO R (d + 1)) (hcs : A.2.2.1 ≤ R.cells ∧ A.2.2.2 ≤ R.slots) (q : ¬ x1 = 0 → V X m_X12_firstBreak R Z A 21 [some (.ref 68), some (.int x1), none, some (.int x3), some (.int x2), none] [] h) (hM : x1 = 0 → Mk X d m_X12_areJoinedWithout [.ref 68, .int x3] h A.1 A.2.1 (RI P6)) (q_1 : x1 = 0 → ∀ (y : Int32) (g : AH), P6 y g → V X m_X12_firstBreak R Z A 9 [none, none, none, some (.int x3), none, none] [.int y] g) : V X m_X12_firstBreak R Z A 0 [some (.ref 68), some (.int x1), some (.int x2), some (.int x3), none, none] [] h := by
  refine v_iload_n dX12_firstBreak_0 rfl ?_
  refine v_if_ne (tgt := 18) dX12_firstBreak_1 (by decide) (fun c0 => ?_) (fun c0 => ?_)
  · refine v_iload_n dX12_firstBreak_18 rfl ?_
    refine v_istore dX12_firstBreak_19 (by decide) (L' := [some (.ref 68), some (.int x1), some (.int x2), some (.int x3), some (.int x2), none]) rfl ?_
    exact (v_drop (lvLe_s (lvLe_s (lvLe_n (lvLe_s (lvLe_s (lvLe_n lvLe_e)))))) (q c0))
  · refine v_aload_n dX12_firstBreak_4 rfl ?_
    refine v_iload_n dX12_firstBreak_5 rfl ?_
    exact v_cVI (mt := m_X12_firstBreak) mo_X12_areJoinedWithout ml_RX12_311 mi_X12_areJoinedWithout mv_X12_areJoinedWithout rfl kd_68 cl_12 rfl (ltA hA0 rfl) hR hcs (Nat.le_of_ble_eq_true rfl) dX12_firstBreak_6 rfl (hM c0) (fun y g hp => (v_drop (lvLe_n (lvLe_n (lvLe_n (lvLe_s (lvLe_n (lvLe_n lvLe_e)))))) ((q_1 c0) y g hp)))
theorem c_X12_firstBreak_9 {X : CX} {R : Room} {Q : Option Value → AH → Prop} {nx sz mc ms : Nat} {h : AH} {x3 s0 : Int32} (hq : s0 = 0 → Q (some (.int x3)) h) (hq_1 : ¬ s0 = 0 → Q (some (.int (-1))) h) : V X m_X12_firstBreak R (ZM X Q nx sz mc ms) (nx, sz, mc, ms) 9 [none, none, none, some (.int x3), none, none] [.int s0] h := by
  refine v_if_eq (tgt := 16) dX12_firstBreak_9 (by decide) (fun c0 => ?_) (fun c0 => ?_)
  · refine v_iload_n dX12_firstBreak_16 rfl ?_
    exact v_iret dX12_firstBreak_17 rfl (hq c0)
  · refine v_iconst dX12_firstBreak_12 ci_m1 ?_
    refine v_goto (tgt := 17) dX12_firstBreak_13 (by decide) ?_
    exact v_iret dX12_firstBreak_17 rfl (hq_1 c0)
theorem c_X12_firstBreak_21 {X : CX} {R : Room} {Q : Option Value → AH → Prop} {nx sz mc ms : Nat} {h : AH} {x1 x3 x4 : Int32} {d : Nat} {P44 : Int32 → AH → Prop} (hA0 : 91 ≤ nx) (hR : RO R (d + 1)) (hcs : mc ≤ R.cells ∧ ms ≤ R.slots) (hq : (h.1 68 1) ≤ x4 → Q (some (.int (-1))) h) (hM : ¬ (h.1 68 1) ≤ x4 → Mk X d m_X12_firstBreak [.ref 68, .int (x1 - 1), .int (x4 + 1), .int (x3 ||| ((1 : Int32) <<< ((x4 : Int32) &&& 31)))] h nx sz (RI P44)) (q : ¬ (h.1 68 1) ≤ x4 → ∀ (y : Int32) (g : AH), P44 y g → V X m_X12_firstBreak R (ZM X Q nx sz mc ms) (nx, sz, mc, ms) 47 [some (.ref 68), some (.int x1), none, some (.int x3), some (.int x4), none] [.int y] g) : V X m_X12_firstBreak R (ZM X Q nx sz mc ms) (nx, sz, mc, ms) 21 [some (.ref 68), some (.int x1), none, some (.int x3), some (.int x4), none] [] h := by
  refine v_iload dX12_firstBreak_21 rfl ?_
  refine v_aload_n dX12_firstBreak_23 rfl ?_
  refine v_getI dX12_firstBreak_24 fl_RX12_99 kd_68 (ltA hA0 rfl) rfl ?_
  refine v_icmp_ge (tgt := 64) dX12_firstBreak_27 (by decide) (fun c0 => ?_) (fun c0 => ?_)
  · refine v_iconst dX12_firstBreak_64 ci_m1 ?_
    exact v_iret dX12_firstBreak_65 rfl (hq c0)
  · refine v_aload_n dX12_firstBreak_30 rfl ?_
    refine v_iload_n dX12_firstBreak_31 rfl ?_
    refine v_iconst dX12_firstBreak_32 ci_1 ?_
    refine v_isub dX12_firstBreak_33 ?_
    refine v_iload dX12_firstBreak_34 rfl ?_
    refine v_iconst dX12_firstBreak_36 ci_1 ?_
    refine v_iadd dX12_firstBreak_37 ?_
    refine v_iload_n dX12_firstBreak_38 rfl ?_
    refine v_iconst dX12_firstBreak_39 ci_1 ?_
    refine v_iload dX12_firstBreak_40 rfl ?_
    refine v_ishl dX12_firstBreak_42 ?_
    refine v_ior dX12_firstBreak_43 ?_
    exact v_cVI (mt := m_X12_firstBreak) mo_X12_firstBreak ml_RX12_314 mi_X12_firstBreak mv_X12_firstBreak rfl kd_68 cl_12 rfl (ltA hA0 rfl) hR hcs (Nat.le_of_ble_eq_true rfl) dX12_firstBreak_44 rfl (hM c0) (fun y g hp => ((q c0) y g hp))
theorem c_X12_firstBreak_47 {X : CX} {R : Room} {Q : Option Value → AH → Prop} {nx sz mc ms : Nat} {h : AH} {x1 x3 x4 s0 : Int32} (q : s0 = (-1) → V X m_X12_firstBreak R (ZM X Q nx sz mc ms) (nx, sz, mc, ms) 21 [some (.ref 68), some (.int x1), none, some (.int x3), some (.int (x4 + 1)), none] [] h) (hq : ¬ s0 = (-1) → Q (some (.int s0)) h) : V X m_X12_firstBreak R (ZM X Q nx sz mc ms) (nx, sz, mc, ms) 47 [some (.ref 68), some (.int x1), none, some (.int x3), some (.int x4), none] [.int s0] h := by
  refine v_istore dX12_firstBreak_47 (by decide) (L' := [some (.ref 68), some (.int x1), none, some (.int x3), some (.int x4), some (.int s0)]) rfl ?_
  refine v_iload dX12_firstBreak_49 rfl ?_
  refine v_iconst dX12_firstBreak_51 ci_m1 ?_
  refine v_icmp_eq (tgt := 58) dX12_firstBreak_52 (by decide) (fun c0 => ?_) (fun c0 => ?_)
  · refine v_iinc (y := (x4 + 1)) dX12_firstBreak_58 rfl rfl (by decide) (L' := [some (.ref 68), some (.int x1), none, some (.int x3), some (.int (x4 + 1)), some (.int s0)]) rfl ?_
    refine v_goto (tgt := 21) dX12_firstBreak_61 (by decide) ?_
    exact (v_drop (lvLe_s (lvLe_s (lvLe_n (lvLe_s (lvLe_s (lvLe_n lvLe_e)))))) (q c0))
  · refine v_iload dX12_firstBreak_55 rfl ?_
    exact v_iret dX12_firstBreak_57 rfl (hq c0)
theorem e_X12_bears {X : CX} {d nx sz : Nat} {Q : Option Value → AH → Prop} {h : AH} {x1 : Int32} (q : V X m_X12_bears (rm d 0 0) (ZM X Q nx sz 0 0) (nx, sz, 0, 0) 0 [some (.ref 68), some (.int x1)] [] h) : Mk X d m_X12_bears [.ref 68, .int x1] h nx sz Q := by
  refine Mok.ofV mo_X12_bears (Nat.le_of_ble_eq_true rfl) (L := [some (.ref 68), some (.int x1)]) (lvLe_s (lvLe_s lvLe_e)) (v_grow (n := 0) ?_)
  exact q
theorem c_X12_bears_0 {X : CX} {R : Room} {Z : ZX} {A : AX} {h : AH} {x1 : Int32} {d : Nat} {P8 : Int32 → AH → Prop} (hA0 : 91 ≤ A.1) (hR : RO R (d + 1)) (hcs : A.2.2.1 ≤ R.cells ∧ A.2.2.2 ≤ R.slots) (hM : Mk X d m_X12_isIn [.int x1, .int 0, .int 3] (setI h 68 0 0) A.1 A.2.1 (RI P8)) (q : ∀ (y : Int32) (g : AH), P8 y g → V X m_X12_bears R Z A 11 [some (.ref 68), some (.int x1)] [.int y] g) : V X m_X12_bears R Z A 0 [some (.ref 68), some (.int x1)] [] h := by
  refine v_aload_n dX12_bears_0 rfl ?_
  refine v_iconst dX12_bears_1 ci_0 ?_
  refine v_putI rfl rfl rfl dX12_bears_2 fl_RX12_103 (Or.inl rfl) kd_68 (ltA hA0 rfl) ?_
  refine v_iload_n dX12_bears_5 rfl ?_
  refine v_iconst dX12_bears_6 ci_0 ?_
  refine v_iconst dX12_bears_7 ci_3 ?_
  exact v_cSI (mt := m_X12_bears) mo_X12_isIn ml_RX12_232 mz_X12_isIn rfl hR hcs (Nat.le_of_ble_eq_true rfl) dX12_bears_8 rfl hM (fun y g hp => (q y g hp))
theorem c_X12_bears_11 {X : CX} {R : Room} {Q : Option Value → AH → Prop} {nx sz mc ms : Nat} {h : AH} {x1 s0 : Int32} {d : Nat} {P22 : Int32 → AH → Prop} (hA0 : 91 ≤ nx) (hR : RO R (d + 1)) (hcs : mc ≤ R.cells ∧ ms ≤ R.slots) (hM : ¬ s0 = 0 → Mk X d m_X12_firstBreak [.ref 68, .int x1, .int 0, .int 0] h nx sz (RI P22)) (q : ¬ s0 = 0 → ∀ (y : Int32) (g : AH), P22 y g → V X m_X12_bears R (ZM X Q nx sz mc ms) (nx, sz, mc, ms) 25 [none, none] [.int y] g) (hq : s0 = 0 → Q (some (.int (-1))) h) : V X m_X12_bears R (ZM X Q nx sz mc ms) (nx, sz, mc, ms) 11 [some (.ref 68), some (.int x1)] [.int s0] h := by
  refine v_if_ne (tgt := 18) dX12_bears_11 (by decide) (fun c0 => ?_) (fun c0 => ?_)
  · refine v_aload_n dX12_bears_18 rfl ?_
    refine v_iload_n dX12_bears_19 rfl ?_
    refine v_iconst dX12_bears_20 ci_0 ?_
    refine v_iconst dX12_bears_21 ci_0 ?_
    exact v_cVI (mt := m_X12_bears) mo_X12_firstBreak ml_RX12_314 mi_X12_firstBreak mv_X12_firstBreak rfl kd_68 cl_12 rfl (ltA hA0 rfl) hR hcs (Nat.le_of_ble_eq_true rfl) dX12_bears_22 rfl (hM c0) (fun y g hp => (v_drop (lvLe_n (lvLe_n lvLe_e)) ((q c0) y g hp)))
  · refine v_iconst dX12_bears_14 ci_m1 ?_
    refine v_goto (tgt := 34) dX12_bears_15 (by decide) ?_
    exact v_iret dX12_bears_34 rfl (hq c0)
theorem c_X12_bears_25 {X : CX} {R : Room} {Q : Option Value → AH → Prop} {nx sz mc ms : Nat} {h : AH} {s0 : Int32} (hq : ¬ s0 = (-1) → Q (some (.int 0)) h) (hq_1 : s0 = (-1) → Q (some (.int 1)) h) : V X m_X12_bears R (ZM X Q nx sz mc ms) (nx, sz, mc, ms) 25 [none, none] [.int s0] h := by
  refine v_iconst dX12_bears_25 ci_m1 ?_
  refine v_icmp_ne (tgt := 33) dX12_bears_26 (by decide) (fun c0 => ?_) (fun c0 => ?_)
  · refine v_iconst dX12_bears_33 ci_0 ?_
    exact v_iret dX12_bears_34 rfl (hq c0)
  · refine v_iconst dX12_bears_29 ci_1 ?_
    refine v_goto (tgt := 34) dX12_bears_30 (by decide) ?_
    exact v_iret dX12_bears_34 rfl (hq_1 c0)
theorem e_X12_broken {X : CX} {d nx sz : Nat} {Q : Option Value → AH → Prop} {h : AH} {x1 : Int32} (q : V X m_X12_broken (rm d 0 0) (ZM X Q nx sz 0 0) (nx, sz, 0, 0) 0 [some (.ref 68), some (.int x1)] [] h) : Mk X d m_X12_broken [.ref 68, .int x1] h nx sz Q := by
  refine Mok.ofV mo_X12_broken (Nat.le_of_ble_eq_true rfl) (L := [some (.ref 68), some (.int x1)]) (lvLe_s (lvLe_s lvLe_e)) (v_grow (n := 0) ?_)
  exact q
theorem c_X12_broken_0 {X : CX} {R : Room} {Z : ZX} {A : AX} {h : AH} {x1 : Int32} {d : Nat} {P8 : Int32 → AH → Prop} (hA0 : 91 ≤ A.1) (hR : RO R (d + 1)) (hcs : A.2.2.1 ≤ R.cells ∧ A.2.2.2 ≤ R.slots) (hM : Mk X d m_X12_isIn [.int x1, .int 0, .int 3] (setI h 68 0 0) A.1 A.2.1 (RI P8)) (q : ∀ (y : Int32) (g : AH), P8 y g → V X m_X12_broken R Z A 11 [some (.ref 68), some (.int x1)] [.int y] g) : V X m_X12_broken R Z A 0 [some (.ref 68), some (.int x1)] [] h := by
  refine v_aload_n dX12_broken_0 rfl ?_
  refine v_iconst dX12_broken_1 ci_0 ?_
  refine v_putI rfl rfl rfl dX12_broken_2 fl_RX12_103 (Or.inl rfl) kd_68 (ltA hA0 rfl) ?_
  refine v_iload_n dX12_broken_5 rfl ?_
  refine v_iconst dX12_broken_6 ci_0 ?_
  refine v_iconst dX12_broken_7 ci_3 ?_
  exact v_cSI (mt := m_X12_broken) mo_X12_isIn ml_RX12_232 mz_X12_isIn rfl hR hcs (Nat.le_of_ble_eq_true rfl) dX12_broken_8 rfl hM (fun y g hp => (q y g hp))
theorem c_X12_broken_11 {X : CX} {R : Room} {Q : Option Value → AH → Prop} {nx sz mc ms : Nat} {h : AH} {x1 s0 : Int32} {d : Nat} {P18 : Int32 → AH → Prop} (hA0 : 91 ≤ nx) (hR : RO R (d + 1)) (hcs : mc ≤ R.cells ∧ ms ≤ R.slots) (hq : s0 = 0 → Q (some (.int (-1))) h) (hM : ¬ s0 = 0 → Mk X d m_X12_firstBreak [.ref 68, .int x1, .int 0, .int 0] h nx sz (RI P18)) (q : ¬ s0 = 0 → ∀ (y : Int32) (g : AH), P18 y g → V X m_X12_broken R (ZM X Q nx sz mc ms) (nx, sz, mc, ms) 21 [none, none] [.int y] g) : V X m_X12_broken R (ZM X Q nx sz mc ms) (nx, sz, mc, ms) 11 [some (.ref 68), some (.int x1)] [.int s0] h := by
  refine v_if_eq (tgt := 24) dX12_broken_11 (by decide) (fun c0 => ?_) (fun c0 => ?_)
  · refine v_iconst dX12_broken_24 ci_m1 ?_
    exact v_iret dX12_broken_25 rfl (hq c0)
  · refine v_aload_n dX12_broken_14 rfl ?_
    refine v_iload_n dX12_broken_15 rfl ?_
    refine v_iconst dX12_broken_16 ci_0 ?_
    refine v_iconst dX12_broken_17 ci_0 ?_
    exact v_cVI (mt := m_X12_broken) mo_X12_firstBreak ml_RX12_314 mi_X12_firstBreak mv_X12_firstBreak rfl kd_68 cl_12 rfl (ltA hA0 rfl) hR hcs (Nat.le_of_ble_eq_true rfl) dX12_broken_18 rfl (hM c0) (fun y g hp => (v_drop (lvLe_n (lvLe_n lvLe_e)) ((q c0) y g hp)))
theorem c_X12_broken_21 {X : CX} {R : Room} {Q : Option Value → AH → Prop} {nx sz mc ms : Nat} {h : AH} {s0 : Int32} (hq : Q (some (.int s0)) h) : V X m_X12_broken R (ZM X Q nx sz mc ms) (nx, sz, mc, ms) 21 [none, none] [.int s0] h := by
  refine v_goto (tgt := 25) dX12_broken_21 (by decide) ?_
  exact v_iret dX12_broken_25 rfl hq
theorem e_X12_mend {X : CX} {d nx sz : Nat} {Q : Option Value → AH → Prop} {h : AH} (q : V X m_X12_mend (rm d 0 0) (ZM X Q nx sz 0 0) (nx, sz, 0, 0) 0 [some (.ref 68), none, none, none, none, none, none, none] [] h) : Mk X d m_X12_mend [.ref 68] h nx sz Q := by
  refine Mok.ofV mo_X12_mend (Nat.le_of_ble_eq_true rfl) (L := [some (.ref 68)]) (lvLe_s lvLe_e) (v_grow (n := 7) ?_)
  exact q
theorem c_X12_mend_0 {X : CX} {R : Room} {Z : ZX} {A : AX} {h : AH} {d : Nat} {P6 : Int32 → AH → Prop} (hA0 : 91 ≤ A.1) (hR : RO R (d + 1)) (hcs : A.2.2.1 ≤ R.cells ∧ A.2.2.2 ≤ R.slots) (hM : Mk X d m_X12_partsNow [.ref 68] (setI h 68 0 0) A.1 A.2.1 (RI P6)) (q : ∀ (y : Int32) (g : AH), P6 y g → V X m_X12_mend R Z A 9 [some (.ref 68), none, none, none, none, none, none, none] [.int y] g) : V X m_X12_mend R Z A 0 [some (.ref 68), none, none, none, none, none, none, none] [] h := by
  refine v_aload_n dX12_mend_0 rfl ?_
  refine v_iconst dX12_mend_1 ci_0 ?_
  refine v_putI rfl rfl rfl dX12_mend_2 fl_RX12_103 (Or.inl rfl) kd_68 (ltA hA0 rfl) ?_
  refine v_aload_n dX12_mend_5 rfl ?_
  exact v_cVI (mt := m_X12_mend) mo_X12_partsNow ml_RX12_292 mi_X12_partsNow mv_X12_partsNow rfl kd_68 cl_12 rfl (ltA hA0 rfl) hR hcs (Nat.le_of_ble_eq_true rfl) dX12_mend_6 rfl hM (fun y g hp => (q y g hp))
theorem c_X12_mend_9 {X : CX} {R : Room} {Q : Option Value → AH → Prop} {nx sz mc ms : Nat} {h : AH} {s0 : Int32} (q : ¬ s0 = 1 → V X m_X12_mend R (ZM X Q nx sz mc ms) (nx, sz, mc, ms) 24 [some (.ref 68), some (.int s0), some (.int 0), some (.int 0), some (.int 0), none, none, none] [] h) (hq : s0 = 1 → Q (some (.int 0)) h) : V X m_X12_mend R (ZM X Q nx sz mc ms) (nx, sz, mc, ms) 9 [some (.ref 68), none, none, none, none, none, none, none] [.int s0] h := by
  refine v_istore_n dX12_mend_9 (by decide) (L' := [some (.ref 68), some (.int s0), none, none, none, none, none, none]) rfl ?_
  refine v_iload_n dX12_mend_10 rfl ?_
  refine v_iconst dX12_mend_11 ci_1 ?_
  refine v_icmp_ne (tgt := 17) dX12_mend_12 (by decide) (fun c0 => ?_) (fun c0 => ?_)
  · refine v_iconst dX12_mend_17 ci_0 ?_
    refine v_istore_n dX12_mend_18 (by decide) (L' := [some (.ref 68), some (.int s0), some (.int 0), none, none, none, none, none]) rfl ?_
    refine v_iconst dX12_mend_19 ci_0 ?_
    refine v_istore_n dX12_mend_20 (by decide) (L' := [some (.ref 68), some (.int s0), some (.int 0), some (.int 0), none, none, none, none]) rfl ?_
    refine v_iconst dX12_mend_21 ci_0 ?_
    refine v_istore dX12_mend_22 (by decide) (L' := [some (.ref 68), some (.int s0), some (.int 0), some (.int 0), some (.int 0), none, none, none]) rfl ?_
    exact (q c0)
  · refine v_iconst dX12_mend_15 ci_0 ?_
    exact v_iret dX12_mend_16 rfl (hq c0)
theorem c_X12_mend_24 {X : CX} {R : Room} {Q : Option Value → AH → Prop} {nx sz mc ms : Nat} {h : AH} {x1 x2 x3 x4 : Int32} {d : Nat} {P36 : Int32 → AH → Prop} (hA0 : 91 ≤ nx) (hR : RO R (d + 1)) (hcs : mc ≤ R.cells ∧ ms ≤ R.slots) (hq : (h.1 68 1) ≤ x4 → (2 * (x1 - 1)) ≤ x2 → Q (some (.int (x1 - 1))) h) (hq_1 : (h.1 68 1) ≤ x4 → ¬ (2 * (x1 - 1)) ≤ x2 → Q (some (.int (-1))) h) (hM : ¬ (h.1 68 1) ≤ x4 → Mk X d m_X12_has [.int x3, .int x4] h nx sz (RI P36)) (q : ¬ (h.1 68 1) ≤ x4 → ∀ (y : Int32) (g : AH), P36 y g → V X m_X12_mend R (ZM X Q nx sz mc ms) (nx, sz, mc, ms) 39 [some (.ref 68), some (.int x1), some (.int x2), some (.int x3), some (.int x4), none, none, none] [.int y] g) : V X m_X12_mend R (ZM X Q nx sz mc ms) (nx, sz, mc, ms) 24 [some (.ref 68), some (.int x1), some (.int x2), some (.int x3), some (.int x4), none, none, none] [] h := by
  refine v_iload dX12_mend_24 rfl ?_
  refine v_aload_n dX12_mend_26 rfl ?_
  refine v_getI dX12_mend_27 fl_RX12_99 kd_68 (ltA hA0 rfl) rfl ?_
  refine v_icmp_ge (tgt := 131) dX12_mend_30 (by decide) (fun c0 => ?_) (fun c0 => ?_)
  · refine v_iload_n dX12_mend_131 rfl ?_
    refine v_iconst dX12_mend_132 ci_2 ?_
    refine v_iload_n dX12_mend_133 rfl ?_
    refine v_iconst dX12_mend_134 ci_1 ?_
    refine v_isub dX12_mend_135 ?_
    refine v_imul dX12_mend_136 ?_
    refine v_icmp_ge (tgt := 144) dX12_mend_137 (by decide) (fun c1 => ?_) (fun c1 => ?_)
    · refine v_iload_n dX12_mend_144 rfl ?_
      refine v_iconst dX12_mend_145 ci_1 ?_
      refine v_isub dX12_mend_146 ?_
      exact v_iret dX12_mend_147 rfl (hq c0 c1)
    · refine v_iconst dX12_mend_140 ci_m1 ?_
      refine v_goto (tgt := 147) dX12_mend_141 (by decide) ?_
      exact v_iret dX12_mend_147 rfl (hq_1 c0 c1)
  · refine v_iload_n dX12_mend_33 rfl ?_
    refine v_iload dX12_mend_34 rfl ?_
    exact v_cSI (mt := m_X12_mend) mo_X12_has ml_RX12_220 mz_X12_has rfl hR hcs (Nat.le_of_ble_eq_true rfl) dX12_mend_36 rfl (hM c0) (fun y g hp => ((q c0) y g hp))
theorem c_X12_mend_39 {X : CX} {R : Room} {Z : ZX} {A : AX} {h : AH} {x1 x2 x3 x4 s0 : Int32} {d : Nat} {P52 : Int32 → AH → Prop} (hA0 : 91 ≤ A.1) (hR : RO R (d + 1)) (hcs : A.2.2.1 ≤ R.cells ∧ A.2.2.2 ≤ R.slots) (hM : s0 = 0 → Mk X d m_X12_partOf [.ref 68, .int x4, .int 0] h A.1 A.2.1 (RI P52)) (q : s0 = 0 → ∀ (y : Int32) (g : AH), P52 y g → V X m_X12_mend R Z A 55 [some (.ref 68), some (.int x1), some (.int x2), some (.int x3), some (.int x4), some (.int 0), none, none] [.int y] g) (q_1 : ¬ s0 = 0 → V X m_X12_mend R Z A 24 [some (.ref 68), some (.int x1), some (.int x2), some (.int x3), some (.int (x4 + 1)), none, none, none] [] h) : V X m_X12_mend R Z A 39 [some (.ref 68), some (.int x1), some (.int x2), some (.int x3), some (.int x4), none, none, none] [.int s0] h := by
  refine v_if_eq (tgt := 45) dX12_mend_39 (by decide) (fun c0 => ?_) (fun c0 => ?_)
  · refine v_iconst dX12_mend_45 ci_0 ?_
    refine v_istore dX12_mend_46 (by decide) (L' := [some (.ref 68), some (.int x1), some (.int x2), some (.int x3), some (.int x4), some (.int 0), none, none]) rfl ?_
    refine v_aload_n dX12_mend_48 rfl ?_
    refine v_iload dX12_mend_49 rfl ?_
    refine v_iconst dX12_mend_51 ci_0 ?_
    exact v_cVI (mt := m_X12_mend) mo_X12_partOf ml_RX12_283 mi_X12_partOf mv_X12_partOf rfl kd_68 cl_12 rfl (ltA hA0 rfl) hR hcs (Nat.le_of_ble_eq_true rfl) dX12_mend_52 rfl (hM c0) (fun y g hp => ((q c0) y g hp))
  · refine v_goto (tgt := 125) dX12_mend_42 (by decide) ?_
    refine v_iinc (y := (x4 + 1)) dX12_mend_125 rfl rfl (by decide) (L' := [some (.ref 68), some (.int x1), some (.int x2), some (.int x3), some (.int (x4 + 1)), none, none, none]) rfl ?_
    refine v_goto (tgt := 24) dX12_mend_128 (by decide) ?_
    exact (q_1 c0)
theorem c_X12_mend_55 {X : CX} {R : Room} {Z : ZX} {A : AX} {h : AH} {x1 x2 x3 x4 x5 s0 : Int32} (q : V X m_X12_mend R Z A 65 [some (.ref 68), some (.int x1), some (.int x2), some (.int (x3 ||| s0)), some (.int x4), some (.int x5), some (.int s0), some (.int 0)] [] h) : V X m_X12_mend R Z A 55 [some (.ref 68), some (.int x1), some (.int x2), some (.int x3), some (.int x4), some (.int x5), none, none] [.int s0] h := by
  refine v_istore dX12_mend_55 (by decide) (L' := [some (.ref 68), some (.int x1), some (.int x2), some (.int x3), some (.int x4), some (.int x5), some (.int s0), none]) rfl ?_
  refine v_iload_n dX12_mend_57 rfl ?_
  refine v_iload dX12_mend_58 rfl ?_
  refine v_ior dX12_mend_60 ?_
  refine v_istore_n dX12_mend_61 (by decide) (L' := [some (.ref 68), some (.int x1), some (.int x2), some (.int (x3 ||| s0)), some (.int x4), some (.int x5), some (.int s0), none]) rfl ?_
  refine v_iconst dX12_mend_62 ci_0 ?_
  refine v_istore dX12_mend_63 (by decide) (L' := [some (.ref 68), some (.int x1), some (.int x2), some (.int (x3 ||| s0)), some (.int x4), some (.int x5), some (.int s0), some (.int 0)]) rfl ?_
  exact q
theorem c_X12_mend_65 {X : CX} {R : Room} {Q : Option Value → AH → Prop} {nx sz mc ms : Nat} {h : AH} {x1 x2 x3 x4 x5 x6 x7 : Int32} {d : Nat} {P80 : Int32 → AH → Prop} (hA0 : 91 ≤ nx) (hR : RO R (d + 1)) (hcs : mc ≤ R.cells ∧ ms ≤ R.slots) (q : (h.1 68 1) ≤ x7 → ¬ x5 = 0 → V X m_X12_mend R (ZM X Q nx sz mc ms) (nx, sz, mc, ms) 24 [some (.ref 68), some (.int x1), some (.int (x2 + x5)), some (.int x3), some (.int (x4 + 1)), none, none, none] [] h) (hq : (h.1 68 1) ≤ x7 → x5 = 0 → Q (some (.int (-1))) h) (hM : ¬ (h.1 68 1) ≤ x7 → Mk X d m_X12_has [.int x6, .int x7] h nx sz (RI P80)) (q_1 : ¬ (h.1 68 1) ≤ x7 → ∀ (y : Int32) (g : AH), P80 y g → V X m_X12_mend R (ZM X Q nx sz mc ms) (nx, sz, mc, ms) 83 [some (.ref 68), some (.int x1), some (.int x2), some (.int x3), some (.int x4), none, some (.int x6), some (.int x7)] [.int y, .int x5] g) : V X m_X12_mend R (ZM X Q nx sz mc ms) (nx, sz, mc, ms) 65 [some (.ref 68), some (.int x1), some (.int x2), some (.int x3), some (.int x4), some (.int x5), some (.int x6), some (.int x7)] [] h := by
  refine v_iload dX12_mend_65 rfl ?_
  refine v_aload_n dX12_mend_67 rfl ?_
  refine v_getI dX12_mend_68 fl_RX12_99 kd_68 (ltA hA0 rfl) rfl ?_
  refine v_icmp_ge (tgt := 113) dX12_mend_71 (by decide) (fun c0 => ?_) (fun c0 => ?_)
  · refine v_iload dX12_mend_113 rfl ?_
    refine v_if_ne (tgt := 120) dX12_mend_115 (by decide) (fun c1 => ?_) (fun c1 => ?_)
    · refine v_iload_n dX12_mend_120 rfl ?_
      refine v_iload dX12_mend_121 rfl ?_
      refine v_iadd dX12_mend_123 ?_
      refine v_istore_n dX12_mend_124 (by decide) (L' := [some (.ref 68), some (.int x1), some (.int (x2 + x5)), some (.int x3), some (.int x4), some (.int x5), some (.int x6), some (.int x7)]) rfl ?_
      refine v_iinc (y := (x4 + 1)) dX12_mend_125 rfl rfl (by decide) (L' := [some (.ref 68), some (.int x1), some (.int (x2 + x5)), some (.int x3), some (.int (x4 + 1)), some (.int x5), some (.int x6), some (.int x7)]) rfl ?_
      refine v_goto (tgt := 24) dX12_mend_128 (by decide) ?_
      exact (v_drop (lvLe_s (lvLe_s (lvLe_s (lvLe_s (lvLe_s (lvLe_n (lvLe_n (lvLe_n lvLe_e)))))))) (q c0 c1))
    · refine v_iconst dX12_mend_118 ci_m1 ?_
      exact v_iret dX12_mend_119 rfl (hq c0 c1)
  · refine v_iload dX12_mend_74 rfl ?_
    refine v_iload dX12_mend_76 rfl ?_
    refine v_iload dX12_mend_78 rfl ?_
    exact v_cSI (mt := m_X12_mend) mo_X12_has ml_RX12_220 mz_X12_has rfl hR hcs (Nat.le_of_ble_eq_true rfl) dX12_mend_80 rfl (hM c0) (fun y g hp => (v_drop (lvLe_s (lvLe_s (lvLe_s (lvLe_s (lvLe_s (lvLe_n (lvLe_s (lvLe_s lvLe_e)))))))) ((q_1 c0) y g hp)))
theorem c_X12_mend_83 {X : CX} {R : Room} {Z : ZX} {A : AX} {h : AH} {x1 x2 x3 x4 x6 x7 s0 s1 : Int32} {d : Nat} {P96 : Int32 → AH → Prop} (hA0 : 91 ≤ A.1) (hF : Fx h) (hR : RO R (d + 1)) (hcs : A.2.2.1 ≤ R.cells ∧ A.2.2.2 ≤ R.slots) (q : s1 = 0 → V X m_X12_mend R Z A 65 [some (.ref 68), some (.int x1), some (.int x2), some (.int x3), some (.int x4), some (.int (s0 + 0)), some (.int x6), some (.int (x7 + 1))] [] h) (hi_92 : ¬ s1 = 0 → vp_in x7 20) (hM : ¬ s1 = 0 → Mk X d m_X12_many [.ref 68, .int x7] h A.1 A.2.1 (RI P96)) (q_1 : ¬ s1 = 0 → ∀ (y : Int32) (g : AH), P96 y g → V X m_X12_mend R Z A 99 [some (.ref 68), some (.int x1), some (.int x2), some (.int x3), some (.int x4), none, some (.int x6), some (.int x7)] [.int y, .int (h.1 75 x7.toNatClampNeg), .int s0] g) : V X m_X12_mend R Z A 83 [some (.ref 68), some (.int x1), some (.int x2), some (.int x3), some (.int x4), none, some (.int x6), some (.int x7)] [.int s1, .int s0] h := by
  refine v_if_eq (tgt := 103) dX12_mend_83 (by decide) (fun c0 => ?_) (fun c0 => ?_)
  · refine v_iconst dX12_mend_103 ci_0 ?_
    refine v_iadd dX12_mend_104 ?_
    refine v_istore dX12_mend_105 (by decide) (L' := [some (.ref 68), some (.int x1), some (.int x2), some (.int x3), some (.int x4), some (.int (s0 + 0)), some (.int x6), some (.int x7)]) rfl ?_
    refine v_iinc (y := (x7 + 1)) dX12_mend_107 rfl rfl (by decide) (L' := [some (.ref 68), some (.int x1), some (.int x2), some (.int x3), some (.int x4), some (.int (s0 + 0)), some (.int x6), some (.int (x7 + 1))]) rfl ?_
    refine v_goto (tgt := 65) dX12_mend_110 (by decide) ?_
    exact (q c0)
  · refine v_aload_n dX12_mend_86 rfl ?_
    refine v_getR dX12_mend_87 fl_RX12_43 kd_68 (ltA hA0 rfl) rfl (hF 68 21 75 rfl) ?_
    refine v_iload dX12_mend_90 rfl ?_
    refine v_iald dX12_mend_92 kd_75 (ltA hA0 rfl) (hi_92 c0) ?_
    refine v_aload_n dX12_mend_93 rfl ?_
    refine v_iload dX12_mend_94 rfl ?_
    exact v_cVI (mt := m_X12_mend) mo_X12_many ml_RX12_253 mi_X12_many mv_X12_many rfl kd_68 cl_12 rfl (ltA hA0 rfl) hR hcs (Nat.le_of_ble_eq_true rfl) dX12_mend_96 rfl (hM c0) (fun y g hp => ((q_1 c0) y g hp))
theorem c_X12_mend_99 {X : CX} {R : Room} {Z : ZX} {A : AX} {h : AH} {x1 x2 x3 x4 x6 x7 s0 s1 s2 : Int32} (q : V X m_X12_mend R Z A 65 [some (.ref 68), some (.int x1), some (.int x2), some (.int x3), some (.int x4), some (.int (s0 + (s1 - s2))), some (.int x6), some (.int (x7 + 1))] [] h) : V X m_X12_mend R Z A 99 [some (.ref 68), some (.int x1), some (.int x2), some (.int x3), some (.int x4), none, some (.int x6), some (.int x7)] [.int s2, .int s1, .int s0] h := by
  refine v_isub dX12_mend_99 ?_
  refine v_goto (tgt := 104) dX12_mend_100 (by decide) ?_
  refine v_iadd dX12_mend_104 ?_
  refine v_istore dX12_mend_105 (by decide) (L' := [some (.ref 68), some (.int x1), some (.int x2), some (.int x3), some (.int x4), some (.int (s0 + (s1 - s2))), some (.int x6), some (.int x7)]) rfl ?_
  refine v_iinc (y := (x7 + 1)) dX12_mend_107 rfl rfl (by decide) (L' := [some (.ref 68), some (.int x1), some (.int x2), some (.int x3), some (.int x4), some (.int (s0 + (s1 - s2))), some (.int x6), some (.int (x7 + 1))]) rfl ?_
  refine v_goto (tgt := 65) dX12_mend_110 (by decide) ?_
  exact q
theorem e_X12_need {X : CX} {d nx sz : Nat} {Q : Option Value → AH → Prop} {h : AH} {x1 x2 x3 : Int32} (q : V X m_X12_need (rm d 0 0) (ZM X Q nx sz 0 0) (nx, sz, 0, 0) 0 [some (.ref 68), some (.int x1), some (.int x2), some (.int x3), none] [] h) : Mk X d m_X12_need [.ref 68, .int x1, .int x2, .int x3] h nx sz Q := by
  refine Mok.ofV mo_X12_need (Nat.le_of_ble_eq_true rfl) (L := [some (.ref 68), some (.int x1), some (.int x2), some (.int x3)]) (lvLe_s (lvLe_s (lvLe_s (lvLe_s lvLe_e)))) (v_grow (n := 1) ?_)
  exact q
theorem c_X12_need_0 {X : CX} {R : Room} {Z : ZX} {A : AX} {h : AH} {x1 x2 x3 : Int32} {d : Nat} {P8 : Int32 → AH → Prop} (hA0 : 91 ≤ A.1) (hR : RO R (d + 1)) (hcs : A.2.2.1 ≤ R.cells ∧ A.2.2.2 ≤ R.slots) (hM : Mk X d m_X12_areTwo [.ref 68, .int x1, .int x2] (setI h 68 0 0) A.1 A.2.1 (RI P8)) (q : ∀ (y : Int32) (g : AH), P8 y g → V X m_X12_need R Z A 11 [some (.ref 68), some (.int x1), some (.int x2), some (.int x3), none] [.int y] g) : V X m_X12_need R Z A 0 [some (.ref 68), some (.int x1), some (.int x2), some (.int x3), none] [] h := by
  refine v_aload_n dX12_need_0 rfl ?_
  refine v_iconst dX12_need_1 ci_0 ?_
  refine v_putI rfl rfl rfl dX12_need_2 fl_RX12_103 (Or.inl rfl) kd_68 (ltA hA0 rfl) ?_
  refine v_aload_n dX12_need_5 rfl ?_
  refine v_iload_n dX12_need_6 rfl ?_
  refine v_iload_n dX12_need_7 rfl ?_
  exact v_cVI (mt := m_X12_need) mo_X12_areTwo ml_RX12_256 mi_X12_areTwo mv_X12_areTwo rfl kd_68 cl_12 rfl (ltA hA0 rfl) hR hcs (Nat.le_of_ble_eq_true rfl) dX12_need_8 rfl hM (fun y g hp => (q y g hp))
theorem c_X12_need_11 {X : CX} {R : Room} {Q : Option Value → AH → Prop} {nx sz mc ms : Nat} {h : AH} {x1 x2 x3 s0 : Int32} {d : Nat} {P18 : Int32 → AH → Prop} (hR : RO R (d + 1)) (hcs : mc ≤ R.cells ∧ ms ≤ R.slots) (hq : s0 = 0 → Q (some (.int 0)) h) (hM : ¬ s0 = 0 → Mk X d m_X12_isIn [.int x3, .int 0, .int 99] h nx sz (RI P18)) (q : ¬ s0 = 0 → ∀ (y : Int32) (g : AH), P18 y g → V X m_X12_need R (ZM X Q nx sz mc ms) (nx, sz, mc, ms) 21 [some (.ref 68), some (.int x1), some (.int x2), some (.int x3), none] [.int y] g) : V X m_X12_need R (ZM X Q nx sz mc ms) (nx, sz, mc, ms) 11 [some (.ref 68), some (.int x1), some (.int x2), some (.int x3), none] [.int s0] h := by
  refine v_if_eq (tgt := 24) dX12_need_11 (by decide) (fun c0 => ?_) (fun c0 => ?_)
  · refine v_iconst dX12_need_24 ci_0 ?_
    exact v_zret (ty := .boolean) dX12_need_25 rfl rfl (hq c0)
  · refine v_iload_n dX12_need_14 rfl ?_
    refine v_iconst dX12_need_15 ci_0 ?_
    refine v_bipush dX12_need_16 cb_99 ?_
    exact v_cSI (mt := m_X12_need) mo_X12_isIn ml_RX12_232 mz_X12_isIn rfl hR hcs (Nat.le_of_ble_eq_true rfl) dX12_need_18 rfl (hM c0) (fun y g hp => ((q c0) y g hp))
theorem c_X12_need_21 {X : CX} {R : Room} {Q : Option Value → AH → Prop} {nx sz mc ms : Nat} {h : AH} {x1 x2 x3 s0 : Int32} (hA0 : 91 ≤ nx) (hF : Fx h) (hi_40 : ¬ s0 = 0 → vp_in ((20 * x1) + x2) 400) (hi_79 : ¬ s0 = 0 → ¬ (h.1 83 ((20 * x1) + x2).toNatClampNeg) = 0 → x3 ≤ 0 → vp_in ((20 * x1) + x2) 400) (hi_100 : ¬ s0 = 0 → ¬ (h.1 83 ((20 * x1) + x2).toNatClampNeg) = 0 → x3 ≤ 0 → (h.1 83 ((20 * x1) + x2).toNatClampNeg) ≤ 0 → vp_in ((20 * x1) + x2) 400) (hq : ¬ s0 = 0 → ¬ (h.1 83 ((20 * x1) + x2).toNatClampNeg) = 0 → x3 ≤ 0 → (h.1 83 ((20 * x1) + x2).toNatClampNeg) ≤ 0 → Q (some (.int 1)) (setI (setI h 68 30 ((h.1 68 30) + (0 - 0))) 83 ((20 * x1) + x2).toNatClampNeg x3)) (hi_100_1 : ¬ s0 = 0 → ¬ (h.1 83 ((20 * x1) + x2).toNatClampNeg) = 0 → x3 ≤ 0 → ¬ (h.1 83 ((20 * x1) + x2).toNatClampNeg) ≤ 0 → vp_in ((20 * x1) + x2) 400) (hq_1 : ¬ s0 = 0 → ¬ (h.1 83 ((20 * x1) + x2).toNatClampNeg) = 0 → x3 ≤ 0 → ¬ (h.1 83 ((20 * x1) + x2).toNatClampNeg) ≤ 0 → Q (some (.int 1)) (setI (setI h 68 30 ((h.1 68 30) + (0 - 1))) 83 ((20 * x1) + x2).toNatClampNeg x3)) (hi_79_1 : ¬ s0 = 0 → ¬ (h.1 83 ((20 * x1) + x2).toNatClampNeg) = 0 → ¬ x3 ≤ 0 → vp_in ((20 * x1) + x2) 400) (hi_100_2 : ¬ s0 = 0 → ¬ (h.1 83 ((20 * x1) + x2).toNatClampNeg) = 0 → ¬ x3 ≤ 0 → (h.1 83 ((20 * x1) + x2).toNatClampNeg) ≤ 0 → vp_in ((20 * x1) + x2) 400) (hq_2 : ¬ s0 = 0 → ¬ (h.1 83 ((20 * x1) + x2).toNatClampNeg) = 0 → ¬ x3 ≤ 0 → (h.1 83 ((20 * x1) + x2).toNatClampNeg) ≤ 0 → Q (some (.int 1)) (setI (setI h 68 30 ((h.1 68 30) + (1 - 0))) 83 ((20 * x1) + x2).toNatClampNeg x3)) (hi_100_3 : ¬ s0 = 0 → ¬ (h.1 83 ((20 * x1) + x2).toNatClampNeg) = 0 → ¬ x3 ≤ 0 → ¬ (h.1 83 ((20 * x1) + x2).toNatClampNeg) ≤ 0 → vp_in ((20 * x1) + x2) 400) (hq_3 : ¬ s0 = 0 → ¬ (h.1 83 ((20 * x1) + x2).toNatClampNeg) = 0 → ¬ x3 ≤ 0 → ¬ (h.1 83 ((20 * x1) + x2).toNatClampNeg) ≤ 0 → Q (some (.int 1)) (setI (setI h 68 30 ((h.1 68 30) + (1 - 1))) 83 ((20 * x1) + x2).toNatClampNeg x3)) (hi_79_2 : ¬ s0 = 0 → (h.1 83 ((20 * x1) + x2).toNatClampNeg) = 0 → x3 ≤ 0 → x3 ≤ 0 → vp_in ((20 * x1) + x2) 400) (hi_100_4 : ¬ s0 = 0 → (h.1 83 ((20 * x1) + x2).toNatClampNeg) = 0 → x3 ≤ 0 → x3 ≤ 0 → (h.1 83 ((20 * x1) + x2).toNatClampNeg) ≤ 0 → vp_in ((20 * x1) + x2) 400) (hq_4 : ¬ s0 = 0 → (h.1 83 ((20 * x1) + x2).toNatClampNeg) = 0 → x3 ≤ 0 → x3 ≤ 0 → (h.1 83 ((20 * x1) + x2).toNatClampNeg) ≤ 0 → Q (some (.int 1)) (setI (setI h 68 30 ((h.1 68 30) + (0 - 0))) 83 ((20 * x1) + x2).toNatClampNeg x3)) (hi_100_5 : ¬ s0 = 0 → (h.1 83 ((20 * x1) + x2).toNatClampNeg) = 0 → x3 ≤ 0 → x3 ≤ 0 → ¬ (h.1 83 ((20 * x1) + x2).toNatClampNeg) ≤ 0 → vp_in ((20 * x1) + x2) 400) (hq_5 : ¬ s0 = 0 → (h.1 83 ((20 * x1) + x2).toNatClampNeg) = 0 → x3 ≤ 0 → x3 ≤ 0 → ¬ (h.1 83 ((20 * x1) + x2).toNatClampNeg) ≤ 0 → Q (some (.int 1)) (setI (setI h 68 30 ((h.1 68 30) + (0 - 1))) 83 ((20 * x1) + x2).toNatClampNeg x3)) (hi_79_3 : ¬ s0 = 0 → (h.1 83 ((20 * x1) + x2).toNatClampNeg) = 0 → x3 ≤ 0 → ¬ x3 ≤ 0 → vp_in ((20 * x1) + x2) 400) (hi_100_6 : ¬ s0 = 0 → (h.1 83 ((20 * x1) + x2).toNatClampNeg) = 0 → x3 ≤ 0 → ¬ x3 ≤ 0 → (h.1 83 ((20 * x1) + x2).toNatClampNeg) ≤ 0 → vp_in ((20 * x1) + x2) 400) (hq_6 : ¬ s0 = 0 → (h.1 83 ((20 * x1) + x2).toNatClampNeg) = 0 → x3 ≤ 0 → ¬ x3 ≤ 0 → (h.1 83 ((20 * x1) + x2).toNatClampNeg) ≤ 0 → Q (some (.int 1)) (setI (setI h 68 30 ((h.1 68 30) + (1 - 0))) 83 ((20 * x1) + x2).toNatClampNeg x3)) (hi_100_7 : ¬ s0 = 0 → (h.1 83 ((20 * x1) + x2).toNatClampNeg) = 0 → x3 ≤ 0 → ¬ x3 ≤ 0 → ¬ (h.1 83 ((20 * x1) + x2).toNatClampNeg) ≤ 0 → vp_in ((20 * x1) + x2) 400) (hq_7 : ¬ s0 = 0 → (h.1 83 ((20 * x1) + x2).toNatClampNeg) = 0 → x3 ≤ 0 → ¬ x3 ≤ 0 → ¬ (h.1 83 ((20 * x1) + x2).toNatClampNeg) ≤ 0 → Q (some (.int 1)) (setI (setI h 68 30 ((h.1 68 30) + (1 - 1))) 83 ((20 * x1) + x2).toNatClampNeg x3)) (hi_79_4 : ¬ s0 = 0 → (h.1 83 ((20 * x1) + x2).toNatClampNeg) = 0 → ¬ x3 ≤ 0 → ¬ (h.1 68 30) = 60 → x3 ≤ 0 → vp_in ((20 * x1) + x2) 400) (hi_100_8 : ¬ s0 = 0 → (h.1 83 ((20 * x1) + x2).toNatClampNeg) = 0 → ¬ x3 ≤ 0 → ¬ (h.1 68 30) = 60 → x3 ≤ 0 → (h.1 83 ((20 * x1) + x2).toNatClampNeg) ≤ 0 → vp_in ((20 * x1) + x2) 400) (hq_8 : ¬ s0 = 0 → (h.1 83 ((20 * x1) + x2).toNatClampNeg) = 0 → ¬ x3 ≤ 0 → ¬ (h.1 68 30) = 60 → x3 ≤ 0 → (h.1 83 ((20 * x1) + x2).toNatClampNeg) ≤ 0 → Q (some (.int 1)) (setI (setI h 68 30 ((h.1 68 30) + (0 - 0))) 83 ((20 * x1) + x2).toNatClampNeg x3)) (hi_100_9 : ¬ s0 = 0 → (h.1 83 ((20 * x1) + x2).toNatClampNeg) = 0 → ¬ x3 ≤ 0 → ¬ (h.1 68 30) = 60 → x3 ≤ 0 → ¬ (h.1 83 ((20 * x1) + x2).toNatClampNeg) ≤ 0 → vp_in ((20 * x1) + x2) 400) (hq_9 : ¬ s0 = 0 → (h.1 83 ((20 * x1) + x2).toNatClampNeg) = 0 → ¬ x3 ≤ 0 → ¬ (h.1 68 30) = 60 → x3 ≤ 0 → ¬ (h.1 83 ((20 * x1) + x2).toNatClampNeg) ≤ 0 → Q (some (.int 1)) (setI (setI h 68 30 ((h.1 68 30) + (0 - 1))) 83 ((20 * x1) + x2).toNatClampNeg x3)) (hi_79_5 : ¬ s0 = 0 → (h.1 83 ((20 * x1) + x2).toNatClampNeg) = 0 → ¬ x3 ≤ 0 → ¬ (h.1 68 30) = 60 → ¬ x3 ≤ 0 → vp_in ((20 * x1) + x2) 400) (hi_100_10 : ¬ s0 = 0 → (h.1 83 ((20 * x1) + x2).toNatClampNeg) = 0 → ¬ x3 ≤ 0 → ¬ (h.1 68 30) = 60 → ¬ x3 ≤ 0 → (h.1 83 ((20 * x1) + x2).toNatClampNeg) ≤ 0 → vp_in ((20 * x1) + x2) 400) (hq_10 : ¬ s0 = 0 → (h.1 83 ((20 * x1) + x2).toNatClampNeg) = 0 → ¬ x3 ≤ 0 → ¬ (h.1 68 30) = 60 → ¬ x3 ≤ 0 → (h.1 83 ((20 * x1) + x2).toNatClampNeg) ≤ 0 → Q (some (.int 1)) (setI (setI h 68 30 ((h.1 68 30) + (1 - 0))) 83 ((20 * x1) + x2).toNatClampNeg x3)) (hi_100_11 : ¬ s0 = 0 → (h.1 83 ((20 * x1) + x2).toNatClampNeg) = 0 → ¬ x3 ≤ 0 → ¬ (h.1 68 30) = 60 → ¬ x3 ≤ 0 → ¬ (h.1 83 ((20 * x1) + x2).toNatClampNeg) ≤ 0 → vp_in ((20 * x1) + x2) 400) (hq_11 : ¬ s0 = 0 → (h.1 83 ((20 * x1) + x2).toNatClampNeg) = 0 → ¬ x3 ≤ 0 → ¬ (h.1 68 30) = 60 → ¬ x3 ≤ 0 → ¬ (h.1 83 ((20 * x1) + x2).toNatClampNeg) ≤ 0 → Q (some (.int 1)) (setI (setI h 68 30 ((h.1 68 30) + (1 - 1))) 83 ((20 * x1) + x2).toNatClampNeg x3)) (hq_12 : ¬ s0 = 0 → (h.1 83 ((20 * x1) + x2).toNatClampNeg) = 0 → ¬ x3 ≤ 0 → (h.1 68 30) = 60 → Q (some (.int 0)) h) (hq_13 : s0 = 0 → Q (some (.int 0)) h) : V X m_X12_need R (ZM X Q nx sz mc ms) (nx, sz, mc, ms) 21 [some (.ref 68), some (.int x1), some (.int x2), some (.int x3), none] [.int s0] h := by
  refine v_if_ne (tgt := 26) dX12_need_21 (by decide) (fun c0 => ?_) (fun c0 => ?_)
  · refine v_bipush dX12_need_26 cb_20 ?_
    refine v_iload_n dX12_need_28 rfl ?_
    refine v_imul dX12_need_29 ?_
    refine v_iload_n dX12_need_30 rfl ?_
    refine v_iadd dX12_need_31 ?_
    refine v_istore dX12_need_32 (by decide) (L' := [some (.ref 68), some (.int x1), some (.int x2), some (.int x3), some (.int ((20 * x1) + x2))]) rfl ?_
    refine v_aload_n dX12_need_34 rfl ?_
    refine v_getR dX12_need_35 fl_RX12_69 kd_68 (ltA hA0 rfl) rfl (hF 68 29 83 rfl) ?_
    refine v_iload dX12_need_38 rfl ?_
    refine v_iald dX12_need_40 kd_83 (ltA hA0 rfl) (hi_40 c0) ?_
    refine v_if_ne (tgt := 59) dX12_need_41 (by decide) (fun c1 => ?_) (fun c1 => ?_)
    · refine v_aload_n dX12_need_59 rfl ?_
      refine v_dup dX12_need_60 rfl ?_
      refine v_getI dX12_need_61 fl_RX12_318 kd_68 (ltA hA0 rfl) rfl ?_
      refine v_iload_n dX12_need_64 rfl ?_
      refine v_if_le (tgt := 72) dX12_need_65 (by decide) (fun c2 => ?_) (fun c2 => ?_)
      · refine v_iconst dX12_need_72 ci_0 ?_
        refine v_aload_n dX12_need_73 rfl ?_
        refine v_getR dX12_need_74 fl_RX12_69 kd_68 (ltA hA0 rfl) rfl (hF 68 29 83 rfl) ?_
        refine v_iload dX12_need_77 rfl ?_
        refine v_iald dX12_need_79 kd_83 (ltA hA0 rfl) (hi_79 c0 c1 c2) ?_
        refine v_if_le (tgt := 87) dX12_need_80 (by decide) (fun c3 => ?_) (fun c3 => ?_)
        · refine v_iconst dX12_need_87 ci_0 ?_
          refine v_isub dX12_need_88 ?_
          refine v_iadd dX12_need_89 ?_
          refine v_putI rfl rfl rfl dX12_need_90 fl_RX12_318 (Or.inl rfl) kd_68 (ltA hA0 rfl) ?_
          refine v_aload_n dX12_need_93 rfl ?_
          refine v_getR dX12_need_94 fl_RX12_69 kd_68 (ltA hA0 rfl) rfl (hF 68 29 83 rfl) ?_
          refine v_iload dX12_need_97 rfl ?_
          refine v_iload_n dX12_need_99 rfl ?_
          refine v_iast dX12_need_100 kd_83 (ltA hA0 rfl) (hi_100 c0 c1 c2 c3) ?_
          refine v_iconst dX12_need_101 ci_1 ?_
          exact v_zret (ty := .boolean) dX12_need_102 rfl rfl (hq c0 c1 c2 c3)
        · refine v_iconst dX12_need_83 ci_1 ?_
          refine v_goto (tgt := 88) dX12_need_84 (by decide) ?_
          refine v_isub dX12_need_88 ?_
          refine v_iadd dX12_need_89 ?_
          refine v_putI rfl rfl rfl dX12_need_90 fl_RX12_318 (Or.inl rfl) kd_68 (ltA hA0 rfl) ?_
          refine v_aload_n dX12_need_93 rfl ?_
          refine v_getR dX12_need_94 fl_RX12_69 kd_68 (ltA hA0 rfl) rfl (hF 68 29 83 rfl) ?_
          refine v_iload dX12_need_97 rfl ?_
          refine v_iload_n dX12_need_99 rfl ?_
          refine v_iast dX12_need_100 kd_83 (ltA hA0 rfl) (hi_100_1 c0 c1 c2 c3) ?_
          refine v_iconst dX12_need_101 ci_1 ?_
          exact v_zret (ty := .boolean) dX12_need_102 rfl rfl (hq_1 c0 c1 c2 c3)
      · refine v_iconst dX12_need_68 ci_1 ?_
        refine v_goto (tgt := 73) dX12_need_69 (by decide) ?_
        refine v_aload_n dX12_need_73 rfl ?_
        refine v_getR dX12_need_74 fl_RX12_69 kd_68 (ltA hA0 rfl) rfl (hF 68 29 83 rfl) ?_
        refine v_iload dX12_need_77 rfl ?_
        refine v_iald dX12_need_79 kd_83 (ltA hA0 rfl) (hi_79_1 c0 c1 c2) ?_
        refine v_if_le (tgt := 87) dX12_need_80 (by decide) (fun c3 => ?_) (fun c3 => ?_)
        · refine v_iconst dX12_need_87 ci_0 ?_
          refine v_isub dX12_need_88 ?_
          refine v_iadd dX12_need_89 ?_
          refine v_putI rfl rfl rfl dX12_need_90 fl_RX12_318 (Or.inl rfl) kd_68 (ltA hA0 rfl) ?_
          refine v_aload_n dX12_need_93 rfl ?_
          refine v_getR dX12_need_94 fl_RX12_69 kd_68 (ltA hA0 rfl) rfl (hF 68 29 83 rfl) ?_
          refine v_iload dX12_need_97 rfl ?_
          refine v_iload_n dX12_need_99 rfl ?_
          refine v_iast dX12_need_100 kd_83 (ltA hA0 rfl) (hi_100_2 c0 c1 c2 c3) ?_
          refine v_iconst dX12_need_101 ci_1 ?_
          exact v_zret (ty := .boolean) dX12_need_102 rfl rfl (hq_2 c0 c1 c2 c3)
        · refine v_iconst dX12_need_83 ci_1 ?_
          refine v_goto (tgt := 88) dX12_need_84 (by decide) ?_
          refine v_isub dX12_need_88 ?_
          refine v_iadd dX12_need_89 ?_
          refine v_putI rfl rfl rfl dX12_need_90 fl_RX12_318 (Or.inl rfl) kd_68 (ltA hA0 rfl) ?_
          refine v_aload_n dX12_need_93 rfl ?_
          refine v_getR dX12_need_94 fl_RX12_69 kd_68 (ltA hA0 rfl) rfl (hF 68 29 83 rfl) ?_
          refine v_iload dX12_need_97 rfl ?_
          refine v_iload_n dX12_need_99 rfl ?_
          refine v_iast dX12_need_100 kd_83 (ltA hA0 rfl) (hi_100_3 c0 c1 c2 c3) ?_
          refine v_iconst dX12_need_101 ci_1 ?_
          exact v_zret (ty := .boolean) dX12_need_102 rfl rfl (hq_3 c0 c1 c2 c3)
    · refine v_iload_n dX12_need_44 rfl ?_
      refine v_if_le (tgt := 59) dX12_need_45 (by decide) (fun c2 => ?_) (fun c2 => ?_)
      · refine v_aload_n dX12_need_59 rfl ?_
        refine v_dup dX12_need_60 rfl ?_
        refine v_getI dX12_need_61 fl_RX12_318 kd_68 (ltA hA0 rfl) rfl ?_
        refine v_iload_n dX12_need_64 rfl ?_
        refine v_if_le (tgt := 72) dX12_need_65 (by decide) (fun c3 => ?_) (fun c3 => ?_)
        · refine v_iconst dX12_need_72 ci_0 ?_
          refine v_aload_n dX12_need_73 rfl ?_
          refine v_getR dX12_need_74 fl_RX12_69 kd_68 (ltA hA0 rfl) rfl (hF 68 29 83 rfl) ?_
          refine v_iload dX12_need_77 rfl ?_
          refine v_iald dX12_need_79 kd_83 (ltA hA0 rfl) (hi_79_2 c0 c1 c2 c3) ?_
          refine v_if_le (tgt := 87) dX12_need_80 (by decide) (fun c4 => ?_) (fun c4 => ?_)
          · refine v_iconst dX12_need_87 ci_0 ?_
            refine v_isub dX12_need_88 ?_
            refine v_iadd dX12_need_89 ?_
            refine v_putI rfl rfl rfl dX12_need_90 fl_RX12_318 (Or.inl rfl) kd_68 (ltA hA0 rfl) ?_
            refine v_aload_n dX12_need_93 rfl ?_
            refine v_getR dX12_need_94 fl_RX12_69 kd_68 (ltA hA0 rfl) rfl (hF 68 29 83 rfl) ?_
            refine v_iload dX12_need_97 rfl ?_
            refine v_iload_n dX12_need_99 rfl ?_
            refine v_iast dX12_need_100 kd_83 (ltA hA0 rfl) (hi_100_4 c0 c1 c2 c3 c4) ?_
            refine v_iconst dX12_need_101 ci_1 ?_
            exact v_zret (ty := .boolean) dX12_need_102 rfl rfl (hq_4 c0 c1 c2 c3 c4)
          · refine v_iconst dX12_need_83 ci_1 ?_
            refine v_goto (tgt := 88) dX12_need_84 (by decide) ?_
            refine v_isub dX12_need_88 ?_
            refine v_iadd dX12_need_89 ?_
            refine v_putI rfl rfl rfl dX12_need_90 fl_RX12_318 (Or.inl rfl) kd_68 (ltA hA0 rfl) ?_
            refine v_aload_n dX12_need_93 rfl ?_
            refine v_getR dX12_need_94 fl_RX12_69 kd_68 (ltA hA0 rfl) rfl (hF 68 29 83 rfl) ?_
            refine v_iload dX12_need_97 rfl ?_
            refine v_iload_n dX12_need_99 rfl ?_
            refine v_iast dX12_need_100 kd_83 (ltA hA0 rfl) (hi_100_5 c0 c1 c2 c3 c4) ?_
            refine v_iconst dX12_need_101 ci_1 ?_
            exact v_zret (ty := .boolean) dX12_need_102 rfl rfl (hq_5 c0 c1 c2 c3 c4)
        · refine v_iconst dX12_need_68 ci_1 ?_
          refine v_goto (tgt := 73) dX12_need_69 (by decide) ?_
          refine v_aload_n dX12_need_73 rfl ?_
          refine v_getR dX12_need_74 fl_RX12_69 kd_68 (ltA hA0 rfl) rfl (hF 68 29 83 rfl) ?_
          refine v_iload dX12_need_77 rfl ?_
          refine v_iald dX12_need_79 kd_83 (ltA hA0 rfl) (hi_79_3 c0 c1 c2 c3) ?_
          refine v_if_le (tgt := 87) dX12_need_80 (by decide) (fun c4 => ?_) (fun c4 => ?_)
          · refine v_iconst dX12_need_87 ci_0 ?_
            refine v_isub dX12_need_88 ?_
            refine v_iadd dX12_need_89 ?_
            refine v_putI rfl rfl rfl dX12_need_90 fl_RX12_318 (Or.inl rfl) kd_68 (ltA hA0 rfl) ?_
            refine v_aload_n dX12_need_93 rfl ?_
            refine v_getR dX12_need_94 fl_RX12_69 kd_68 (ltA hA0 rfl) rfl (hF 68 29 83 rfl) ?_
            refine v_iload dX12_need_97 rfl ?_
            refine v_iload_n dX12_need_99 rfl ?_
            refine v_iast dX12_need_100 kd_83 (ltA hA0 rfl) (hi_100_6 c0 c1 c2 c3 c4) ?_
            refine v_iconst dX12_need_101 ci_1 ?_
            exact v_zret (ty := .boolean) dX12_need_102 rfl rfl (hq_6 c0 c1 c2 c3 c4)
          · refine v_iconst dX12_need_83 ci_1 ?_
            refine v_goto (tgt := 88) dX12_need_84 (by decide) ?_
            refine v_isub dX12_need_88 ?_
            refine v_iadd dX12_need_89 ?_
            refine v_putI rfl rfl rfl dX12_need_90 fl_RX12_318 (Or.inl rfl) kd_68 (ltA hA0 rfl) ?_
            refine v_aload_n dX12_need_93 rfl ?_
            refine v_getR dX12_need_94 fl_RX12_69 kd_68 (ltA hA0 rfl) rfl (hF 68 29 83 rfl) ?_
            refine v_iload dX12_need_97 rfl ?_
            refine v_iload_n dX12_need_99 rfl ?_
            refine v_iast dX12_need_100 kd_83 (ltA hA0 rfl) (hi_100_7 c0 c1 c2 c3 c4) ?_
            refine v_iconst dX12_need_101 ci_1 ?_
            exact v_zret (ty := .boolean) dX12_need_102 rfl rfl (hq_7 c0 c1 c2 c3 c4)
      · refine v_aload_n dX12_need_48 rfl ?_
        refine v_getI dX12_need_49 fl_RX12_318 kd_68 (ltA hA0 rfl) rfl ?_
        refine v_bipush dX12_need_52 cb_60 ?_
        refine v_icmp_ne (tgt := 59) dX12_need_54 (by decide) (fun c3 => ?_) (fun c3 => ?_)
        · refine v_aload_n dX12_need_59 rfl ?_
          refine v_dup dX12_need_60 rfl ?_
          refine v_getI dX12_need_61 fl_RX12_318 kd_68 (ltA hA0 rfl) rfl ?_
          refine v_iload_n dX12_need_64 rfl ?_
          refine v_if_le (tgt := 72) dX12_need_65 (by decide) (fun c4 => ?_) (fun c4 => ?_)
          · refine v_iconst dX12_need_72 ci_0 ?_
            refine v_aload_n dX12_need_73 rfl ?_
            refine v_getR dX12_need_74 fl_RX12_69 kd_68 (ltA hA0 rfl) rfl (hF 68 29 83 rfl) ?_
            refine v_iload dX12_need_77 rfl ?_
            refine v_iald dX12_need_79 kd_83 (ltA hA0 rfl) (hi_79_4 c0 c1 c2 c3 c4) ?_
            refine v_if_le (tgt := 87) dX12_need_80 (by decide) (fun c5 => ?_) (fun c5 => ?_)
            · refine v_iconst dX12_need_87 ci_0 ?_
              refine v_isub dX12_need_88 ?_
              refine v_iadd dX12_need_89 ?_
              refine v_putI rfl rfl rfl dX12_need_90 fl_RX12_318 (Or.inl rfl) kd_68 (ltA hA0 rfl) ?_
              refine v_aload_n dX12_need_93 rfl ?_
              refine v_getR dX12_need_94 fl_RX12_69 kd_68 (ltA hA0 rfl) rfl (hF 68 29 83 rfl) ?_
              refine v_iload dX12_need_97 rfl ?_
              refine v_iload_n dX12_need_99 rfl ?_
              refine v_iast dX12_need_100 kd_83 (ltA hA0 rfl) (hi_100_8 c0 c1 c2 c3 c4 c5) ?_
              refine v_iconst dX12_need_101 ci_1 ?_
              exact v_zret (ty := .boolean) dX12_need_102 rfl rfl (hq_8 c0 c1 c2 c3 c4 c5)
            · refine v_iconst dX12_need_83 ci_1 ?_
              refine v_goto (tgt := 88) dX12_need_84 (by decide) ?_
              refine v_isub dX12_need_88 ?_
              refine v_iadd dX12_need_89 ?_
              refine v_putI rfl rfl rfl dX12_need_90 fl_RX12_318 (Or.inl rfl) kd_68 (ltA hA0 rfl) ?_
              refine v_aload_n dX12_need_93 rfl ?_
              refine v_getR dX12_need_94 fl_RX12_69 kd_68 (ltA hA0 rfl) rfl (hF 68 29 83 rfl) ?_
              refine v_iload dX12_need_97 rfl ?_
              refine v_iload_n dX12_need_99 rfl ?_
              refine v_iast dX12_need_100 kd_83 (ltA hA0 rfl) (hi_100_9 c0 c1 c2 c3 c4 c5) ?_
              refine v_iconst dX12_need_101 ci_1 ?_
              exact v_zret (ty := .boolean) dX12_need_102 rfl rfl (hq_9 c0 c1 c2 c3 c4 c5)
          · refine v_iconst dX12_need_68 ci_1 ?_
            refine v_goto (tgt := 73) dX12_need_69 (by decide) ?_
            refine v_aload_n dX12_need_73 rfl ?_
            refine v_getR dX12_need_74 fl_RX12_69 kd_68 (ltA hA0 rfl) rfl (hF 68 29 83 rfl) ?_
            refine v_iload dX12_need_77 rfl ?_
            refine v_iald dX12_need_79 kd_83 (ltA hA0 rfl) (hi_79_5 c0 c1 c2 c3 c4) ?_
            refine v_if_le (tgt := 87) dX12_need_80 (by decide) (fun c5 => ?_) (fun c5 => ?_)
            · refine v_iconst dX12_need_87 ci_0 ?_
              refine v_isub dX12_need_88 ?_
              refine v_iadd dX12_need_89 ?_
              refine v_putI rfl rfl rfl dX12_need_90 fl_RX12_318 (Or.inl rfl) kd_68 (ltA hA0 rfl) ?_
              refine v_aload_n dX12_need_93 rfl ?_
              refine v_getR dX12_need_94 fl_RX12_69 kd_68 (ltA hA0 rfl) rfl (hF 68 29 83 rfl) ?_
              refine v_iload dX12_need_97 rfl ?_
              refine v_iload_n dX12_need_99 rfl ?_
              refine v_iast dX12_need_100 kd_83 (ltA hA0 rfl) (hi_100_10 c0 c1 c2 c3 c4 c5) ?_
              refine v_iconst dX12_need_101 ci_1 ?_
              exact v_zret (ty := .boolean) dX12_need_102 rfl rfl (hq_10 c0 c1 c2 c3 c4 c5)
            · refine v_iconst dX12_need_83 ci_1 ?_
              refine v_goto (tgt := 88) dX12_need_84 (by decide) ?_
              refine v_isub dX12_need_88 ?_
              refine v_iadd dX12_need_89 ?_
              refine v_putI rfl rfl rfl dX12_need_90 fl_RX12_318 (Or.inl rfl) kd_68 (ltA hA0 rfl) ?_
              refine v_aload_n dX12_need_93 rfl ?_
              refine v_getR dX12_need_94 fl_RX12_69 kd_68 (ltA hA0 rfl) rfl (hF 68 29 83 rfl) ?_
              refine v_iload dX12_need_97 rfl ?_
              refine v_iload_n dX12_need_99 rfl ?_
              refine v_iast dX12_need_100 kd_83 (ltA hA0 rfl) (hi_100_11 c0 c1 c2 c3 c4 c5) ?_
              refine v_iconst dX12_need_101 ci_1 ?_
              exact v_zret (ty := .boolean) dX12_need_102 rfl rfl (hq_11 c0 c1 c2 c3 c4 c5)
        · refine v_iconst dX12_need_57 ci_0 ?_
          exact v_zret (ty := .boolean) dX12_need_58 rfl rfl (hq_12 c0 c1 c2 c3)
  · refine v_iconst dX12_need_24 ci_0 ?_
    exact v_zret (ty := .boolean) dX12_need_25 rfl rfl (hq_13 c0)
theorem e_X12_valueOf {X : CX} {d nx sz : Nat} {Q : Option Value → AH → Prop} {h : AH} {x1 : Int32} (q : V X m_X12_valueOf (rm d 0 0) (ZM X Q nx sz 0 0) (nx, sz, 0, 0) 0 [some (.ref 68), some (.int x1), none, none, none, none] [] h) : Mk X d m_X12_valueOf [.ref 68, .int x1] h nx sz Q := by
  refine Mok.ofV mo_X12_valueOf (Nat.le_of_ble_eq_true rfl) (L := [some (.ref 68), some (.int x1)]) (lvLe_s (lvLe_s lvLe_e)) (v_grow (n := 4) ?_)
  exact q
theorem c_X12_valueOf_0 {X : CX} {R : Room} {Z : ZX} {A : AX} {h : AH} {x1 : Int32} (q : V X m_X12_valueOf R Z A 4 [some (.ref 68), some (.int x1), some (.int 0), some (.int 0), none, none] [] h) : V X m_X12_valueOf R Z A 0 [some (.ref 68), some (.int x1), none, none, none, none] [] h := by
  refine v_iconst dX12_valueOf_0 ci_0 ?_
  refine v_istore_n dX12_valueOf_1 (by decide) (L' := [some (.ref 68), some (.int x1), some (.int 0), none, none, none]) rfl ?_
  refine v_iconst dX12_valueOf_2 ci_0 ?_
  refine v_istore_n dX12_valueOf_3 (by decide) (L' := [some (.ref 68), some (.int x1), some (.int 0), some (.int 0), none, none]) rfl ?_
  exact q
theorem c_X12_valueOf_4 {X : CX} {R : Room} {Q : Option Value → AH → Prop} {nx sz mc ms : Nat} {h : AH} {x1 x2 x3 : Int32} {d : Nat} {P33 : Int32 → AH → Prop} (hA0 : 91 ≤ nx) (hF : Fx h) (hR : RO R (d + 1)) (hcs : mc ≤ R.cells ∧ ms ≤ R.slots) (hq : (h.1 68 1) ≤ x3 → Q (some (.int x2)) h) (hi_22 : ¬ (h.1 68 1) ≤ x3 → vp_in ((20 * x1) + x3) 400) (q : ¬ (h.1 68 1) ≤ x3 → (h.1 83 ((20 * x1) + x3).toNatClampNeg) ≤ 0 → V X m_X12_valueOf R (ZM X Q nx sz mc ms) (nx, sz, mc, ms) 4 [some (.ref 68), some (.int x1), some (.int (x2 + 0)), some (.int (x3 + 1)), none, none] [] h) (hM : ¬ (h.1 68 1) ≤ x3 → ¬ (h.1 83 ((20 * x1) + x3).toNatClampNeg) ≤ 0 → Mk X d m_X12_farOf [.ref 68, .int x1, .int x3] h nx sz (RI P33)) (q_1 : ¬ (h.1 68 1) ≤ x3 → ¬ (h.1 83 ((20 * x1) + x3).toNatClampNeg) ≤ 0 → ∀ (y : Int32) (g : AH), P33 y g → V X m_X12_valueOf R (ZM X Q nx sz mc ms) (nx, sz, mc, ms) 36 [some (.ref 68), some (.int x1), some (.int x2), some (.int x3), some (.int (h.1 83 ((20 * x1) + x3).toNatClampNeg)), none] [.int y] g) : V X m_X12_valueOf R (ZM X Q nx sz mc ms) (nx, sz, mc, ms) 4 [some (.ref 68), some (.int x1), some (.int x2), some (.int x3), none, none] [] h := by
  refine v_iload_n dX12_valueOf_4 rfl ?_
  refine v_aload_n dX12_valueOf_5 rfl ?_
  refine v_getI dX12_valueOf_6 fl_RX12_99 kd_68 (ltA hA0 rfl) rfl ?_
  refine v_icmp_ge (tgt := 68) dX12_valueOf_9 (by decide) (fun c0 => ?_) (fun c0 => ?_)
  · refine v_iload_n dX12_valueOf_68 rfl ?_
    exact v_iret dX12_valueOf_69 rfl (hq c0)
  · refine v_aload_n dX12_valueOf_12 rfl ?_
    refine v_getR dX12_valueOf_13 fl_RX12_69 kd_68 (ltA hA0 rfl) rfl (hF 68 29 83 rfl) ?_
    refine v_bipush dX12_valueOf_16 cb_20 ?_
    refine v_iload_n dX12_valueOf_18 rfl ?_
    refine v_imul dX12_valueOf_19 ?_
    refine v_iload_n dX12_valueOf_20 rfl ?_
    refine v_iadd dX12_valueOf_21 ?_
    refine v_iald dX12_valueOf_22 kd_83 (ltA hA0 rfl) (hi_22 c0) ?_
    refine v_istore dX12_valueOf_23 (by decide) (L' := [some (.ref 68), some (.int x1), some (.int x2), some (.int x3), some (.int (h.1 83 ((20 * x1) + x3).toNatClampNeg)), none]) rfl ?_
    refine v_iload dX12_valueOf_25 rfl ?_
    refine v_if_le (tgt := 39) dX12_valueOf_27 (by decide) (fun c1 => ?_) (fun c1 => ?_)
    · refine v_iconst dX12_valueOf_39 ci_m1 ?_
      refine v_istore dX12_valueOf_40 (by decide) (L' := [some (.ref 68), some (.int x1), some (.int x2), some (.int x3), some (.int (h.1 83 ((20 * x1) + x3).toNatClampNeg)), some (.int (-1))]) rfl ?_
      refine v_iload_n dX12_valueOf_42 rfl ?_
      refine v_iload dX12_valueOf_43 rfl ?_
      refine v_iconst dX12_valueOf_45 ci_m1 ?_
      refine v_icmp_ne (tgt := 53) dX12_valueOf_46 (by decide) (fun z => absurd (show ¬ ((-1) : Int32) = ((-1) : Int32) from z) (by decide)) (fun _ => ?_)
      refine v_iconst dX12_valueOf_49 ci_0 ?_
      refine v_goto (tgt := 60) dX12_valueOf_50 (by decide) ?_
      refine v_iadd dX12_valueOf_60 ?_
      refine v_istore_n dX12_valueOf_61 (by decide) (L' := [some (.ref 68), some (.int x1), some (.int (x2 + 0)), some (.int x3), some (.int (h.1 83 ((20 * x1) + x3).toNatClampNeg)), some (.int (-1))]) rfl ?_
      refine v_iinc (y := (x3 + 1)) dX12_valueOf_62 rfl rfl (by decide) (L' := [some (.ref 68), some (.int x1), some (.int (x2 + 0)), some (.int (x3 + 1)), some (.int (h.1 83 ((20 * x1) + x3).toNatClampNeg)), some (.int (-1))]) rfl ?_
      refine v_goto (tgt := 4) dX12_valueOf_65 (by decide) ?_
      exact (v_drop (lvLe_s (lvLe_s (lvLe_s (lvLe_s (lvLe_n (lvLe_n lvLe_e)))))) (q c0 c1))
    · refine v_aload_n dX12_valueOf_30 rfl ?_
      refine v_iload_n dX12_valueOf_31 rfl ?_
      refine v_iload_n dX12_valueOf_32 rfl ?_
      exact v_cVI (mt := m_X12_valueOf) mo_X12_farOf ml_RX12_268 mi_X12_farOf mv_X12_farOf rfl kd_68 cl_12 rfl (ltA hA0 rfl) hR hcs (Nat.le_of_ble_eq_true rfl) dX12_valueOf_33 rfl (hM c0 c1) (fun y g hp => ((q_1 c0 c1) y g hp))
theorem c_X12_valueOf_36 {X : CX} {R : Room} {Z : ZX} {A : AX} {h : AH} {x1 x2 x3 x4 s0 : Int32} (q : ¬ s0 = (-1) → V X m_X12_valueOf R Z A 4 [some (.ref 68), some (.int x1), some (.int (x2 + (x4 >>> ((s0 - 1) &&& 31)))), some (.int (x3 + 1)), none, none] [] h) (q_1 : s0 = (-1) → V X m_X12_valueOf R Z A 4 [some (.ref 68), some (.int x1), some (.int (x2 + 0)), some (.int (x3 + 1)), none, none] [] h) : V X m_X12_valueOf R Z A 36 [some (.ref 68), some (.int x1), some (.int x2), some (.int x3), some (.int x4), none] [.int s0] h := by
  refine v_goto (tgt := 40) dX12_valueOf_36 (by decide) ?_
  refine v_istore dX12_valueOf_40 (by decide) (L' := [some (.ref 68), some (.int x1), some (.int x2), some (.int x3), some (.int x4), some (.int s0)]) rfl ?_
  refine v_iload_n dX12_valueOf_42 rfl ?_
  refine v_iload dX12_valueOf_43 rfl ?_
  refine v_iconst dX12_valueOf_45 ci_m1 ?_
  refine v_icmp_ne (tgt := 53) dX12_valueOf_46 (by decide) (fun c0 => ?_) (fun c0 => ?_)
  · refine v_iload dX12_valueOf_53 rfl ?_
    refine v_iload dX12_valueOf_55 rfl ?_
    refine v_iconst dX12_valueOf_57 ci_1 ?_
    refine v_isub dX12_valueOf_58 ?_
    refine v_ishr dX12_valueOf_59 ?_
    refine v_iadd dX12_valueOf_60 ?_
    refine v_istore_n dX12_valueOf_61 (by decide) (L' := [some (.ref 68), some (.int x1), some (.int (x2 + (x4 >>> ((s0 - 1) &&& 31)))), some (.int x3), some (.int x4), some (.int s0)]) rfl ?_
    refine v_iinc (y := (x3 + 1)) dX12_valueOf_62 rfl rfl (by decide) (L' := [some (.ref 68), some (.int x1), some (.int (x2 + (x4 >>> ((s0 - 1) &&& 31)))), some (.int (x3 + 1)), some (.int x4), some (.int s0)]) rfl ?_
    refine v_goto (tgt := 4) dX12_valueOf_65 (by decide) ?_
    exact (v_drop (lvLe_s (lvLe_s (lvLe_s (lvLe_s (lvLe_n (lvLe_n lvLe_e)))))) (q c0))
  · refine v_iconst dX12_valueOf_49 ci_0 ?_
    refine v_goto (tgt := 60) dX12_valueOf_50 (by decide) ?_
    refine v_iadd dX12_valueOf_60 ?_
    refine v_istore_n dX12_valueOf_61 (by decide) (L' := [some (.ref 68), some (.int x1), some (.int (x2 + 0)), some (.int x3), some (.int x4), some (.int s0)]) rfl ?_
    refine v_iinc (y := (x3 + 1)) dX12_valueOf_62 rfl rfl (by decide) (L' := [some (.ref 68), some (.int x1), some (.int (x2 + 0)), some (.int (x3 + 1)), some (.int x4), some (.int s0)]) rfl ?_
    refine v_goto (tgt := 4) dX12_valueOf_65 (by decide) ?_
    exact (v_drop (lvLe_s (lvLe_s (lvLe_s (lvLe_s (lvLe_n (lvLe_n lvLe_e)))))) (q_1 c0))
theorem e_X12_value {X : CX} {d nx sz : Nat} {Q : Option Value → AH → Prop} {h : AH} {x1 : Int32} (q : V X m_X12_value (rm d 0 0) (ZM X Q nx sz 0 0) (nx, sz, 0, 0) 0 [some (.ref 68), some (.int x1)] [] h) : Mk X d m_X12_value [.ref 68, .int x1] h nx sz Q := by
  refine Mok.ofV mo_X12_value (Nat.le_of_ble_eq_true rfl) (L := [some (.ref 68), some (.int x1)]) (lvLe_s (lvLe_s lvLe_e)) (v_grow (n := 0) ?_)
  exact q
theorem c_X12_value_0 {X : CX} {R : Room} {Z : ZX} {A : AX} {h : AH} {x1 : Int32} {d : Nat} {P7 : Int32 → AH → Prop} (hA0 : 91 ≤ A.1) (hR : RO R (d + 1)) (hcs : A.2.2.1 ≤ R.cells ∧ A.2.2.2 ≤ R.slots) (hM : Mk X d m_X12_isOne [.ref 68, .int x1] (setI h 68 0 0) A.1 A.2.1 (RI P7)) (q : ∀ (y : Int32) (g : AH), P7 y g → V X m_X12_value R Z A 10 [some (.ref 68), some (.int x1)] [.int y] g) : V X m_X12_value R Z A 0 [some (.ref 68), some (.int x1)] [] h := by
  refine v_aload_n dX12_value_0 rfl ?_
  refine v_iconst dX12_value_1 ci_0 ?_
  refine v_putI rfl rfl rfl dX12_value_2 fl_RX12_103 (Or.inl rfl) kd_68 (ltA hA0 rfl) ?_
  refine v_aload_n dX12_value_5 rfl ?_
  refine v_iload_n dX12_value_6 rfl ?_
  exact v_cVI (mt := m_X12_value) mo_X12_isOne ml_RX12_250 mi_X12_isOne mv_X12_isOne rfl kd_68 cl_12 rfl (ltA hA0 rfl) hR hcs (Nat.le_of_ble_eq_true rfl) dX12_value_7 rfl hM (fun y g hp => (q y g hp))
theorem c_X12_value_10 {X : CX} {R : Room} {Q : Option Value → AH → Prop} {nx sz mc ms : Nat} {h : AH} {x1 s0 : Int32} {d : Nat} {P15 : Int32 → AH → Prop} (hA0 : 91 ≤ nx) (hR : RO R (d + 1)) (hcs : mc ≤ R.cells ∧ ms ≤ R.slots) (hq : s0 = 0 → Q (some (.int (-1))) h) (hM : ¬ s0 = 0 → Mk X d m_X12_valueOf [.ref 68, .int x1] h nx sz (RI P15)) (q : ¬ s0 = 0 → ∀ (y : Int32) (g : AH), P15 y g → V X m_X12_value R (ZM X Q nx sz mc ms) (nx, sz, mc, ms) 18 [none, none] [.int y] g) : V X m_X12_value R (ZM X Q nx sz mc ms) (nx, sz, mc, ms) 10 [some (.ref 68), some (.int x1)] [.int s0] h := by
  refine v_if_eq (tgt := 21) dX12_value_10 (by decide) (fun c0 => ?_) (fun c0 => ?_)
  · refine v_iconst dX12_value_21 ci_m1 ?_
    exact v_iret dX12_value_22 rfl (hq c0)
  · refine v_aload_n dX12_value_13 rfl ?_
    refine v_iload_n dX12_value_14 rfl ?_
    exact v_cVI (mt := m_X12_value) mo_X12_valueOf ml_RX12_321 mi_X12_valueOf mv_X12_valueOf rfl kd_68 cl_12 rfl (ltA hA0 rfl) hR hcs (Nat.le_of_ble_eq_true rfl) dX12_value_15 rfl (hM c0) (fun y g hp => (v_drop (lvLe_n (lvLe_n lvLe_e)) ((q c0) y g hp)))
theorem c_X12_value_18 {X : CX} {R : Room} {Q : Option Value → AH → Prop} {nx sz mc ms : Nat} {h : AH} {s0 : Int32} (hq : Q (some (.int s0)) h) : V X m_X12_value R (ZM X Q nx sz mc ms) (nx, sz, mc, ms) 18 [none, none] [.int s0] h := by
  refine v_goto (tgt := 22) dX12_value_18 (by decide) ?_
  exact v_iret dX12_value_22 rfl hq
theorem e_X12_cost {X : CX} {d nx sz : Nat} {Q : Option Value → AH → Prop} {h : AH} {x1 : Int32} (q : V X m_X12_cost (rm d 0 0) (ZM X Q nx sz 0 0) (nx, sz, 0, 0) 0 [some (.ref 68), some (.int x1)] [] h) : Mk X d m_X12_cost [.ref 68, .int x1] h nx sz Q := by
  refine Mok.ofV mo_X12_cost (Nat.le_of_ble_eq_true rfl) (L := [some (.ref 68), some (.int x1)]) (lvLe_s (lvLe_s lvLe_e)) (v_grow (n := 0) ?_)
  exact q
theorem c_X12_cost_0 {X : CX} {R : Room} {Z : ZX} {A : AX} {h : AH} {x1 : Int32} {d : Nat} {P9 : Int32 → AH → Prop} (hA0 : 91 ≤ A.1) (hR : RO R (d + 1)) (hcs : A.2.2.1 ≤ R.cells ∧ A.2.2.2 ≤ R.slots) (hM : Mk X d m_X12_isIn [.int x1, .int 0, .int 99] (setI h 68 0 0) A.1 A.2.1 (RI P9)) (q : ∀ (y : Int32) (g : AH), P9 y g → V X m_X12_cost R Z A 12 [some (.ref 68), some (.int x1)] [.int y] g) : V X m_X12_cost R Z A 0 [some (.ref 68), some (.int x1)] [] h := by
  refine v_aload_n dX12_cost_0 rfl ?_
  refine v_iconst dX12_cost_1 ci_0 ?_
  refine v_putI rfl rfl rfl dX12_cost_2 fl_RX12_103 (Or.inl rfl) kd_68 (ltA hA0 rfl) ?_
  refine v_iload_n dX12_cost_5 rfl ?_
  refine v_iconst dX12_cost_6 ci_0 ?_
  refine v_bipush dX12_cost_7 cb_99 ?_
  exact v_cSI (mt := m_X12_cost) mo_X12_isIn ml_RX12_232 mz_X12_isIn rfl hR hcs (Nat.le_of_ble_eq_true rfl) dX12_cost_9 rfl hM (fun y g hp => (q y g hp))
theorem c_X12_cost_12 {X : CX} {R : Room} {Q : Option Value → AH → Prop} {nx sz mc ms : Nat} {h : AH} {x1 s0 : Int32} (hA0 : 91 ≤ nx) (hq : ¬ s0 = 0 → Q (some (.int 1)) (setI h 68 31 x1)) (hq_1 : s0 = 0 → Q (some (.int 0)) h) : V X m_X12_cost R (ZM X Q nx sz mc ms) (nx, sz, mc, ms) 12 [some (.ref 68), some (.int x1)] [.int s0] h := by
  refine v_if_ne (tgt := 17) dX12_cost_12 (by decide) (fun c0 => ?_) (fun c0 => ?_)
  · refine v_aload_n dX12_cost_17 rfl ?_
    refine v_iload_n dX12_cost_18 rfl ?_
    refine v_putI rfl rfl rfl dX12_cost_19 fl_RX12_324 (Or.inl rfl) kd_68 (ltA hA0 rfl) ?_
    refine v_iconst dX12_cost_22 ci_1 ?_
    exact v_zret (ty := .boolean) dX12_cost_23 rfl rfl (hq c0)
  · refine v_iconst dX12_cost_15 ci_0 ?_
    exact v_zret (ty := .boolean) dX12_cost_16 rfl rfl (hq_1 c0)
theorem e_X12_mayDrop {X : CX} {d nx sz : Nat} {Q : Option Value → AH → Prop} {h : AH} {x1 x2 : Int32} (q : V X m_X12_mayDrop (rm d 0 0) (ZM X Q nx sz 0 0) (nx, sz, 0, 0) 0 [some (.ref 68), some (.int x1), some (.int x2)] [] h) : Mk X d m_X12_mayDrop [.ref 68, .int x1, .int x2] h nx sz Q := by
  refine Mok.ofV mo_X12_mayDrop (Nat.le_of_ble_eq_true rfl) (L := [some (.ref 68), some (.int x1), some (.int x2)]) (lvLe_s (lvLe_s (lvLe_s lvLe_e))) (v_grow (n := 0) ?_)
  exact q
theorem c_X12_mayDrop_0 {X : CX} {R : Room} {Q : Option Value → AH → Prop} {nx sz mc ms : Nat} {h : AH} {x1 x2 : Int32} {d : Nat} {P7 : Int32 → AH → Prop} (hA0 : 91 ≤ nx) (hR : RO R (d + 1)) (hcs : mc ≤ R.cells ∧ ms ≤ R.slots) (hq : x2 = (-1) → Q (some (.int 1)) h) (hM : ¬ x2 = (-1) → Mk X d m_X12_isOne [.ref 68, .int x2] h nx sz (RI P7)) (q : ¬ x2 = (-1) → ∀ (y : Int32) (g : AH), P7 y g → V X m_X12_mayDrop R (ZM X Q nx sz mc ms) (nx, sz, mc, ms) 10 [some (.ref 68), some (.int x1), some (.int x2)] [.int y] g) : V X m_X12_mayDrop R (ZM X Q nx sz mc ms) (nx, sz, mc, ms) 0 [some (.ref 68), some (.int x1), some (.int x2)] [] h := by
  refine v_iload_n dX12_mayDrop_0 rfl ?_
  refine v_iconst dX12_mayDrop_1 ci_m1 ?_
  refine v_icmp_eq (tgt := 26) dX12_mayDrop_2 (by decide) (fun c0 => ?_) (fun c0 => ?_)
  · refine v_iconst dX12_mayDrop_26 ci_1 ?_
    refine v_goto (tgt := 31) dX12_mayDrop_27 (by decide) ?_
    exact v_zret (ty := .boolean) dX12_mayDrop_31 rfl rfl (hq c0)
  · refine v_aload_n dX12_mayDrop_5 rfl ?_
    refine v_iload_n dX12_mayDrop_6 rfl ?_
    exact v_cVI (mt := m_X12_mayDrop) mo_X12_isOne ml_RX12_250 mi_X12_isOne mv_X12_isOne rfl kd_68 cl_12 rfl (ltA hA0 rfl) hR hcs (Nat.le_of_ble_eq_true rfl) dX12_mayDrop_7 rfl (hM c0) (fun y g hp => ((q c0) y g hp))
theorem c_X12_mayDrop_10 {X : CX} {R : Room} {Q : Option Value → AH → Prop} {nx sz mc ms : Nat} {h : AH} {x1 x2 s0 : Int32} {d : Nat} {P20 : Int32 → AH → Prop} (hA0 : 91 ≤ nx) (hF : Fx h) (hR : RO R (d + 1)) (hcs : mc ≤ R.cells ∧ ms ≤ R.slots) (hq : s0 = 0 → Q (some (.int 0)) h) (hi_18 : ¬ s0 = 0 → vp_in x1 20) (hM : ¬ s0 = 0 → Mk X d m_X12_has [.int (h.1 73 x1.toNatClampNeg), .int x2] h nx sz (RI P20)) (q : ¬ s0 = 0 → ∀ (y : Int32) (g : AH), P20 y g → V X m_X12_mayDrop R (ZM X Q nx sz mc ms) (nx, sz, mc, ms) 23 [none, none, none] [.int y] g) : V X m_X12_mayDrop R (ZM X Q nx sz mc ms) (nx, sz, mc, ms) 10 [some (.ref 68), some (.int x1), some (.int x2)] [.int s0] h := by
  refine v_if_eq (tgt := 30) dX12_mayDrop_10 (by decide) (fun c0 => ?_) (fun c0 => ?_)
  · refine v_iconst dX12_mayDrop_30 ci_0 ?_
    exact v_zret (ty := .boolean) dX12_mayDrop_31 rfl rfl (hq c0)
  · refine v_aload_n dX12_mayDrop_13 rfl ?_
    refine v_getR dX12_mayDrop_14 fl_RX12_37 kd_68 (ltA hA0 rfl) rfl (hF 68 19 73 rfl) ?_
    refine v_iload_n dX12_mayDrop_17 rfl ?_
    refine v_iald dX12_mayDrop_18 kd_73 (ltA hA0 rfl) (hi_18 c0) ?_
    refine v_iload_n dX12_mayDrop_19 rfl ?_
    exact v_cSI (mt := m_X12_mayDrop) mo_X12_has ml_RX12_220 mz_X12_has rfl hR hcs (Nat.le_of_ble_eq_true rfl) dX12_mayDrop_20 rfl (hM c0) (fun y g hp => (v_drop (lvLe_n (lvLe_n (lvLe_n lvLe_e))) ((q c0) y g hp)))
theorem c_X12_mayDrop_23 {X : CX} {R : Room} {Q : Option Value → AH → Prop} {nx sz mc ms : Nat} {h : AH} {s0 : Int32} (hq : s0 = 0 → Q (some (.int 0)) h) (hq_1 : ¬ s0 = 0 → Q (some (.int 1)) h) : V X m_X12_mayDrop R (ZM X Q nx sz mc ms) (nx, sz, mc, ms) 23 [none, none, none] [.int s0] h := by
  refine v_if_eq (tgt := 30) dX12_mayDrop_23 (by decide) (fun c0 => ?_) (fun c0 => ?_)
  · refine v_iconst dX12_mayDrop_30 ci_0 ?_
    exact v_zret (ty := .boolean) dX12_mayDrop_31 rfl rfl (hq c0)
  · refine v_iconst dX12_mayDrop_26 ci_1 ?_
    refine v_goto (tgt := 31) dX12_mayDrop_27 (by decide) ?_
    exact v_zret (ty := .boolean) dX12_mayDrop_31 rfl rfl (hq_1 c0)
theorem e_X12_canChange {X : CX} {d nx sz : Nat} {Q : Option Value → AH → Prop} {h : AH} {x1 x2 x3 x4 : Int32} (q : V X m_X12_canChange (rm d 0 0) (ZM X Q nx sz 0 0) (nx, sz, 0, 0) 0 [some (.ref 68), some (.int x1), some (.int x2), some (.int x3), some (.int x4)] [] h) : Mk X d m_X12_canChange [.ref 68, .int x1, .int x2, .int x3, .int x4] h nx sz Q := by
  refine Mok.ofV mo_X12_canChange (Nat.le_of_ble_eq_true rfl) (L := [some (.ref 68), some (.int x1), some (.int x2), some (.int x3), some (.int x4)]) (lvLe_s (lvLe_s (lvLe_s (lvLe_s (lvLe_s lvLe_e))))) (v_grow (n := 0) ?_)
  exact q
theorem c_X12_canChange_0 {X : CX} {R : Room} {Z : ZX} {A : AX} {h : AH} {x1 x2 x3 x4 : Int32} {d : Nat} {P3 : Int32 → AH → Prop} (hA0 : 91 ≤ A.1) (hR : RO R (d + 1)) (hcs : A.2.2.1 ≤ R.cells ∧ A.2.2.2 ≤ R.slots) (hM : Mk X d m_X12_areTwo [.ref 68, .int x1, .int x3] h A.1 A.2.1 (RI P3)) (q : ∀ (y : Int32) (g : AH), P3 y g → V X m_X12_canChange R Z A 6 [some (.ref 68), some (.int x1), some (.int x2), some (.int x3), some (.int x4)] [.int y] g) : V X m_X12_canChange R Z A 0 [some (.ref 68), some (.int x1), some (.int x2), some (.int x3), some (.int x4)] [] h := by
  refine v_aload_n dX12_canChange_0 rfl ?_
  refine v_iload_n dX12_canChange_1 rfl ?_
  refine v_iload_n dX12_canChange_2 rfl ?_
  exact v_cVI (mt := m_X12_canChange) mo_X12_areTwo ml_RX12_256 mi_X12_areTwo mv_X12_areTwo rfl kd_68 cl_12 rfl (ltA hA0 rfl) hR hcs (Nat.le_of_ble_eq_true rfl) dX12_canChange_3 rfl hM (fun y g hp => (q y g hp))
theorem c_X12_canChange_6 {X : CX} {R : Room} {Q : Option Value → AH → Prop} {nx sz mc ms : Nat} {h : AH} {x1 x2 x3 x4 s0 : Int32} {d : Nat} {P16 : Int32 → AH → Prop} (hA0 : 91 ≤ nx) (hF : Fx h) (hR : RO R (d + 1)) (hcs : mc ≤ R.cells ∧ ms ≤ R.slots) (hq : s0 = 0 → Q (some (.int 0)) h) (hi_14 : ¬ s0 = 0 → vp_in x1 20) (hM : ¬ s0 = 0 → Mk X d m_X12_has [.int (h.1 73 x1.toNatClampNeg), .int x3] h nx sz (RI P16)) (q : ¬ s0 = 0 → ∀ (y : Int32) (g : AH), P16 y g → V X m_X12_canChange R (ZM X Q nx sz mc ms) (nx, sz, mc, ms) 19 [some (.ref 68), some (.int x1), some (.int x2), some (.int x3), some (.int x4)] [.int y] g) : V X m_X12_canChange R (ZM X Q nx sz mc ms) (nx, sz, mc, ms) 6 [some (.ref 68), some (.int x1), some (.int x2), some (.int x3), some (.int x4)] [.int s0] h := by
  refine v_if_eq (tgt := 41) dX12_canChange_6 (by decide) (fun c0 => ?_) (fun c0 => ?_)
  · refine v_iconst dX12_canChange_41 ci_0 ?_
    exact v_zret (ty := .boolean) dX12_canChange_42 rfl rfl (hq c0)
  · refine v_aload_n dX12_canChange_9 rfl ?_
    refine v_getR dX12_canChange_10 fl_RX12_37 kd_68 (ltA hA0 rfl) rfl (hF 68 19 73 rfl) ?_
    refine v_iload_n dX12_canChange_13 rfl ?_
    refine v_iald dX12_canChange_14 kd_73 (ltA hA0 rfl) (hi_14 c0) ?_
    refine v_iload_n dX12_canChange_15 rfl ?_
    exact v_cSI (mt := m_X12_canChange) mo_X12_has ml_RX12_220 mz_X12_has rfl hR hcs (Nat.le_of_ble_eq_true rfl) dX12_canChange_16 rfl (hM c0) (fun y g hp => ((q c0) y g hp))
theorem c_X12_canChange_19 {X : CX} {R : Room} {Q : Option Value → AH → Prop} {nx sz mc ms : Nat} {h : AH} {x1 x2 x3 x4 s0 : Int32} {d : Nat} {P25 : Int32 → AH → Prop} (hA0 : 91 ≤ nx) (hR : RO R (d + 1)) (hcs : mc ≤ R.cells ∧ ms ≤ R.slots) (hq : ¬ s0 = 0 → Q (some (.int 0)) h) (hM : s0 = 0 → Mk X d m_X12_mayDrop [.ref 68, .int x1, .int x2] h nx sz (RI P25)) (q : s0 = 0 → ∀ (y : Int32) (g : AH), P25 y g → V X m_X12_canChange R (ZM X Q nx sz mc ms) (nx, sz, mc, ms) 28 [some (.ref 68), some (.int x1), some (.int x2), some (.int x3), some (.int x4)] [.int y] g) : V X m_X12_canChange R (ZM X Q nx sz mc ms) (nx, sz, mc, ms) 19 [some (.ref 68), some (.int x1), some (.int x2), some (.int x3), some (.int x4)] [.int s0] h := by
  refine v_if_ne (tgt := 41) dX12_canChange_19 (by decide) (fun c0 => ?_) (fun c0 => ?_)
  · refine v_iconst dX12_canChange_41 ci_0 ?_
    exact v_zret (ty := .boolean) dX12_canChange_42 rfl rfl (hq c0)
  · refine v_aload_n dX12_canChange_22 rfl ?_
    refine v_iload_n dX12_canChange_23 rfl ?_
    refine v_iload_n dX12_canChange_24 rfl ?_
    exact v_cVI (mt := m_X12_canChange) mo_X12_mayDrop ml_RX12_327 mi_X12_mayDrop mv_X12_mayDrop rfl kd_68 cl_12 rfl (ltA hA0 rfl) hR hcs (Nat.le_of_ble_eq_true rfl) dX12_canChange_25 rfl (hM c0) (fun y g hp => ((q c0) y g hp))
theorem c_X12_canChange_28 {X : CX} {R : Room} {Q : Option Value → AH → Prop} {nx sz mc ms : Nat} {h : AH} {x1 x2 x3 x4 s0 : Int32} {d : Nat} {P35 : Int32 → AH → Prop} (hA0 : 91 ≤ nx) (hR : RO R (d + 1)) (hcs : mc ≤ R.cells ∧ ms ≤ R.slots) (hq : s0 = 0 → Q (some (.int 0)) h) (hM : ¬ s0 = 0 → Mk X d m_X12_mayDrop [.ref 68, .int x3, .int x4] h nx sz (RI P35)) (q : ¬ s0 = 0 → ∀ (y : Int32) (g : AH), P35 y g → V X m_X12_canChange R (ZM X Q nx sz mc ms) (nx, sz, mc, ms) 38 [some (.ref 68), some (.int x1), some (.int x2), some (.int x3), some (.int x4)] [.int y] g) : V X m_X12_canChange R (ZM X Q nx sz mc ms) (nx, sz, mc, ms) 28 [some (.ref 68), some (.int x1), some (.int x2), some (.int x3), some (.int x4)] [.int s0] h := by
  refine v_if_eq (tgt := 41) dX12_canChange_28 (by decide) (fun c0 => ?_) (fun c0 => ?_)
  · refine v_iconst dX12_canChange_41 ci_0 ?_
    exact v_zret (ty := .boolean) dX12_canChange_42 rfl rfl (hq c0)
  · refine v_aload_n dX12_canChange_31 rfl ?_
    refine v_iload_n dX12_canChange_32 rfl ?_
    refine v_iload dX12_canChange_33 rfl ?_
    exact v_cVI (mt := m_X12_canChange) mo_X12_mayDrop ml_RX12_327 mi_X12_mayDrop mv_X12_mayDrop rfl kd_68 cl_12 rfl (ltA hA0 rfl) hR hcs (Nat.le_of_ble_eq_true rfl) dX12_canChange_35 rfl (hM c0) (fun y g hp => ((q c0) y g hp))
theorem c_X12_canChange_38 {X : CX} {R : Room} {Q : Option Value → AH → Prop} {nx sz mc ms : Nat} {h : AH} {x1 x2 x3 x4 s0 : Int32} {d : Nat} {P45 : Int32 → AH → Prop} (hA0 : 91 ≤ nx) (hR : RO R (d + 1)) (hcs : mc ≤ R.cells ∧ ms ≤ R.slots) (hM : ¬ s0 = 0 → Mk X d m_X12_many [.ref 68, .int x1] h nx sz (RI P45)) (q : ¬ s0 = 0 → ∀ (y : Int32) (g : AH), P45 y g → V X m_X12_canChange R (ZM X Q nx sz mc ms) (nx, sz, mc, ms) 48 [some (.ref 68), some (.int x1), some (.int x2), some (.int x3), some (.int x4)] [.int y] g) (hq : s0 = 0 → Q (some (.int 0)) h) : V X m_X12_canChange R (ZM X Q nx sz mc ms) (nx, sz, mc, ms) 38 [some (.ref 68), some (.int x1), some (.int x2), some (.int x3), some (.int x4)] [.int s0] h := by
  refine v_if_ne (tgt := 43) dX12_canChange_38 (by decide) (fun c0 => ?_) (fun c0 => ?_)
  · refine v_aload_n dX12_canChange_43 rfl ?_
    refine v_iload_n dX12_canChange_44 rfl ?_
    exact v_cVI (mt := m_X12_canChange) mo_X12_many ml_RX12_253 mi_X12_many mv_X12_many rfl kd_68 cl_12 rfl (ltA hA0 rfl) hR hcs (Nat.le_of_ble_eq_true rfl) dX12_canChange_45 rfl (hM c0) (fun y g hp => ((q c0) y g hp))
  · refine v_iconst dX12_canChange_41 ci_0 ?_
    exact v_zret (ty := .boolean) dX12_canChange_42 rfl rfl (hq c0)
theorem c_X12_canChange_48 {X : CX} {R : Room} {Q : Option Value → AH → Prop} {nx sz mc ms : Nat} {h : AH} {x1 x2 x3 x4 s0 : Int32} {d : Nat} {P70 P70_1 : Int32 → AH → Prop} (hA0 : 91 ≤ nx) (hF : Fx h) (hR : RO R (d + 1)) (hcs : mc ≤ R.cells ∧ ms ≤ R.slots) (hi_64 : ¬ x2 = (-1) → vp_in x1 20) (hq : ¬ x2 = (-1) → (h.1 75 x1.toNatClampNeg) < (s0 + 0) → Q (some (.int 0)) h) (hM : ¬ x2 = (-1) → ¬ (h.1 75 x1.toNatClampNeg) < (s0 + 0) → Mk X d m_X12_many [.ref 68, .int x3] h nx sz (RI P70)) (q : ¬ x2 = (-1) → ¬ (h.1 75 x1.toNatClampNeg) < (s0 + 0) → ∀ (y : Int32) (g : AH), P70 y g → V X m_X12_canChange R (ZM X Q nx sz mc ms) (nx, sz, mc, ms) 73 [some (.ref 68), none, none, some (.int x3), some (.int x4)] [.int y] g) (hi_64_1 : x2 = (-1) → vp_in x1 20) (hq_1 : x2 = (-1) → (h.1 75 x1.toNatClampNeg) < (s0 + 1) → Q (some (.int 0)) h) (hM_1 : x2 = (-1) → ¬ (h.1 75 x1.toNatClampNeg) < (s0 + 1) → Mk X d m_X12_many [.ref 68, .int x3] h nx sz (RI P70_1)) (q_1 : x2 = (-1) → ¬ (h.1 75 x1.toNatClampNeg) < (s0 + 1) → ∀ (y : Int32) (g : AH), P70_1 y g → V X m_X12_canChange R (ZM X Q nx sz mc ms) (nx, sz, mc, ms) 73 [some (.ref 68), none, none, some (.int x3), some (.int x4)] [.int y] g) : V X m_X12_canChange R (ZM X Q nx sz mc ms) (nx, sz, mc, ms) 48 [some (.ref 68), some (.int x1), some (.int x2), some (.int x3), some (.int x4)] [.int s0] h := by
  refine v_iload_n dX12_canChange_48 rfl ?_
  refine v_iconst dX12_canChange_49 ci_m1 ?_
  refine v_icmp_ne (tgt := 57) dX12_canChange_50 (by decide) (fun c0 => ?_) (fun c0 => ?_)
  · refine v_iconst dX12_canChange_57 ci_0 ?_
    refine v_iadd dX12_canChange_58 ?_
    refine v_aload_n dX12_canChange_59 rfl ?_
    refine v_getR dX12_canChange_60 fl_RX12_43 kd_68 (ltA hA0 rfl) rfl (hF 68 21 75 rfl) ?_
    refine v_iload_n dX12_canChange_63 rfl ?_
    refine v_iald dX12_canChange_64 kd_75 (ltA hA0 rfl) (hi_64 c0) ?_
    refine v_icmp_gt (tgt := 98) dX12_canChange_65 (by decide) (fun c1 => ?_) (fun c1 => ?_)
    · refine v_iconst dX12_canChange_98 ci_0 ?_
      exact v_zret (ty := .boolean) dX12_canChange_99 rfl rfl (hq c0 c1)
    · refine v_aload_n dX12_canChange_68 rfl ?_
      refine v_iload_n dX12_canChange_69 rfl ?_
      exact v_cVI (mt := m_X12_canChange) mo_X12_many ml_RX12_253 mi_X12_many mv_X12_many rfl kd_68 cl_12 rfl (ltA hA0 rfl) hR hcs (Nat.le_of_ble_eq_true rfl) dX12_canChange_70 rfl (hM c0 c1) (fun y g hp => (v_drop (lvLe_s (lvLe_n (lvLe_n (lvLe_s (lvLe_s lvLe_e))))) ((q c0 c1) y g hp)))
  · refine v_iconst dX12_canChange_53 ci_1 ?_
    refine v_goto (tgt := 58) dX12_canChange_54 (by decide) ?_
    refine v_iadd dX12_canChange_58 ?_
    refine v_aload_n dX12_canChange_59 rfl ?_
    refine v_getR dX12_canChange_60 fl_RX12_43 kd_68 (ltA hA0 rfl) rfl (hF 68 21 75 rfl) ?_
    refine v_iload_n dX12_canChange_63 rfl ?_
    refine v_iald dX12_canChange_64 kd_75 (ltA hA0 rfl) (hi_64_1 c0) ?_
    refine v_icmp_gt (tgt := 98) dX12_canChange_65 (by decide) (fun c1 => ?_) (fun c1 => ?_)
    · refine v_iconst dX12_canChange_98 ci_0 ?_
      exact v_zret (ty := .boolean) dX12_canChange_99 rfl rfl (hq_1 c0 c1)
    · refine v_aload_n dX12_canChange_68 rfl ?_
      refine v_iload_n dX12_canChange_69 rfl ?_
      exact v_cVI (mt := m_X12_canChange) mo_X12_many ml_RX12_253 mi_X12_many mv_X12_many rfl kd_68 cl_12 rfl (ltA hA0 rfl) hR hcs (Nat.le_of_ble_eq_true rfl) dX12_canChange_70 rfl (hM_1 c0 c1) (fun y g hp => (v_drop (lvLe_s (lvLe_n (lvLe_n (lvLe_s (lvLe_s lvLe_e))))) ((q_1 c0 c1) y g hp)))
theorem c_X12_canChange_73 {X : CX} {R : Room} {Q : Option Value → AH → Prop} {nx sz mc ms : Nat} {h : AH} {x3 x4 s0 : Int32} (hA0 : 91 ≤ nx) (hF : Fx h) (hi_90 : ¬ x4 = (-1) → vp_in x3 20) (hq : ¬ x4 = (-1) → (h.1 75 x3.toNatClampNeg) < (s0 + 0) → Q (some (.int 0)) h) (hq_1 : ¬ x4 = (-1) → ¬ (h.1 75 x3.toNatClampNeg) < (s0 + 0) → Q (some (.int 1)) h) (hi_90_1 : x4 = (-1) → vp_in x3 20) (hq_2 : x4 = (-1) → (h.1 75 x3.toNatClampNeg) < (s0 + 1) → Q (some (.int 0)) h) (hq_3 : x4 = (-1) → ¬ (h.1 75 x3.toNatClampNeg) < (s0 + 1) → Q (some (.int 1)) h) : V X m_X12_canChange R (ZM X Q nx sz mc ms) (nx, sz, mc, ms) 73 [some (.ref 68), none, none, some (.int x3), some (.int x4)] [.int s0] h := by
  refine v_iload dX12_canChange_73 rfl ?_
  refine v_iconst dX12_canChange_75 ci_m1 ?_
  refine v_icmp_ne (tgt := 83) dX12_canChange_76 (by decide) (fun c0 => ?_) (fun c0 => ?_)
  · refine v_iconst dX12_canChange_83 ci_0 ?_
    refine v_iadd dX12_canChange_84 ?_
    refine v_aload_n dX12_canChange_85 rfl ?_
    refine v_getR dX12_canChange_86 fl_RX12_43 kd_68 (ltA hA0 rfl) rfl (hF 68 21 75 rfl) ?_
    refine v_iload_n dX12_canChange_89 rfl ?_
    refine v_iald dX12_canChange_90 kd_75 (ltA hA0 rfl) (hi_90 c0) ?_
    refine v_icmp_gt (tgt := 98) dX12_canChange_91 (by decide) (fun c1 => ?_) (fun c1 => ?_)
    · refine v_iconst dX12_canChange_98 ci_0 ?_
      exact v_zret (ty := .boolean) dX12_canChange_99 rfl rfl (hq c0 c1)
    · refine v_iconst dX12_canChange_94 ci_1 ?_
      refine v_goto (tgt := 99) dX12_canChange_95 (by decide) ?_
      exact v_zret (ty := .boolean) dX12_canChange_99 rfl rfl (hq_1 c0 c1)
  · refine v_iconst dX12_canChange_79 ci_1 ?_
    refine v_goto (tgt := 84) dX12_canChange_80 (by decide) ?_
    refine v_iadd dX12_canChange_84 ?_
    refine v_aload_n dX12_canChange_85 rfl ?_
    refine v_getR dX12_canChange_86 fl_RX12_43 kd_68 (ltA hA0 rfl) rfl (hF 68 21 75 rfl) ?_
    refine v_iload_n dX12_canChange_89 rfl ?_
    refine v_iald dX12_canChange_90 kd_75 (ltA hA0 rfl) (hi_90_1 c0) ?_
    refine v_icmp_gt (tgt := 98) dX12_canChange_91 (by decide) (fun c1 => ?_) (fun c1 => ?_)
    · refine v_iconst dX12_canChange_98 ci_0 ?_
      exact v_zret (ty := .boolean) dX12_canChange_99 rfl rfl (hq_2 c0 c1)
    · refine v_iconst dX12_canChange_94 ci_1 ?_
      refine v_goto (tgt := 99) dX12_canChange_95 (by decide) ?_
      exact v_zret (ty := .boolean) dX12_canChange_99 rfl rfl (hq_3 c0 c1)
theorem e_X12_doChange {X : CX} {d nx sz : Nat} {Q : Option Value → AH → Prop} {h : AH} {x1 x2 x3 x4 : Int32} (q : V X m_X12_doChange (rm d 0 0) (ZM X Q nx sz 0 0) (nx, sz, 0, 0) 0 [some (.ref 68), some (.int x1), some (.int x2), some (.int x3), some (.int x4)] [] h) : Mk X d m_X12_doChange [.ref 68, .int x1, .int x2, .int x3, .int x4] h nx sz Q := by
  refine Mok.ofV mo_X12_doChange (Nat.le_of_ble_eq_true rfl) (L := [some (.ref 68), some (.int x1), some (.int x2), some (.int x3), some (.int x4)]) (lvLe_s (lvLe_s (lvLe_s (lvLe_s (lvLe_s lvLe_e))))) (v_grow (n := 0) ?_)
  exact q
theorem c_X12_doChange_0 {X : CX} {R : Room} {Z : ZX} {A : AX} {h : AH} {x1 x2 x3 x4 : Int32} {d : Nat} {P8 : AH → Prop} (hA0 : 91 ≤ A.1) (hR : RO R (d + 1)) (hcs : A.2.2.1 ≤ R.cells ∧ A.2.2.2 ≤ R.slots) (q : x2 = (-1) → V X m_X12_doChange R Z A 11 [some (.ref 68), some (.int x1), none, some (.int x3), some (.int x4)] [] h) (hM : ¬ x2 = (-1) → Mk X d m_X12_part_ [.ref 68, .int x1, .int x2] h A.1 A.2.1 (RV P8)) (q_1 : ¬ x2 = (-1) → ∀ (g : AH), P8 g → V X m_X12_doChange R Z A 11 [some (.ref 68), some (.int x1), none, some (.int x3), some (.int x4)] [] g) : V X m_X12_doChange R Z A 0 [some (.ref 68), some (.int x1), some (.int x2), some (.int x3), some (.int x4)] [] h := by
  refine v_iload_n dX12_doChange_0 rfl ?_
  refine v_iconst dX12_doChange_1 ci_m1 ?_
  refine v_icmp_eq (tgt := 11) dX12_doChange_2 (by decide) (fun c0 => ?_) (fun c0 => ?_)
  · exact (v_drop (lvLe_s (lvLe_s (lvLe_n (lvLe_s (lvLe_s lvLe_e))))) (q c0))
  · refine v_aload_n dX12_doChange_5 rfl ?_
    refine v_iload_n dX12_doChange_6 rfl ?_
    refine v_iload_n dX12_doChange_7 rfl ?_
    exact v_cVV (mt := m_X12_doChange) mo_X12_part_ ml_RX12_263 mi_X12_part_ mv_X12_part_ rfl kd_68 cl_12 rfl (ltA hA0 rfl) hR hcs (Nat.le_of_ble_eq_true rfl) dX12_doChange_8 rfl (hM c0) (fun g hp => (v_drop (lvLe_s (lvLe_s (lvLe_n (lvLe_s (lvLe_s lvLe_e))))) ((q_1 c0) g hp)))
theorem c_X12_doChange_11 {X : CX} {R : Room} {Z : ZX} {A : AX} {h : AH} {x1 x3 x4 : Int32} {d : Nat} {P21 : AH → Prop} (hA0 : 91 ≤ A.1) (hR : RO R (d + 1)) (hcs : A.2.2.1 ≤ R.cells ∧ A.2.2.2 ≤ R.slots) (q : x4 = (-1) → V X m_X12_doChange R Z A 24 [some (.ref 68), some (.int x1), none, some (.int x3), none] [] h) (hM : ¬ x4 = (-1) → Mk X d m_X12_part_ [.ref 68, .int x3, .int x4] h A.1 A.2.1 (RV P21)) (q_1 : ¬ x4 = (-1) → ∀ (g : AH), P21 g → V X m_X12_doChange R Z A 24 [some (.ref 68), some (.int x1), none, some (.int x3), none] [] g) : V X m_X12_doChange R Z A 11 [some (.ref 68), some (.int x1), none, some (.int x3), some (.int x4)] [] h := by
  refine v_iload dX12_doChange_11 rfl ?_
  refine v_iconst dX12_doChange_13 ci_m1 ?_
  refine v_icmp_eq (tgt := 24) dX12_doChange_14 (by decide) (fun c0 => ?_) (fun c0 => ?_)
  · exact (v_drop (lvLe_s (lvLe_s (lvLe_n (lvLe_s (lvLe_n lvLe_e))))) (q c0))
  · refine v_aload_n dX12_doChange_17 rfl ?_
    refine v_iload_n dX12_doChange_18 rfl ?_
    refine v_iload dX12_doChange_19 rfl ?_
    exact v_cVV (mt := m_X12_doChange) mo_X12_part_ ml_RX12_263 mi_X12_part_ mv_X12_part_ rfl kd_68 cl_12 rfl (ltA hA0 rfl) hR hcs (Nat.le_of_ble_eq_true rfl) dX12_doChange_21 rfl (hM c0) (fun g hp => (v_drop (lvLe_s (lvLe_s (lvLe_n (lvLe_s (lvLe_n lvLe_e))))) ((q_1 c0) g hp)))
theorem c_X12_doChange_24 {X : CX} {R : Room} {Z : ZX} {A : AX} {h : AH} {x1 x3 : Int32} {d : Nat} {P27 : AH → Prop} (hA0 : 91 ≤ A.1) (hR : RO R (d + 1)) (hcs : A.2.2.1 ≤ R.cells ∧ A.2.2.2 ≤ R.slots) (hM : Mk X d m_X12_join [.ref 68, .int x1, .int x3] h A.1 A.2.1 (RV P27)) (q : ∀ (g : AH), P27 g → V X m_X12_doChange R Z A 30 [none, none, none, none, none] [] g) : V X m_X12_doChange R Z A 24 [some (.ref 68), some (.int x1), none, some (.int x3), none] [] h := by
  refine v_aload_n dX12_doChange_24 rfl ?_
  refine v_iload_n dX12_doChange_25 rfl ?_
  refine v_iload_n dX12_doChange_26 rfl ?_
  exact v_cVV (mt := m_X12_doChange) mo_X12_join ml_RX12_259 mi_X12_join mv_X12_join rfl kd_68 cl_12 rfl (ltA hA0 rfl) hR hcs (Nat.le_of_ble_eq_true rfl) dX12_doChange_27 rfl hM (fun g hp => (v_drop (lvLe_n (lvLe_n (lvLe_n (lvLe_n (lvLe_n lvLe_e))))) (q g hp)))
theorem c_X12_doChange_30 {X : CX} {R : Room} {Q : Option Value → AH → Prop} {nx sz mc ms : Nat} {h : AH} (hq : Q none h) : V X m_X12_doChange R (ZM X Q nx sz mc ms) (nx, sz, mc, ms) 30 [none, none, none, none, none] [] h := by
  exact v_vret dX12_doChange_30 rfl hq
theorem e_X12_undoChange {X : CX} {d nx sz : Nat} {Q : Option Value → AH → Prop} {h : AH} {x1 x2 x3 x4 : Int32} (q : V X m_X12_undoChange (rm d 0 0) (ZM X Q nx sz 0 0) (nx, sz, 0, 0) 0 [some (.ref 68), some (.int x1), some (.int x2), some (.int x3), some (.int x4)] [] h) : Mk X d m_X12_undoChange [.ref 68, .int x1, .int x2, .int x3, .int x4] h nx sz Q := by
  refine Mok.ofV mo_X12_undoChange (Nat.le_of_ble_eq_true rfl) (L := [some (.ref 68), some (.int x1), some (.int x2), some (.int x3), some (.int x4)]) (lvLe_s (lvLe_s (lvLe_s (lvLe_s (lvLe_s lvLe_e))))) (v_grow (n := 0) ?_)
  exact q
theorem c_X12_undoChange_0 {X : CX} {R : Room} {Z : ZX} {A : AX} {h : AH} {x1 x2 x3 x4 : Int32} {d : Nat} {P3 : AH → Prop} (hA0 : 91 ≤ A.1) (hR : RO R (d + 1)) (hcs : A.2.2.1 ≤ R.cells ∧ A.2.2.2 ≤ R.slots) (hM : Mk X d m_X12_part_ [.ref 68, .int x1, .int x3] h A.1 A.2.1 (RV P3)) (q : ∀ (g : AH), P3 g → V X m_X12_undoChange R Z A 6 [some (.ref 68), some (.int x1), some (.int x2), some (.int x3), some (.int x4)] [] g) : V X m_X12_undoChange R Z A 0 [some (.ref 68), some (.int x1), some (.int x2), some (.int x3), some (.int x4)] [] h := by
  refine v_aload_n dX12_undoChange_0 rfl ?_
  refine v_iload_n dX12_undoChange_1 rfl ?_
  refine v_iload_n dX12_undoChange_2 rfl ?_
  exact v_cVV (mt := m_X12_undoChange) mo_X12_part_ ml_RX12_263 mi_X12_part_ mv_X12_part_ rfl kd_68 cl_12 rfl (ltA hA0 rfl) hR hcs (Nat.le_of_ble_eq_true rfl) dX12_undoChange_3 rfl hM (fun g hp => (q g hp))
theorem c_X12_undoChange_6 {X : CX} {R : Room} {Z : ZX} {A : AX} {h : AH} {x1 x2 x3 x4 : Int32} {d : Nat} {P14 : AH → Prop} (hA0 : 91 ≤ A.1) (hR : RO R (d + 1)) (hcs : A.2.2.1 ≤ R.cells ∧ A.2.2.2 ≤ R.slots) (q : x2 = (-1) → V X m_X12_undoChange R Z A 17 [some (.ref 68), none, none, some (.int x3), some (.int x4)] [] h) (hM : ¬ x2 = (-1) → Mk X d m_X12_join [.ref 68, .int x1, .int x2] h A.1 A.2.1 (RV P14)) (q_1 : ¬ x2 = (-1) → ∀ (g : AH), P14 g → V X m_X12_undoChange R Z A 17 [some (.ref 68), none, none, some (.int x3), some (.int x4)] [] g) : V X m_X12_undoChange R Z A 6 [some (.ref 68), some (.int x1), some (.int x2), some (.int x3), some (.int x4)] [] h := by
  refine v_iload_n dX12_undoChange_6 rfl ?_
  refine v_iconst dX12_undoChange_7 ci_m1 ?_
  refine v_icmp_eq (tgt := 17) dX12_undoChange_8 (by decide) (fun c0 => ?_) (fun c0 => ?_)
  · exact (v_drop (lvLe_s (lvLe_n (lvLe_n (lvLe_s (lvLe_s lvLe_e))))) (q c0))
  · refine v_aload_n dX12_undoChange_11 rfl ?_
    refine v_iload_n dX12_undoChange_12 rfl ?_
    refine v_iload_n dX12_undoChange_13 rfl ?_
    exact v_cVV (mt := m_X12_undoChange) mo_X12_join ml_RX12_259 mi_X12_join mv_X12_join rfl kd_68 cl_12 rfl (ltA hA0 rfl) hR hcs (Nat.le_of_ble_eq_true rfl) dX12_undoChange_14 rfl (hM c0) (fun g hp => (v_drop (lvLe_s (lvLe_n (lvLe_n (lvLe_s (lvLe_s lvLe_e))))) ((q_1 c0) g hp)))
theorem c_X12_undoChange_17 {X : CX} {R : Room} {Z : ZX} {A : AX} {h : AH} {x3 x4 : Int32} {d : Nat} {P27 : AH → Prop} (hA0 : 91 ≤ A.1) (hR : RO R (d + 1)) (hcs : A.2.2.1 ≤ R.cells ∧ A.2.2.2 ≤ R.slots) (q : x4 = (-1) → V X m_X12_undoChange R Z A 30 [none, none, none, none, none] [] h) (hM : ¬ x4 = (-1) → Mk X d m_X12_join [.ref 68, .int x3, .int x4] h A.1 A.2.1 (RV P27)) (q_1 : ¬ x4 = (-1) → ∀ (g : AH), P27 g → V X m_X12_undoChange R Z A 30 [none, none, none, none, none] [] g) : V X m_X12_undoChange R Z A 17 [some (.ref 68), none, none, some (.int x3), some (.int x4)] [] h := by
  refine v_iload dX12_undoChange_17 rfl ?_
  refine v_iconst dX12_undoChange_19 ci_m1 ?_
  refine v_icmp_eq (tgt := 30) dX12_undoChange_20 (by decide) (fun c0 => ?_) (fun c0 => ?_)
  · exact (v_drop (lvLe_n (lvLe_n (lvLe_n (lvLe_n (lvLe_n lvLe_e))))) (q c0))
  · refine v_aload_n dX12_undoChange_23 rfl ?_
    refine v_iload_n dX12_undoChange_24 rfl ?_
    refine v_iload dX12_undoChange_25 rfl ?_
    exact v_cVV (mt := m_X12_undoChange) mo_X12_join ml_RX12_259 mi_X12_join mv_X12_join rfl kd_68 cl_12 rfl (ltA hA0 rfl) hR hcs (Nat.le_of_ble_eq_true rfl) dX12_undoChange_27 rfl (hM c0) (fun g hp => (v_drop (lvLe_n (lvLe_n (lvLe_n (lvLe_n (lvLe_n lvLe_e))))) ((q_1 c0) g hp)))
theorem c_X12_undoChange_30 {X : CX} {R : Room} {Q : Option Value → AH → Prop} {nx sz mc ms : Nat} {h : AH} (hq : Q none h) : V X m_X12_undoChange R (ZM X Q nx sz mc ms) (nx, sz, mc, ms) 30 [none, none, none, none, none] [] h := by
  exact v_vret dX12_undoChange_30 rfl hq
theorem e_X12_layGains {X : CX} {d nx sz : Nat} {Q : Option Value → AH → Prop} {h : AH} {x1 x2 x3 x4 : Int32} (q : V X m_X12_layGains (rm d 0 0) (ZM X Q nx sz 0 0) (nx, sz, 0, 0) 0 [some (.ref 68), some (.int x1), some (.int x2), some (.int x3), some (.int x4), none, none] [] h) : Mk X d m_X12_layGains [.ref 68, .int x1, .int x2, .int x3, .int x4] h nx sz Q := by
  refine Mok.ofV mo_X12_layGains (Nat.le_of_ble_eq_true rfl) (L := [some (.ref 68), some (.int x1), some (.int x2), some (.int x3), some (.int x4)]) (lvLe_s (lvLe_s (lvLe_s (lvLe_s (lvLe_s lvLe_e))))) (v_grow (n := 2) ?_)
  exact q
theorem c_X12_layGains_0 {X : CX} {R : Room} {Z : ZX} {A : AX} {h : AH} {x1 x2 x3 x4 : Int32} {d : Nat} {P2 : Int32 → AH → Prop} (hA0 : 91 ≤ A.1) (hR : RO R (d + 1)) (hcs : A.2.2.1 ≤ R.cells ∧ A.2.2.2 ≤ R.slots) (hM : Mk X d m_X12_valueOf [.ref 68, .int x1] h A.1 A.2.1 (RI P2)) (q : ∀ (y : Int32) (g : AH), P2 y g → V X m_X12_layGains R Z A 5 [some (.ref 68), some (.int x1), some (.int x2), some (.int x3), some (.int x4), none, none] [.int y] g) : V X m_X12_layGains R Z A 0 [some (.ref 68), some (.int x1), some (.int x2), some (.int x3), some (.int x4), none, none] [] h := by
  refine v_aload_n dX12_layGains_0 rfl ?_
  refine v_iload_n dX12_layGains_1 rfl ?_
  exact v_cVI (mt := m_X12_layGains) mo_X12_valueOf ml_RX12_321 mi_X12_valueOf mv_X12_valueOf rfl kd_68 cl_12 rfl (ltA hA0 rfl) hR hcs (Nat.le_of_ble_eq_true rfl) dX12_layGains_2 rfl hM (fun y g hp => (q y g hp))
theorem c_X12_layGains_5 {X : CX} {R : Room} {Z : ZX} {A : AX} {h : AH} {x1 x2 x3 x4 s0 : Int32} {d : Nat} {P9 : Int32 → AH → Prop} (hA0 : 91 ≤ A.1) (hR : RO R (d + 1)) (hcs : A.2.2.1 ≤ R.cells ∧ A.2.2.2 ≤ R.slots) (hM : Mk X d m_X12_valueOf [.ref 68, .int x3] h A.1 A.2.1 (RI P9)) (q : ∀ (y : Int32) (g : AH), P9 y g → V X m_X12_layGains R Z A 12 [some (.ref 68), some (.int x1), some (.int x2), some (.int x3), some (.int x4), some (.int s0), none] [.int y] g) : V X m_X12_layGains R Z A 5 [some (.ref 68), some (.int x1), some (.int x2), some (.int x3), some (.int x4), none, none] [.int s0] h := by
  refine v_istore dX12_layGains_5 (by decide) (L' := [some (.ref 68), some (.int x1), some (.int x2), some (.int x3), some (.int x4), some (.int s0), none]) rfl ?_
  refine v_aload_n dX12_layGains_7 rfl ?_
  refine v_iload_n dX12_layGains_8 rfl ?_
  exact v_cVI (mt := m_X12_layGains) mo_X12_valueOf ml_RX12_321 mi_X12_valueOf mv_X12_valueOf rfl kd_68 cl_12 rfl (ltA hA0 rfl) hR hcs (Nat.le_of_ble_eq_true rfl) dX12_layGains_9 rfl hM (fun y g hp => (q y g hp))
theorem c_X12_layGains_12 {X : CX} {R : Room} {Z : ZX} {A : AX} {h : AH} {x1 x2 x3 x4 x5 s0 : Int32} {d : Nat} {P20 : AH → Prop} (hA0 : 91 ≤ A.1) (hR : RO R (d + 1)) (hcs : A.2.2.1 ≤ R.cells ∧ A.2.2.2 ≤ R.slots) (hM : Mk X d m_X12_doChange [.ref 68, .int x1, .int x2, .int x3, .int x4] h A.1 A.2.1 (RV P20)) (q : ∀ (g : AH), P20 g → V X m_X12_layGains R Z A 23 [some (.ref 68), some (.int x1), some (.int x2), some (.int x3), some (.int x4), some (.int x5), some (.int s0)] [] g) : V X m_X12_layGains R Z A 12 [some (.ref 68), some (.int x1), some (.int x2), some (.int x3), some (.int x4), some (.int x5), none] [.int s0] h := by
  refine v_istore dX12_layGains_12 (by decide) (L' := [some (.ref 68), some (.int x1), some (.int x2), some (.int x3), some (.int x4), some (.int x5), some (.int s0)]) rfl ?_
  refine v_aload_n dX12_layGains_14 rfl ?_
  refine v_iload_n dX12_layGains_15 rfl ?_
  refine v_iload_n dX12_layGains_16 rfl ?_
  refine v_iload_n dX12_layGains_17 rfl ?_
  refine v_iload dX12_layGains_18 rfl ?_
  exact v_cVV (mt := m_X12_layGains) mo_X12_doChange ml_RX12_330 mi_X12_doChange mv_X12_doChange rfl kd_68 cl_12 rfl (ltA hA0 rfl) hR hcs (Nat.le_of_ble_eq_true rfl) dX12_layGains_20 rfl hM (fun g hp => (q g hp))
theorem c_X12_layGains_23 {X : CX} {R : Room} {Z : ZX} {A : AX} {h : AH} {x1 x2 x3 x4 x5 x6 : Int32} {d : Nat} {P26 : Int32 → AH → Prop} (hA0 : 91 ≤ A.1) (hR : RO R (d + 1)) (hcs : A.2.2.1 ≤ R.cells ∧ A.2.2.2 ≤ R.slots) (hM : Mk X d m_X12_valueOf [.ref 68, .int x1] h A.1 A.2.1 (RI P26)) (q : ∀ (y : Int32) (g : AH), P26 y g → V X m_X12_layGains R Z A 29 [some (.ref 68), some (.int x1), some (.int x2), some (.int x3), some (.int x4), some (.int x5), some (.int x6)] [.int y, .ref 68] g) : V X m_X12_layGains R Z A 23 [some (.ref 68), some (.int x1), some (.int x2), some (.int x3), some (.int x4), some (.int x5), some (.int x6)] [] h := by
  refine v_aload_n dX12_layGains_23 rfl ?_
  refine v_aload_n dX12_layGains_24 rfl ?_
  refine v_iload_n dX12_layGains_25 rfl ?_
  exact v_cVI (mt := m_X12_layGains) mo_X12_valueOf ml_RX12_321 mi_X12_valueOf mv_X12_valueOf rfl kd_68 cl_12 rfl (ltA hA0 rfl) hR hcs (Nat.le_of_ble_eq_true rfl) dX12_layGains_26 rfl hM (fun y g hp => (q y g hp))
theorem c_X12_layGains_29 {X : CX} {R : Room} {Z : ZX} {A : AX} {h : AH} {x1 x2 x3 x4 x5 x6 s1 : Int32} {d : Nat} {P52 P52_1 : Int32 → AH → Prop} (hA0 : 91 ≤ A.1) (hR : RO R (d + 1)) (hcs : A.2.2.1 ≤ R.cells ∧ A.2.2.2 ≤ R.slots) (hM : ¬ x2 = (-1) → Mk X d m_X12_valueOf [.ref 68, .int x3] (setI h 68 32 ((s1 - x5) - (h.1 68 31))) A.1 A.2.1 (RI P52)) (q : ¬ x2 = (-1) → ∀ (y : Int32) (g : AH), P52 y g → V X m_X12_layGains R Z A 55 [some (.ref 68), some (.int x1), some (.int x2), some (.int x3), some (.int x4), none, some (.int x6)] [.int y, .ref 68] g) (hM_1 : x2 = (-1) → Mk X d m_X12_valueOf [.ref 68, .int x3] (setI h 68 32 ((s1 - x5) - 0)) A.1 A.2.1 (RI P52_1)) (q_1 : x2 = (-1) → ∀ (y : Int32) (g : AH), P52_1 y g → V X m_X12_layGains R Z A 55 [some (.ref 68), some (.int x1), some (.int x2), some (.int x3), some (.int x4), none, some (.int x6)] [.int y, .ref 68] g) : V X m_X12_layGains R Z A 29 [some (.ref 68), some (.int x1), some (.int x2), some (.int x3), some (.int x4), some (.int x5), some (.int x6)] [.int s1, .ref 68] h := by
  refine v_iload dX12_layGains_29 rfl ?_
  refine v_isub dX12_layGains_31 ?_
  refine v_iload_n dX12_layGains_32 rfl ?_
  refine v_iconst dX12_layGains_33 ci_m1 ?_
  refine v_icmp_ne (tgt := 41) dX12_layGains_34 (by decide) (fun c0 => ?_) (fun c0 => ?_)
  · refine v_aload_n dX12_layGains_41 rfl ?_
    refine v_getI dX12_layGains_42 fl_RX12_324 kd_68 (ltA hA0 rfl) rfl ?_
    refine v_isub dX12_layGains_45 ?_
    refine v_putI rfl rfl rfl dX12_layGains_46 fl_RX12_334 (Or.inl rfl) kd_68 (ltA hA0 rfl) ?_
    refine v_aload_n dX12_layGains_49 rfl ?_
    refine v_aload_n dX12_layGains_50 rfl ?_
    refine v_iload_n dX12_layGains_51 rfl ?_
    exact v_cVI (mt := m_X12_layGains) mo_X12_valueOf ml_RX12_321 mi_X12_valueOf mv_X12_valueOf rfl kd_68 cl_12 rfl (ltA hA0 rfl) hR hcs (Nat.le_of_ble_eq_true rfl) dX12_layGains_52 rfl (hM c0) (fun y g hp => (v_drop (lvLe_s (lvLe_s (lvLe_s (lvLe_s (lvLe_s (lvLe_n (lvLe_s lvLe_e))))))) ((q c0) y g hp)))
  · refine v_iconst dX12_layGains_37 ci_0 ?_
    refine v_goto (tgt := 45) dX12_layGains_38 (by decide) ?_
    refine v_isub dX12_layGains_45 ?_
    refine v_putI rfl rfl rfl dX12_layGains_46 fl_RX12_334 (Or.inl rfl) kd_68 (ltA hA0 rfl) ?_
    refine v_aload_n dX12_layGains_49 rfl ?_
    refine v_aload_n dX12_layGains_50 rfl ?_
    refine v_iload_n dX12_layGains_51 rfl ?_
    exact v_cVI (mt := m_X12_layGains) mo_X12_valueOf ml_RX12_321 mi_X12_valueOf mv_X12_valueOf rfl kd_68 cl_12 rfl (ltA hA0 rfl) hR hcs (Nat.le_of_ble_eq_true rfl) dX12_layGains_52 rfl (hM_1 c0) (fun y g hp => (v_drop (lvLe_s (lvLe_s (lvLe_s (lvLe_s (lvLe_s (lvLe_n (lvLe_s lvLe_e))))))) ((q_1 c0) y g hp)))
theorem c_X12_layGains_55 {X : CX} {R : Room} {Z : ZX} {A : AX} {h : AH} {x1 x2 x3 x4 x6 s1 : Int32} {d : Nat} {P82 P82_1 : AH → Prop} (hA0 : 91 ≤ A.1) (hR : RO R (d + 1)) (hcs : A.2.2.1 ≤ R.cells ∧ A.2.2.2 ≤ R.slots) (hM : ¬ x4 = (-1) → Mk X d m_X12_undoChange [.ref 68, .int x1, .int x2, .int x3, .int x4] (setI h 68 33 ((s1 - x6) - (h.1 68 31))) A.1 A.2.1 (RV P82)) (q : ¬ x4 = (-1) → ∀ (g : AH), P82 g → V X m_X12_layGains R Z A 85 [none, none, none, none, none, none, none] [] g) (hM_1 : x4 = (-1) → Mk X d m_X12_undoChange [.ref 68, .int x1, .int x2, .int x3, .int x4] (setI h 68 33 ((s1 - x6) - 0)) A.1 A.2.1 (RV P82_1)) (q_1 : x4 = (-1) → ∀ (g : AH), P82_1 g → V X m_X12_layGains R Z A 85 [none, none, none, none, none, none, none] [] g) : V X m_X12_layGains R Z A 55 [some (.ref 68), some (.int x1), some (.int x2), some (.int x3), some (.int x4), none, some (.int x6)] [.int s1, .ref 68] h := by
  refine v_iload dX12_layGains_55 rfl ?_
  refine v_isub dX12_layGains_57 ?_
  refine v_iload dX12_layGains_58 rfl ?_
  refine v_iconst dX12_layGains_60 ci_m1 ?_
  refine v_icmp_ne (tgt := 68) dX12_layGains_61 (by decide) (fun c0 => ?_) (fun c0 => ?_)
  · refine v_aload_n dX12_layGains_68 rfl ?_
    refine v_getI dX12_layGains_69 fl_RX12_324 kd_68 (ltA hA0 rfl) rfl ?_
    refine v_isub dX12_layGains_72 ?_
    refine v_putI rfl rfl rfl dX12_layGains_73 fl_RX12_337 (Or.inl rfl) kd_68 (ltA hA0 rfl) ?_
    refine v_aload_n dX12_layGains_76 rfl ?_
    refine v_iload_n dX12_layGains_77 rfl ?_
    refine v_iload_n dX12_layGains_78 rfl ?_
    refine v_iload_n dX12_layGains_79 rfl ?_
    refine v_iload dX12_layGains_80 rfl ?_
    exact v_cVV (mt := m_X12_layGains) mo_X12_undoChange ml_RX12_340 mi_X12_undoChange mv_X12_undoChange rfl kd_68 cl_12 rfl (ltA hA0 rfl) hR hcs (Nat.le_of_ble_eq_true rfl) dX12_layGains_82 rfl (hM c0) (fun g hp => (v_drop (lvLe_n (lvLe_n (lvLe_n (lvLe_n (lvLe_n (lvLe_n (lvLe_n lvLe_e))))))) ((q c0) g hp)))
  · refine v_iconst dX12_layGains_64 ci_0 ?_
    refine v_goto (tgt := 72) dX12_layGains_65 (by decide) ?_
    refine v_isub dX12_layGains_72 ?_
    refine v_putI rfl rfl rfl dX12_layGains_73 fl_RX12_337 (Or.inl rfl) kd_68 (ltA hA0 rfl) ?_
    refine v_aload_n dX12_layGains_76 rfl ?_
    refine v_iload_n dX12_layGains_77 rfl ?_
    refine v_iload_n dX12_layGains_78 rfl ?_
    refine v_iload_n dX12_layGains_79 rfl ?_
    refine v_iload dX12_layGains_80 rfl ?_
    exact v_cVV (mt := m_X12_layGains) mo_X12_undoChange ml_RX12_340 mi_X12_undoChange mv_X12_undoChange rfl kd_68 cl_12 rfl (ltA hA0 rfl) hR hcs (Nat.le_of_ble_eq_true rfl) dX12_layGains_82 rfl (hM_1 c0) (fun g hp => (v_drop (lvLe_n (lvLe_n (lvLe_n (lvLe_n (lvLe_n (lvLe_n (lvLe_n lvLe_e))))))) ((q_1 c0) g hp)))
theorem c_X12_layGains_85 {X : CX} {R : Room} {Q : Option Value → AH → Prop} {nx sz mc ms : Nat} {h : AH} (hq : Q none h) : V X m_X12_layGains R (ZM X Q nx sz mc ms) (nx, sz, mc, ms) 85 [none, none, none, none, none, none, none] [] h := by
  exact v_vret dX12_layGains_85 rfl hq
theorem e_X12_gain {X : CX} {d nx sz : Nat} {Q : Option Value → AH → Prop} {h : AH} {x1 x2 x3 x4 x5 : Int32} (q : V X m_X12_gain (rm d 0 0) (ZM X Q nx sz 0 0) (nx, sz, 0, 0) 0 [some (.ref 68), some (.int x1), some (.int x2), some (.int x3), some (.int x4), some (.int x5)] [] h) : Mk X d m_X12_gain [.ref 68, .int x1, .int x2, .int x3, .int x4, .int x5] h nx sz Q := by
  refine Mok.ofV mo_X12_gain (Nat.le_of_ble_eq_true rfl) (L := [some (.ref 68), some (.int x1), some (.int x2), some (.int x3), some (.int x4), some (.int x5)]) (lvLe_s (lvLe_s (lvLe_s (lvLe_s (lvLe_s (lvLe_s lvLe_e)))))) (v_grow (n := 0) ?_)
  exact q
theorem c_X12_gain_0 {X : CX} {R : Room} {Z : ZX} {A : AX} {h : AH} {x1 x2 x3 x4 x5 : Int32} {d : Nat} {P9 : Int32 → AH → Prop} (hA0 : 91 ≤ A.1) (hR : RO R (d + 1)) (hcs : A.2.2.1 ≤ R.cells ∧ A.2.2.2 ≤ R.slots) (hM : Mk X d m_X12_isIn [.int x5, .int 0, .int 1] (setI h 68 0 0) A.1 A.2.1 (RI P9)) (q : ∀ (y : Int32) (g : AH), P9 y g → V X m_X12_gain R Z A 12 [some (.ref 68), some (.int x1), some (.int x2), some (.int x3), some (.int x4), some (.int x5)] [.int y] g) : V X m_X12_gain R Z A 0 [some (.ref 68), some (.int x1), some (.int x2), some (.int x3), some (.int x4), some (.int x5)] [] h := by
  refine v_aload_n dX12_gain_0 rfl ?_
  refine v_iconst dX12_gain_1 ci_0 ?_
  refine v_putI rfl rfl rfl dX12_gain_2 fl_RX12_103 (Or.inl rfl) kd_68 (ltA hA0 rfl) ?_
  refine v_iload dX12_gain_5 rfl ?_
  refine v_iconst dX12_gain_7 ci_0 ?_
  refine v_iconst dX12_gain_8 ci_1 ?_
  exact v_cSI (mt := m_X12_gain) mo_X12_isIn ml_RX12_232 mz_X12_isIn rfl hR hcs (Nat.le_of_ble_eq_true rfl) dX12_gain_9 rfl hM (fun y g hp => (q y g hp))
theorem c_X12_gain_12 {X : CX} {R : Room} {Q : Option Value → AH → Prop} {nx sz mc ms : Nat} {h : AH} {x1 x2 x3 x4 x5 s0 : Int32} {d : Nat} {P21 : Int32 → AH → Prop} (hA0 : 91 ≤ nx) (hR : RO R (d + 1)) (hcs : mc ≤ R.cells ∧ ms ≤ R.slots) (hq : s0 = 0 → Q (some (.int (-1000000))) h) (hM : ¬ s0 = 0 → Mk X d m_X12_canChange [.ref 68, .int x1, .int x2, .int x3, .int x4] h nx sz (RI P21)) (q : ¬ s0 = 0 → ∀ (y : Int32) (g : AH), P21 y g → V X m_X12_gain R (ZM X Q nx sz mc ms) (nx, sz, mc, ms) 24 [some (.ref 68), some (.int x1), some (.int x2), some (.int x3), some (.int x4), some (.int x5)] [.int y] g) : V X m_X12_gain R (ZM X Q nx sz mc ms) (nx, sz, mc, ms) 12 [some (.ref 68), some (.int x1), some (.int x2), some (.int x3), some (.int x4), some (.int x5)] [.int s0] h := by
  refine v_if_eq (tgt := 27) dX12_gain_12 (by decide) (fun c0 => ?_) (fun c0 => ?_)
  · refine v_ldc_w dX12_gain_27 kc_RX12_346 ?_
    exact v_iret dX12_gain_30 rfl (hq c0)
  · refine v_aload_n dX12_gain_15 rfl ?_
    refine v_iload_n dX12_gain_16 rfl ?_
    refine v_iload_n dX12_gain_17 rfl ?_
    refine v_iload_n dX12_gain_18 rfl ?_
    refine v_iload dX12_gain_19 rfl ?_
    exact v_cVI (mt := m_X12_gain) mo_X12_canChange ml_RX12_343 mi_X12_canChange mv_X12_canChange rfl kd_68 cl_12 rfl (ltA hA0 rfl) hR hcs (Nat.le_of_ble_eq_true rfl) dX12_gain_21 rfl (hM c0) (fun y g hp => ((q c0) y g hp))
theorem c_X12_gain_24 {X : CX} {R : Room} {Q : Option Value → AH → Prop} {nx sz mc ms : Nat} {h : AH} {x1 x2 x3 x4 x5 s0 : Int32} {d : Nat} {P37 : AH → Prop} (hA0 : 91 ≤ nx) (hR : RO R (d + 1)) (hcs : mc ≤ R.cells ∧ ms ≤ R.slots) (hM : ¬ s0 = 0 → Mk X d m_X12_layGains [.ref 68, .int x1, .int x2, .int x3, .int x4] h nx sz (RV P37)) (q : ¬ s0 = 0 → ∀ (g : AH), P37 g → V X m_X12_gain R (ZM X Q nx sz mc ms) (nx, sz, mc, ms) 40 [some (.ref 68), none, none, none, none, some (.int x5)] [] g) (hq : s0 = 0 → Q (some (.int (-1000000))) h) : V X m_X12_gain R (ZM X Q nx sz mc ms) (nx, sz, mc, ms) 24 [some (.ref 68), some (.int x1), some (.int x2), some (.int x3), some (.int x4), some (.int x5)] [.int s0] h := by
  refine v_if_ne (tgt := 31) dX12_gain_24 (by decide) (fun c0 => ?_) (fun c0 => ?_)
  · refine v_aload_n dX12_gain_31 rfl ?_
    refine v_iload_n dX12_gain_32 rfl ?_
    refine v_iload_n dX12_gain_33 rfl ?_
    refine v_iload_n dX12_gain_34 rfl ?_
    refine v_iload dX12_gain_35 rfl ?_
    exact v_cVV (mt := m_X12_gain) mo_X12_layGains ml_RX12_347 mi_X12_layGains mv_X12_layGains rfl kd_68 cl_12 rfl (ltA hA0 rfl) hR hcs (Nat.le_of_ble_eq_true rfl) dX12_gain_37 rfl (hM c0) (fun g hp => (v_drop (lvLe_s (lvLe_n (lvLe_n (lvLe_n (lvLe_n (lvLe_s lvLe_e)))))) ((q c0) g hp)))
  · refine v_ldc_w dX12_gain_27 kc_RX12_346 ?_
    exact v_iret dX12_gain_30 rfl (hq c0)
theorem c_X12_gain_40 {X : CX} {R : Room} {Q : Option Value → AH → Prop} {nx sz mc ms : Nat} {h : AH} {x5 : Int32} (hA0 : 91 ≤ nx) (hq : ¬ x5 = 0 → Q (some (.int (h.1 68 33))) h) (hq_1 : x5 = 0 → Q (some (.int (h.1 68 32))) h) : V X m_X12_gain R (ZM X Q nx sz mc ms) (nx, sz, mc, ms) 40 [some (.ref 68), none, none, none, none, some (.int x5)] [] h := by
  refine v_iload dX12_gain_40 rfl ?_
  refine v_if_ne (tgt := 52) dX12_gain_42 (by decide) (fun c0 => ?_) (fun c0 => ?_)
  · refine v_aload_n dX12_gain_52 rfl ?_
    refine v_getI dX12_gain_53 fl_RX12_337 kd_68 (ltA hA0 rfl) rfl ?_
    exact v_iret dX12_gain_56 rfl (hq c0)
  · refine v_aload_n dX12_gain_45 rfl ?_
    refine v_getI dX12_gain_46 fl_RX12_334 kd_68 (ltA hA0 rfl) rfl ?_
    refine v_goto (tgt := 56) dX12_gain_49 (by decide) ?_
    exact v_iret dX12_gain_56 rfl (hq_1 c0)
theorem e_X12_isWanted {X : CX} {d nx sz : Nat} {Q : Option Value → AH → Prop} {h : AH} {x1 x2 x3 x4 : Int32} (q : V X m_X12_isWanted (rm d 0 0) (ZM X Q nx sz 0 0) (nx, sz, 0, 0) 0 [some (.ref 68), some (.int x1), some (.int x2), some (.int x3), some (.int x4)] [] h) : Mk X d m_X12_isWanted [.ref 68, .int x1, .int x2, .int x3, .int x4] h nx sz Q := by
  refine Mok.ofV mo_X12_isWanted (Nat.le_of_ble_eq_true rfl) (L := [some (.ref 68), some (.int x1), some (.int x2), some (.int x3), some (.int x4)]) (lvLe_s (lvLe_s (lvLe_s (lvLe_s (lvLe_s lvLe_e))))) (v_grow (n := 0) ?_)
  exact q
theorem c_X12_isWanted_0 {X : CX} {R : Room} {Z : ZX} {A : AX} {h : AH} {x1 x2 x3 x4 : Int32} {d : Nat} {P6 : Int32 → AH → Prop} (hA0 : 91 ≤ A.1) (hR : RO R (d + 1)) (hcs : A.2.2.1 ≤ R.cells ∧ A.2.2.2 ≤ R.slots) (hM : Mk X d m_X12_canChange [.ref 68, .int x1, .int x2, .int x3, .int x4] h A.1 A.2.1 (RI P6)) (q : ∀ (y : Int32) (g : AH), P6 y g → V X m_X12_isWanted R Z A 9 [some (.ref 68), some (.int x1), some (.int x2), some (.int x3), some (.int x4)] [.int y] g) : V X m_X12_isWanted R Z A 0 [some (.ref 68), some (.int x1), some (.int x2), some (.int x3), some (.int x4)] [] h := by
  refine v_aload_n dX12_isWanted_0 rfl ?_
  refine v_iload_n dX12_isWanted_1 rfl ?_
  refine v_iload_n dX12_isWanted_2 rfl ?_
  refine v_iload_n dX12_isWanted_3 rfl ?_
  refine v_iload dX12_isWanted_4 rfl ?_
  exact v_cVI (mt := m_X12_isWanted) mo_X12_canChange ml_RX12_343 mi_X12_canChange mv_X12_canChange rfl kd_68 cl_12 rfl (ltA hA0 rfl) hR hcs (Nat.le_of_ble_eq_true rfl) dX12_isWanted_6 rfl hM (fun y g hp => (q y g hp))
theorem c_X12_isWanted_9 {X : CX} {R : Room} {Q : Option Value → AH → Prop} {nx sz mc ms : Nat} {h : AH} {x1 x2 x3 x4 s0 : Int32} {d : Nat} {P20 : AH → Prop} (hA0 : 91 ≤ nx) (hR : RO R (d + 1)) (hcs : mc ≤ R.cells ∧ ms ≤ R.slots) (hM : ¬ s0 = 0 → Mk X d m_X12_layGains [.ref 68, .int x1, .int x2, .int x3, .int x4] h nx sz (RV P20)) (q : ¬ s0 = 0 → ∀ (g : AH), P20 g → V X m_X12_isWanted R (ZM X Q nx sz mc ms) (nx, sz, mc, ms) 23 [some (.ref 68), none, none, none, none] [] g) (hq : s0 = 0 → Q (some (.int 0)) h) : V X m_X12_isWanted R (ZM X Q nx sz mc ms) (nx, sz, mc, ms) 9 [some (.ref 68), some (.int x1), some (.int x2), some (.int x3), some (.int x4)] [.int s0] h := by
  refine v_if_ne (tgt := 14) dX12_isWanted_9 (by decide) (fun c0 => ?_) (fun c0 => ?_)
  · refine v_aload_n dX12_isWanted_14 rfl ?_
    refine v_iload_n dX12_isWanted_15 rfl ?_
    refine v_iload_n dX12_isWanted_16 rfl ?_
    refine v_iload_n dX12_isWanted_17 rfl ?_
    refine v_iload dX12_isWanted_18 rfl ?_
    exact v_cVV (mt := m_X12_isWanted) mo_X12_layGains ml_RX12_347 mi_X12_layGains mv_X12_layGains rfl kd_68 cl_12 rfl (ltA hA0 rfl) hR hcs (Nat.le_of_ble_eq_true rfl) dX12_isWanted_20 rfl (hM c0) (fun g hp => (v_drop (lvLe_s (lvLe_n (lvLe_n (lvLe_n (lvLe_n lvLe_e))))) ((q c0) g hp)))
  · refine v_iconst dX12_isWanted_12 ci_0 ?_
    exact v_zret (ty := .boolean) dX12_isWanted_13 rfl rfl (hq c0)
theorem c_X12_isWanted_23 {X : CX} {R : Room} {Q : Option Value → AH → Prop} {nx sz mc ms : Nat} {h : AH} (hA0 : 91 ≤ nx) (hq : (h.1 68 32) ≤ 0 → Q (some (.int 0)) h) (hq_1 : ¬ (h.1 68 32) ≤ 0 → (h.1 68 33) ≤ 0 → Q (some (.int 0)) h) (hq_2 : ¬ (h.1 68 32) ≤ 0 → ¬ (h.1 68 33) ≤ 0 → Q (some (.int 1)) h) : V X m_X12_isWanted R (ZM X Q nx sz mc ms) (nx, sz, mc, ms) 23 [some (.ref 68), none, none, none, none] [] h := by
  refine v_aload_n dX12_isWanted_23 rfl ?_
  refine v_getI dX12_isWanted_24 fl_RX12_334 kd_68 (ltA hA0 rfl) rfl ?_
  refine v_if_le (tgt := 41) dX12_isWanted_27 (by decide) (fun c0 => ?_) (fun c0 => ?_)
  · refine v_iconst dX12_isWanted_41 ci_0 ?_
    exact v_zret (ty := .boolean) dX12_isWanted_42 rfl rfl (hq c0)
  · refine v_aload_n dX12_isWanted_30 rfl ?_
    refine v_getI dX12_isWanted_31 fl_RX12_337 kd_68 (ltA hA0 rfl) rfl ?_
    refine v_if_le (tgt := 41) dX12_isWanted_34 (by decide) (fun c1 => ?_) (fun c1 => ?_)
    · refine v_iconst dX12_isWanted_41 ci_0 ?_
      exact v_zret (ty := .boolean) dX12_isWanted_42 rfl rfl (hq_1 c0 c1)
    · refine v_iconst dX12_isWanted_37 ci_1 ?_
      refine v_goto (tgt := 42) dX12_isWanted_38 (by decide) ?_
      exact v_zret (ty := .boolean) dX12_isWanted_42 rfl rfl (hq_2 c0 c1)
theorem e_X12_change {X : CX} {d nx sz : Nat} {Q : Option Value → AH → Prop} {h : AH} {x1 x2 x3 x4 : Int32} (q : V X m_X12_change (rm d 0 0) (ZM X Q nx sz 0 0) (nx, sz, 0, 0) 0 [some (.ref 68), some (.int x1), some (.int x2), some (.int x3), some (.int x4)] [] h) : Mk X d m_X12_change [.ref 68, .int x1, .int x2, .int x3, .int x4] h nx sz Q := by
  refine Mok.ofV mo_X12_change (Nat.le_of_ble_eq_true rfl) (L := [some (.ref 68), some (.int x1), some (.int x2), some (.int x3), some (.int x4)]) (lvLe_s (lvLe_s (lvLe_s (lvLe_s (lvLe_s lvLe_e))))) (v_grow (n := 0) ?_)
  exact q
theorem c_X12_change_0 {X : CX} {R : Room} {Z : ZX} {A : AX} {h : AH} {x1 x2 x3 x4 : Int32} {d : Nat} {P11 : Int32 → AH → Prop} (hA0 : 91 ≤ A.1) (hR : RO R (d + 1)) (hcs : A.2.2.1 ≤ R.cells ∧ A.2.2.2 ≤ R.slots) (hM : Mk X d m_X12_isWanted [.ref 68, .int x1, .int x2, .int x3, .int x4] (setI h 68 0 0) A.1 A.2.1 (RI P11)) (q : ∀ (y : Int32) (g : AH), P11 y g → V X m_X12_change R Z A 14 [some (.ref 68), some (.int x1), some (.int x2), some (.int x3), some (.int x4)] [.int y] g) : V X m_X12_change R Z A 0 [some (.ref 68), some (.int x1), some (.int x2), some (.int x3), some (.int x4)] [] h := by
  refine v_aload_n dX12_change_0 rfl ?_
  refine v_iconst dX12_change_1 ci_0 ?_
  refine v_putI rfl rfl rfl dX12_change_2 fl_RX12_103 (Or.inl rfl) kd_68 (ltA hA0 rfl) ?_
  refine v_aload_n dX12_change_5 rfl ?_
  refine v_iload_n dX12_change_6 rfl ?_
  refine v_iload_n dX12_change_7 rfl ?_
  refine v_iload_n dX12_change_8 rfl ?_
  refine v_iload dX12_change_9 rfl ?_
  exact v_cVI (mt := m_X12_change) mo_X12_isWanted ml_RX12_350 mi_X12_isWanted mv_X12_isWanted rfl kd_68 cl_12 rfl (ltA hA0 rfl) hR hcs (Nat.le_of_ble_eq_true rfl) dX12_change_11 rfl hM (fun y g hp => (q y g hp))
theorem c_X12_change_14 {X : CX} {R : Room} {Q : Option Value → AH → Prop} {nx sz mc ms : Nat} {h : AH} {x1 x2 x3 x4 s0 : Int32} {d : Nat} {P25 : AH → Prop} (hA0 : 91 ≤ nx) (hR : RO R (d + 1)) (hcs : mc ≤ R.cells ∧ ms ≤ R.slots) (hM : ¬ s0 = 0 → Mk X d m_X12_doChange [.ref 68, .int x1, .int x2, .int x3, .int x4] h nx sz (RV P25)) (q : ¬ s0 = 0 → ∀ (g : AH), P25 g → V X m_X12_change R (ZM X Q nx sz mc ms) (nx, sz, mc, ms) 28 [none, none, none, none, none] [] g) (hq : s0 = 0 → Q (some (.int 0)) h) : V X m_X12_change R (ZM X Q nx sz mc ms) (nx, sz, mc, ms) 14 [some (.ref 68), some (.int x1), some (.int x2), some (.int x3), some (.int x4)] [.int s0] h := by
  refine v_if_ne (tgt := 19) dX12_change_14 (by decide) (fun c0 => ?_) (fun c0 => ?_)
  · refine v_aload_n dX12_change_19 rfl ?_
    refine v_iload_n dX12_change_20 rfl ?_
    refine v_iload_n dX12_change_21 rfl ?_
    refine v_iload_n dX12_change_22 rfl ?_
    refine v_iload dX12_change_23 rfl ?_
    exact v_cVV (mt := m_X12_change) mo_X12_doChange ml_RX12_330 mi_X12_doChange mv_X12_doChange rfl kd_68 cl_12 rfl (ltA hA0 rfl) hR hcs (Nat.le_of_ble_eq_true rfl) dX12_change_25 rfl (hM c0) (fun g hp => (v_drop (lvLe_n (lvLe_n (lvLe_n (lvLe_n (lvLe_n lvLe_e))))) ((q c0) g hp)))
  · refine v_iconst dX12_change_17 ci_0 ?_
    exact v_zret (ty := .boolean) dX12_change_18 rfl rfl (hq c0)
theorem c_X12_change_28 {X : CX} {R : Room} {Q : Option Value → AH → Prop} {nx sz mc ms : Nat} {h : AH} (hq : Q (some (.int 1)) h) : V X m_X12_change R (ZM X Q nx sz mc ms) (nx, sz, mc, ms) 28 [none, none, none, none, none] [] h := by
  refine v_iconst dX12_change_28 ci_1 ?_
  exact v_zret (ty := .boolean) dX12_change_29 rfl rfl hq
theorem e_X12_hasNeeds {X : CX} {d nx sz : Nat} {Q : Option Value → AH → Prop} {h : AH} {x1 : Int32} (q : V X m_X12_hasNeeds (rm d 0 0) (ZM X Q nx sz 0 0) (nx, sz, 0, 0) 0 [some (.ref 68), some (.int x1), none] [] h) : Mk X d m_X12_hasNeeds [.ref 68, .int x1] h nx sz Q := by
  refine Mok.ofV mo_X12_hasNeeds (Nat.le_of_ble_eq_true rfl) (L := [some (.ref 68), some (.int x1)]) (lvLe_s (lvLe_s lvLe_e)) (v_grow (n := 1) ?_)
  exact q
theorem c_X12_hasNeeds_0 {X : CX} {R : Room} {Z : ZX} {A : AX} {h : AH} {x1 : Int32} (q : V X m_X12_hasNeeds R Z A 2 [some (.ref 68), some (.int x1), some (.int 0)] [] h) : V X m_X12_hasNeeds R Z A 0 [some (.ref 68), some (.int x1), none] [] h := by
  refine v_iconst dX12_hasNeeds_0 ci_0 ?_
  refine v_istore_n dX12_hasNeeds_1 (by decide) (L' := [some (.ref 68), some (.int x1), some (.int 0)]) rfl ?_
  exact q
theorem c_X12_hasNeeds_2 {X : CX} {R : Room} {Q : Option Value → AH → Prop} {nx sz mc ms : Nat} {h : AH} {x1 x2 : Int32} (hA0 : 91 ≤ nx) (hF : Fx h) (hq : (h.1 68 1) ≤ x2 → Q (some (.int 0)) h) (hi_20 : ¬ (h.1 68 1) ≤ x2 → vp_in ((20 * x1) + x2) 400) (q : ¬ (h.1 68 1) ≤ x2 → (h.1 83 ((20 * x1) + x2).toNatClampNeg) ≤ 0 → V X m_X12_hasNeeds R (ZM X Q nx sz mc ms) (nx, sz, mc, ms) 2 [some (.ref 68), some (.int x1), some (.int (x2 + 1))] [] h) (hq_1 : ¬ (h.1 68 1) ≤ x2 → ¬ (h.1 83 ((20 * x1) + x2).toNatClampNeg) ≤ 0 → Q (some (.int 1)) h) : V X m_X12_hasNeeds R (ZM X Q nx sz mc ms) (nx, sz, mc, ms) 2 [some (.ref 68), some (.int x1), some (.int x2)] [] h := by
  refine v_iload_n dX12_hasNeeds_2 rfl ?_
  refine v_aload_n dX12_hasNeeds_3 rfl ?_
  refine v_getI dX12_hasNeeds_4 fl_RX12_99 kd_68 (ltA hA0 rfl) rfl ?_
  refine v_icmp_ge (tgt := 32) dX12_hasNeeds_7 (by decide) (fun c0 => ?_) (fun c0 => ?_)
  · refine v_iconst dX12_hasNeeds_32 ci_0 ?_
    exact v_zret (ty := .boolean) dX12_hasNeeds_33 rfl rfl (hq c0)
  · refine v_aload_n dX12_hasNeeds_10 rfl ?_
    refine v_getR dX12_hasNeeds_11 fl_RX12_69 kd_68 (ltA hA0 rfl) rfl (hF 68 29 83 rfl) ?_
    refine v_bipush dX12_hasNeeds_14 cb_20 ?_
    refine v_iload_n dX12_hasNeeds_16 rfl ?_
    refine v_imul dX12_hasNeeds_17 ?_
    refine v_iload_n dX12_hasNeeds_18 rfl ?_
    refine v_iadd dX12_hasNeeds_19 ?_
    refine v_iald dX12_hasNeeds_20 kd_83 (ltA hA0 rfl) (hi_20 c0) ?_
    refine v_if_le (tgt := 26) dX12_hasNeeds_21 (by decide) (fun c1 => ?_) (fun c1 => ?_)
    · refine v_iinc (y := (x2 + 1)) dX12_hasNeeds_26 rfl rfl (by decide) (L' := [some (.ref 68), some (.int x1), some (.int (x2 + 1))]) rfl ?_
      refine v_goto (tgt := 2) dX12_hasNeeds_29 (by decide) ?_
      exact (q c0 c1)
    · refine v_iconst dX12_hasNeeds_24 ci_1 ?_
      exact v_zret (ty := .boolean) dX12_hasNeeds_25 rfl rfl (hq_1 c0 c1)
theorem e_X12_hasBest {X : CX} {d nx sz : Nat} {Q : Option Value → AH → Prop} {h : AH} {x1 : Int32} (q : V X m_X12_hasBest (rm d 0 0) (ZM X Q nx sz 0 0) (nx, sz, 0, 0) 0 [some (.ref 68), some (.int x1), none, none, none] [] h) : Mk X d m_X12_hasBest [.ref 68, .int x1] h nx sz Q := by
  refine Mok.ofV mo_X12_hasBest (Nat.le_of_ble_eq_true rfl) (L := [some (.ref 68), some (.int x1)]) (lvLe_s (lvLe_s lvLe_e)) (v_grow (n := 3) ?_)
  exact q
theorem c_X12_hasBest_0 {X : CX} {R : Room} {Z : ZX} {A : AX} {h : AH} {x1 : Int32} (hA0 : 91 ≤ A.1) (q : V X m_X12_hasBest R Z A 7 [some (.ref 68), some (.int x1), some (.int 0), none, none] [] (setI h 68 37 0)) : V X m_X12_hasBest R Z A 0 [some (.ref 68), some (.int x1), none, none, none] [] h := by
  refine v_aload_n dX12_hasBest_0 rfl ?_
  refine v_iconst dX12_hasBest_1 ci_0 ?_
  refine v_putI rfl rfl rfl dX12_hasBest_2 fl_RX12_353 (Or.inl rfl) kd_68 (ltA hA0 rfl) ?_
  refine v_iconst dX12_hasBest_5 ci_0 ?_
  refine v_istore_n dX12_hasBest_6 (by decide) (L' := [some (.ref 68), some (.int x1), some (.int 0), none, none]) rfl ?_
  exact q
theorem c_X12_hasBest_7 {X : CX} {R : Room} {Q : Option Value → AH → Prop} {nx sz mc ms : Nat} {h : AH} {x1 x2 : Int32} {d : Nat} {P17 : Int32 → AH → Prop} (hA0 : 91 ≤ nx) (hR : RO R (d + 1)) (hcs : mc ≤ R.cells ∧ ms ≤ R.slots) (hq : (h.1 68 1) ≤ x2 → (h.1 68 37) ≤ 0 → Q (some (.int 0)) h) (hq_1 : (h.1 68 1) ≤ x2 → ¬ (h.1 68 37) ≤ 0 → Q (some (.int 1)) h) (hM : ¬ (h.1 68 1) ≤ x2 → Mk X d m_X12_hasNeeds [.ref 68, .int x1] h nx sz (RI P17)) (q : ¬ (h.1 68 1) ≤ x2 → ∀ (y : Int32) (g : AH), P17 y g → V X m_X12_hasBest R (ZM X Q nx sz mc ms) (nx, sz, mc, ms) 20 [some (.ref 68), some (.int x1), some (.int x2), none, none] [.int y] g) : V X m_X12_hasBest R (ZM X Q nx sz mc ms) (nx, sz, mc, ms) 7 [some (.ref 68), some (.int x1), some (.int x2), none, none] [] h := by
  refine v_iload_n dX12_hasBest_7 rfl ?_
  refine v_aload_n dX12_hasBest_8 rfl ?_
  refine v_getI dX12_hasBest_9 fl_RX12_99 kd_68 (ltA hA0 rfl) rfl ?_
  refine v_icmp_ge (tgt := 124) dX12_hasBest_12 (by decide) (fun c0 => ?_) (fun c0 => ?_)
  · refine v_aload_n dX12_hasBest_124 rfl ?_
    refine v_getI dX12_hasBest_125 fl_RX12_353 kd_68 (ltA hA0 rfl) rfl ?_
    refine v_if_le (tgt := 135) dX12_hasBest_128 (by decide) (fun c1 => ?_) (fun c1 => ?_)
    · refine v_iconst dX12_hasBest_135 ci_0 ?_
      exact v_zret (ty := .boolean) dX12_hasBest_136 rfl rfl (hq c0 c1)
    · refine v_iconst dX12_hasBest_131 ci_1 ?_
      refine v_goto (tgt := 136) dX12_hasBest_132 (by decide) ?_
      exact v_zret (ty := .boolean) dX12_hasBest_136 rfl rfl (hq_1 c0 c1)
  · refine v_aload_n dX12_hasBest_15 rfl ?_
    refine v_iload_n dX12_hasBest_16 rfl ?_
    exact v_cVI (mt := m_X12_hasBest) mo_X12_hasNeeds ml_RX12_356 mi_X12_hasNeeds mv_X12_hasNeeds rfl kd_68 cl_12 rfl (ltA hA0 rfl) hR hcs (Nat.le_of_ble_eq_true rfl) dX12_hasBest_17 rfl (hM c0) (fun y g hp => ((q c0) y g hp))
theorem c_X12_hasBest_20 {X : CX} {R : Room} {Q : Option Value → AH → Prop} {nx sz mc ms : Nat} {h : AH} {x1 x2 s0 : Int32} {d : Nat} {P25 : Int32 → AH → Prop} (hA0 : 91 ≤ nx) (hR : RO R (d + 1)) (hcs : mc ≤ R.cells ∧ ms ≤ R.slots) (hq : s0 = 0 → (h.1 68 37) ≤ 0 → Q (some (.int 0)) h) (hq_1 : s0 = 0 → ¬ (h.1 68 37) ≤ 0 → Q (some (.int 1)) h) (hM : ¬ s0 = 0 → Mk X d m_X12_hasNeeds [.ref 68, .int x2] h nx sz (RI P25)) (q : ¬ s0 = 0 → ∀ (y : Int32) (g : AH), P25 y g → V X m_X12_hasBest R (ZM X Q nx sz mc ms) (nx, sz, mc, ms) 28 [some (.ref 68), some (.int x1), some (.int x2), none, none] [.int y] g) : V X m_X12_hasBest R (ZM X Q nx sz mc ms) (nx, sz, mc, ms) 20 [some (.ref 68), some (.int x1), some (.int x2), none, none] [.int s0] h := by
  refine v_if_eq (tgt := 124) dX12_hasBest_20 (by decide) (fun c0 => ?_) (fun c0 => ?_)
  · refine v_aload_n dX12_hasBest_124 rfl ?_
    refine v_getI dX12_hasBest_125 fl_RX12_353 kd_68 (ltA hA0 rfl) rfl ?_
    refine v_if_le (tgt := 135) dX12_hasBest_128 (by decide) (fun c1 => ?_) (fun c1 => ?_)
    · refine v_iconst dX12_hasBest_135 ci_0 ?_
      exact v_zret (ty := .boolean) dX12_hasBest_136 rfl rfl (hq c0 c1)
    · refine v_iconst dX12_hasBest_131 ci_1 ?_
      refine v_goto (tgt := 136) dX12_hasBest_132 (by decide) ?_
      exact v_zret (ty := .boolean) dX12_hasBest_136 rfl rfl (hq_1 c0 c1)
  · refine v_aload_n dX12_hasBest_23 rfl ?_
    refine v_iload_n dX12_hasBest_24 rfl ?_
    exact v_cVI (mt := m_X12_hasBest) mo_X12_hasNeeds ml_RX12_356 mi_X12_hasNeeds mv_X12_hasNeeds rfl kd_68 cl_12 rfl (ltA hA0 rfl) hR hcs (Nat.le_of_ble_eq_true rfl) dX12_hasBest_25 rfl (hM c0) (fun y g hp => ((q c0) y g hp))
theorem c_X12_hasBest_28 {X : CX} {R : Room} {Z : ZX} {A : AX} {h : AH} {x1 x2 s0 : Int32} (q : ¬ s0 = 0 → V X m_X12_hasBest R Z A 36 [some (.ref 68), some (.int x1), some (.int x2), some (.int (-1)), none] [] h) (q_1 : s0 = 0 → V X m_X12_hasBest R Z A 7 [some (.ref 68), some (.int x1), some (.int (x2 + 1)), none, none] [] h) : V X m_X12_hasBest R Z A 28 [some (.ref 68), some (.int x1), some (.int x2), none, none] [.int s0] h := by
  refine v_if_ne (tgt := 34) dX12_hasBest_28 (by decide) (fun c0 => ?_) (fun c0 => ?_)
  · refine v_iconst dX12_hasBest_34 ci_m1 ?_
    refine v_istore_n dX12_hasBest_35 (by decide) (L' := [some (.ref 68), some (.int x1), some (.int x2), some (.int (-1)), none]) rfl ?_
    exact (q c0)
  · refine v_goto (tgt := 118) dX12_hasBest_31 (by decide) ?_
    refine v_iinc (y := (x2 + 1)) dX12_hasBest_118 rfl rfl (by decide) (L' := [some (.ref 68), some (.int x1), some (.int (x2 + 1)), none, none]) rfl ?_
    refine v_goto (tgt := 7) dX12_hasBest_121 (by decide) ?_
    exact (q_1 c0)
theorem c_X12_hasBest_36 {X : CX} {R : Room} {Z : ZX} {A : AX} {h : AH} {x1 x2 x3 : Int32} (hA0 : 91 ≤ A.1) (q : (h.1 68 1) ≤ x3 → V X m_X12_hasBest R Z A 7 [some (.ref 68), some (.int x1), some (.int (x2 + 1)), none, none] [] h) (q_1 : ¬ (h.1 68 1) ≤ x3 → V X m_X12_hasBest R Z A 47 [some (.ref 68), some (.int x1), some (.int x2), some (.int x3), some (.int (-1))] [] h) : V X m_X12_hasBest R Z A 36 [some (.ref 68), some (.int x1), some (.int x2), some (.int x3), none] [] h := by
  refine v_iload_n dX12_hasBest_36 rfl ?_
  refine v_aload_n dX12_hasBest_37 rfl ?_
  refine v_getI dX12_hasBest_38 fl_RX12_99 kd_68 (ltA hA0 rfl) rfl ?_
  refine v_icmp_ge (tgt := 118) dX12_hasBest_41 (by decide) (fun c0 => ?_) (fun c0 => ?_)
  · refine v_iinc (y := (x2 + 1)) dX12_hasBest_118 rfl rfl (by decide) (L' := [some (.ref 68), some (.int x1), some (.int (x2 + 1)), some (.int x3), none]) rfl ?_
    refine v_goto (tgt := 7) dX12_hasBest_121 (by decide) ?_
    exact (v_drop (lvLe_s (lvLe_s (lvLe_s (lvLe_n (lvLe_n lvLe_e))))) (q c0))
  · refine v_iconst dX12_hasBest_44 ci_m1 ?_
    refine v_istore dX12_hasBest_45 (by decide) (L' := [some (.ref 68), some (.int x1), some (.int x2), some (.int x3), some (.int (-1))]) rfl ?_
    exact (q_1 c0)
theorem c_X12_hasBest_47 {X : CX} {R : Room} {Z : ZX} {A : AX} {h : AH} {x1 x2 x3 x4 : Int32} {d : Nat} {P62 : Int32 → AH → Prop} (hA0 : 91 ≤ A.1) (hR : RO R (d + 1)) (hcs : A.2.2.1 ≤ R.cells ∧ A.2.2.2 ≤ R.slots) (q : (h.1 68 1) ≤ x4 → V X m_X12_hasBest R Z A 36 [some (.ref 68), some (.int x1), some (.int x2), some (.int (x3 + 1)), none] [] h) (hM : ¬ (h.1 68 1) ≤ x4 → Mk X d m_X12_isWanted [.ref 68, .int x1, .int x3, .int x2, .int x4] h A.1 A.2.1 (RI P62)) (q_1 : ¬ (h.1 68 1) ≤ x4 → ∀ (y : Int32) (g : AH), P62 y g → V X m_X12_hasBest R Z A 65 [some (.ref 68), some (.int x1), some (.int x2), some (.int x3), some (.int x4)] [.int y] g) : V X m_X12_hasBest R Z A 47 [some (.ref 68), some (.int x1), some (.int x2), some (.int x3), some (.int x4)] [] h := by
  refine v_iload dX12_hasBest_47 rfl ?_
  refine v_aload_n dX12_hasBest_49 rfl ?_
  refine v_getI dX12_hasBest_50 fl_RX12_99 kd_68 (ltA hA0 rfl) rfl ?_
  refine v_icmp_ge (tgt := 112) dX12_hasBest_53 (by decide) (fun c0 => ?_) (fun c0 => ?_)
  · refine v_iinc (y := (x3 + 1)) dX12_hasBest_112 rfl rfl (by decide) (L' := [some (.ref 68), some (.int x1), some (.int x2), some (.int (x3 + 1)), some (.int x4)]) rfl ?_
    refine v_goto (tgt := 36) dX12_hasBest_115 (by decide) ?_
    exact (v_drop (lvLe_s (lvLe_s (lvLe_s (lvLe_s (lvLe_n lvLe_e))))) (q c0))
  · refine v_aload_n dX12_hasBest_56 rfl ?_
    refine v_iload_n dX12_hasBest_57 rfl ?_
    refine v_iload_n dX12_hasBest_58 rfl ?_
    refine v_iload_n dX12_hasBest_59 rfl ?_
    refine v_iload dX12_hasBest_60 rfl ?_
    exact v_cVI (mt := m_X12_hasBest) mo_X12_isWanted ml_RX12_350 mi_X12_isWanted mv_X12_isWanted rfl kd_68 cl_12 rfl (ltA hA0 rfl) hR hcs (Nat.le_of_ble_eq_true rfl) dX12_hasBest_62 rfl (hM c0) (fun y g hp => ((q_1 c0) y g hp))
theorem c_X12_hasBest_65 {X : CX} {R : Room} {Z : ZX} {A : AX} {h : AH} {x1 x2 x3 x4 s0 : Int32} (hA0 : 91 ≤ A.1) (q : s0 = 0 → V X m_X12_hasBest R Z A 47 [some (.ref 68), some (.int x1), some (.int x2), some (.int x3), some (.int (x4 + 1))] [] h) (q_1 : ¬ s0 = 0 → (h.1 68 37) < (h.1 68 32) → V X m_X12_hasBest R Z A 47 [some (.ref 68), some (.int x1), some (.int x2), some (.int x3), some (.int (x4 + 1))] [] (setI (setI (setI (setI h 68 37 (h.1 68 32)) 68 34 x2) 68 35 x3) 68 36 x4)) (q_2 : ¬ s0 = 0 → ¬ (h.1 68 37) < (h.1 68 32) → V X m_X12_hasBest R Z A 47 [some (.ref 68), some (.int x1), some (.int x2), some (.int x3), some (.int (x4 + 1))] [] h) : V X m_X12_hasBest R Z A 65 [some (.ref 68), some (.int x1), some (.int x2), some (.int x3), some (.int x4)] [.int s0] h := by
  refine v_if_eq (tgt := 106) dX12_hasBest_65 (by decide) (fun c0 => ?_) (fun c0 => ?_)
  · refine v_iinc (y := (x4 + 1)) dX12_hasBest_106 rfl rfl (by decide) (L' := [some (.ref 68), some (.int x1), some (.int x2), some (.int x3), some (.int (x4 + 1))]) rfl ?_
    refine v_goto (tgt := 47) dX12_hasBest_109 (by decide) ?_
    exact (q c0)
  · refine v_aload_n dX12_hasBest_68 rfl ?_
    refine v_getI dX12_hasBest_69 fl_RX12_334 kd_68 (ltA hA0 rfl) rfl ?_
    refine v_aload_n dX12_hasBest_72 rfl ?_
    refine v_getI dX12_hasBest_73 fl_RX12_353 kd_68 (ltA hA0 rfl) rfl ?_
    refine v_icmp_gt (tgt := 82) dX12_hasBest_76 (by decide) (fun c1 => ?_) (fun c1 => ?_)
    · refine v_aload_n dX12_hasBest_82 rfl ?_
      refine v_aload_n dX12_hasBest_83 rfl ?_
      refine v_getI dX12_hasBest_84 fl_RX12_334 kd_68 (ltA hA0 rfl) rfl ?_
      refine v_putI rfl rfl rfl dX12_hasBest_87 fl_RX12_353 (Or.inl rfl) kd_68 (ltA hA0 rfl) ?_
      refine v_aload_n dX12_hasBest_90 rfl ?_
      refine v_iload_n dX12_hasBest_91 rfl ?_
      refine v_putI rfl rfl rfl dX12_hasBest_92 fl_RX12_359 (Or.inl rfl) kd_68 (ltA hA0 rfl) ?_
      refine v_aload_n dX12_hasBest_95 rfl ?_
      refine v_iload_n dX12_hasBest_96 rfl ?_
      refine v_putI rfl rfl rfl dX12_hasBest_97 fl_RX12_362 (Or.inl rfl) kd_68 (ltA hA0 rfl) ?_
      refine v_aload_n dX12_hasBest_100 rfl ?_
      refine v_iload dX12_hasBest_101 rfl ?_
      refine v_putI rfl rfl rfl dX12_hasBest_103 fl_RX12_365 (Or.inl rfl) kd_68 (ltA hA0 rfl) ?_
      refine v_iinc (y := (x4 + 1)) dX12_hasBest_106 rfl rfl (by decide) (L' := [some (.ref 68), some (.int x1), some (.int x2), some (.int x3), some (.int (x4 + 1))]) rfl ?_
      refine v_goto (tgt := 47) dX12_hasBest_109 (by decide) ?_
      exact (q_1 c0 c1)
    · refine v_goto (tgt := 106) dX12_hasBest_79 (by decide) ?_
      refine v_iinc (y := (x4 + 1)) dX12_hasBest_106 rfl rfl (by decide) (L' := [some (.ref 68), some (.int x1), some (.int x2), some (.int x3), some (.int (x4 + 1))]) rfl ?_
      refine v_goto (tgt := 47) dX12_hasBest_109 (by decide) ?_
      exact (q_2 c0 c1)
theorem e_X12_best {X : CX} {d nx sz : Nat} {Q : Option Value → AH → Prop} {h : AH} {x1 x2 : Int32} (q : V X m_X12_best (rm d 0 0) (ZM X Q nx sz 0 0) (nx, sz, 0, 0) 0 [some (.ref 68), some (.int x1), some (.int x2)] [] h) : Mk X d m_X12_best [.ref 68, .int x1, .int x2] h nx sz Q := by
  refine Mok.ofV mo_X12_best (Nat.le_of_ble_eq_true rfl) (L := [some (.ref 68), some (.int x1), some (.int x2)]) (lvLe_s (lvLe_s (lvLe_s lvLe_e))) (v_grow (n := 0) ?_)
  exact q
theorem c_X12_best_0 {X : CX} {R : Room} {Z : ZX} {A : AX} {h : AH} {x1 x2 : Int32} {d : Nat} {P7 : Int32 → AH → Prop} (hA0 : 91 ≤ A.1) (hR : RO R (d + 1)) (hcs : A.2.2.1 ≤ R.cells ∧ A.2.2.2 ≤ R.slots) (hM : Mk X d m_X12_isOne [.ref 68, .int x1] (setI h 68 0 0) A.1 A.2.1 (RI P7)) (q : ∀ (y : Int32) (g : AH), P7 y g → V X m_X12_best R Z A 10 [some (.ref 68), some (.int x1), some (.int x2)] [.int y] g) : V X m_X12_best R Z A 0 [some (.ref 68), some (.int x1), some (.int x2)] [] h := by
  refine v_aload_n dX12_best_0 rfl ?_
  refine v_iconst dX12_best_1 ci_0 ?_
  refine v_putI rfl rfl rfl dX12_best_2 fl_RX12_103 (Or.inl rfl) kd_68 (ltA hA0 rfl) ?_
  refine v_aload_n dX12_best_5 rfl ?_
  refine v_iload_n dX12_best_6 rfl ?_
  exact v_cVI (mt := m_X12_best) mo_X12_isOne ml_RX12_250 mi_X12_isOne mv_X12_isOne rfl kd_68 cl_12 rfl (ltA hA0 rfl) hR hcs (Nat.le_of_ble_eq_true rfl) dX12_best_7 rfl hM (fun y g hp => (q y g hp))
theorem c_X12_best_10 {X : CX} {R : Room} {Q : Option Value → AH → Prop} {nx sz mc ms : Nat} {h : AH} {x1 x2 s0 : Int32} {d : Nat} {P16 : Int32 → AH → Prop} (hR : RO R (d + 1)) (hcs : mc ≤ R.cells ∧ ms ≤ R.slots) (hq : s0 = 0 → Q (some (.int (-1000000))) h) (hM : ¬ s0 = 0 → Mk X d m_X12_isIn [.int x2, .int 0, .int 3] h nx sz (RI P16)) (q : ¬ s0 = 0 → ∀ (y : Int32) (g : AH), P16 y g → V X m_X12_best R (ZM X Q nx sz mc ms) (nx, sz, mc, ms) 19 [some (.ref 68), some (.int x1), some (.int x2)] [.int y] g) : V X m_X12_best R (ZM X Q nx sz mc ms) (nx, sz, mc, ms) 10 [some (.ref 68), some (.int x1), some (.int x2)] [.int s0] h := by
  refine v_if_eq (tgt := 30) dX12_best_10 (by decide) (fun c0 => ?_) (fun c0 => ?_)
  · refine v_ldc_w dX12_best_30 kc_RX12_346 ?_
    exact v_iret dX12_best_33 rfl (hq c0)
  · refine v_iload_n dX12_best_13 rfl ?_
    refine v_iconst dX12_best_14 ci_0 ?_
    refine v_iconst dX12_best_15 ci_3 ?_
    exact v_cSI (mt := m_X12_best) mo_X12_isIn ml_RX12_232 mz_X12_isIn rfl hR hcs (Nat.le_of_ble_eq_true rfl) dX12_best_16 rfl (hM c0) (fun y g hp => ((q c0) y g hp))
theorem c_X12_best_19 {X : CX} {R : Room} {Q : Option Value → AH → Prop} {nx sz mc ms : Nat} {h : AH} {x1 x2 s0 : Int32} {d : Nat} {P24 : Int32 → AH → Prop} (hA0 : 91 ≤ nx) (hR : RO R (d + 1)) (hcs : mc ≤ R.cells ∧ ms ≤ R.slots) (hq : s0 = 0 → Q (some (.int (-1000000))) h) (hM : ¬ s0 = 0 → Mk X d m_X12_hasBest [.ref 68, .int x1] h nx sz (RI P24)) (q : ¬ s0 = 0 → ∀ (y : Int32) (g : AH), P24 y g → V X m_X12_best R (ZM X Q nx sz mc ms) (nx, sz, mc, ms) 27 [some (.ref 68), none, some (.int x2)] [.int y] g) : V X m_X12_best R (ZM X Q nx sz mc ms) (nx, sz, mc, ms) 19 [some (.ref 68), some (.int x1), some (.int x2)] [.int s0] h := by
  refine v_if_eq (tgt := 30) dX12_best_19 (by decide) (fun c0 => ?_) (fun c0 => ?_)
  · refine v_ldc_w dX12_best_30 kc_RX12_346 ?_
    exact v_iret dX12_best_33 rfl (hq c0)
  · refine v_aload_n dX12_best_22 rfl ?_
    refine v_iload_n dX12_best_23 rfl ?_
    exact v_cVI (mt := m_X12_best) mo_X12_hasBest ml_RX12_368 mi_X12_hasBest mv_X12_hasBest rfl kd_68 cl_12 rfl (ltA hA0 rfl) hR hcs (Nat.le_of_ble_eq_true rfl) dX12_best_24 rfl (hM c0) (fun y g hp => (v_drop (lvLe_s (lvLe_n (lvLe_s lvLe_e))) ((q c0) y g hp)))
theorem c_X12_best_27 {X : CX} {R : Room} {Q : Option Value → AH → Prop} {nx sz mc ms : Nat} {h : AH} {x2 s0 : Int32} (hA0 : 91 ≤ nx) (hq : ¬ s0 = 0 → ¬ x2 = 0 → ¬ x2 = 1 → ¬ x2 = 2 → Q (some (.int (h.1 68 37))) h) (hq_1 : ¬ s0 = 0 → ¬ x2 = 0 → ¬ x2 = 1 → x2 = 2 → Q (some (.int (h.1 68 36))) h) (hq_2 : ¬ s0 = 0 → ¬ x2 = 0 → x2 = 1 → Q (some (.int (h.1 68 35))) h) (hq_3 : ¬ s0 = 0 → x2 = 0 → Q (some (.int (h.1 68 34))) h) (hq_4 : s0 = 0 → Q (some (.int (-1000000))) h) : V X m_X12_best R (ZM X Q nx sz mc ms) (nx, sz, mc, ms) 27 [some (.ref 68), none, some (.int x2)] [.int s0] h := by
  refine v_if_ne (tgt := 34) dX12_best_27 (by decide) (fun c0 => ?_) (fun c0 => ?_)
  · refine v_iload_n dX12_best_34 rfl ?_
    refine v_if_ne (tgt := 45) dX12_best_35 (by decide) (fun c1 => ?_) (fun c1 => ?_)
    · refine v_iload_n dX12_best_45 rfl ?_
      refine v_iconst dX12_best_46 ci_1 ?_
      refine v_icmp_ne (tgt := 57) dX12_best_47 (by decide) (fun c2 => ?_) (fun c2 => ?_)
      · refine v_iload_n dX12_best_57 rfl ?_
        refine v_iconst dX12_best_58 ci_2 ?_
        refine v_icmp_ne (tgt := 69) dX12_best_59 (by decide) (fun c3 => ?_) (fun c3 => ?_)
        · refine v_aload_n dX12_best_69 rfl ?_
          refine v_getI dX12_best_70 fl_RX12_353 kd_68 (ltA hA0 rfl) rfl ?_
          exact v_iret dX12_best_73 rfl (hq c0 c1 c2 c3)
        · refine v_aload_n dX12_best_62 rfl ?_
          refine v_getI dX12_best_63 fl_RX12_365 kd_68 (ltA hA0 rfl) rfl ?_
          refine v_goto (tgt := 73) dX12_best_66 (by decide) ?_
          exact v_iret dX12_best_73 rfl (hq_1 c0 c1 c2 c3)
      · refine v_aload_n dX12_best_50 rfl ?_
        refine v_getI dX12_best_51 fl_RX12_362 kd_68 (ltA hA0 rfl) rfl ?_
        refine v_goto (tgt := 73) dX12_best_54 (by decide) ?_
        exact v_iret dX12_best_73 rfl (hq_2 c0 c1 c2)
    · refine v_aload_n dX12_best_38 rfl ?_
      refine v_getI dX12_best_39 fl_RX12_359 kd_68 (ltA hA0 rfl) rfl ?_
      refine v_goto (tgt := 73) dX12_best_42 (by decide) ?_
      exact v_iret dX12_best_73 rfl (hq_3 c0 c1)
  · refine v_ldc_w dX12_best_30 kc_RX12_346 ?_
    exact v_iret dX12_best_33 rfl (hq_4 c0)
theorem e_X12_turn {X : CX} {d nx sz : Nat} {Q : Option Value → AH → Prop} {h : AH} (q : V X m_X12_turn (rm d 0 0) (ZM X Q nx sz 0 0) (nx, sz, 0, 0) 0 [some (.ref 68), none, none, none, none] [] h) : Mk X d m_X12_turn [.ref 68] h nx sz Q := by
  refine Mok.ofV mo_X12_turn (Nat.le_of_ble_eq_true rfl) (L := [some (.ref 68)]) (lvLe_s lvLe_e) (v_grow (n := 4) ?_)
  exact q
theorem c_X12_turn_0 {X : CX} {R : Room} {Z : ZX} {A : AX} {h : AH} (hA0 : 91 ≤ A.1) (q : V X m_X12_turn R Z A 7 [some (.ref 68), some (.int 0), none, none, none] [] (setI h 68 0 0)) : V X m_X12_turn R Z A 0 [some (.ref 68), none, none, none, none] [] h := by
  refine v_aload_n dX12_turn_0 rfl ?_
  refine v_iconst dX12_turn_1 ci_0 ?_
  refine v_putI rfl rfl rfl dX12_turn_2 fl_RX12_103 (Or.inl rfl) kd_68 (ltA hA0 rfl) ?_
  refine v_iconst dX12_turn_5 ci_0 ?_
  refine v_istore_n dX12_turn_6 (by decide) (L' := [some (.ref 68), some (.int 0), none, none, none]) rfl ?_
  exact q
theorem c_X12_turn_7 {X : CX} {R : Room} {Z : ZX} {A : AX} {h : AH} {x1 : Int32} (hA0 : 91 ≤ A.1) (hF : Fx h) (q : (h.1 68 1) ≤ x1 → V X m_X12_turn R Z A 37 [some (.ref 68), some (.int 0), some (.int 1), none, none] [] h) (hi_25 : ¬ (h.1 68 1) ≤ x1 → vp_in x1 20) (hi_26 : ¬ (h.1 68 1) ≤ x1 → vp_in x1 20) (q_1 : ¬ (h.1 68 1) ≤ x1 → V X m_X12_turn R Z A 7 [some (.ref 68), some (.int (x1 + 1)), none, none, none] [] (setI h 84 x1.toNatClampNeg (h.1 73 x1.toNatClampNeg))) : V X m_X12_turn R Z A 7 [some (.ref 68), some (.int x1), none, none, none] [] h := by
  refine v_iload_n dX12_turn_7 rfl ?_
  refine v_aload_n dX12_turn_8 rfl ?_
  refine v_getI dX12_turn_9 fl_RX12_99 kd_68 (ltA hA0 rfl) rfl ?_
  refine v_icmp_ge (tgt := 33) dX12_turn_12 (by decide) (fun c0 => ?_) (fun c0 => ?_)
  · refine v_iconst dX12_turn_33 ci_0 ?_
    refine v_istore_n dX12_turn_34 (by decide) (L' := [some (.ref 68), some (.int 0), none, none, none]) rfl ?_
    refine v_iconst dX12_turn_35 ci_1 ?_
    refine v_istore_n dX12_turn_36 (by decide) (L' := [some (.ref 68), some (.int 0), some (.int 1), none, none]) rfl ?_
    exact (q c0)
  · refine v_aload_n dX12_turn_15 rfl ?_
    refine v_getR dX12_turn_16 fl_RX12_72 kd_68 (ltA hA0 rfl) rfl (hF 68 38 84 rfl) ?_
    refine v_iload_n dX12_turn_19 rfl ?_
    refine v_aload_n dX12_turn_20 rfl ?_
    refine v_getR dX12_turn_21 fl_RX12_37 kd_68 (ltA hA0 rfl) rfl (hF 68 19 73 rfl) ?_
    refine v_iload_n dX12_turn_24 rfl ?_
    refine v_iald dX12_turn_25 kd_73 (ltA hA0 rfl) (hi_25 c0) ?_
    refine v_iast dX12_turn_26 kd_84 (ltA hA0 rfl) (hi_26 c0) ?_
    refine v_iinc (y := (x1 + 1)) dX12_turn_27 rfl rfl (by decide) (L' := [some (.ref 68), some (.int (x1 + 1)), none, none, none]) rfl ?_
    refine v_goto (tgt := 7) dX12_turn_30 (by decide) ?_
    exact (q_1 c0)
theorem c_X12_turn_37 {X : CX} {R : Room} {Q : Option Value → AH → Prop} {nx sz mc ms : Nat} {h : AH} {x1 x2 : Int32} (hq : x2 = 0 → Q (some (.int x1)) h) (q : ¬ x2 = 0 → V X m_X12_turn R (ZM X Q nx sz mc ms) (nx, sz, mc, ms) 45 [some (.ref 68), some (.int x1), some (.int 0), some (.int 0), none] [] h) : V X m_X12_turn R (ZM X Q nx sz mc ms) (nx, sz, mc, ms) 37 [some (.ref 68), some (.int x1), some (.int x2), none, none] [] h := by
  refine v_iload_n dX12_turn_37 rfl ?_
  refine v_if_eq (tgt := 135) dX12_turn_38 (by decide) (fun c0 => ?_) (fun c0 => ?_)
  · refine v_iload_n dX12_turn_135 rfl ?_
    exact v_iret dX12_turn_136 rfl (hq c0)
  · refine v_iconst dX12_turn_41 ci_0 ?_
    refine v_istore_n dX12_turn_42 (by decide) (L' := [some (.ref 68), some (.int x1), some (.int 0), none, none]) rfl ?_
    refine v_iconst dX12_turn_43 ci_0 ?_
    refine v_istore_n dX12_turn_44 (by decide) (L' := [some (.ref 68), some (.int x1), some (.int 0), some (.int 0), none]) rfl ?_
    exact (q c0)
theorem c_X12_turn_45 {X : CX} {R : Room} {Z : ZX} {A : AX} {h : AH} {x1 x2 x3 : Int32} {d : Nat} {P55 : Int32 → AH → Prop} (hA0 : 91 ≤ A.1) (hR : RO R (d + 1)) (hcs : A.2.2.1 ≤ R.cells ∧ A.2.2.2 ≤ R.slots) (q : (h.1 68 1) ≤ x3 → V X m_X12_turn R Z A 37 [some (.ref 68), some (.int x1), some (.int x2), none, none] [] h) (hM : ¬ (h.1 68 1) ≤ x3 → Mk X d m_X12_hasBest [.ref 68, .int x3] h A.1 A.2.1 (RI P55)) (q_1 : ¬ (h.1 68 1) ≤ x3 → ∀ (y : Int32) (g : AH), P55 y g → V X m_X12_turn R Z A 58 [some (.ref 68), some (.int x1), some (.int x2), some (.int x3), none] [.int y] g) : V X m_X12_turn R Z A 45 [some (.ref 68), some (.int x1), some (.int x2), some (.int x3), none] [] h := by
  refine v_iload_n dX12_turn_45 rfl ?_
  refine v_aload_n dX12_turn_46 rfl ?_
  refine v_getI dX12_turn_47 fl_RX12_99 kd_68 (ltA hA0 rfl) rfl ?_
  refine v_icmp_ge (tgt := 132) dX12_turn_50 (by decide) (fun c0 => ?_) (fun c0 => ?_)
  · refine v_goto (tgt := 37) dX12_turn_132 (by decide) ?_
    exact (v_drop (lvLe_s (lvLe_s (lvLe_s (lvLe_n (lvLe_n lvLe_e))))) (q c0))
  · refine v_aload_n dX12_turn_53 rfl ?_
    refine v_iload_n dX12_turn_54 rfl ?_
    exact v_cVI (mt := m_X12_turn) mo_X12_hasBest ml_RX12_368 mi_X12_hasBest mv_X12_hasBest rfl kd_68 cl_12 rfl (ltA hA0 rfl) hR hcs (Nat.le_of_ble_eq_true rfl) dX12_turn_55 rfl (hM c0) (fun y g hp => ((q_1 c0) y g hp))
theorem c_X12_turn_58 {X : CX} {R : Room} {Z : ZX} {A : AX} {h : AH} {x1 x2 x3 s0 : Int32} {d : Nat} {P118 : AH → Prop} (hA0 : 91 ≤ A.1) (hR : RO R (d + 1)) (hcs : A.2.2.1 ≤ R.cells ∧ A.2.2.2 ≤ R.slots) (hM : ¬ s0 = 0 → ¬ x1 = 40 → Mk X d m_X12_doChange [.ref 68, .int x3, .int (h.1 68 35), .int (h.1 68 34), .int (h.1 68 36)] h A.1 A.2.1 (RV P118)) (q : ¬ s0 = 0 → ¬ x1 = 40 → ∀ (g : AH), P118 g → V X m_X12_turn R Z A 121 [some (.ref 68), some (.int x1), none, some (.int x3), none] [] g) (q_1 : ¬ s0 = 0 → x1 = 40 → V X m_X12_turn R Z A 73 [some (.ref 68), none, none, none, some (.int 0)] [] h) (q_2 : s0 = 0 → V X m_X12_turn R Z A 45 [some (.ref 68), some (.int x1), some (.int x2), some (.int (x3 + 1)), none] [] h) : V X m_X12_turn R Z A 58 [some (.ref 68), some (.int x1), some (.int x2), some (.int x3), none] [.int s0] h := by
  refine v_if_ne (tgt := 64) dX12_turn_58 (by decide) (fun c0 => ?_) (fun c0 => ?_)
  · refine v_iload_n dX12_turn_64 rfl ?_
    refine v_bipush dX12_turn_65 cb_40 ?_
    refine v_icmp_ne (tgt := 104) dX12_turn_67 (by decide) (fun c1 => ?_) (fun c1 => ?_)
    · refine v_aload_n dX12_turn_104 rfl ?_
      refine v_iload_n dX12_turn_105 rfl ?_
      refine v_aload_n dX12_turn_106 rfl ?_
      refine v_getI dX12_turn_107 fl_RX12_362 kd_68 (ltA hA0 rfl) rfl ?_
      refine v_aload_n dX12_turn_110 rfl ?_
      refine v_getI dX12_turn_111 fl_RX12_359 kd_68 (ltA hA0 rfl) rfl ?_
      refine v_aload_n dX12_turn_114 rfl ?_
      refine v_getI dX12_turn_115 fl_RX12_365 kd_68 (ltA hA0 rfl) rfl ?_
      exact v_cVV (mt := m_X12_turn) mo_X12_doChange ml_RX12_330 mi_X12_doChange mv_X12_doChange rfl kd_68 cl_12 rfl (ltA hA0 rfl) hR hcs (Nat.le_of_ble_eq_true rfl) dX12_turn_118 rfl (hM c0 c1) (fun g hp => (v_drop (lvLe_s (lvLe_s (lvLe_n (lvLe_s (lvLe_n lvLe_e))))) ((q c0 c1) g hp)))
    · refine v_iconst dX12_turn_70 ci_0 ?_
      refine v_istore dX12_turn_71 (by decide) (L' := [some (.ref 68), some (.int x1), some (.int x2), some (.int x3), some (.int 0)]) rfl ?_
      exact (v_drop (lvLe_s (lvLe_n (lvLe_n (lvLe_n (lvLe_s lvLe_e))))) (q_1 c0 c1))
  · refine v_goto (tgt := 126) dX12_turn_61 (by decide) ?_
    refine v_iinc (y := (x3 + 1)) dX12_turn_126 rfl rfl (by decide) (L' := [some (.ref 68), some (.int x1), some (.int x2), some (.int (x3 + 1)), none]) rfl ?_
    refine v_goto (tgt := 45) dX12_turn_129 (by decide) ?_
    exact (q_2 c0)
theorem c_X12_turn_73 {X : CX} {R : Room} {Q : Option Value → AH → Prop} {nx sz mc ms : Nat} {h : AH} {x4 : Int32} (hA0 : 91 ≤ nx) (hF : Fx h) (hq : (h.1 68 1) ≤ x4 → Q (some (.int (-1))) h) (hi_94 : ¬ (h.1 68 1) ≤ x4 → vp_in x4 20) (hi_95 : ¬ (h.1 68 1) ≤ x4 → vp_in x4 20) (q : ¬ (h.1 68 1) ≤ x4 → V X m_X12_turn R (ZM X Q nx sz mc ms) (nx, sz, mc, ms) 73 [some (.ref 68), none, none, none, some (.int (x4 + 1))] [] (setI h 73 x4.toNatClampNeg (h.1 84 x4.toNatClampNeg))) : V X m_X12_turn R (ZM X Q nx sz mc ms) (nx, sz, mc, ms) 73 [some (.ref 68), none, none, none, some (.int x4)] [] h := by
  refine v_iload dX12_turn_73 rfl ?_
  refine v_aload_n dX12_turn_75 rfl ?_
  refine v_getI dX12_turn_76 fl_RX12_99 kd_68 (ltA hA0 rfl) rfl ?_
  refine v_icmp_ge (tgt := 102) dX12_turn_79 (by decide) (fun c0 => ?_) (fun c0 => ?_)
  · refine v_iconst dX12_turn_102 ci_m1 ?_
    exact v_iret dX12_turn_103 rfl (hq c0)
  · refine v_aload_n dX12_turn_82 rfl ?_
    refine v_getR dX12_turn_83 fl_RX12_37 kd_68 (ltA hA0 rfl) rfl (hF 68 19 73 rfl) ?_
    refine v_iload dX12_turn_86 rfl ?_
    refine v_aload_n dX12_turn_88 rfl ?_
    refine v_getR dX12_turn_89 fl_RX12_72 kd_68 (ltA hA0 rfl) rfl (hF 68 38 84 rfl) ?_
    refine v_iload dX12_turn_92 rfl ?_
    refine v_iald dX12_turn_94 kd_84 (ltA hA0 rfl) (hi_94 c0) ?_
    refine v_iast dX12_turn_95 kd_73 (ltA hA0 rfl) (hi_95 c0) ?_
    refine v_iinc (y := (x4 + 1)) dX12_turn_96 rfl rfl (by decide) (L' := [some (.ref 68), none, none, none, some (.int (x4 + 1))]) rfl ?_
    refine v_goto (tgt := 73) dX12_turn_99 (by decide) ?_
    exact (q c0)
theorem c_X12_turn_121 {X : CX} {R : Room} {Z : ZX} {A : AX} {h : AH} {x1 x3 : Int32} (q : V X m_X12_turn R Z A 45 [some (.ref 68), some (.int (x1 + 1)), some (.int 1), some (.int (x3 + 1)), none] [] h) : V X m_X12_turn R Z A 121 [some (.ref 68), some (.int x1), none, some (.int x3), none] [] h := by
  refine v_iinc (y := (x1 + 1)) dX12_turn_121 rfl rfl (by decide) (L' := [some (.ref 68), some (.int (x1 + 1)), none, some (.int x3), none]) rfl ?_
  refine v_iconst dX12_turn_124 ci_1 ?_
  refine v_istore_n dX12_turn_125 (by decide) (L' := [some (.ref 68), some (.int (x1 + 1)), some (.int 1), some (.int x3), none]) rfl ?_
  refine v_iinc (y := (x3 + 1)) dX12_turn_126 rfl rfl (by decide) (L' := [some (.ref 68), some (.int (x1 + 1)), some (.int 1), some (.int (x3 + 1)), none]) rfl ?_
  refine v_goto (tgt := 45) dX12_turn_129 (by decide) ?_
  exact q
theorem e_X12_stable {X : CX} {d nx sz : Nat} {Q : Option Value → AH → Prop} {h : AH} (q : V X m_X12_stable (rm d 0 0) (ZM X Q nx sz 0 0) (nx, sz, 0, 0) 0 [some (.ref 68), none] [] h) : Mk X d m_X12_stable [.ref 68] h nx sz Q := by
  refine Mok.ofV mo_X12_stable (Nat.le_of_ble_eq_true rfl) (L := [some (.ref 68)]) (lvLe_s lvLe_e) (v_grow (n := 1) ?_)
  exact q
theorem c_X12_stable_0 {X : CX} {R : Room} {Z : ZX} {A : AX} {h : AH} (hA0 : 91 ≤ A.1) (q : V X m_X12_stable R Z A 7 [some (.ref 68), some (.int 0)] [] (setI h 68 0 0)) : V X m_X12_stable R Z A 0 [some (.ref 68), none] [] h := by
  refine v_aload_n dX12_stable_0 rfl ?_
  refine v_iconst dX12_stable_1 ci_0 ?_
  refine v_putI rfl rfl rfl dX12_stable_2 fl_RX12_103 (Or.inl rfl) kd_68 (ltA hA0 rfl) ?_
  refine v_iconst dX12_stable_5 ci_0 ?_
  refine v_istore_n dX12_stable_6 (by decide) (L' := [some (.ref 68), some (.int 0)]) rfl ?_
  exact q
theorem c_X12_stable_7 {X : CX} {R : Room} {Q : Option Value → AH → Prop} {nx sz mc ms : Nat} {h : AH} {x1 : Int32} {d : Nat} {P17 : Int32 → AH → Prop} (hA0 : 91 ≤ nx) (hR : RO R (d + 1)) (hcs : mc ≤ R.cells ∧ ms ≤ R.slots) (hq : (h.1 68 1) ≤ x1 → Q (some (.int 1)) h) (hM : ¬ (h.1 68 1) ≤ x1 → Mk X d m_X12_hasBest [.ref 68, .int x1] h nx sz (RI P17)) (q : ¬ (h.1 68 1) ≤ x1 → ∀ (y : Int32) (g : AH), P17 y g → V X m_X12_stable R (ZM X Q nx sz mc ms) (nx, sz, mc, ms) 20 [some (.ref 68), some (.int x1)] [.int y] g) : V X m_X12_stable R (ZM X Q nx sz mc ms) (nx, sz, mc, ms) 7 [some (.ref 68), some (.int x1)] [] h := by
  refine v_iload_n dX12_stable_7 rfl ?_
  refine v_aload_n dX12_stable_8 rfl ?_
  refine v_getI dX12_stable_9 fl_RX12_99 kd_68 (ltA hA0 rfl) rfl ?_
  refine v_icmp_ge (tgt := 31) dX12_stable_12 (by decide) (fun c0 => ?_) (fun c0 => ?_)
  · refine v_iconst dX12_stable_31 ci_1 ?_
    exact v_zret (ty := .boolean) dX12_stable_32 rfl rfl (hq c0)
  · refine v_aload_n dX12_stable_15 rfl ?_
    refine v_iload_n dX12_stable_16 rfl ?_
    exact v_cVI (mt := m_X12_stable) mo_X12_hasBest ml_RX12_368 mi_X12_hasBest mv_X12_hasBest rfl kd_68 cl_12 rfl (ltA hA0 rfl) hR hcs (Nat.le_of_ble_eq_true rfl) dX12_stable_17 rfl (hM c0) (fun y g hp => ((q c0) y g hp))
theorem c_X12_stable_20 {X : CX} {R : Room} {Q : Option Value → AH → Prop} {nx sz mc ms : Nat} {h : AH} {x1 s0 : Int32} (q : s0 = 0 → V X m_X12_stable R (ZM X Q nx sz mc ms) (nx, sz, mc, ms) 7 [some (.ref 68), some (.int (x1 + 1))] [] h) (hq : ¬ s0 = 0 → Q (some (.int 0)) h) : V X m_X12_stable R (ZM X Q nx sz mc ms) (nx, sz, mc, ms) 20 [some (.ref 68), some (.int x1)] [.int s0] h := by
  refine v_if_eq (tgt := 25) dX12_stable_20 (by decide) (fun c0 => ?_) (fun c0 => ?_)
  · refine v_iinc (y := (x1 + 1)) dX12_stable_25 rfl rfl (by decide) (L' := [some (.ref 68), some (.int (x1 + 1))]) rfl ?_
    refine v_goto (tgt := 7) dX12_stable_28 (by decide) ?_
    exact (q c0)
  · refine v_iconst dX12_stable_23 ci_0 ?_
    exact v_zret (ty := .boolean) dX12_stable_24 rfl rfl (hq c0)
theorem e_X12_isRule {X : CX} {d nx sz : Nat} {Q : Option Value → AH → Prop} {h : AH} {x1 : Int32} (q : V X m_X12_isRule (rm d 0 0) (ZM X Q nx sz 0 0) (nx, sz, 0, 0) 0 [some (.ref 68), some (.int x1)] [] h) : Mk X d m_X12_isRule [.ref 68, .int x1] h nx sz Q := by
  refine Mok.ofV mo_X12_isRule (Nat.le_of_ble_eq_true rfl) (L := [some (.ref 68), some (.int x1)]) (lvLe_s (lvLe_s lvLe_e)) (v_grow (n := 0) ?_)
  exact q
theorem c_X12_isRule_0 {X : CX} {R : Room} {Q : Option Value → AH → Prop} {nx sz mc ms : Nat} {h : AH} {x1 : Int32} (hA0 : 91 ≤ nx) (hq : x1 < 0 → Q (some (.int 0)) h) (hq_1 : ¬ x1 < 0 → (h.1 68 8) ≤ x1 → Q (some (.int 0)) h) (hq_2 : ¬ x1 < 0 → ¬ (h.1 68 8) ≤ x1 → Q (some (.int 1)) h) : V X m_X12_isRule R (ZM X Q nx sz mc ms) (nx, sz, mc, ms) 0 [some (.ref 68), some (.int x1)] [] h := by
  refine v_iload_n dX12_isRule_0 rfl ?_
  refine v_if_lt (tgt := 16) dX12_isRule_1 (by decide) (fun c0 => ?_) (fun c0 => ?_)
  · refine v_iconst dX12_isRule_16 ci_0 ?_
    exact v_zret (ty := .boolean) dX12_isRule_17 rfl rfl (hq c0)
  · refine v_iload_n dX12_isRule_4 rfl ?_
    refine v_aload_n dX12_isRule_5 rfl ?_
    refine v_getI dX12_isRule_6 fl_RX12_242 kd_68 (ltA hA0 rfl) rfl ?_
    refine v_icmp_ge (tgt := 16) dX12_isRule_9 (by decide) (fun c1 => ?_) (fun c1 => ?_)
    · refine v_iconst dX12_isRule_16 ci_0 ?_
      exact v_zret (ty := .boolean) dX12_isRule_17 rfl rfl (hq_1 c0 c1)
    · refine v_iconst dX12_isRule_12 ci_1 ?_
      refine v_goto (tgt := 17) dX12_isRule_13 (by decide) ?_
      exact v_zret (ty := .boolean) dX12_isRule_17 rfl rfl (hq_2 c0 c1)
theorem e_X12_clearLetters {X : CX} {d nx sz : Nat} {Q : Option Value → AH → Prop} {h : AH} (q : V X m_X12_clearLetters (rm d 0 0) (ZM X Q nx sz 0 0) (nx, sz, 0, 0) 0 [some (.ref 68), none] [] h) : Mk X d m_X12_clearLetters [.ref 68] h nx sz Q := by
  refine Mok.ofV mo_X12_clearLetters (Nat.le_of_ble_eq_true rfl) (L := [some (.ref 68)]) (lvLe_s lvLe_e) (v_grow (n := 1) ?_)
  exact q
theorem c_X12_clearLetters_0 {X : CX} {R : Room} {Z : ZX} {A : AX} {h : AH} (q : V X m_X12_clearLetters R Z A 2 [some (.ref 68), some (.int 0)] [] h) : V X m_X12_clearLetters R Z A 0 [some (.ref 68), none] [] h := by
  refine v_iconst dX12_clearLetters_0 ci_0 ?_
  refine v_istore_n dX12_clearLetters_1 (by decide) (L' := [some (.ref 68), some (.int 0)]) rfl ?_
  exact q
theorem c_X12_clearLetters_2 {X : CX} {R : Room} {Z : ZX} {A : AX} {h : AH} {x1 : Int32} {d : Nat} {P5 : Int32 → AH → Prop} (hR : RO R (d + 1)) (hcs : A.2.2.1 ≤ R.cells ∧ A.2.2.2 ≤ R.slots) (hM : Mk X d m_J0_length_8abf5 [.ref (10000 + 0)] h A.1 A.2.1 (RI P5)) (q : ∀ (y : Int32) (g : AH), P5 y g → V X m_X12_clearLetters R Z A 8 [some (.ref 68), some (.int x1)] [.int y, .int x1] g) : V X m_X12_clearLetters R Z A 2 [some (.ref 68), some (.int x1)] [] h := by
  refine v_iload_n dX12_clearLetters_2 rfl ?_
  refine v_ldcs (k := 0) dX12_clearLetters_3 (List.mem_of_getElem? (i := 1) rfl) ?_
  exact v_cTI (mt := m_X12_clearLetters) (i := 0) mo_J0_length_8abf5 ml_RX12_106 mi_J0_length_8abf5 mv_J0_length_8abf5 rfl rfl (by decide) hR hcs (Nat.le_of_ble_eq_true rfl) dX12_clearLetters_5 rfl hM (fun y g hp => (q y g hp))
theorem c_X12_clearLetters_8 {X : CX} {R : Room} {Q : Option Value → AH → Prop} {nx sz mc ms : Nat} {h : AH} {x1 s0 s1 : Int32} {d : Nat} {P18 : Int32 → AH → Prop} (hA0 : 91 ≤ nx) (hF : Fx h) (hR : RO R (d + 1)) (hcs : mc ≤ R.cells ∧ ms ≤ R.slots) (hq : s1 ≤ s0 → Q none h) (hM : ¬ s1 ≤ s0 → Mk X d m_J0_charAt_5068e [.ref (10000 + 0), .int x1] h nx sz (RI P18)) (q : ¬ s1 ≤ s0 → ∀ (y : Int32) (g : AH), P18 y g → V X m_X12_clearLetters R (ZM X Q nx sz mc ms) (nx, sz, mc, ms) 21 [some (.ref 68), some (.int x1)] [.int y, .ref 72] g) : V X m_X12_clearLetters R (ZM X Q nx sz mc ms) (nx, sz, mc, ms) 8 [some (.ref 68), some (.int x1)] [.int s1, .int s0] h := by
  refine v_icmp_ge (tgt := 29) dX12_clearLetters_8 (by decide) (fun c0 => ?_) (fun c0 => ?_)
  · exact v_vret dX12_clearLetters_29 rfl (hq c0)
  · refine v_aload_n dX12_clearLetters_11 rfl ?_
    refine v_getR dX12_clearLetters_12 fl_RX12_20 kd_68 (ltA hA0 rfl) rfl (hF 68 5 72 rfl) ?_
    refine v_ldcs (k := 0) dX12_clearLetters_15 (List.mem_of_getElem? (i := 1) rfl) ?_
    refine v_iload_n dX12_clearLetters_17 rfl ?_
    exact v_cTI (mt := m_X12_clearLetters) (i := 0) mo_J0_charAt_5068e ml_RX12_112 mi_J0_charAt_5068e mv_J0_charAt_5068e rfl rfl (by decide) hR hcs (Nat.le_of_ble_eq_true rfl) dX12_clearLetters_18 rfl (hM c0) (fun y g hp => ((q c0) y g hp))
theorem c_X12_clearLetters_21 {X : CX} {R : Room} {Z : ZX} {A : AX} {h : AH} {x1 s1 : Int32} (hA0 : 91 ≤ A.1) (hi_22 : vp_in s1 128) (q : V X m_X12_clearLetters R Z A 2 [some (.ref 68), some (.int (x1 + 1))] [] (setI h 72 s1.toNatClampNeg 0)) : V X m_X12_clearLetters R Z A 21 [some (.ref 68), some (.int x1)] [.int s1, .ref 72] h := by
  refine v_iconst dX12_clearLetters_21 ci_0 ?_
  refine v_iast dX12_clearLetters_22 kd_72 (ltA hA0 rfl) hi_22 ?_
  refine v_iinc (y := (x1 + 1)) dX12_clearLetters_23 rfl rfl (by decide) (L' := [some (.ref 68), some (.int (x1 + 1))]) rfl ?_
  refine v_goto (tgt := 2) dX12_clearLetters_26 (by decide) ?_
  exact q
theorem e_X12_worthBy {X : CX} {d nx sz : Nat} {Q : Option Value → AH → Prop} {h : AH} {x1 : Int32} (q : V X m_X12_worthBy (rm d 0 0) (ZM X Q nx sz 0 0) (nx, sz, 0, 0) 0 [some (.ref 68), some (.int x1)] [] h) : Mk X d m_X12_worthBy [.ref 68, .int x1] h nx sz Q := by
  refine Mok.ofV mo_X12_worthBy (Nat.le_of_ble_eq_true rfl) (L := [some (.ref 68), some (.int x1)]) (lvLe_s (lvLe_s lvLe_e)) (v_grow (n := 0) ?_)
  exact q
theorem c_X12_worthBy_0 {X : CX} {R : Room} {Z : ZX} {A : AX} {h : AH} {x1 : Int32} {d : Nat} {P16 : AH → Prop} (hA0 : 91 ≤ A.1) (hF : Fx h) (hR : RO R (d + 1)) (hcs : A.2.2.1 ≤ R.cells ∧ A.2.2.2 ≤ R.slots) (hi_15 : vp_in x1 6) (hM : Mk X d m_X12_goThrough [.ref 68, .ref 70, .int (200 * x1), .int (h.1 71 x1.toNatClampNeg)] h A.1 A.2.1 (RV P16)) (q : ∀ (g : AH), P16 g → V X m_X12_worthBy R Z A 19 [some (.ref 68), none] [] g) : V X m_X12_worthBy R Z A 0 [some (.ref 68), some (.int x1)] [] h := by
  refine v_aload_n dX12_worthBy_0 rfl ?_
  refine v_aload_n dX12_worthBy_1 rfl ?_
  refine v_getR dX12_worthBy_2 fl_RX12_13 kd_68 (ltA hA0 rfl) rfl (hF 68 3 70 rfl) ?_
  refine v_sipush dX12_worthBy_5 cs_200 ?_
  refine v_iload_n dX12_worthBy_8 rfl ?_
  refine v_imul dX12_worthBy_9 ?_
  refine v_aload_n dX12_worthBy_10 rfl ?_
  refine v_getR dX12_worthBy_11 fl_RX12_16 kd_68 (ltA hA0 rfl) rfl (hF 68 4 71 rfl) ?_
  refine v_iload_n dX12_worthBy_14 rfl ?_
  refine v_iald dX12_worthBy_15 kd_71 (ltA hA0 rfl) hi_15 ?_
  exact v_cVV (mt := m_X12_worthBy) mo_X12_goThrough ml_RX12_239 mi_X12_goThrough mv_X12_goThrough rfl kd_68 cl_12 rfl (ltA hA0 rfl) hR hcs (Nat.le_of_ble_eq_true rfl) dX12_worthBy_16 rfl hM (fun g hp => (v_drop (lvLe_s (lvLe_n lvLe_e)) (q g hp)))
theorem c_X12_worthBy_19 {X : CX} {R : Room} {Q : Option Value → AH → Prop} {nx sz mc ms : Nat} {h : AH} (hA0 : 91 ≤ nx) (hq : Q (some (.int (h.1 68 15))) h) : V X m_X12_worthBy R (ZM X Q nx sz mc ms) (nx, sz, mc, ms) 19 [some (.ref 68), none] [] h := by
  refine v_aload_n dX12_worthBy_19 rfl ?_
  refine v_getI dX12_worthBy_20 fl_RX12_207 kd_68 (ltA hA0 rfl) rfl ?_
  exact v_iret dX12_worthBy_23 rfl hq
theorem e_X12_givesTo {X : CX} {d nx sz : Nat} {Q : Option Value → AH → Prop} {h : AH} {x1 x2 x3 : Int32} (q : V X m_X12_givesTo (rm d 0 0) (ZM X Q nx sz 0 0) (nx, sz, 0, 0) 0 [some (.ref 68), some (.int x1), some (.int x2), some (.int x3), none, none, none, none] [] h) : Mk X d m_X12_givesTo [.ref 68, .int x1, .int x2, .int x3] h nx sz Q := by
  refine Mok.ofV mo_X12_givesTo (Nat.le_of_ble_eq_true rfl) (L := [some (.ref 68), some (.int x1), some (.int x2), some (.int x3)]) (lvLe_s (lvLe_s (lvLe_s (lvLe_s lvLe_e)))) (v_grow (n := 4) ?_)
  exact q
theorem c_X12_givesTo_0 {X : CX} {R : Room} {Z : ZX} {A : AX} {h : AH} {x1 x2 x3 : Int32} (q : V X m_X12_givesTo R Z A 9 [some (.ref 68), some (.int x1), some (.int x2), some (.int x3), some (.int (-1)), some (.int 0), some (.int 0), none] [] h) : V X m_X12_givesTo R Z A 0 [some (.ref 68), some (.int x1), some (.int x2), some (.int x3), none, none, none, none] [] h := by
  refine v_iconst dX12_givesTo_0 ci_m1 ?_
  refine v_istore dX12_givesTo_1 (by decide) (L' := [some (.ref 68), some (.int x1), some (.int x2), some (.int x3), some (.int (-1)), none, none, none]) rfl ?_
  refine v_iconst dX12_givesTo_3 ci_0 ?_
  refine v_istore dX12_givesTo_4 (by decide) (L' := [some (.ref 68), some (.int x1), some (.int x2), some (.int x3), some (.int (-1)), some (.int 0), none, none]) rfl ?_
  refine v_iconst dX12_givesTo_6 ci_0 ?_
  refine v_istore dX12_givesTo_7 (by decide) (L' := [some (.ref 68), some (.int x1), some (.int x2), some (.int x3), some (.int (-1)), some (.int 0), some (.int 0), none]) rfl ?_
  exact q
theorem c_X12_givesTo_9 {X : CX} {R : Room} {Q : Option Value → AH → Prop} {nx sz mc ms : Nat} {h : AH} {x1 x2 x3 x4 x5 x6 : Int32} {d : Nat} {P26 : Int32 → AH → Prop} (hA0 : 91 ≤ nx) (hF : Fx h) (hR : RO R (d + 1)) (hcs : mc ≤ R.cells ∧ ms ≤ R.slots) (hq : (h.1 68 1) ≤ x6 → Q (some (.int x4)) h) (hi_23 : ¬ (h.1 68 1) ≤ x6 → vp_in x2 20) (hM : ¬ (h.1 68 1) ≤ x6 → Mk X d m_X12_has [.int (h.1 73 x2.toNatClampNeg), .int x6] h nx sz (RI P26)) (q : ¬ (h.1 68 1) ≤ x6 → ∀ (y : Int32) (g : AH), P26 y g → V X m_X12_givesTo R (ZM X Q nx sz mc ms) (nx, sz, mc, ms) 29 [some (.ref 68), some (.int x1), some (.int x2), some (.int x3), some (.int x4), some (.int x5), some (.int x6), none] [.int y] g) : V X m_X12_givesTo R (ZM X Q nx sz mc ms) (nx, sz, mc, ms) 9 [some (.ref 68), some (.int x1), some (.int x2), some (.int x3), some (.int x4), some (.int x5), some (.int x6), none] [] h := by
  refine v_iload dX12_givesTo_9 rfl ?_
  refine v_aload_n dX12_givesTo_11 rfl ?_
  refine v_getI dX12_givesTo_12 fl_RX12_99 kd_68 (ltA hA0 rfl) rfl ?_
  refine v_icmp_ge (tgt := 185) dX12_givesTo_15 (by decide) (fun c0 => ?_) (fun c0 => ?_)
  · refine v_iload dX12_givesTo_185 rfl ?_
    exact v_iret dX12_givesTo_187 rfl (hq c0)
  · refine v_aload_n dX12_givesTo_18 rfl ?_
    refine v_getR dX12_givesTo_19 fl_RX12_37 kd_68 (ltA hA0 rfl) rfl (hF 68 19 73 rfl) ?_
    refine v_iload_n dX12_givesTo_22 rfl ?_
    refine v_iald dX12_givesTo_23 kd_73 (ltA hA0 rfl) (hi_23 c0) ?_
    refine v_iload dX12_givesTo_24 rfl ?_
    exact v_cSI (mt := m_X12_givesTo) mo_X12_has ml_RX12_220 mz_X12_has rfl hR hcs (Nat.le_of_ble_eq_true rfl) dX12_givesTo_26 rfl (hM c0) (fun y g hp => ((q c0) y g hp))
theorem c_X12_givesTo_29 {X : CX} {R : Room} {Z : ZX} {A : AX} {h : AH} {x1 x2 x3 x4 x5 x6 s0 : Int32} {d : Nat} {P36 : AH → Prop} (hA0 : 91 ≤ A.1) (hR : RO R (d + 1)) (hcs : A.2.2.1 ≤ R.cells ∧ A.2.2.2 ≤ R.slots) (hM : ¬ s0 = 0 → Mk X d m_X12_clearLetters [.ref 68] h A.1 A.2.1 (RV P36)) (q : ¬ s0 = 0 → ∀ (g : AH), P36 g → V X m_X12_givesTo R Z A 39 [some (.ref 68), some (.int x1), some (.int x2), some (.int x3), some (.int x4), some (.int x5), some (.int x6), none] [] g) (q_1 : s0 = 0 → V X m_X12_givesTo R Z A 9 [some (.ref 68), some (.int x1), some (.int x2), some (.int x3), some (.int x4), some (.int x5), some (.int (x6 + 1)), none] [] h) : V X m_X12_givesTo R Z A 29 [some (.ref 68), some (.int x1), some (.int x2), some (.int x3), some (.int x4), some (.int x5), some (.int x6), none] [.int s0] h := by
  refine v_if_ne (tgt := 35) dX12_givesTo_29 (by decide) (fun c0 => ?_) (fun c0 => ?_)
  · refine v_aload_n dX12_givesTo_35 rfl ?_
    exact v_cVV (mt := m_X12_givesTo) mo_X12_clearLetters ml_RX12_371 mi_X12_clearLetters mv_X12_clearLetters rfl kd_68 cl_12 rfl (ltA hA0 rfl) hR hcs (Nat.le_of_ble_eq_true rfl) dX12_givesTo_36 rfl (hM c0) (fun g hp => ((q c0) g hp))
  · refine v_goto (tgt := 179) dX12_givesTo_32 (by decide) ?_
    refine v_iinc (y := (x6 + 1)) dX12_givesTo_179 rfl rfl (by decide) (L' := [some (.ref 68), some (.int x1), some (.int x2), some (.int x3), some (.int x4), some (.int x5), some (.int (x6 + 1)), none]) rfl ?_
    refine v_goto (tgt := 9) dX12_givesTo_182 (by decide) ?_
    exact (q_1 c0)
theorem c_X12_givesTo_39 {X : CX} {R : Room} {Z : ZX} {A : AX} {h : AH} {x1 x2 x3 x4 x5 x6 : Int32} {d : Nat} {P71 P71_1 : Int32 → AH → Prop} (hA0 : 91 ≤ A.1) (hF : Fx h) (hR : RO R (d + 1)) (hcs : A.2.2.1 ≤ R.cells ∧ A.2.2.2 ≤ R.slots) (hi_69 : ¬ x6 = x3 → vp_in x6 20) (hM : ¬ x6 = x3 → Mk X d m_X12_has [.int (h.1 73 x6.toNatClampNeg), .int x3] (setI h 72 116 0) A.1 A.2.1 (RI P71)) (q : ¬ x6 = x3 → ∀ (y : Int32) (g : AH), P71 y g → V X m_X12_givesTo R Z A 74 [some (.ref 68), some (.int x1), some (.int x2), some (.int x3), some (.int x4), some (.int x5), some (.int x6), none] [.int y, .int 102, .ref 72] g) (hi_69_1 : x6 = x3 → vp_in x6 20) (hM_1 : x6 = x3 → Mk X d m_X12_has [.int (h.1 73 x6.toNatClampNeg), .int x3] (setI h 72 116 1) A.1 A.2.1 (RI P71_1)) (q_1 : x6 = x3 → ∀ (y : Int32) (g : AH), P71_1 y g → V X m_X12_givesTo R Z A 74 [some (.ref 68), some (.int x1), some (.int x2), some (.int x3), some (.int x4), some (.int x5), some (.int x6), none] [.int y, .int 102, .ref 72] g) : V X m_X12_givesTo R Z A 39 [some (.ref 68), some (.int x1), some (.int x2), some (.int x3), some (.int x4), some (.int x5), some (.int x6), none] [] h := by
  refine v_aload_n dX12_givesTo_39 rfl ?_
  refine v_getR dX12_givesTo_40 fl_RX12_20 kd_68 (ltA hA0 rfl) rfl (hF 68 5 72 rfl) ?_
  refine v_bipush dX12_givesTo_43 cb_116 ?_
  refine v_iload dX12_givesTo_45 rfl ?_
  refine v_iload_n dX12_givesTo_47 rfl ?_
  refine v_icmp_ne (tgt := 55) dX12_givesTo_48 (by decide) (fun c0 => ?_) (fun c0 => ?_)
  · refine v_iconst dX12_givesTo_55 ci_0 ?_
    refine v_iast dX12_givesTo_56 kd_72 (ltA hA0 rfl) (vp_lit (by decide)) ?_
    refine v_aload_n dX12_givesTo_57 rfl ?_
    refine v_getR dX12_givesTo_58 fl_RX12_20 kd_68 (ltA hA0 rfl) rfl (hF 68 5 72 rfl) ?_
    refine v_bipush dX12_givesTo_61 cb_102 ?_
    refine v_aload_n dX12_givesTo_63 rfl ?_
    refine v_getR dX12_givesTo_64 fl_RX12_37 kd_68 (ltA hA0 rfl) rfl (hF 68 19 73 rfl) ?_
    refine v_iload dX12_givesTo_67 rfl ?_
    refine v_iald dX12_givesTo_69 kd_73 (ltA hA0 rfl) (hi_69 c0) ?_
    refine v_iload_n dX12_givesTo_70 rfl ?_
    exact v_cSI (mt := m_X12_givesTo) mo_X12_has ml_RX12_220 mz_X12_has rfl hR hcs (Nat.le_of_ble_eq_true rfl) dX12_givesTo_71 rfl (hM c0) (fun y g hp => ((q c0) y g hp))
  · refine v_iconst dX12_givesTo_51 ci_1 ?_
    refine v_goto (tgt := 56) dX12_givesTo_52 (by decide) ?_
    refine v_iast dX12_givesTo_56 kd_72 (ltA hA0 rfl) (vp_lit (by decide)) ?_
    refine v_aload_n dX12_givesTo_57 rfl ?_
    refine v_getR dX12_givesTo_58 fl_RX12_20 kd_68 (ltA hA0 rfl) rfl (hF 68 5 72 rfl) ?_
    refine v_bipush dX12_givesTo_61 cb_102 ?_
    refine v_aload_n dX12_givesTo_63 rfl ?_
    refine v_getR dX12_givesTo_64 fl_RX12_37 kd_68 (ltA hA0 rfl) rfl (hF 68 19 73 rfl) ?_
    refine v_iload dX12_givesTo_67 rfl ?_
    refine v_iald dX12_givesTo_69 kd_73 (ltA hA0 rfl) (hi_69_1 c0) ?_
    refine v_iload_n dX12_givesTo_70 rfl ?_
    exact v_cSI (mt := m_X12_givesTo) mo_X12_has ml_RX12_220 mz_X12_has rfl hR hcs (Nat.le_of_ble_eq_true rfl) dX12_givesTo_71 rfl (hM_1 c0) (fun y g hp => ((q_1 c0) y g hp))
theorem c_X12_givesTo_74 {X : CX} {R : Room} {Z : ZX} {A : AX} {h : AH} {x1 x2 x3 x4 x5 x6 s1 s2 : Int32} {d : Nat} {P92 P92_1 : Int32 → AH → Prop} (hA0 : 91 ≤ A.1) (hF : Fx h) (hR : RO R (d + 1)) (hcs : A.2.2.1 ≤ R.cells ∧ A.2.2.2 ≤ R.slots) (hi_82 : s2 = 0 → vp_in s1 128) (hM : s2 = 0 → Mk X d m_X12_many [.ref 68, .int x6] (setI h 72 s1.toNatClampNeg 0) A.1 A.2.1 (RI P92)) (q : s2 = 0 → ∀ (y : Int32) (g : AH), P92 y g → V X m_X12_givesTo R Z A 95 [some (.ref 68), some (.int x1), some (.int x2), some (.int x3), some (.int x4), some (.int x5), some (.int x6), none] [.int y, .int 107, .ref 72] g) (hi_82_1 : ¬ s2 = 0 → vp_in s1 128) (hM_1 : ¬ s2 = 0 → Mk X d m_X12_many [.ref 68, .int x6] (setI h 72 s1.toNatClampNeg 1) A.1 A.2.1 (RI P92_1)) (q_1 : ¬ s2 = 0 → ∀ (y : Int32) (g : AH), P92_1 y g → V X m_X12_givesTo R Z A 95 [some (.ref 68), some (.int x1), some (.int x2), some (.int x3), some (.int x4), some (.int x5), some (.int x6), none] [.int y, .int 107, .ref 72] g) : V X m_X12_givesTo R Z A 74 [some (.ref 68), some (.int x1), some (.int x2), some (.int x3), some (.int x4), some (.int x5), some (.int x6), none] [.int s2, .int s1, .ref 72] h := by
  refine v_if_eq (tgt := 81) dX12_givesTo_74 (by decide) (fun c0 => ?_) (fun c0 => ?_)
  · refine v_iconst dX12_givesTo_81 ci_0 ?_
    refine v_iast dX12_givesTo_82 kd_72 (ltA hA0 rfl) (hi_82 c0) ?_
    refine v_aload_n dX12_givesTo_83 rfl ?_
    refine v_getR dX12_givesTo_84 fl_RX12_20 kd_68 (ltA hA0 rfl) rfl (hF 68 5 72 rfl) ?_
    refine v_bipush dX12_givesTo_87 cb_107 ?_
    refine v_aload_n dX12_givesTo_89 rfl ?_
    refine v_iload dX12_givesTo_90 rfl ?_
    exact v_cVI (mt := m_X12_givesTo) mo_X12_many ml_RX12_253 mi_X12_many mv_X12_many rfl kd_68 cl_12 rfl (ltA hA0 rfl) hR hcs (Nat.le_of_ble_eq_true rfl) dX12_givesTo_92 rfl (hM c0) (fun y g hp => ((q c0) y g hp))
  · refine v_iconst dX12_givesTo_77 ci_1 ?_
    refine v_goto (tgt := 82) dX12_givesTo_78 (by decide) ?_
    refine v_iast dX12_givesTo_82 kd_72 (ltA hA0 rfl) (hi_82_1 c0) ?_
    refine v_aload_n dX12_givesTo_83 rfl ?_
    refine v_getR dX12_givesTo_84 fl_RX12_20 kd_68 (ltA hA0 rfl) rfl (hF 68 5 72 rfl) ?_
    refine v_bipush dX12_givesTo_87 cb_107 ?_
    refine v_aload_n dX12_givesTo_89 rfl ?_
    refine v_iload dX12_givesTo_90 rfl ?_
    exact v_cVI (mt := m_X12_givesTo) mo_X12_many ml_RX12_253 mi_X12_many mv_X12_many rfl kd_68 cl_12 rfl (ltA hA0 rfl) hR hcs (Nat.le_of_ble_eq_true rfl) dX12_givesTo_92 rfl (hM_1 c0) (fun y g hp => ((q_1 c0) y g hp))
theorem c_X12_givesTo_95 {X : CX} {R : Room} {Z : ZX} {A : AX} {h : AH} {x1 x2 x3 x4 x5 x6 s1 s2 : Int32} {d : Nat} {P116 : Int32 → AH → Prop} (hA0 : 91 ≤ A.1) (hF : Fx h) (hR : RO R (d + 1)) (hcs : A.2.2.1 ≤ R.cells ∧ A.2.2.2 ≤ R.slots) (hi_95 : vp_in s1 128) (hi_108 : vp_in x6 20) (hi_114 : vp_in x2 20) (hM : Mk X d m_J6_bitCount_0f7a4 [.int ((h.1 73 x6.toNatClampNeg) &&& (h.1 73 x2.toNatClampNeg))] (setI h 72 s1.toNatClampNeg s2) A.1 A.2.1 (RI P116)) (q : ∀ (y : Int32) (g : AH), P116 y g → V X m_X12_givesTo R Z A 119 [some (.ref 68), some (.int x1), some (.int x2), some (.int x3), some (.int x4), some (.int x5), some (.int x6), none] [.int y, .int 99, .ref 72] g) : V X m_X12_givesTo R Z A 95 [some (.ref 68), some (.int x1), some (.int x2), some (.int x3), some (.int x4), some (.int x5), some (.int x6), none] [.int s2, .int s1, .ref 72] h := by
  refine v_iast dX12_givesTo_95 kd_72 (ltA hA0 rfl) hi_95 ?_
  refine v_aload_n dX12_givesTo_96 rfl ?_
  refine v_getR dX12_givesTo_97 fl_RX12_20 kd_68 (ltA hA0 rfl) rfl (hF 68 5 72 rfl) ?_
  refine v_bipush dX12_givesTo_100 cb_99 ?_
  refine v_aload_n dX12_givesTo_102 rfl ?_
  refine v_getR dX12_givesTo_103 fl_RX12_37 kd_68 (ltA hA0 rfl) rfl (hF 68 19 73 rfl) ?_
  refine v_iload dX12_givesTo_106 rfl ?_
  refine v_iald dX12_givesTo_108 kd_73 (ltA hA0 rfl) hi_108 ?_
  refine v_aload_n dX12_givesTo_109 rfl ?_
  refine v_getR dX12_givesTo_110 fl_RX12_37 kd_68 (ltA hA0 rfl) rfl (hF 68 19 73 rfl) ?_
  refine v_iload_n dX12_givesTo_113 rfl ?_
  refine v_iald dX12_givesTo_114 kd_73 (ltA hA0 rfl) hi_114 ?_
  refine v_iand dX12_givesTo_115 ?_
  exact v_cSI (mt := m_X12_givesTo) mo_J6_bitCount_0f7a4 ml_RX12_224 mz_J6_bitCount_0f7a4 rfl hR hcs (Nat.le_of_ble_eq_true rfl) dX12_givesTo_116 rfl hM (fun y g hp => (q y g hp))
theorem c_X12_givesTo_119 {X : CX} {R : Room} {Z : ZX} {A : AX} {h : AH} {x1 x2 x3 x4 x5 x6 s1 s2 : Int32} {d : Nat} {P150 : Int32 → AH → Prop} (hA0 : 91 ≤ A.1) (hF : Fx h) (hR : RO R (d + 1)) (hcs : A.2.2.1 ≤ R.cells ∧ A.2.2.2 ≤ R.slots) (hi_119 : vp_in s1 128) (hi_132 : vp_in x6 20) (hM : Mk X d m_X12_worthBy [.ref 68, .int x1] (setI (setI (setI h 72 s1.toNatClampNeg s2) 72 98 (h.1 85 x6.toNatClampNeg)) 72 97 (if 0 ≤ (x6 - x3) then (x6 - x3) else 0 - (x6 - x3))) A.1 A.2.1 (RI P150)) (q : ∀ (y : Int32) (g : AH), P150 y g → V X m_X12_givesTo R Z A 153 [some (.ref 68), some (.int x1), some (.int x2), some (.int x3), some (.int x4), some (.int x5), some (.int x6), none] [.int y] g) : V X m_X12_givesTo R Z A 119 [some (.ref 68), some (.int x1), some (.int x2), some (.int x3), some (.int x4), some (.int x5), some (.int x6), none] [.int s2, .int s1, .ref 72] h := by
  refine v_iast dX12_givesTo_119 kd_72 (ltA hA0 rfl) hi_119 ?_
  refine v_aload_n dX12_givesTo_120 rfl ?_
  refine v_getR dX12_givesTo_121 fl_RX12_20 kd_68 (ltA hA0 rfl) rfl (hF 68 5 72 rfl) ?_
  refine v_bipush dX12_givesTo_124 cb_98 ?_
  refine v_aload_n dX12_givesTo_126 rfl ?_
  refine v_getR dX12_givesTo_127 fl_RX12_75 kd_68 (ltA hA0 rfl) rfl (hF 68 39 85 rfl) ?_
  refine v_iload dX12_givesTo_130 rfl ?_
  refine v_iald dX12_givesTo_132 kd_85 (ltA hA0 rfl) hi_132 ?_
  refine v_iast dX12_givesTo_133 kd_72 (ltA hA0 rfl) (vp_lit (by decide)) ?_
  refine v_aload_n dX12_givesTo_134 rfl ?_
  refine v_getR dX12_givesTo_135 fl_RX12_20 kd_68 (ltA hA0 rfl) rfl (hF 68 5 72 rfl) ?_
  refine v_bipush dX12_givesTo_138 cb_97 ?_
  refine v_iload dX12_givesTo_140 rfl ?_
  refine v_iload_n dX12_givesTo_142 rfl ?_
  refine v_isub dX12_givesTo_143 ?_
  refine v_mabs dX12_givesTo_144 ml_RX12_374 mz_mabs in_math mc_mabs (RO_1 hR) hcs (Nat.le_of_ble_eq_true rfl) ?_
  refine v_iast dX12_givesTo_147 kd_72 (ltA hA0 rfl) (vp_lit (by decide)) ?_
  refine v_aload_n dX12_givesTo_148 rfl ?_
  refine v_iload_n dX12_givesTo_149 rfl ?_
  exact v_cVI (mt := m_X12_givesTo) mo_X12_worthBy ml_RX12_377 mi_X12_worthBy mv_X12_worthBy rfl kd_68 cl_12 rfl (ltA hA0 rfl) hR hcs (Nat.le_of_ble_eq_true rfl) dX12_givesTo_150 rfl hM (fun y g hp => (q y g hp))
theorem c_X12_givesTo_153 {X : CX} {R : Room} {Z : ZX} {A : AX} {h : AH} {x1 x2 x3 x4 x5 x6 s0 : Int32} (q : x4 = (-1) → V X m_X12_givesTo R Z A 9 [some (.ref 68), some (.int x1), some (.int x2), some (.int x3), some (.int x6), some (.int s0), some (.int (x6 + 1)), none] [] h) (q_1 : ¬ x4 = (-1) → x5 < s0 → V X m_X12_givesTo R Z A 9 [some (.ref 68), some (.int x1), some (.int x2), some (.int x3), some (.int x6), some (.int s0), some (.int (x6 + 1)), none] [] h) (q_2 : ¬ x4 = (-1) → ¬ x5 < s0 → V X m_X12_givesTo R Z A 9 [some (.ref 68), some (.int x1), some (.int x2), some (.int x3), some (.int x4), some (.int x5), some (.int (x6 + 1)), none] [] h) : V X m_X12_givesTo R Z A 153 [some (.ref 68), some (.int x1), some (.int x2), some (.int x3), some (.int x4), some (.int x5), some (.int x6), none] [.int s0] h := by
  refine v_istore dX12_givesTo_153 (by decide) (L' := [some (.ref 68), some (.int x1), some (.int x2), some (.int x3), some (.int x4), some (.int x5), some (.int x6), some (.int s0)]) rfl ?_
  refine v_iload dX12_givesTo_155 rfl ?_
  refine v_iconst dX12_givesTo_157 ci_m1 ?_
  refine v_icmp_eq (tgt := 171) dX12_givesTo_158 (by decide) (fun c0 => ?_) (fun c0 => ?_)
  · refine v_iload dX12_givesTo_171 rfl ?_
    refine v_istore dX12_givesTo_173 (by decide) (L' := [some (.ref 68), some (.int x1), some (.int x2), some (.int x3), some (.int x6), some (.int x5), some (.int x6), some (.int s0)]) rfl ?_
    refine v_iload dX12_givesTo_175 rfl ?_
    refine v_istore dX12_givesTo_177 (by decide) (L' := [some (.ref 68), some (.int x1), some (.int x2), some (.int x3), some (.int x6), some (.int s0), some (.int x6), some (.int s0)]) rfl ?_
    refine v_iinc (y := (x6 + 1)) dX12_givesTo_179 rfl rfl (by decide) (L' := [some (.ref 68), some (.int x1), some (.int x2), some (.int x3), some (.int x6), some (.int s0), some (.int (x6 + 1)), some (.int s0)]) rfl ?_
    refine v_goto (tgt := 9) dX12_givesTo_182 (by decide) ?_
    exact (v_drop (lvLe_s (lvLe_s (lvLe_s (lvLe_s (lvLe_s (lvLe_s (lvLe_s (lvLe_n lvLe_e)))))))) (q c0))
  · refine v_iload dX12_givesTo_161 rfl ?_
    refine v_iload dX12_givesTo_163 rfl ?_
    refine v_icmp_gt (tgt := 171) dX12_givesTo_165 (by decide) (fun c1 => ?_) (fun c1 => ?_)
    · refine v_iload dX12_givesTo_171 rfl ?_
      refine v_istore dX12_givesTo_173 (by decide) (L' := [some (.ref 68), some (.int x1), some (.int x2), some (.int x3), some (.int x6), some (.int x5), some (.int x6), some (.int s0)]) rfl ?_
      refine v_iload dX12_givesTo_175 rfl ?_
      refine v_istore dX12_givesTo_177 (by decide) (L' := [some (.ref 68), some (.int x1), some (.int x2), some (.int x3), some (.int x6), some (.int s0), some (.int x6), some (.int s0)]) rfl ?_
      refine v_iinc (y := (x6 + 1)) dX12_givesTo_179 rfl rfl (by decide) (L' := [some (.ref 68), some (.int x1), some (.int x2), some (.int x3), some (.int x6), some (.int s0), some (.int (x6 + 1)), some (.int s0)]) rfl ?_
      refine v_goto (tgt := 9) dX12_givesTo_182 (by decide) ?_
      exact (v_drop (lvLe_s (lvLe_s (lvLe_s (lvLe_s (lvLe_s (lvLe_s (lvLe_s (lvLe_n lvLe_e)))))))) (q_1 c0 c1))
    · refine v_goto (tgt := 179) dX12_givesTo_168 (by decide) ?_
      refine v_iinc (y := (x6 + 1)) dX12_givesTo_179 rfl rfl (by decide) (L' := [some (.ref 68), some (.int x1), some (.int x2), some (.int x3), some (.int x4), some (.int x5), some (.int (x6 + 1)), some (.int s0)]) rfl ?_
      refine v_goto (tgt := 9) dX12_givesTo_182 (by decide) ?_
      exact (v_drop (lvLe_s (lvLe_s (lvLe_s (lvLe_s (lvLe_s (lvLe_s (lvLe_s (lvLe_n lvLe_e)))))))) (q_2 c0 c1))
theorem e_X12_goes {X : CX} {d nx sz : Nat} {Q : Option Value → AH → Prop} {h : AH} {x1 x2 x3 : Int32} (q : V X m_X12_goes (rm d 0 0) (ZM X Q nx sz 0 0) (nx, sz, 0, 0) 0 [some (.ref 68), some (.int x1), some (.int x2), some (.int x3), none] [] h) : Mk X d m_X12_goes [.ref 68, .int x1, .int x2, .int x3] h nx sz Q := by
  refine Mok.ofV mo_X12_goes (Nat.le_of_ble_eq_true rfl) (L := [some (.ref 68), some (.int x1), some (.int x2), some (.int x3)]) (lvLe_s (lvLe_s (lvLe_s (lvLe_s lvLe_e)))) (v_grow (n := 1) ?_)
  exact q
theorem c_X12_goes_0 {X : CX} {R : Room} {Z : ZX} {A : AX} {h : AH} {x1 x2 x3 : Int32} (q : V X m_X12_goes R Z A 3 [some (.ref 68), some (.int x1), some (.int x2), some (.int x3), some (.int 0)] [] h) : V X m_X12_goes R Z A 0 [some (.ref 68), some (.int x1), some (.int x2), some (.int x3), none] [] h := by
  refine v_iconst dX12_goes_0 ci_0 ?_
  refine v_istore dX12_goes_1 (by decide) (L' := [some (.ref 68), some (.int x1), some (.int x2), some (.int x3), some (.int 0)]) rfl ?_
  exact q
theorem c_X12_goes_3 {X : CX} {R : Room} {Z : ZX} {A : AX} {h : AH} {x1 x2 x3 x4 : Int32} (hA0 : 91 ≤ A.1) (hF : Fx h) (hi_44 : (h.1 68 1) ≤ x4 → vp_in x2 20) (q : (h.1 68 1) ≤ x4 → V X m_X12_goes R Z A 45 [some (.ref 68), some (.int x1), none, some (.int x3), none] [] (setI (setI (setI h 68 41 0) 86 0 x2) 85 x2.toNatClampNeg 1)) (hi_19 : ¬ (h.1 68 1) ≤ x4 → vp_in x4 20) (q_1 : ¬ (h.1 68 1) ≤ x4 → V X m_X12_goes R Z A 3 [some (.ref 68), some (.int x1), some (.int x2), some (.int x3), some (.int (x4 + 1))] [] (setI h 85 x4.toNatClampNeg 0)) : V X m_X12_goes R Z A 3 [some (.ref 68), some (.int x1), some (.int x2), some (.int x3), some (.int x4)] [] h := by
  refine v_iload dX12_goes_3 rfl ?_
  refine v_aload_n dX12_goes_5 rfl ?_
  refine v_getI dX12_goes_6 fl_RX12_99 kd_68 (ltA hA0 rfl) rfl ?_
  refine v_icmp_ge (tgt := 26) dX12_goes_9 (by decide) (fun c0 => ?_) (fun c0 => ?_)
  · refine v_aload_n dX12_goes_26 rfl ?_
    refine v_iconst dX12_goes_27 ci_0 ?_
    refine v_putI rfl rfl rfl dX12_goes_28 fl_RX12_380 (Or.inl rfl) kd_68 (ltA hA0 rfl) ?_
    refine v_aload_n dX12_goes_31 rfl ?_
    refine v_getR dX12_goes_32 fl_RX12_78 kd_68 (ltA hA0 rfl) rfl (hF 68 40 86 rfl) ?_
    refine v_iconst dX12_goes_35 ci_0 ?_
    refine v_iload_n dX12_goes_36 rfl ?_
    refine v_iast dX12_goes_37 kd_86 (ltA hA0 rfl) (vp_lit (by decide)) ?_
    refine v_aload_n dX12_goes_38 rfl ?_
    refine v_getR dX12_goes_39 fl_RX12_75 kd_68 (ltA hA0 rfl) rfl (hF 68 39 85 rfl) ?_
    refine v_iload_n dX12_goes_42 rfl ?_
    refine v_iconst dX12_goes_43 ci_1 ?_
    refine v_iast dX12_goes_44 kd_85 (ltA hA0 rfl) (hi_44 c0) ?_
    exact (v_drop (lvLe_s (lvLe_s (lvLe_n (lvLe_s (lvLe_n lvLe_e))))) (q c0))
  · refine v_aload_n dX12_goes_12 rfl ?_
    refine v_getR dX12_goes_13 fl_RX12_75 kd_68 (ltA hA0 rfl) rfl (hF 68 39 85 rfl) ?_
    refine v_iload dX12_goes_16 rfl ?_
    refine v_iconst dX12_goes_18 ci_0 ?_
    refine v_iast dX12_goes_19 kd_85 (ltA hA0 rfl) (hi_19 c0) ?_
    refine v_iinc (y := (x4 + 1)) dX12_goes_20 rfl rfl (by decide) (L' := [some (.ref 68), some (.int x1), some (.int x2), some (.int x3), some (.int (x4 + 1))]) rfl ?_
    refine v_goto (tgt := 3) dX12_goes_23 (by decide) ?_
    exact (q_1 c0)
theorem c_X12_goes_45 {X : CX} {R : Room} {Q : Option Value → AH → Prop} {nx sz mc ms : Nat} {h : AH} {x1 x3 : Int32} {d : Nat} {P79 : Int32 → AH → Prop} (hA0 : 91 ≤ nx) (hF : Fx h) (hR : RO R (d + 1)) (hcs : mc ≤ R.cells ∧ ms ≤ R.slots) (hi_53 : vp_in (h.1 68 41) 61) (hi_135 : (h.1 86 (h.1 68 41).toNatClampNeg) = x3 → vp_in (h.1 68 41) 61) (hq : (h.1 86 (h.1 68 41).toNatClampNeg) = x3 → ¬ (h.1 86 (h.1 68 41).toNatClampNeg) = x3 → Q (some (.int 0)) h) (hq_1 : (h.1 86 (h.1 68 41).toNatClampNeg) = x3 → (h.1 86 (h.1 68 41).toNatClampNeg) = x3 → Q (some (.int 1)) h) (hi_135_1 : ¬ (h.1 86 (h.1 68 41).toNatClampNeg) = x3 → 60 ≤ (h.1 68 41) → vp_in (h.1 68 41) 61) (hq_2 : ¬ (h.1 86 (h.1 68 41).toNatClampNeg) = x3 → 60 ≤ (h.1 68 41) → ¬ (h.1 86 (h.1 68 41).toNatClampNeg) = x3 → Q (some (.int 0)) h) (hq_3 : ¬ (h.1 86 (h.1 68 41).toNatClampNeg) = x3 → 60 ≤ (h.1 68 41) → (h.1 86 (h.1 68 41).toNatClampNeg) = x3 → Q (some (.int 1)) h) (hi_77 : ¬ (h.1 86 (h.1 68 41).toNatClampNeg) = x3 → ¬ 60 ≤ (h.1 68 41) → vp_in (h.1 68 41) 61) (hM : ¬ (h.1 86 (h.1 68 41).toNatClampNeg) = x3 → ¬ 60 ≤ (h.1 68 41) → Mk X d m_X12_givesTo [.ref 68, .int x1, .int (h.1 86 (h.1 68 41).toNatClampNeg), .int x3] h nx sz (RI P79)) (q : ¬ (h.1 86 (h.1 68 41).toNatClampNeg) = x3 → ¬ 60 ≤ (h.1 68 41) → ∀ (y : Int32) (g : AH), P79 y g → V X m_X12_goes R (ZM X Q nx sz mc ms) (nx, sz, mc, ms) 82 [some (.ref 68), some (.int x1), none, some (.int x3), none] [.int y] g) : V X m_X12_goes R (ZM X Q nx sz mc ms) (nx, sz, mc, ms) 45 [some (.ref 68), some (.int x1), none, some (.int x3), none] [] h := by
  refine v_aload_n dX12_goes_45 rfl ?_
  refine v_getR dX12_goes_46 fl_RX12_78 kd_68 (ltA hA0 rfl) rfl (hF 68 40 86 rfl) ?_
  refine v_aload_n dX12_goes_49 rfl ?_
  refine v_getI dX12_goes_50 fl_RX12_380 kd_68 (ltA hA0 rfl) rfl ?_
  refine v_iald dX12_goes_53 kd_86 (ltA hA0 rfl) hi_53 ?_
  refine v_iload_n dX12_goes_54 rfl ?_
  refine v_icmp_eq (tgt := 127) dX12_goes_55 (by decide) (fun c0 => ?_) (fun c0 => ?_)
  · refine v_aload_n dX12_goes_127 rfl ?_
    refine v_getR dX12_goes_128 fl_RX12_78 kd_68 (ltA hA0 rfl) rfl (hF 68 40 86 rfl) ?_
    refine v_aload_n dX12_goes_131 rfl ?_
    refine v_getI dX12_goes_132 fl_RX12_380 kd_68 (ltA hA0 rfl) rfl ?_
    refine v_iald dX12_goes_135 kd_86 (ltA hA0 rfl) (hi_135 c0) ?_
    refine v_iload_n dX12_goes_136 rfl ?_
    refine v_icmp_ne (tgt := 144) dX12_goes_137 (by decide) (fun c1 => ?_) (fun c1 => ?_)
    · refine v_iconst dX12_goes_144 ci_0 ?_
      exact v_zret (ty := .boolean) dX12_goes_145 rfl rfl (hq c0 c1)
    · refine v_iconst dX12_goes_140 ci_1 ?_
      refine v_goto (tgt := 145) dX12_goes_141 (by decide) ?_
      exact v_zret (ty := .boolean) dX12_goes_145 rfl rfl (hq_1 c0 c1)
  · refine v_aload_n dX12_goes_58 rfl ?_
    refine v_getI dX12_goes_59 fl_RX12_380 kd_68 (ltA hA0 rfl) rfl ?_
    refine v_bipush dX12_goes_62 cb_60 ?_
    refine v_icmp_ge (tgt := 127) dX12_goes_64 (by decide) (fun c1 => ?_) (fun c1 => ?_)
    · refine v_aload_n dX12_goes_127 rfl ?_
      refine v_getR dX12_goes_128 fl_RX12_78 kd_68 (ltA hA0 rfl) rfl (hF 68 40 86 rfl) ?_
      refine v_aload_n dX12_goes_131 rfl ?_
      refine v_getI dX12_goes_132 fl_RX12_380 kd_68 (ltA hA0 rfl) rfl ?_
      refine v_iald dX12_goes_135 kd_86 (ltA hA0 rfl) (hi_135_1 c0 c1) ?_
      refine v_iload_n dX12_goes_136 rfl ?_
      refine v_icmp_ne (tgt := 144) dX12_goes_137 (by decide) (fun c2 => ?_) (fun c2 => ?_)
      · refine v_iconst dX12_goes_144 ci_0 ?_
        exact v_zret (ty := .boolean) dX12_goes_145 rfl rfl (hq_2 c0 c1 c2)
      · refine v_iconst dX12_goes_140 ci_1 ?_
        refine v_goto (tgt := 145) dX12_goes_141 (by decide) ?_
        exact v_zret (ty := .boolean) dX12_goes_145 rfl rfl (hq_3 c0 c1 c2)
    · refine v_aload_n dX12_goes_67 rfl ?_
      refine v_iload_n dX12_goes_68 rfl ?_
      refine v_aload_n dX12_goes_69 rfl ?_
      refine v_getR dX12_goes_70 fl_RX12_78 kd_68 (ltA hA0 rfl) rfl (hF 68 40 86 rfl) ?_
      refine v_aload_n dX12_goes_73 rfl ?_
      refine v_getI dX12_goes_74 fl_RX12_380 kd_68 (ltA hA0 rfl) rfl ?_
      refine v_iald dX12_goes_77 kd_86 (ltA hA0 rfl) (hi_77 c0 c1) ?_
      refine v_iload_n dX12_goes_78 rfl ?_
      exact v_cVI (mt := m_X12_goes) mo_X12_givesTo ml_RX12_383 mi_X12_givesTo mv_X12_givesTo rfl kd_68 cl_12 rfl (ltA hA0 rfl) hR hcs (Nat.le_of_ble_eq_true rfl) dX12_goes_79 rfl (hM c0 c1) (fun y g hp => ((q c0 c1) y g hp))
theorem c_X12_goes_82 {X : CX} {R : Room} {Q : Option Value → AH → Prop} {nx sz mc ms : Nat} {h : AH} {x1 x3 s0 : Int32} (hA0 : 91 ≤ nx) (hF : Fx h) (hi_112 : ¬ s0 = (-1) → vp_in ((h.1 68 41) + 1) 61) (hi_120 : ¬ s0 = (-1) → vp_in s0 20) (hi_123 : ¬ s0 = (-1) → vp_in s0 20) (q : ¬ s0 = (-1) → V X m_X12_goes R (ZM X Q nx sz mc ms) (nx, sz, mc, ms) 45 [some (.ref 68), some (.int x1), none, some (.int x3), none] [] (setI (setI (setI h 68 41 ((h.1 68 41) + 1)) 86 ((h.1 68 41) + 1).toNatClampNeg s0) 85 s0.toNatClampNeg ((h.1 85 s0.toNatClampNeg) + 1))) (hq : s0 = (-1) → Q (some (.int 0)) h) : V X m_X12_goes R (ZM X Q nx sz mc ms) (nx, sz, mc, ms) 82 [some (.ref 68), some (.int x1), none, some (.int x3), none] [.int s0] h := by
  refine v_istore dX12_goes_82 (by decide) (L' := [some (.ref 68), some (.int x1), none, some (.int x3), some (.int s0)]) rfl ?_
  refine v_iload dX12_goes_84 rfl ?_
  refine v_iconst dX12_goes_86 ci_m1 ?_
  refine v_icmp_ne (tgt := 92) dX12_goes_87 (by decide) (fun c0 => ?_) (fun c0 => ?_)
  · refine v_aload_n dX12_goes_92 rfl ?_
    refine v_dup dX12_goes_93 rfl ?_
    refine v_getI dX12_goes_94 fl_RX12_380 kd_68 (ltA hA0 rfl) rfl ?_
    refine v_iconst dX12_goes_97 ci_1 ?_
    refine v_iadd dX12_goes_98 ?_
    refine v_putI rfl rfl rfl dX12_goes_99 fl_RX12_380 (Or.inl rfl) kd_68 (ltA hA0 rfl) ?_
    refine v_aload_n dX12_goes_102 rfl ?_
    refine v_getR dX12_goes_103 fl_RX12_78 kd_68 (ltA hA0 rfl) rfl (hF 68 40 86 rfl) ?_
    refine v_aload_n dX12_goes_106 rfl ?_
    refine v_getI dX12_goes_107 fl_RX12_380 kd_68 (ltA hA0 rfl) rfl ?_
    refine v_iload dX12_goes_110 rfl ?_
    refine v_iast dX12_goes_112 kd_86 (ltA hA0 rfl) (hi_112 c0) ?_
    refine v_aload_n dX12_goes_113 rfl ?_
    refine v_getR dX12_goes_114 fl_RX12_75 kd_68 (ltA hA0 rfl) rfl (hF 68 39 85 rfl) ?_
    refine v_iload dX12_goes_117 rfl ?_
    refine v_dup2 dX12_goes_119 rfl rfl ?_
    refine v_iald dX12_goes_120 kd_85 (ltA hA0 rfl) (hi_120 c0) ?_
    refine v_iconst dX12_goes_121 ci_1 ?_
    refine v_iadd dX12_goes_122 ?_
    refine v_iast dX12_goes_123 kd_85 (ltA hA0 rfl) (hi_123 c0) ?_
    refine v_goto (tgt := 45) dX12_goes_124 (by decide) ?_
    exact (v_drop (lvLe_s (lvLe_s (lvLe_n (lvLe_s (lvLe_n lvLe_e))))) (q c0))
  · refine v_iconst dX12_goes_90 ci_0 ?_
    exact v_zret (ty := .boolean) dX12_goes_91 rfl rfl (hq c0)
theorem e_X12_send {X : CX} {d nx sz : Nat} {Q : Option Value → AH → Prop} {h : AH} {x1 x2 x3 x4 : Int32} (q : V X m_X12_send (rm d 0 0) (ZM X Q nx sz 0 0) (nx, sz, 0, 0) 0 [some (.ref 68), some (.int x1), some (.int x2), some (.int x3), some (.int x4), none] [] h) : Mk X d m_X12_send [.ref 68, .int x1, .int x2, .int x3, .int x4] h nx sz Q := by
  refine Mok.ofV mo_X12_send (Nat.le_of_ble_eq_true rfl) (L := [some (.ref 68), some (.int x1), some (.int x2), some (.int x3), some (.int x4)]) (lvLe_s (lvLe_s (lvLe_s (lvLe_s (lvLe_s lvLe_e))))) (v_grow (n := 1) ?_)
  exact q
theorem c_X12_send_0 {X : CX} {R : Room} {Z : ZX} {A : AX} {h : AH} {x1 x2 x3 x4 : Int32} {d : Nat} {P7 : Int32 → AH → Prop} (hA0 : 91 ≤ A.1) (hR : RO R (d + 1)) (hcs : A.2.2.1 ≤ R.cells ∧ A.2.2.2 ≤ R.slots) (hM : Mk X d m_X12_isRule [.ref 68, .int x1] (setI h 68 0 0) A.1 A.2.1 (RI P7)) (q : ∀ (y : Int32) (g : AH), P7 y g → V X m_X12_send R Z A 10 [some (.ref 68), some (.int x1), some (.int x2), some (.int x3), some (.int x4), none] [.int y] g) : V X m_X12_send R Z A 0 [some (.ref 68), some (.int x1), some (.int x2), some (.int x3), some (.int x4), none] [] h := by
  refine v_aload_n dX12_send_0 rfl ?_
  refine v_iconst dX12_send_1 ci_0 ?_
  refine v_putI rfl rfl rfl dX12_send_2 fl_RX12_103 (Or.inl rfl) kd_68 (ltA hA0 rfl) ?_
  refine v_aload_n dX12_send_5 rfl ?_
  refine v_iload_n dX12_send_6 rfl ?_
  exact v_cVI (mt := m_X12_send) mo_X12_isRule ml_RX12_386 mi_X12_isRule mv_X12_isRule rfl kd_68 cl_12 rfl (ltA hA0 rfl) hR hcs (Nat.le_of_ble_eq_true rfl) dX12_send_7 rfl hM (fun y g hp => (q y g hp))
theorem c_X12_send_10 {X : CX} {R : Room} {Q : Option Value → AH → Prop} {nx sz mc ms : Nat} {h : AH} {x1 x2 x3 x4 s0 : Int32} {d : Nat} {P16 : Int32 → AH → Prop} (hA0 : 91 ≤ nx) (hR : RO R (d + 1)) (hcs : mc ≤ R.cells ∧ ms ≤ R.slots) (hq : s0 = 0 → Q (some (.int (-1))) h) (hM : ¬ s0 = 0 → Mk X d m_X12_areTwo [.ref 68, .int x2, .int x3] h nx sz (RI P16)) (q : ¬ s0 = 0 → ∀ (y : Int32) (g : AH), P16 y g → V X m_X12_send R (ZM X Q nx sz mc ms) (nx, sz, mc, ms) 19 [some (.ref 68), some (.int x1), some (.int x2), some (.int x3), some (.int x4), none] [.int y] g) : V X m_X12_send R (ZM X Q nx sz mc ms) (nx, sz, mc, ms) 10 [some (.ref 68), some (.int x1), some (.int x2), some (.int x3), some (.int x4), none] [.int s0] h := by
  refine v_if_eq (tgt := 22) dX12_send_10 (by decide) (fun c0 => ?_) (fun c0 => ?_)
  · refine v_iconst dX12_send_22 ci_m1 ?_
    exact v_iret dX12_send_23 rfl (hq c0)
  · refine v_aload_n dX12_send_13 rfl ?_
    refine v_iload_n dX12_send_14 rfl ?_
    refine v_iload_n dX12_send_15 rfl ?_
    exact v_cVI (mt := m_X12_send) mo_X12_areTwo ml_RX12_256 mi_X12_areTwo mv_X12_areTwo rfl kd_68 cl_12 rfl (ltA hA0 rfl) hR hcs (Nat.le_of_ble_eq_true rfl) dX12_send_16 rfl (hM c0) (fun y g hp => ((q c0) y g hp))
theorem c_X12_send_19 {X : CX} {R : Room} {Q : Option Value → AH → Prop} {nx sz mc ms : Nat} {h : AH} {x1 x2 x3 x4 s0 : Int32} {d : Nat} {P28 : Int32 → AH → Prop} (hA0 : 91 ≤ nx) (hR : RO R (d + 1)) (hcs : mc ≤ R.cells ∧ ms ≤ R.slots) (hM : ¬ s0 = 0 → Mk X d m_X12_goes [.ref 68, .int x1, .int x2, .int x3] h nx sz (RI P28)) (q : ¬ s0 = 0 → ∀ (y : Int32) (g : AH), P28 y g → V X m_X12_send R (ZM X Q nx sz mc ms) (nx, sz, mc, ms) 31 [some (.ref 68), none, none, none, some (.int x4), none] [.int y] g) (hq : s0 = 0 → Q (some (.int (-1))) h) : V X m_X12_send R (ZM X Q nx sz mc ms) (nx, sz, mc, ms) 19 [some (.ref 68), some (.int x1), some (.int x2), some (.int x3), some (.int x4), none] [.int s0] h := by
  refine v_if_ne (tgt := 24) dX12_send_19 (by decide) (fun c0 => ?_) (fun c0 => ?_)
  · refine v_aload_n dX12_send_24 rfl ?_
    refine v_iload_n dX12_send_25 rfl ?_
    refine v_iload_n dX12_send_26 rfl ?_
    refine v_iload_n dX12_send_27 rfl ?_
    exact v_cVI (mt := m_X12_send) mo_X12_goes ml_RX12_389 mi_X12_goes mv_X12_goes rfl kd_68 cl_12 rfl (ltA hA0 rfl) hR hcs (Nat.le_of_ble_eq_true rfl) dX12_send_28 rfl (hM c0) (fun y g hp => (v_drop (lvLe_s (lvLe_n (lvLe_n (lvLe_n (lvLe_s (lvLe_n lvLe_e)))))) ((q c0) y g hp)))
  · refine v_iconst dX12_send_22 ci_m1 ?_
    exact v_iret dX12_send_23 rfl (hq c0)
theorem c_X12_send_31 {X : CX} {R : Room} {Q : Option Value → AH → Prop} {nx sz mc ms : Nat} {h : AH} {x4 s0 : Int32} {d : Nat} {P60 : Int32 → AH → Prop} (hA0 : 91 ≤ nx) (hR : RO R (d + 1)) (hcs : mc ≤ R.cells ∧ ms ≤ R.slots) (hM : ¬ x4 = (-1) → Mk X d m_X12_isIn [.int x4, .int 0, .int (h.1 68 41)] h nx sz (RI P60)) (q : ¬ x4 = (-1) → ∀ (y : Int32) (g : AH), P60 y g → V X m_X12_send R (ZM X Q nx sz mc ms) (nx, sz, mc, ms) 63 [some (.ref 68), none, none, none, some (.int x4), none] [.int y] g) (hq : x4 = (-1) → s0 = 0 → Q (some (.int (-1))) h) (hq_1 : x4 = (-1) → ¬ s0 = 0 → Q (some (.int (h.1 68 41))) h) : V X m_X12_send R (ZM X Q nx sz mc ms) (nx, sz, mc, ms) 31 [some (.ref 68), none, none, none, some (.int x4), none] [.int s0] h := by
  refine v_istore dX12_send_31 (by decide) (L' := [some (.ref 68), none, none, none, some (.int x4), some (.int s0)]) rfl ?_
  refine v_iload dX12_send_33 rfl ?_
  refine v_iconst dX12_send_35 ci_m1 ?_
  refine v_icmp_ne (tgt := 53) dX12_send_36 (by decide) (fun c0 => ?_) (fun c0 => ?_)
  · refine v_iload dX12_send_53 rfl ?_
    refine v_iconst dX12_send_55 ci_0 ?_
    refine v_aload_n dX12_send_56 rfl ?_
    refine v_getI dX12_send_57 fl_RX12_380 kd_68 (ltA hA0 rfl) rfl ?_
    exact v_cSI (mt := m_X12_send) mo_X12_isIn ml_RX12_232 mz_X12_isIn rfl hR hcs (Nat.le_of_ble_eq_true rfl) dX12_send_60 rfl (hM c0) (fun y g hp => (v_drop (lvLe_s (lvLe_n (lvLe_n (lvLe_n (lvLe_s (lvLe_n lvLe_e)))))) ((q c0) y g hp)))
  · refine v_iload dX12_send_39 rfl ?_
    refine v_if_eq (tgt := 51) dX12_send_41 (by decide) (fun c1 => ?_) (fun c1 => ?_)
    · refine v_iconst dX12_send_51 ci_m1 ?_
      exact v_iret dX12_send_52 rfl (hq c0 c1)
    · refine v_aload_n dX12_send_44 rfl ?_
      refine v_getI dX12_send_45 fl_RX12_380 kd_68 (ltA hA0 rfl) rfl ?_
      refine v_goto (tgt := 52) dX12_send_48 (by decide) ?_
      exact v_iret dX12_send_52 rfl (hq_1 c0 c1)
theorem c_X12_send_63 {X : CX} {R : Room} {Q : Option Value → AH → Prop} {nx sz mc ms : Nat} {h : AH} {x4 s0 : Int32} (hA0 : 91 ≤ nx) (hF : Fx h) (hq : s0 = 0 → Q (some (.int (-1))) h) (hi_72 : ¬ s0 = 0 → vp_in x4 61) (hq_1 : ¬ s0 = 0 → Q (some (.int (h.1 86 x4.toNatClampNeg))) h) : V X m_X12_send R (ZM X Q nx sz mc ms) (nx, sz, mc, ms) 63 [some (.ref 68), none, none, none, some (.int x4), none] [.int s0] h := by
  refine v_if_eq (tgt := 76) dX12_send_63 (by decide) (fun c0 => ?_) (fun c0 => ?_)
  · refine v_iconst dX12_send_76 ci_m1 ?_
    exact v_iret dX12_send_77 rfl (hq c0)
  · refine v_aload_n dX12_send_66 rfl ?_
    refine v_getR dX12_send_67 fl_RX12_78 kd_68 (ltA hA0 rfl) rfl (hF 68 40 86 rfl) ?_
    refine v_iload dX12_send_70 rfl ?_
    refine v_iald dX12_send_72 kd_86 (ltA hA0 rfl) (hi_72 c0) ?_
    refine v_goto (tgt := 77) dX12_send_73 (by decide) ?_
    exact v_iret dX12_send_77 rfl (hq_1 c0)
theorem e_X12_comes {X : CX} {d nx sz : Nat} {Q : Option Value → AH → Prop} {h : AH} {x1 x2 : Int32} (q : V X m_X12_comes (rm d 0 0) (ZM X Q nx sz 0 0) (nx, sz, 0, 0) 0 [some (.ref 68), some (.int x1), some (.int x2), none, none, none] [] h) : Mk X d m_X12_comes [.ref 68, .int x1, .int x2] h nx sz Q := by
  refine Mok.ofV mo_X12_comes (Nat.le_of_ble_eq_true rfl) (L := [some (.ref 68), some (.int x1), some (.int x2)]) (lvLe_s (lvLe_s (lvLe_s lvLe_e))) (v_grow (n := 3) ?_)
  exact q
theorem c_X12_comes_0 {X : CX} {R : Room} {Z : ZX} {A : AX} {h : AH} {x1 x2 : Int32} {d : Nat} {P7 : Int32 → AH → Prop} (hA0 : 91 ≤ A.1) (hR : RO R (d + 1)) (hcs : A.2.2.1 ≤ R.cells ∧ A.2.2.2 ≤ R.slots) (hM : Mk X d m_X12_isRule [.ref 68, .int x1] (setI h 68 0 0) A.1 A.2.1 (RI P7)) (q : ∀ (y : Int32) (g : AH), P7 y g → V X m_X12_comes R Z A 10 [some (.ref 68), some (.int x1), some (.int x2), none, none, none] [.int y] g) : V X m_X12_comes R Z A 0 [some (.ref 68), some (.int x1), some (.int x2), none, none, none] [] h := by
  refine v_aload_n dX12_comes_0 rfl ?_
  refine v_iconst dX12_comes_1 ci_0 ?_
  refine v_putI rfl rfl rfl dX12_comes_2 fl_RX12_103 (Or.inl rfl) kd_68 (ltA hA0 rfl) ?_
  refine v_aload_n dX12_comes_5 rfl ?_
  refine v_iload_n dX12_comes_6 rfl ?_
  exact v_cVI (mt := m_X12_comes) mo_X12_isRule ml_RX12_386 mi_X12_isRule mv_X12_isRule rfl kd_68 cl_12 rfl (ltA hA0 rfl) hR hcs (Nat.le_of_ble_eq_true rfl) dX12_comes_7 rfl hM (fun y g hp => (q y g hp))
theorem c_X12_comes_10 {X : CX} {R : Room} {Q : Option Value → AH → Prop} {nx sz mc ms : Nat} {h : AH} {x1 x2 s0 : Int32} {d : Nat} {P16 : Int32 → AH → Prop} (hR : RO R (d + 1)) (hcs : mc ≤ R.cells ∧ ms ≤ R.slots) (hq : s0 = 0 → Q (some (.int (-1))) h) (hM : ¬ s0 = 0 → Mk X d m_X12_isIn [.int x2, .int 0, .int 1] h nx sz (RI P16)) (q : ¬ s0 = 0 → ∀ (y : Int32) (g : AH), P16 y g → V X m_X12_comes R (ZM X Q nx sz mc ms) (nx, sz, mc, ms) 19 [some (.ref 68), some (.int x1), some (.int x2), none, none, none] [.int y] g) : V X m_X12_comes R (ZM X Q nx sz mc ms) (nx, sz, mc, ms) 10 [some (.ref 68), some (.int x1), some (.int x2), none, none, none] [.int s0] h := by
  refine v_if_eq (tgt := 22) dX12_comes_10 (by decide) (fun c0 => ?_) (fun c0 => ?_)
  · refine v_iconst dX12_comes_22 ci_m1 ?_
    exact v_iret dX12_comes_23 rfl (hq c0)
  · refine v_iload_n dX12_comes_13 rfl ?_
    refine v_iconst dX12_comes_14 ci_0 ?_
    refine v_iconst dX12_comes_15 ci_1 ?_
    exact v_cSI (mt := m_X12_comes) mo_X12_isIn ml_RX12_232 mz_X12_isIn rfl hR hcs (Nat.le_of_ble_eq_true rfl) dX12_comes_16 rfl (hM c0) (fun y g hp => ((q c0) y g hp))
theorem c_X12_comes_19 {X : CX} {R : Room} {Q : Option Value → AH → Prop} {nx sz mc ms : Nat} {h : AH} {x1 x2 s0 : Int32} (q : ¬ s0 = 0 → V X m_X12_comes R (ZM X Q nx sz mc ms) (nx, sz, mc, ms) 29 [some (.ref 68), some (.int x1), some (.int x2), some (.int 0), some (.int 0), none] [] h) (hq : s0 = 0 → Q (some (.int (-1))) h) : V X m_X12_comes R (ZM X Q nx sz mc ms) (nx, sz, mc, ms) 19 [some (.ref 68), some (.int x1), some (.int x2), none, none, none] [.int s0] h := by
  refine v_if_ne (tgt := 24) dX12_comes_19 (by decide) (fun c0 => ?_) (fun c0 => ?_)
  · refine v_iconst dX12_comes_24 ci_0 ?_
    refine v_istore_n dX12_comes_25 (by decide) (L' := [some (.ref 68), some (.int x1), some (.int x2), some (.int 0), none, none]) rfl ?_
    refine v_iconst dX12_comes_26 ci_0 ?_
    refine v_istore dX12_comes_27 (by decide) (L' := [some (.ref 68), some (.int x1), some (.int x2), some (.int 0), some (.int 0), none]) rfl ?_
    exact (q c0)
  · refine v_iconst dX12_comes_22 ci_m1 ?_
    exact v_iret dX12_comes_23 rfl (hq c0)
theorem c_X12_comes_29 {X : CX} {R : Room} {Q : Option Value → AH → Prop} {nx sz mc ms : Nat} {h : AH} {x1 x2 x3 x4 : Int32} (hA0 : 91 ≤ nx) (hq : (h.1 68 1) ≤ x4 → Q (some (.int x3)) h) (q : ¬ (h.1 68 1) ≤ x4 → V X m_X12_comes R (ZM X Q nx sz mc ms) (nx, sz, mc, ms) 41 [some (.ref 68), some (.int x1), some (.int x2), some (.int x3), some (.int x4), some (.int 0)] [] h) : V X m_X12_comes R (ZM X Q nx sz mc ms) (nx, sz, mc, ms) 29 [some (.ref 68), some (.int x1), some (.int x2), some (.int x3), some (.int x4), none] [] h := by
  refine v_iload dX12_comes_29 rfl ?_
  refine v_aload_n dX12_comes_31 rfl ?_
  refine v_getI dX12_comes_32 fl_RX12_99 kd_68 (ltA hA0 rfl) rfl ?_
  refine v_icmp_ge (tgt := 96) dX12_comes_35 (by decide) (fun c0 => ?_) (fun c0 => ?_)
  · refine v_iload_n dX12_comes_96 rfl ?_
    exact v_iret dX12_comes_97 rfl (hq c0)
  · refine v_iconst dX12_comes_38 ci_0 ?_
    refine v_istore dX12_comes_39 (by decide) (L' := [some (.ref 68), some (.int x1), some (.int x2), some (.int x3), some (.int x4), some (.int 0)]) rfl ?_
    exact (q c0)
theorem c_X12_comes_41 {X : CX} {R : Room} {Z : ZX} {A : AX} {h : AH} {x1 x2 x3 x4 x5 : Int32} {d : Nat} {P63 : Int32 → AH → Prop} (hA0 : 91 ≤ A.1) (hR : RO R (d + 1)) (hcs : A.2.2.1 ≤ R.cells ∧ A.2.2.2 ≤ R.slots) (q : (h.1 68 1) ≤ x5 → V X m_X12_comes R Z A 29 [some (.ref 68), some (.int x1), some (.int x2), some (.int x3), some (.int (x4 + 1)), none] [] h) (q_1 : ¬ (h.1 68 1) ≤ x5 → x4 = x5 → V X m_X12_comes R Z A 41 [some (.ref 68), some (.int x1), some (.int x2), some (.int x3), some (.int x4), some (.int (x5 + 1))] [] h) (hM : ¬ (h.1 68 1) ≤ x5 → ¬ x4 = x5 → Mk X d m_X12_goes [.ref 68, .int x1, .int x4, .int x5] h A.1 A.2.1 (RI P63)) (q_2 : ¬ (h.1 68 1) ≤ x5 → ¬ x4 = x5 → ∀ (y : Int32) (g : AH), P63 y g → V X m_X12_comes R Z A 66 [some (.ref 68), some (.int x1), some (.int x2), some (.int x3), some (.int x4), some (.int x5)] [.int y] g) : V X m_X12_comes R Z A 41 [some (.ref 68), some (.int x1), some (.int x2), some (.int x3), some (.int x4), some (.int x5)] [] h := by
  refine v_iload dX12_comes_41 rfl ?_
  refine v_aload_n dX12_comes_43 rfl ?_
  refine v_getI dX12_comes_44 fl_RX12_99 kd_68 (ltA hA0 rfl) rfl ?_
  refine v_icmp_ge (tgt := 90) dX12_comes_47 (by decide) (fun c0 => ?_) (fun c0 => ?_)
  · refine v_iinc (y := (x4 + 1)) dX12_comes_90 rfl rfl (by decide) (L' := [some (.ref 68), some (.int x1), some (.int x2), some (.int x3), some (.int (x4 + 1)), some (.int x5)]) rfl ?_
    refine v_goto (tgt := 29) dX12_comes_93 (by decide) ?_
    exact (v_drop (lvLe_s (lvLe_s (lvLe_s (lvLe_s (lvLe_s (lvLe_n lvLe_e)))))) (q c0))
  · refine v_iload dX12_comes_50 rfl ?_
    refine v_iload dX12_comes_52 rfl ?_
    refine v_icmp_eq (tgt := 84) dX12_comes_54 (by decide) (fun c1 => ?_) (fun c1 => ?_)
    · refine v_iinc (y := (x5 + 1)) dX12_comes_84 rfl rfl (by decide) (L' := [some (.ref 68), some (.int x1), some (.int x2), some (.int x3), some (.int x4), some (.int (x5 + 1))]) rfl ?_
      refine v_goto (tgt := 41) dX12_comes_87 (by decide) ?_
      exact (q_1 c0 c1)
    · refine v_aload_n dX12_comes_57 rfl ?_
      refine v_iload_n dX12_comes_58 rfl ?_
      refine v_iload dX12_comes_59 rfl ?_
      refine v_iload dX12_comes_61 rfl ?_
      exact v_cVI (mt := m_X12_comes) mo_X12_goes ml_RX12_389 mi_X12_goes mv_X12_goes rfl kd_68 cl_12 rfl (ltA hA0 rfl) hR hcs (Nat.le_of_ble_eq_true rfl) dX12_comes_63 rfl (hM c0 c1) (fun y g hp => ((q_2 c0 c1) y g hp))
theorem c_X12_comes_66 {X : CX} {R : Room} {Z : ZX} {A : AX} {h : AH} {x1 x2 x3 x4 x5 s0 : Int32} (hA0 : 91 ≤ A.1) (q : s0 = 0 → V X m_X12_comes R Z A 41 [some (.ref 68), some (.int x1), some (.int x2), some (.int x3), some (.int x4), some (.int (x5 + 1))] [] h) (q_1 : ¬ s0 = 0 → ¬ x2 = 0 → V X m_X12_comes R Z A 41 [some (.ref 68), some (.int x1), some (.int x2), some (.int (x3 + (h.1 68 41))), some (.int x4), some (.int (x5 + 1))] [] h) (q_2 : ¬ s0 = 0 → x2 = 0 → V X m_X12_comes R Z A 41 [some (.ref 68), some (.int x1), some (.int x2), some (.int (x3 + 1)), some (.int x4), some (.int (x5 + 1))] [] h) : V X m_X12_comes R Z A 66 [some (.ref 68), some (.int x1), some (.int x2), some (.int x3), some (.int x4), some (.int x5)] [.int s0] h := by
  refine v_if_eq (tgt := 84) dX12_comes_66 (by decide) (fun c0 => ?_) (fun c0 => ?_)
  · refine v_iinc (y := (x5 + 1)) dX12_comes_84 rfl rfl (by decide) (L' := [some (.ref 68), some (.int x1), some (.int x2), some (.int x3), some (.int x4), some (.int (x5 + 1))]) rfl ?_
    refine v_goto (tgt := 41) dX12_comes_87 (by decide) ?_
    exact (q c0)
  · refine v_iload_n dX12_comes_69 rfl ?_
    refine v_iload_n dX12_comes_70 rfl ?_
    refine v_if_ne (tgt := 78) dX12_comes_71 (by decide) (fun c1 => ?_) (fun c1 => ?_)
    · refine v_aload_n dX12_comes_78 rfl ?_
      refine v_getI dX12_comes_79 fl_RX12_380 kd_68 (ltA hA0 rfl) rfl ?_
      refine v_iadd dX12_comes_82 ?_
      refine v_istore_n dX12_comes_83 (by decide) (L' := [some (.ref 68), some (.int x1), some (.int x2), some (.int (x3 + (h.1 68 41))), some (.int x4), some (.int x5)]) rfl ?_
      refine v_iinc (y := (x5 + 1)) dX12_comes_84 rfl rfl (by decide) (L' := [some (.ref 68), some (.int x1), some (.int x2), some (.int (x3 + (h.1 68 41))), some (.int x4), some (.int (x5 + 1))]) rfl ?_
      refine v_goto (tgt := 41) dX12_comes_87 (by decide) ?_
      exact (q_1 c0 c1)
    · refine v_iconst dX12_comes_74 ci_1 ?_
      refine v_goto (tgt := 82) dX12_comes_75 (by decide) ?_
      refine v_iadd dX12_comes_82 ?_
      refine v_istore_n dX12_comes_83 (by decide) (L' := [some (.ref 68), some (.int x1), some (.int x2), some (.int (x3 + 1)), some (.int x4), some (.int x5)]) rfl ?_
      refine v_iinc (y := (x5 + 1)) dX12_comes_84 rfl rfl (by decide) (L' := [some (.ref 68), some (.int x1), some (.int x2), some (.int (x3 + 1)), some (.int x4), some (.int (x5 + 1))]) rfl ?_
      refine v_goto (tgt := 41) dX12_comes_87 (by decide) ?_
      exact (q_2 c0 c1)
theorem e_X12_draw {X : CX} {d nx sz : Nat} {Q : Option Value → AH → Prop} {h : AH} (q : V X m_X12_draw (rm d 0 0) (ZM X Q nx sz 0 0) (nx, sz, 0, 0) 0 [some (.ref 68)] [] h) : Mk X d m_X12_draw [.ref 68] h nx sz Q := by
  refine Mok.ofV mo_X12_draw (Nat.le_of_ble_eq_true rfl) (L := [some (.ref 68)]) (lvLe_s lvLe_e) (v_grow (n := 0) ?_)
  exact q
theorem c_X12_draw_0 {X : CX} {R : Room} {Q : Option Value → AH → Prop} {nx sz mc ms : Nat} {h : AH} (hA0 : 91 ≤ nx) (hq : Q (some (.int ((((((((h.2.1 68 42) * 6364136223846793005) + 1442695040888963407) : Int64).toUInt64 >>> ((33 : Int32).toInt64.toUInt64 &&& Int64.toUInt64 63)).toInt64 - (((((h.2.1 68 42) * 6364136223846793005) + 1442695040888963407) : Int64).toUInt64 >>> ((33 : Int32).toInt64.toUInt64 &&& Int64.toUInt64 63)).toInt64 / 100 * 100) : Int64).toInt32))) (setL h 68 42 (((h.2.1 68 42) * 6364136223846793005) + 1442695040888963407))) : V X m_X12_draw R (ZM X Q nx sz mc ms) (nx, sz, mc, ms) 0 [some (.ref 68)] [] h := by
  refine v_aload_n dX12_draw_0 rfl ?_
  refine v_aload_n dX12_draw_1 rfl ?_
  refine v_getL dX12_draw_2 fl_RX12_392 kd_68 (ltA hA0 rfl) rfl ?_
  refine v_ldc2 dX12_draw_5 kl_RX12_396 ?_
  refine v_lmul dX12_draw_8 ?_
  refine v_ldc2 dX12_draw_9 kl_RX12_398 ?_
  refine v_ladd dX12_draw_12 ?_
  refine v_putL rfl dX12_draw_13 fl_RX12_392 (Or.inl rfl) kd_68 (ltA hA0 rfl) ?_
  refine v_aload_n dX12_draw_16 rfl ?_
  refine v_getL dX12_draw_17 fl_RX12_392 kd_68 (ltA hA0 rfl) rfl ?_
  refine v_bipush dX12_draw_20 cb_33 ?_
  refine v_lushr dX12_draw_22 ?_
  refine v_ldc2 dX12_draw_23 kl_RX12_400 ?_
  refine v_lrem dX12_draw_26 (by decide) ?_
  refine v_l2i dX12_draw_27 ?_
  exact v_iret dX12_draw_28 rfl hq
theorem e_X12_worthTo {X : CX} {d nx sz : Nat} {Q : Option Value → AH → Prop} {h : AH} {x1 x2 x3 : Int32} (q : V X m_X12_worthTo (rm d 0 0) (ZM X Q nx sz 0 0) (nx, sz, 0, 0) 0 [some (.ref 68), some (.int x1), some (.int x2), some (.int x3), none] [] h) : Mk X d m_X12_worthTo [.ref 68, .int x1, .int x2, .int x3] h nx sz Q := by
  refine Mok.ofV mo_X12_worthTo (Nat.le_of_ble_eq_true rfl) (L := [some (.ref 68), some (.int x1), some (.int x2), some (.int x3)]) (lvLe_s (lvLe_s (lvLe_s (lvLe_s lvLe_e)))) (v_grow (n := 1) ?_)
  exact q
theorem c_X12_worthTo_0 {X : CX} {R : Room} {Z : ZX} {A : AX} {h : AH} {x1 x2 x3 : Int32} {d : Nat} {P1 : AH → Prop} (hA0 : 91 ≤ A.1) (hR : RO R (d + 1)) (hcs : A.2.2.1 ≤ R.cells ∧ A.2.2.2 ≤ R.slots) (hM : Mk X d m_X12_clearLetters [.ref 68] h A.1 A.2.1 (RV P1)) (q : ∀ (g : AH), P1 g → V X m_X12_worthTo R Z A 4 [some (.ref 68), some (.int x1), some (.int x2), some (.int x3), none] [] g) : V X m_X12_worthTo R Z A 0 [some (.ref 68), some (.int x1), some (.int x2), some (.int x3), none] [] h := by
  refine v_aload_n dX12_worthTo_0 rfl ?_
  exact v_cVV (mt := m_X12_worthTo) mo_X12_clearLetters ml_RX12_371 mi_X12_clearLetters mv_X12_clearLetters rfl kd_68 cl_12 rfl (ltA hA0 rfl) hR hcs (Nat.le_of_ble_eq_true rfl) dX12_worthTo_1 rfl hM (fun g hp => (q g hp))
theorem c_X12_worthTo_4 {X : CX} {R : Room} {Z : ZX} {A : AX} {h : AH} {x1 x2 x3 : Int32} {d : Nat} {P7 : Int32 → AH → Prop} (hA0 : 91 ≤ A.1) (hR : RO R (d + 1)) (hcs : A.2.2.1 ≤ R.cells ∧ A.2.2.2 ≤ R.slots) (hM : Mk X d m_X12_farOf [.ref 68, .int x2, .int x3] h A.1 A.2.1 (RI P7)) (q : ∀ (y : Int32) (g : AH), P7 y g → V X m_X12_worthTo R Z A 10 [some (.ref 68), some (.int x1), some (.int x2), some (.int x3), none] [.int y] g) : V X m_X12_worthTo R Z A 4 [some (.ref 68), some (.int x1), some (.int x2), some (.int x3), none] [] h := by
  refine v_aload_n dX12_worthTo_4 rfl ?_
  refine v_iload_n dX12_worthTo_5 rfl ?_
  refine v_iload_n dX12_worthTo_6 rfl ?_
  exact v_cVI (mt := m_X12_worthTo) mo_X12_farOf ml_RX12_268 mi_X12_farOf mv_X12_farOf rfl kd_68 cl_12 rfl (ltA hA0 rfl) hR hcs (Nat.le_of_ble_eq_true rfl) dX12_worthTo_7 rfl hM (fun y g hp => (q y g hp))
theorem c_X12_worthTo_10 {X : CX} {R : Room} {Z : ZX} {A : AX} {h : AH} {x1 x2 x3 s0 : Int32} {d : Nat} {P39 P39_1 : Int32 → AH → Prop} (hA0 : 91 ≤ A.1) (hF : Fx h) (hR : RO R (d + 1)) (hcs : A.2.2.1 ≤ R.cells ∧ A.2.2.2 ≤ R.slots) (hM : ¬ s0 = (-1) → Mk X d m_X12_many [.ref 68, .int x3] (setI h 72 100 s0) A.1 A.2.1 (RI P39)) (q : ¬ s0 = (-1) → ∀ (y : Int32) (g : AH), P39 y g → V X m_X12_worthTo R Z A 42 [some (.ref 68), some (.int x1), some (.int x2), some (.int x3), none] [.int y, .int 107, .ref 72] g) (hM_1 : s0 = (-1) → Mk X d m_X12_many [.ref 68, .int x3] (setI h 72 100 0) A.1 A.2.1 (RI P39_1)) (q_1 : s0 = (-1) → ∀ (y : Int32) (g : AH), P39_1 y g → V X m_X12_worthTo R Z A 42 [some (.ref 68), some (.int x1), some (.int x2), some (.int x3), none] [.int y, .int 107, .ref 72] g) : V X m_X12_worthTo R Z A 10 [some (.ref 68), some (.int x1), some (.int x2), some (.int x3), none] [.int s0] h := by
  refine v_istore dX12_worthTo_10 (by decide) (L' := [some (.ref 68), some (.int x1), some (.int x2), some (.int x3), some (.int s0)]) rfl ?_
  refine v_aload_n dX12_worthTo_12 rfl ?_
  refine v_getR dX12_worthTo_13 fl_RX12_20 kd_68 (ltA hA0 rfl) rfl (hF 68 5 72 rfl) ?_
  refine v_bipush dX12_worthTo_16 cb_100 ?_
  refine v_iload dX12_worthTo_18 rfl ?_
  refine v_iconst dX12_worthTo_20 ci_m1 ?_
  refine v_icmp_ne (tgt := 28) dX12_worthTo_21 (by decide) (fun c0 => ?_) (fun c0 => ?_)
  · refine v_iload dX12_worthTo_28 rfl ?_
    refine v_iast dX12_worthTo_30 kd_72 (ltA hA0 rfl) (vp_lit (by decide)) ?_
    refine v_aload_n dX12_worthTo_31 rfl ?_
    refine v_getR dX12_worthTo_32 fl_RX12_20 kd_68 (ltA hA0 rfl) rfl (hF 68 5 72 rfl) ?_
    refine v_bipush dX12_worthTo_35 cb_107 ?_
    refine v_aload_n dX12_worthTo_37 rfl ?_
    refine v_iload_n dX12_worthTo_38 rfl ?_
    exact v_cVI (mt := m_X12_worthTo) mo_X12_many ml_RX12_253 mi_X12_many mv_X12_many rfl kd_68 cl_12 rfl (ltA hA0 rfl) hR hcs (Nat.le_of_ble_eq_true rfl) dX12_worthTo_39 rfl (hM c0) (fun y g hp => (v_drop (lvLe_s (lvLe_s (lvLe_s (lvLe_s (lvLe_n lvLe_e))))) ((q c0) y g hp)))
  · refine v_iconst dX12_worthTo_24 ci_0 ?_
    refine v_goto (tgt := 30) dX12_worthTo_25 (by decide) ?_
    refine v_iast dX12_worthTo_30 kd_72 (ltA hA0 rfl) (vp_lit (by decide)) ?_
    refine v_aload_n dX12_worthTo_31 rfl ?_
    refine v_getR dX12_worthTo_32 fl_RX12_20 kd_68 (ltA hA0 rfl) rfl (hF 68 5 72 rfl) ?_
    refine v_bipush dX12_worthTo_35 cb_107 ?_
    refine v_aload_n dX12_worthTo_37 rfl ?_
    refine v_iload_n dX12_worthTo_38 rfl ?_
    exact v_cVI (mt := m_X12_worthTo) mo_X12_many ml_RX12_253 mi_X12_many mv_X12_many rfl kd_68 cl_12 rfl (ltA hA0 rfl) hR hcs (Nat.le_of_ble_eq_true rfl) dX12_worthTo_39 rfl (hM_1 c0) (fun y g hp => (v_drop (lvLe_s (lvLe_s (lvLe_s (lvLe_s (lvLe_n lvLe_e))))) ((q_1 c0) y g hp)))
theorem c_X12_worthTo_42 {X : CX} {R : Room} {Z : ZX} {A : AX} {h : AH} {x1 x2 x3 s1 s2 : Int32} {d : Nat} {P62 : Int32 → AH → Prop} (hA0 : 91 ≤ A.1) (hF : Fx h) (hR : RO R (d + 1)) (hcs : A.2.2.1 ≤ R.cells ∧ A.2.2.2 ≤ R.slots) (hi_42 : vp_in s1 128) (hi_54 : vp_in x3 20) (hi_60 : vp_in x2 20) (hM : Mk X d m_J6_bitCount_0f7a4 [.int ((h.1 73 x3.toNatClampNeg) &&& (h.1 73 x2.toNatClampNeg))] (setI h 72 s1.toNatClampNeg s2) A.1 A.2.1 (RI P62)) (q : ∀ (y : Int32) (g : AH), P62 y g → V X m_X12_worthTo R Z A 65 [some (.ref 68), some (.int x1), none, some (.int x3), none] [.int y, .int 99, .ref 72] g) : V X m_X12_worthTo R Z A 42 [some (.ref 68), some (.int x1), some (.int x2), some (.int x3), none] [.int s2, .int s1, .ref 72] h := by
  refine v_iast dX12_worthTo_42 kd_72 (ltA hA0 rfl) hi_42 ?_
  refine v_aload_n dX12_worthTo_43 rfl ?_
  refine v_getR dX12_worthTo_44 fl_RX12_20 kd_68 (ltA hA0 rfl) rfl (hF 68 5 72 rfl) ?_
  refine v_bipush dX12_worthTo_47 cb_99 ?_
  refine v_aload_n dX12_worthTo_49 rfl ?_
  refine v_getR dX12_worthTo_50 fl_RX12_37 kd_68 (ltA hA0 rfl) rfl (hF 68 19 73 rfl) ?_
  refine v_iload_n dX12_worthTo_53 rfl ?_
  refine v_iald dX12_worthTo_54 kd_73 (ltA hA0 rfl) hi_54 ?_
  refine v_aload_n dX12_worthTo_55 rfl ?_
  refine v_getR dX12_worthTo_56 fl_RX12_37 kd_68 (ltA hA0 rfl) rfl (hF 68 19 73 rfl) ?_
  refine v_iload_n dX12_worthTo_59 rfl ?_
  refine v_iald dX12_worthTo_60 kd_73 (ltA hA0 rfl) hi_60 ?_
  refine v_iand dX12_worthTo_61 ?_
  exact v_cSI (mt := m_X12_worthTo) mo_J6_bitCount_0f7a4 ml_RX12_224 mz_J6_bitCount_0f7a4 rfl hR hcs (Nat.le_of_ble_eq_true rfl) dX12_worthTo_62 rfl hM (fun y g hp => (v_drop (lvLe_s (lvLe_s (lvLe_n (lvLe_s (lvLe_n lvLe_e))))) (q y g hp)))
theorem c_X12_worthTo_65 {X : CX} {R : Room} {Z : ZX} {A : AX} {h : AH} {x1 x3 s1 s2 : Int32} {d : Nat} {P93 : Int32 → AH → Prop} (hA0 : 91 ≤ A.1) (hF : Fx h) (hR : RO R (d + 1)) (hcs : A.2.2.1 ≤ R.cells ∧ A.2.2.2 ≤ R.slots) (hi_65 : vp_in s1 128) (hi_77 : vp_in x3 20) (hi_90 : vp_in x3 20) (hM : Mk X d m_X12_many [.ref 68, .int x3] (setI (setI h 72 s1.toNatClampNeg s2) 72 111 (h.1 76 x3.toNatClampNeg)) A.1 A.2.1 (RI P93)) (q : ∀ (y : Int32) (g : AH), P93 y g → V X m_X12_worthTo R Z A 96 [some (.ref 68), some (.int x1), none, none, none] [.int y, .int (h.1 75 x3.toNatClampNeg), .int 114, .ref 72] g) : V X m_X12_worthTo R Z A 65 [some (.ref 68), some (.int x1), none, some (.int x3), none] [.int s2, .int s1, .ref 72] h := by
  refine v_iast dX12_worthTo_65 kd_72 (ltA hA0 rfl) hi_65 ?_
  refine v_aload_n dX12_worthTo_66 rfl ?_
  refine v_getR dX12_worthTo_67 fl_RX12_20 kd_68 (ltA hA0 rfl) rfl (hF 68 5 72 rfl) ?_
  refine v_bipush dX12_worthTo_70 cb_111 ?_
  refine v_aload_n dX12_worthTo_72 rfl ?_
  refine v_getR dX12_worthTo_73 fl_RX12_46 kd_68 (ltA hA0 rfl) rfl (hF 68 22 76 rfl) ?_
  refine v_iload_n dX12_worthTo_76 rfl ?_
  refine v_iald dX12_worthTo_77 kd_76 (ltA hA0 rfl) hi_77 ?_
  refine v_iast dX12_worthTo_78 kd_72 (ltA hA0 rfl) (vp_lit (by decide)) ?_
  refine v_aload_n dX12_worthTo_79 rfl ?_
  refine v_getR dX12_worthTo_80 fl_RX12_20 kd_68 (ltA hA0 rfl) rfl (hF 68 5 72 rfl) ?_
  refine v_bipush dX12_worthTo_83 cb_114 ?_
  refine v_aload_n dX12_worthTo_85 rfl ?_
  refine v_getR dX12_worthTo_86 fl_RX12_43 kd_68 (ltA hA0 rfl) rfl (hF 68 21 75 rfl) ?_
  refine v_iload_n dX12_worthTo_89 rfl ?_
  refine v_iald dX12_worthTo_90 kd_75 (ltA hA0 rfl) hi_90 ?_
  refine v_aload_n dX12_worthTo_91 rfl ?_
  refine v_iload_n dX12_worthTo_92 rfl ?_
  exact v_cVI (mt := m_X12_worthTo) mo_X12_many ml_RX12_253 mi_X12_many mv_X12_many rfl kd_68 cl_12 rfl (ltA hA0 rfl) hR hcs (Nat.le_of_ble_eq_true rfl) dX12_worthTo_93 rfl hM (fun y g hp => (v_drop (lvLe_s (lvLe_s (lvLe_n (lvLe_n (lvLe_n lvLe_e))))) (q y g hp)))
theorem c_X12_worthTo_96 {X : CX} {R : Room} {Z : ZX} {A : AX} {h : AH} {x1 s1 s2 s3 : Int32} {d : Nat} {P100 : Int32 → AH → Prop} (hA0 : 91 ≤ A.1) (hR : RO R (d + 1)) (hcs : A.2.2.1 ≤ R.cells ∧ A.2.2.2 ≤ R.slots) (hi_97 : vp_in s1 128) (hM : Mk X d m_X12_worthBy [.ref 68, .int x1] (setI h 72 s1.toNatClampNeg (s2 - s3)) A.1 A.2.1 (RI P100)) (q : ∀ (y : Int32) (g : AH), P100 y g → V X m_X12_worthTo R Z A 103 [none, none, none, none, none] [.int y] g) : V X m_X12_worthTo R Z A 96 [some (.ref 68), some (.int x1), none, none, none] [.int s3, .int s2, .int s1, .ref 72] h := by
  refine v_isub dX12_worthTo_96 ?_
  refine v_iast dX12_worthTo_97 kd_72 (ltA hA0 rfl) hi_97 ?_
  refine v_aload_n dX12_worthTo_98 rfl ?_
  refine v_iload_n dX12_worthTo_99 rfl ?_
  exact v_cVI (mt := m_X12_worthTo) mo_X12_worthBy ml_RX12_377 mi_X12_worthBy mv_X12_worthBy rfl kd_68 cl_12 rfl (ltA hA0 rfl) hR hcs (Nat.le_of_ble_eq_true rfl) dX12_worthTo_100 rfl hM (fun y g hp => (v_drop (lvLe_n (lvLe_n (lvLe_n (lvLe_n (lvLe_n lvLe_e))))) (q y g hp)))
theorem c_X12_worthTo_103 {X : CX} {R : Room} {Q : Option Value → AH → Prop} {nx sz mc ms : Nat} {h : AH} {s0 : Int32} (hq : Q (some (.int s0)) h) : V X m_X12_worthTo R (ZM X Q nx sz mc ms) (nx, sz, mc, ms) 103 [none, none, none, none, none] [.int s0] h := by
  exact v_iret dX12_worthTo_103 rfl hq
theorem e_X12_looks {X : CX} {d nx sz : Nat} {Q : Option Value → AH → Prop} {h : AH} {x1 x2 : Int32} (q : V X m_X12_looks (rm d 0 0) (ZM X Q nx sz 0 0) (nx, sz, 0, 0) 0 [some (.ref 68), some (.int x1), some (.int x2), none, none, none, none, none, none] [] h) : Mk X d m_X12_looks [.ref 68, .int x1, .int x2] h nx sz Q := by
  refine Mok.ofV mo_X12_looks (Nat.le_of_ble_eq_true rfl) (L := [some (.ref 68), some (.int x1), some (.int x2)]) (lvLe_s (lvLe_s (lvLe_s lvLe_e))) (v_grow (n := 6) ?_)
  exact q
theorem c_X12_looks_0 {X : CX} {R : Room} {Z : ZX} {A : AX} {h : AH} {x1 x2 : Int32} (q : V X m_X12_looks R Z A 8 [some (.ref 68), some (.int x1), some (.int x2), some (.int (-1)), some (.int 0), some (.int 0), none, none, none] [] h) : V X m_X12_looks R Z A 0 [some (.ref 68), some (.int x1), some (.int x2), none, none, none, none, none, none] [] h := by
  refine v_iconst dX12_looks_0 ci_m1 ?_
  refine v_istore_n dX12_looks_1 (by decide) (L' := [some (.ref 68), some (.int x1), some (.int x2), some (.int (-1)), none, none, none, none, none]) rfl ?_
  refine v_iconst dX12_looks_2 ci_0 ?_
  refine v_istore dX12_looks_3 (by decide) (L' := [some (.ref 68), some (.int x1), some (.int x2), some (.int (-1)), some (.int 0), none, none, none, none]) rfl ?_
  refine v_iconst dX12_looks_5 ci_0 ?_
  refine v_istore dX12_looks_6 (by decide) (L' := [some (.ref 68), some (.int x1), some (.int x2), some (.int (-1)), some (.int 0), some (.int 0), none, none, none]) rfl ?_
  exact q
theorem c_X12_looks_8 {X : CX} {R : Room} {Q : Option Value → AH → Prop} {nx sz mc ms : Nat} {h : AH} {x1 x2 x3 x4 x5 : Int32} {d : Nat} {P102 P31 : Int32 → AH → Prop} (hA0 : 91 ≤ nx) (hF : Fx h) (hR : RO R (d + 1)) (hcs : mc ≤ R.cells ∧ ms ≤ R.slots) (hM : (h.1 68 1) ≤ x5 → ¬ x3 = (-1) → Mk X d m_X12_many [.ref 68, .int x2] h nx sz (RI P102)) (q : (h.1 68 1) ≤ x5 → ¬ x3 = (-1) → ∀ (y : Int32) (g : AH), P102 y g → V X m_X12_looks R (ZM X Q nx sz mc ms) (nx, sz, mc, ms) 105 [some (.ref 68), some (.int x1), some (.int x2), some (.int x3), some (.int x4), none, none, none, none] [.int y] g) (hq : (h.1 68 1) ≤ x5 → x3 = (-1) → Q none h) (q_1 : ¬ (h.1 68 1) ≤ x5 → x5 = x2 → V X m_X12_looks R (ZM X Q nx sz mc ms) (nx, sz, mc, ms) 8 [some (.ref 68), some (.int x1), some (.int x2), some (.int x3), some (.int x4), some (.int (x5 + 1)), none, none, none] [] h) (hi_28 : ¬ (h.1 68 1) ≤ x5 → ¬ x5 = x2 → vp_in x2 20) (hM_1 : ¬ (h.1 68 1) ≤ x5 → ¬ x5 = x2 → Mk X d m_X12_has [.int (h.1 73 x2.toNatClampNeg), .int x5] h nx sz (RI P31)) (q_2 : ¬ (h.1 68 1) ≤ x5 → ¬ x5 = x2 → ∀ (y : Int32) (g : AH), P31 y g → V X m_X12_looks R (ZM X Q nx sz mc ms) (nx, sz, mc, ms) 34 [some (.ref 68), some (.int x1), some (.int x2), some (.int x3), some (.int x4), some (.int x5), none, none, none] [.int y] g) : V X m_X12_looks R (ZM X Q nx sz mc ms) (nx, sz, mc, ms) 8 [some (.ref 68), some (.int x1), some (.int x2), some (.int x3), some (.int x4), some (.int x5), none, none, none] [] h := by
  refine v_iload dX12_looks_8 rfl ?_
  refine v_aload_n dX12_looks_10 rfl ?_
  refine v_getI dX12_looks_11 fl_RX12_99 kd_68 (ltA hA0 rfl) rfl ?_
  refine v_icmp_ge (tgt := 94) dX12_looks_14 (by decide) (fun c0 => ?_) (fun c0 => ?_)
  · refine v_iload_n dX12_looks_94 rfl ?_
    refine v_iconst dX12_looks_95 ci_m1 ?_
    refine v_icmp_ne (tgt := 100) dX12_looks_96 (by decide) (fun c1 => ?_) (fun c1 => ?_)
    · refine v_aload_n dX12_looks_100 rfl ?_
      refine v_iload_n dX12_looks_101 rfl ?_
      exact v_cVI (mt := m_X12_looks) mo_X12_many ml_RX12_253 mi_X12_many mv_X12_many rfl kd_68 cl_12 rfl (ltA hA0 rfl) hR hcs (Nat.le_of_ble_eq_true rfl) dX12_looks_102 rfl (hM c0 c1) (fun y g hp => (v_drop (lvLe_s (lvLe_s (lvLe_s (lvLe_s (lvLe_s (lvLe_n (lvLe_n (lvLe_n (lvLe_n lvLe_e))))))))) ((q c0 c1) y g hp)))
    · exact v_vret dX12_looks_99 rfl (hq c0 c1)
  · refine v_iload dX12_looks_17 rfl ?_
    refine v_iload_n dX12_looks_19 rfl ?_
    refine v_icmp_eq (tgt := 88) dX12_looks_20 (by decide) (fun c1 => ?_) (fun c1 => ?_)
    · refine v_iinc (y := (x5 + 1)) dX12_looks_88 rfl rfl (by decide) (L' := [some (.ref 68), some (.int x1), some (.int x2), some (.int x3), some (.int x4), some (.int (x5 + 1)), none, none, none]) rfl ?_
      refine v_goto (tgt := 8) dX12_looks_91 (by decide) ?_
      exact (q_1 c0 c1)
    · refine v_aload_n dX12_looks_23 rfl ?_
      refine v_getR dX12_looks_24 fl_RX12_37 kd_68 (ltA hA0 rfl) rfl (hF 68 19 73 rfl) ?_
      refine v_iload_n dX12_looks_27 rfl ?_
      refine v_iald dX12_looks_28 kd_73 (ltA hA0 rfl) (hi_28 c0 c1) ?_
      refine v_iload dX12_looks_29 rfl ?_
      exact v_cSI (mt := m_X12_looks) mo_X12_has ml_RX12_220 mz_X12_has rfl hR hcs (Nat.le_of_ble_eq_true rfl) dX12_looks_31 rfl (hM_1 c0 c1) (fun y g hp => ((q_2 c0 c1) y g hp))
theorem c_X12_looks_34 {X : CX} {R : Room} {Z : ZX} {A : AX} {h : AH} {x1 x2 x3 x4 x5 s0 : Int32} {d : Nat} {P40 : Int32 → AH → Prop} (hA0 : 91 ≤ A.1) (hR : RO R (d + 1)) (hcs : A.2.2.1 ≤ R.cells ∧ A.2.2.2 ≤ R.slots) (q : ¬ s0 = 0 → V X m_X12_looks R Z A 8 [some (.ref 68), some (.int x1), some (.int x2), some (.int x3), some (.int x4), some (.int (x5 + 1)), none, none, none] [] h) (hM : s0 = 0 → Mk X d m_X12_many [.ref 68, .int x5] h A.1 A.2.1 (RI P40)) (q_1 : s0 = 0 → ∀ (y : Int32) (g : AH), P40 y g → V X m_X12_looks R Z A 43 [some (.ref 68), some (.int x1), some (.int x2), some (.int x3), some (.int x4), some (.int x5), none, none, none] [.int y] g) : V X m_X12_looks R Z A 34 [some (.ref 68), some (.int x1), some (.int x2), some (.int x3), some (.int x4), some (.int x5), none, none, none] [.int s0] h := by
  refine v_if_ne (tgt := 88) dX12_looks_34 (by decide) (fun c0 => ?_) (fun c0 => ?_)
  · refine v_iinc (y := (x5 + 1)) dX12_looks_88 rfl rfl (by decide) (L' := [some (.ref 68), some (.int x1), some (.int x2), some (.int x3), some (.int x4), some (.int (x5 + 1)), none, none, none]) rfl ?_
    refine v_goto (tgt := 8) dX12_looks_91 (by decide) ?_
    exact (q c0)
  · refine v_aload_n dX12_looks_37 rfl ?_
    refine v_iload dX12_looks_38 rfl ?_
    exact v_cVI (mt := m_X12_looks) mo_X12_many ml_RX12_253 mi_X12_many mv_X12_many rfl kd_68 cl_12 rfl (ltA hA0 rfl) hR hcs (Nat.le_of_ble_eq_true rfl) dX12_looks_40 rfl (hM c0) (fun y g hp => ((q_1 c0) y g hp))
theorem c_X12_looks_43 {X : CX} {R : Room} {Z : ZX} {A : AX} {h : AH} {x1 x2 x3 x4 x5 s0 : Int32} {d : Nat} {P61 : Int32 → AH → Prop} (hA0 : 91 ≤ A.1) (hF : Fx h) (hR : RO R (d + 1)) (hcs : A.2.2.1 ≤ R.cells ∧ A.2.2.2 ≤ R.slots) (hi_49 : vp_in x5 20) (hM : s0 < (h.1 75 x5.toNatClampNeg) → Mk X d m_X12_worthTo [.ref 68, .int x1, .int x2, .int x5] h A.1 A.2.1 (RI P61)) (q : s0 < (h.1 75 x5.toNatClampNeg) → ∀ (y : Int32) (g : AH), P61 y g → V X m_X12_looks R Z A 64 [some (.ref 68), some (.int x1), some (.int x2), some (.int x3), some (.int x4), some (.int x5), none, none, none] [.int y] g) (q_1 : ¬ s0 < (h.1 75 x5.toNatClampNeg) → V X m_X12_looks R Z A 8 [some (.ref 68), some (.int x1), some (.int x2), some (.int x3), some (.int x4), some (.int (x5 + 1)), none, none, none] [] h) : V X m_X12_looks R Z A 43 [some (.ref 68), some (.int x1), some (.int x2), some (.int x3), some (.int x4), some (.int x5), none, none, none] [.int s0] h := by
  refine v_aload_n dX12_looks_43 rfl ?_
  refine v_getR dX12_looks_44 fl_RX12_43 kd_68 (ltA hA0 rfl) rfl (hF 68 21 75 rfl) ?_
  refine v_iload dX12_looks_47 rfl ?_
  refine v_iald dX12_looks_49 kd_75 (ltA hA0 rfl) hi_49 ?_
  refine v_icmp_lt (tgt := 56) dX12_looks_50 (by decide) (fun c0 => ?_) (fun c0 => ?_)
  · refine v_aload_n dX12_looks_56 rfl ?_
    refine v_iload_n dX12_looks_57 rfl ?_
    refine v_iload_n dX12_looks_58 rfl ?_
    refine v_iload dX12_looks_59 rfl ?_
    exact v_cVI (mt := m_X12_looks) mo_X12_worthTo ml_RX12_402 mi_X12_worthTo mv_X12_worthTo rfl kd_68 cl_12 rfl (ltA hA0 rfl) hR hcs (Nat.le_of_ble_eq_true rfl) dX12_looks_61 rfl (hM c0) (fun y g hp => ((q c0) y g hp))
  · refine v_goto (tgt := 88) dX12_looks_53 (by decide) ?_
    refine v_iinc (y := (x5 + 1)) dX12_looks_88 rfl rfl (by decide) (L' := [some (.ref 68), some (.int x1), some (.int x2), some (.int x3), some (.int x4), some (.int (x5 + 1)), none, none, none]) rfl ?_
    refine v_goto (tgt := 8) dX12_looks_91 (by decide) ?_
    exact (q_1 c0)
theorem c_X12_looks_64 {X : CX} {R : Room} {Z : ZX} {A : AX} {h : AH} {x1 x2 x3 x4 x5 s0 : Int32} (q : x3 = (-1) → V X m_X12_looks R Z A 8 [some (.ref 68), some (.int x1), some (.int x2), some (.int x5), some (.int s0), some (.int (x5 + 1)), none, none, none] [] h) (q_1 : ¬ x3 = (-1) → x4 < s0 → V X m_X12_looks R Z A 8 [some (.ref 68), some (.int x1), some (.int x2), some (.int x5), some (.int s0), some (.int (x5 + 1)), none, none, none] [] h) (q_2 : ¬ x3 = (-1) → ¬ x4 < s0 → V X m_X12_looks R Z A 8 [some (.ref 68), some (.int x1), some (.int x2), some (.int x3), some (.int x4), some (.int (x5 + 1)), none, none, none] [] h) : V X m_X12_looks R Z A 64 [some (.ref 68), some (.int x1), some (.int x2), some (.int x3), some (.int x4), some (.int x5), none, none, none] [.int s0] h := by
  refine v_istore dX12_looks_64 (by decide) (L' := [some (.ref 68), some (.int x1), some (.int x2), some (.int x3), some (.int x4), some (.int x5), some (.int s0), none, none]) rfl ?_
  refine v_iload_n dX12_looks_66 rfl ?_
  refine v_iconst dX12_looks_67 ci_m1 ?_
  refine v_icmp_eq (tgt := 81) dX12_looks_68 (by decide) (fun c0 => ?_) (fun c0 => ?_)
  · refine v_iload dX12_looks_81 rfl ?_
    refine v_istore_n dX12_looks_83 (by decide) (L' := [some (.ref 68), some (.int x1), some (.int x2), some (.int x5), some (.int x4), some (.int x5), some (.int s0), none, none]) rfl ?_
    refine v_iload dX12_looks_84 rfl ?_
    refine v_istore dX12_looks_86 (by decide) (L' := [some (.ref 68), some (.int x1), some (.int x2), some (.int x5), some (.int s0), some (.int x5), some (.int s0), none, none]) rfl ?_
    refine v_iinc (y := (x5 + 1)) dX12_looks_88 rfl rfl (by decide) (L' := [some (.ref 68), some (.int x1), some (.int x2), some (.int x5), some (.int s0), some (.int (x5 + 1)), some (.int s0), none, none]) rfl ?_
    refine v_goto (tgt := 8) dX12_looks_91 (by decide) ?_
    exact (v_drop (lvLe_s (lvLe_s (lvLe_s (lvLe_s (lvLe_s (lvLe_s (lvLe_n (lvLe_n (lvLe_n lvLe_e))))))))) (q c0))
  · refine v_iload dX12_looks_71 rfl ?_
    refine v_iload dX12_looks_73 rfl ?_
    refine v_icmp_gt (tgt := 81) dX12_looks_75 (by decide) (fun c1 => ?_) (fun c1 => ?_)
    · refine v_iload dX12_looks_81 rfl ?_
      refine v_istore_n dX12_looks_83 (by decide) (L' := [some (.ref 68), some (.int x1), some (.int x2), some (.int x5), some (.int x4), some (.int x5), some (.int s0), none, none]) rfl ?_
      refine v_iload dX12_looks_84 rfl ?_
      refine v_istore dX12_looks_86 (by decide) (L' := [some (.ref 68), some (.int x1), some (.int x2), some (.int x5), some (.int s0), some (.int x5), some (.int s0), none, none]) rfl ?_
      refine v_iinc (y := (x5 + 1)) dX12_looks_88 rfl rfl (by decide) (L' := [some (.ref 68), some (.int x1), some (.int x2), some (.int x5), some (.int s0), some (.int (x5 + 1)), some (.int s0), none, none]) rfl ?_
      refine v_goto (tgt := 8) dX12_looks_91 (by decide) ?_
      exact (v_drop (lvLe_s (lvLe_s (lvLe_s (lvLe_s (lvLe_s (lvLe_s (lvLe_n (lvLe_n (lvLe_n lvLe_e))))))))) (q_1 c0 c1))
    · refine v_goto (tgt := 88) dX12_looks_78 (by decide) ?_
      refine v_iinc (y := (x5 + 1)) dX12_looks_88 rfl rfl (by decide) (L' := [some (.ref 68), some (.int x1), some (.int x2), some (.int x3), some (.int x4), some (.int (x5 + 1)), some (.int s0), none, none]) rfl ?_
      refine v_goto (tgt := 8) dX12_looks_91 (by decide) ?_
      exact (v_drop (lvLe_s (lvLe_s (lvLe_s (lvLe_s (lvLe_s (lvLe_s (lvLe_n (lvLe_n (lvLe_n lvLe_e))))))))) (q_2 c0 c1))
theorem c_X12_looks_105 {X : CX} {R : Room} {Z : ZX} {A : AX} {h : AH} {x1 x2 x3 x4 s0 : Int32} {d : Nat} {P122 : AH → Prop} (hA0 : 91 ≤ A.1) (hF : Fx h) (hR : RO R (d + 1)) (hcs : A.2.2.1 ≤ R.cells ∧ A.2.2.2 ≤ R.slots) (hi_110 : vp_in x2 20) (q : (h.1 75 x2.toNatClampNeg) ≤ s0 → V X m_X12_looks R Z A 135 [some (.ref 68), some (.int x1), some (.int x2), some (.int x3), some (.int x4), some (.int (-1)), some (.int 0), some (.int 0), none] [] h) (q_1 : ¬ (h.1 75 x2.toNatClampNeg) ≤ s0 → x4 ≤ 0 → V X m_X12_looks R Z A 125 [none, none, none, none, none, none, none, none, none] [] h) (hM : ¬ (h.1 75 x2.toNatClampNeg) ≤ s0 → ¬ x4 ≤ 0 → Mk X d m_X12_join [.ref 68, .int x2, .int x3] h A.1 A.2.1 (RV P122)) (q_2 : ¬ (h.1 75 x2.toNatClampNeg) ≤ s0 → ¬ x4 ≤ 0 → ∀ (g : AH), P122 g → V X m_X12_looks R Z A 125 [none, none, none, none, none, none, none, none, none] [] g) : V X m_X12_looks R Z A 105 [some (.ref 68), some (.int x1), some (.int x2), some (.int x3), some (.int x4), none, none, none, none] [.int s0] h := by
  refine v_aload_n dX12_looks_105 rfl ?_
  refine v_getR dX12_looks_106 fl_RX12_43 kd_68 (ltA hA0 rfl) rfl (hF 68 21 75 rfl) ?_
  refine v_iload_n dX12_looks_109 rfl ?_
  refine v_iald dX12_looks_110 kd_75 (ltA hA0 rfl) hi_110 ?_
  refine v_icmp_ge (tgt := 126) dX12_looks_111 (by decide) (fun c0 => ?_) (fun c0 => ?_)
  · refine v_iconst dX12_looks_126 ci_m1 ?_
    refine v_istore dX12_looks_127 (by decide) (L' := [some (.ref 68), some (.int x1), some (.int x2), some (.int x3), some (.int x4), some (.int (-1)), none, none, none]) rfl ?_
    refine v_iconst dX12_looks_129 ci_0 ?_
    refine v_istore dX12_looks_130 (by decide) (L' := [some (.ref 68), some (.int x1), some (.int x2), some (.int x3), some (.int x4), some (.int (-1)), some (.int 0), none, none]) rfl ?_
    refine v_iconst dX12_looks_132 ci_0 ?_
    refine v_istore dX12_looks_133 (by decide) (L' := [some (.ref 68), some (.int x1), some (.int x2), some (.int x3), some (.int x4), some (.int (-1)), some (.int 0), some (.int 0), none]) rfl ?_
    exact (q c0)
  · refine v_iload dX12_looks_114 rfl ?_
    refine v_if_le (tgt := 125) dX12_looks_116 (by decide) (fun c1 => ?_) (fun c1 => ?_)
    · exact (v_drop (lvLe_n (lvLe_n (lvLe_n (lvLe_n (lvLe_n (lvLe_n (lvLe_n (lvLe_n (lvLe_n lvLe_e))))))))) (q_1 c0 c1))
    · refine v_aload_n dX12_looks_119 rfl ?_
      refine v_iload_n dX12_looks_120 rfl ?_
      refine v_iload_n dX12_looks_121 rfl ?_
      exact v_cVV (mt := m_X12_looks) mo_X12_join ml_RX12_259 mi_X12_join mv_X12_join rfl kd_68 cl_12 rfl (ltA hA0 rfl) hR hcs (Nat.le_of_ble_eq_true rfl) dX12_looks_122 rfl (hM c0 c1) (fun g hp => (v_drop (lvLe_n (lvLe_n (lvLe_n (lvLe_n (lvLe_n (lvLe_n (lvLe_n (lvLe_n (lvLe_n lvLe_e))))))))) ((q_2 c0 c1) g hp)))
theorem c_X12_looks_125 {X : CX} {R : Room} {Q : Option Value → AH → Prop} {nx sz mc ms : Nat} {h : AH} (hq : Q none h) : V X m_X12_looks R (ZM X Q nx sz mc ms) (nx, sz, mc, ms) 125 [none, none, none, none, none, none, none, none, none] [] h := by
  exact v_vret dX12_looks_125 rfl hq
theorem c_X12_looks_135 {X : CX} {R : Room} {Q : Option Value → AH → Prop} {nx sz mc ms : Nat} {h : AH} {x1 x2 x3 x4 x5 x6 x7 : Int32} {d : Nat} {P224 : AH → Prop} {P152 : Int32 → AH → Prop} (hA0 : 91 ≤ nx) (hF : Fx h) (hR : RO R (d + 1)) (hcs : mc ≤ R.cells ∧ ms ≤ R.slots) (hq : (h.1 68 1) ≤ x7 → x5 = (-1) → Q none h) (hM : (h.1 68 1) ≤ x7 → ¬ x5 = (-1) → (x6 + (h.1 68 31)) < x4 → Mk X d m_X12_part_ [.ref 68, .int x2, .int x5] h nx sz (RV P224)) (q : (h.1 68 1) ≤ x7 → ¬ x5 = (-1) → (x6 + (h.1 68 31)) < x4 → ∀ (g : AH), P224 g → V X m_X12_looks R (ZM X Q nx sz mc ms) (nx, sz, mc, ms) 227 [some (.ref 68), none, some (.int x2), some (.int x3), none, none, none, none, none] [] g) (hq_1 : (h.1 68 1) ≤ x7 → ¬ x5 = (-1) → ¬ (x6 + (h.1 68 31)) < x4 → Q none h) (hi_149 : ¬ (h.1 68 1) ≤ x7 → vp_in x2 20) (hM_1 : ¬ (h.1 68 1) ≤ x7 → Mk X d m_X12_has [.int (h.1 73 x2.toNatClampNeg), .int x7] h nx sz (RI P152)) (q_1 : ¬ (h.1 68 1) ≤ x7 → ∀ (y : Int32) (g : AH), P152 y g → V X m_X12_looks R (ZM X Q nx sz mc ms) (nx, sz, mc, ms) 155 [some (.ref 68), some (.int x1), some (.int x2), some (.int x3), some (.int x4), some (.int x5), some (.int x6), some (.int x7), none] [.int y] g) : V X m_X12_looks R (ZM X Q nx sz mc ms) (nx, sz, mc, ms) 135 [some (.ref 68), some (.int x1), some (.int x2), some (.int x3), some (.int x4), some (.int x5), some (.int x6), some (.int x7), none] [] h := by
  refine v_iload dX12_looks_135 rfl ?_
  refine v_aload_n dX12_looks_137 rfl ?_
  refine v_getI dX12_looks_138 fl_RX12_99 kd_68 (ltA hA0 rfl) rfl ?_
  refine v_icmp_ge (tgt := 201) dX12_looks_141 (by decide) (fun c0 => ?_) (fun c0 => ?_)
  · refine v_iload dX12_looks_201 rfl ?_
    refine v_iconst dX12_looks_203 ci_m1 ?_
    refine v_icmp_eq (tgt := 219) dX12_looks_204 (by decide) (fun c1 => ?_) (fun c1 => ?_)
    · exact v_vret dX12_looks_219 rfl (hq c0 c1)
    · refine v_iload dX12_looks_207 rfl ?_
      refine v_iload dX12_looks_209 rfl ?_
      refine v_aload_n dX12_looks_211 rfl ?_
      refine v_getI dX12_looks_212 fl_RX12_324 kd_68 (ltA hA0 rfl) rfl ?_
      refine v_iadd dX12_looks_215 ?_
      refine v_icmp_gt (tgt := 220) dX12_looks_216 (by decide) (fun c2 => ?_) (fun c2 => ?_)
      · refine v_aload_n dX12_looks_220 rfl ?_
        refine v_iload_n dX12_looks_221 rfl ?_
        refine v_iload dX12_looks_222 rfl ?_
        exact v_cVV (mt := m_X12_looks) mo_X12_part_ ml_RX12_263 mi_X12_part_ mv_X12_part_ rfl kd_68 cl_12 rfl (ltA hA0 rfl) hR hcs (Nat.le_of_ble_eq_true rfl) dX12_looks_224 rfl (hM c0 c1 c2) (fun g hp => (v_drop (lvLe_s (lvLe_n (lvLe_s (lvLe_s (lvLe_n (lvLe_n (lvLe_n (lvLe_n (lvLe_n lvLe_e))))))))) ((q c0 c1 c2) g hp)))
      · exact v_vret dX12_looks_219 rfl (hq_1 c0 c1 c2)
  · refine v_aload_n dX12_looks_144 rfl ?_
    refine v_getR dX12_looks_145 fl_RX12_37 kd_68 (ltA hA0 rfl) rfl (hF 68 19 73 rfl) ?_
    refine v_iload_n dX12_looks_148 rfl ?_
    refine v_iald dX12_looks_149 kd_73 (ltA hA0 rfl) (hi_149 c0) ?_
    refine v_iload dX12_looks_150 rfl ?_
    exact v_cSI (mt := m_X12_looks) mo_X12_has ml_RX12_220 mz_X12_has rfl hR hcs (Nat.le_of_ble_eq_true rfl) dX12_looks_152 rfl (hM_1 c0) (fun y g hp => ((q_1 c0) y g hp))
theorem c_X12_looks_155 {X : CX} {R : Room} {Z : ZX} {A : AX} {h : AH} {x1 x2 x3 x4 x5 x6 x7 s0 : Int32} {d : Nat} {P166 : Int32 → AH → Prop} (hA0 : 91 ≤ A.1) (hR : RO R (d + 1)) (hcs : A.2.2.1 ≤ R.cells ∧ A.2.2.2 ≤ R.slots) (hM : ¬ s0 = 0 → Mk X d m_X12_worthTo [.ref 68, .int x1, .int x2, .int x7] h A.1 A.2.1 (RI P166)) (q : ¬ s0 = 0 → ∀ (y : Int32) (g : AH), P166 y g → V X m_X12_looks R Z A 169 [some (.ref 68), some (.int x1), some (.int x2), some (.int x3), some (.int x4), some (.int x5), some (.int x6), some (.int x7), none] [.int y] g) (q_1 : s0 = 0 → V X m_X12_looks R Z A 135 [some (.ref 68), some (.int x1), some (.int x2), some (.int x3), some (.int x4), some (.int x5), some (.int x6), some (.int (x7 + 1)), none] [] h) : V X m_X12_looks R Z A 155 [some (.ref 68), some (.int x1), some (.int x2), some (.int x3), some (.int x4), some (.int x5), some (.int x6), some (.int x7), none] [.int s0] h := by
  refine v_if_ne (tgt := 161) dX12_looks_155 (by decide) (fun c0 => ?_) (fun c0 => ?_)
  · refine v_aload_n dX12_looks_161 rfl ?_
    refine v_iload_n dX12_looks_162 rfl ?_
    refine v_iload_n dX12_looks_163 rfl ?_
    refine v_iload dX12_looks_164 rfl ?_
    exact v_cVI (mt := m_X12_looks) mo_X12_worthTo ml_RX12_402 mi_X12_worthTo mv_X12_worthTo rfl kd_68 cl_12 rfl (ltA hA0 rfl) hR hcs (Nat.le_of_ble_eq_true rfl) dX12_looks_166 rfl (hM c0) (fun y g hp => ((q c0) y g hp))
  · refine v_goto (tgt := 195) dX12_looks_158 (by decide) ?_
    refine v_iinc (y := (x7 + 1)) dX12_looks_195 rfl rfl (by decide) (L' := [some (.ref 68), some (.int x1), some (.int x2), some (.int x3), some (.int x4), some (.int x5), some (.int x6), some (.int (x7 + 1)), none]) rfl ?_
    refine v_goto (tgt := 135) dX12_looks_198 (by decide) ?_
    exact (q_1 c0)
theorem c_X12_looks_169 {X : CX} {R : Room} {Z : ZX} {A : AX} {h : AH} {x1 x2 x3 x4 x5 x6 x7 s0 : Int32} (q : x5 = (-1) → V X m_X12_looks R Z A 135 [some (.ref 68), some (.int x1), some (.int x2), some (.int x3), some (.int x4), some (.int x7), some (.int s0), some (.int (x7 + 1)), none] [] h) (q_1 : ¬ x5 = (-1) → s0 < x6 → V X m_X12_looks R Z A 135 [some (.ref 68), some (.int x1), some (.int x2), some (.int x3), some (.int x4), some (.int x7), some (.int s0), some (.int (x7 + 1)), none] [] h) (q_2 : ¬ x5 = (-1) → ¬ s0 < x6 → V X m_X12_looks R Z A 135 [some (.ref 68), some (.int x1), some (.int x2), some (.int x3), some (.int x4), some (.int x5), some (.int x6), some (.int (x7 + 1)), none] [] h) : V X m_X12_looks R Z A 169 [some (.ref 68), some (.int x1), some (.int x2), some (.int x3), some (.int x4), some (.int x5), some (.int x6), some (.int x7), none] [.int s0] h := by
  refine v_istore dX12_looks_169 (by decide) (L' := [some (.ref 68), some (.int x1), some (.int x2), some (.int x3), some (.int x4), some (.int x5), some (.int x6), some (.int x7), some (.int s0)]) rfl ?_
  refine v_iload dX12_looks_171 rfl ?_
  refine v_iconst dX12_looks_173 ci_m1 ?_
  refine v_icmp_eq (tgt := 187) dX12_looks_174 (by decide) (fun c0 => ?_) (fun c0 => ?_)
  · refine v_iload dX12_looks_187 rfl ?_
    refine v_istore dX12_looks_189 (by decide) (L' := [some (.ref 68), some (.int x1), some (.int x2), some (.int x3), some (.int x4), some (.int x7), some (.int x6), some (.int x7), some (.int s0)]) rfl ?_
    refine v_iload dX12_looks_191 rfl ?_
    refine v_istore dX12_looks_193 (by decide) (L' := [some (.ref 68), some (.int x1), some (.int x2), some (.int x3), some (.int x4), some (.int x7), some (.int s0), some (.int x7), some (.int s0)]) rfl ?_
    refine v_iinc (y := (x7 + 1)) dX12_looks_195 rfl rfl (by decide) (L' := [some (.ref 68), some (.int x1), some (.int x2), some (.int x3), some (.int x4), some (.int x7), some (.int s0), some (.int (x7 + 1)), some (.int s0)]) rfl ?_
    refine v_goto (tgt := 135) dX12_looks_198 (by decide) ?_
    exact (v_drop (lvLe_s (lvLe_s (lvLe_s (lvLe_s (lvLe_s (lvLe_s (lvLe_s (lvLe_s (lvLe_n lvLe_e))))))))) (q c0))
  · refine v_iload dX12_looks_177 rfl ?_
    refine v_iload dX12_looks_179 rfl ?_
    refine v_icmp_lt (tgt := 187) dX12_looks_181 (by decide) (fun c1 => ?_) (fun c1 => ?_)
    · refine v_iload dX12_looks_187 rfl ?_
      refine v_istore dX12_looks_189 (by decide) (L' := [some (.ref 68), some (.int x1), some (.int x2), some (.int x3), some (.int x4), some (.int x7), some (.int x6), some (.int x7), some (.int s0)]) rfl ?_
      refine v_iload dX12_looks_191 rfl ?_
      refine v_istore dX12_looks_193 (by decide) (L' := [some (.ref 68), some (.int x1), some (.int x2), some (.int x3), some (.int x4), some (.int x7), some (.int s0), some (.int x7), some (.int s0)]) rfl ?_
      refine v_iinc (y := (x7 + 1)) dX12_looks_195 rfl rfl (by decide) (L' := [some (.ref 68), some (.int x1), some (.int x2), some (.int x3), some (.int x4), some (.int x7), some (.int s0), some (.int (x7 + 1)), some (.int s0)]) rfl ?_
      refine v_goto (tgt := 135) dX12_looks_198 (by decide) ?_
      exact (v_drop (lvLe_s (lvLe_s (lvLe_s (lvLe_s (lvLe_s (lvLe_s (lvLe_s (lvLe_s (lvLe_n lvLe_e))))))))) (q_1 c0 c1))
    · refine v_goto (tgt := 195) dX12_looks_184 (by decide) ?_
      refine v_iinc (y := (x7 + 1)) dX12_looks_195 rfl rfl (by decide) (L' := [some (.ref 68), some (.int x1), some (.int x2), some (.int x3), some (.int x4), some (.int x5), some (.int x6), some (.int (x7 + 1)), some (.int s0)]) rfl ?_
      refine v_goto (tgt := 135) dX12_looks_198 (by decide) ?_
      exact (v_drop (lvLe_s (lvLe_s (lvLe_s (lvLe_s (lvLe_s (lvLe_s (lvLe_s (lvLe_s (lvLe_n lvLe_e))))))))) (q_2 c0 c1))
theorem c_X12_looks_227 {X : CX} {R : Room} {Z : ZX} {A : AX} {h : AH} {x2 x3 : Int32} {d : Nat} {P230 : AH → Prop} (hA0 : 91 ≤ A.1) (hR : RO R (d + 1)) (hcs : A.2.2.1 ≤ R.cells ∧ A.2.2.2 ≤ R.slots) (hM : Mk X d m_X12_join [.ref 68, .int x2, .int x3] h A.1 A.2.1 (RV P230)) (q : ∀ (g : AH), P230 g → V X m_X12_looks R Z A 233 [none, none, none, none, none, none, none, none, none] [] g) : V X m_X12_looks R Z A 227 [some (.ref 68), none, some (.int x2), some (.int x3), none, none, none, none, none] [] h := by
  refine v_aload_n dX12_looks_227 rfl ?_
  refine v_iload_n dX12_looks_228 rfl ?_
  refine v_iload_n dX12_looks_229 rfl ?_
  exact v_cVV (mt := m_X12_looks) mo_X12_join ml_RX12_259 mi_X12_join mv_X12_join rfl kd_68 cl_12 rfl (ltA hA0 rfl) hR hcs (Nat.le_of_ble_eq_true rfl) dX12_looks_230 rfl hM (fun g hp => (v_drop (lvLe_n (lvLe_n (lvLe_n (lvLe_n (lvLe_n (lvLe_n (lvLe_n (lvLe_n (lvLe_n lvLe_e))))))))) (q g hp)))
theorem c_X12_looks_233 {X : CX} {R : Room} {Q : Option Value → AH → Prop} {nx sz mc ms : Nat} {h : AH} (hq : Q none h) : V X m_X12_looks R (ZM X Q nx sz mc ms) (nx, sz, mc, ms) 233 [none, none, none, none, none, none, none, none, none] [] h := by
  exact v_vret dX12_looks_233 rfl hq
theorem e_X12_years {X : CX} {d nx sz : Nat} {Q : Option Value → AH → Prop} {h : AH} {x1 x2 x3 : Int32} {j4 : Int64} (q : V X m_X12_years (rm d 0 0) (ZM X Q nx sz 0 0) (nx, sz, 0, 0) 0 [some (.ref 68), some (.int x1), some (.int x2), some (.int x3), some (.long j4), none, none, none, none, none] [] h) : Mk X d m_X12_years [.ref 68, .int x1, .int x2, .int x3, .long j4] h nx sz Q := by
  refine Mok.ofV mo_X12_years (Nat.le_of_ble_eq_true rfl) (L := [some (.ref 68), some (.int x1), some (.int x2), some (.int x3), some (.long j4), none]) (lvLe_s (lvLe_s (lvLe_s (lvLe_s (lvLe_s (lvLe_n lvLe_e)))))) (v_grow (n := 4) ?_)
  exact q
theorem c_X12_years_0 {X : CX} {R : Room} {Z : ZX} {A : AX} {h : AH} {x1 x2 x3 : Int32} {j4 : Int64} {d : Nat} {P7 : Int32 → AH → Prop} (hA0 : 91 ≤ A.1) (hR : RO R (d + 1)) (hcs : A.2.2.1 ≤ R.cells ∧ A.2.2.2 ≤ R.slots) (hM : Mk X d m_X12_isRule [.ref 68, .int x1] (setI h 68 0 0) A.1 A.2.1 (RI P7)) (q : ∀ (y : Int32) (g : AH), P7 y g → V X m_X12_years R Z A 10 [some (.ref 68), some (.int x1), some (.int x2), some (.int x3), some (.long j4), none, none, none, none, none] [.int y] g) : V X m_X12_years R Z A 0 [some (.ref 68), some (.int x1), some (.int x2), some (.int x3), some (.long j4), none, none, none, none, none] [] h := by
  refine v_aload_n dX12_years_0 rfl ?_
  refine v_iconst dX12_years_1 ci_0 ?_
  refine v_putI rfl rfl rfl dX12_years_2 fl_RX12_103 (Or.inl rfl) kd_68 (ltA hA0 rfl) ?_
  refine v_aload_n dX12_years_5 rfl ?_
  refine v_iload_n dX12_years_6 rfl ?_
  exact v_cVI (mt := m_X12_years) mo_X12_isRule ml_RX12_386 mi_X12_isRule mv_X12_isRule rfl kd_68 cl_12 rfl (ltA hA0 rfl) hR hcs (Nat.le_of_ble_eq_true rfl) dX12_years_7 rfl hM (fun y g hp => (q y g hp))
theorem c_X12_years_10 {X : CX} {R : Room} {Q : Option Value → AH → Prop} {nx sz mc ms : Nat} {h : AH} {x1 x2 x3 s0 : Int32} {j4 : Int64} {d : Nat} {P17 : Int32 → AH → Prop} (hR : RO R (d + 1)) (hcs : mc ≤ R.cells ∧ ms ≤ R.slots) (hq : s0 = 0 → Q (some (.int (-1))) h) (hM : ¬ s0 = 0 → Mk X d m_X12_isIn [.int x2, .int 0, .int 100] h nx sz (RI P17)) (q : ¬ s0 = 0 → ∀ (y : Int32) (g : AH), P17 y g → V X m_X12_years R (ZM X Q nx sz mc ms) (nx, sz, mc, ms) 20 [some (.ref 68), some (.int x1), some (.int x2), some (.int x3), some (.long j4), none, none, none, none, none] [.int y] g) : V X m_X12_years R (ZM X Q nx sz mc ms) (nx, sz, mc, ms) 10 [some (.ref 68), some (.int x1), some (.int x2), some (.int x3), some (.long j4), none, none, none, none, none] [.int s0] h := by
  refine v_if_eq (tgt := 33) dX12_years_10 (by decide) (fun c0 => ?_) (fun c0 => ?_)
  · refine v_iconst dX12_years_33 ci_m1 ?_
    exact v_iret dX12_years_34 rfl (hq c0)
  · refine v_iload_n dX12_years_13 rfl ?_
    refine v_iconst dX12_years_14 ci_0 ?_
    refine v_bipush dX12_years_15 cb_100 ?_
    exact v_cSI (mt := m_X12_years) mo_X12_isIn ml_RX12_232 mz_X12_isIn rfl hR hcs (Nat.le_of_ble_eq_true rfl) dX12_years_17 rfl (hM c0) (fun y g hp => ((q c0) y g hp))
theorem c_X12_years_20 {X : CX} {R : Room} {Q : Option Value → AH → Prop} {nx sz mc ms : Nat} {h : AH} {x1 x2 x3 s0 : Int32} {j4 : Int64} {d : Nat} {P27 : Int32 → AH → Prop} (hR : RO R (d + 1)) (hcs : mc ≤ R.cells ∧ ms ≤ R.slots) (hq : s0 = 0 → Q (some (.int (-1))) h) (hM : ¬ s0 = 0 → Mk X d m_X12_isIn [.int x3, .int 1, .int 30] h nx sz (RI P27)) (q : ¬ s0 = 0 → ∀ (y : Int32) (g : AH), P27 y g → V X m_X12_years R (ZM X Q nx sz mc ms) (nx, sz, mc, ms) 30 [some (.ref 68), some (.int x1), some (.int x2), some (.int x3), some (.long j4), none, none, none, none, none] [.int y] g) : V X m_X12_years R (ZM X Q nx sz mc ms) (nx, sz, mc, ms) 20 [some (.ref 68), some (.int x1), some (.int x2), some (.int x3), some (.long j4), none, none, none, none, none] [.int s0] h := by
  refine v_if_eq (tgt := 33) dX12_years_20 (by decide) (fun c0 => ?_) (fun c0 => ?_)
  · refine v_iconst dX12_years_33 ci_m1 ?_
    exact v_iret dX12_years_34 rfl (hq c0)
  · refine v_iload_n dX12_years_23 rfl ?_
    refine v_iconst dX12_years_24 ci_1 ?_
    refine v_bipush dX12_years_25 cb_30 ?_
    exact v_cSI (mt := m_X12_years) mo_X12_isIn ml_RX12_232 mz_X12_isIn rfl hR hcs (Nat.le_of_ble_eq_true rfl) dX12_years_27 rfl (hM c0) (fun y g hp => ((q c0) y g hp))
theorem c_X12_years_30 {X : CX} {R : Room} {Q : Option Value → AH → Prop} {nx sz mc ms : Nat} {h : AH} {x1 x2 x3 s0 : Int32} {j4 : Int64} (hA0 : 91 ≤ nx) (q : ¬ s0 = 0 → V X m_X12_years R (ZM X Q nx sz mc ms) (nx, sz, mc, ms) 47 [some (.ref 68), some (.int x1), some (.int x2), some (.int x3), none, none, some (.int 0), some (.int 0), none, none] [] (setL h 68 42 j4)) (hq : s0 = 0 → Q (some (.int (-1))) h) : V X m_X12_years R (ZM X Q nx sz mc ms) (nx, sz, mc, ms) 30 [some (.ref 68), some (.int x1), some (.int x2), some (.int x3), some (.long j4), none, none, none, none, none] [.int s0] h := by
  refine v_if_ne (tgt := 35) dX12_years_30 (by decide) (fun c0 => ?_) (fun c0 => ?_)
  · refine v_aload_n dX12_years_35 rfl ?_
    refine v_lload dX12_years_36 rfl ?_
    refine v_putL rfl dX12_years_38 fl_RX12_392 (Or.inl rfl) kd_68 (ltA hA0 rfl) ?_
    refine v_iconst dX12_years_41 ci_0 ?_
    refine v_istore dX12_years_42 (by decide) (L' := [some (.ref 68), some (.int x1), some (.int x2), some (.int x3), some (.long j4), none, some (.int 0), none, none, none]) rfl ?_
    refine v_iconst dX12_years_44 ci_0 ?_
    refine v_istore dX12_years_45 (by decide) (L' := [some (.ref 68), some (.int x1), some (.int x2), some (.int x3), some (.long j4), none, some (.int 0), some (.int 0), none, none]) rfl ?_
    exact (v_drop (lvLe_s (lvLe_s (lvLe_s (lvLe_s (lvLe_n (lvLe_n (lvLe_s (lvLe_s (lvLe_n (lvLe_n lvLe_e)))))))))) (q c0))
  · refine v_iconst dX12_years_33 ci_m1 ?_
    exact v_iret dX12_years_34 rfl (hq c0)
theorem c_X12_years_47 {X : CX} {R : Room} {Q : Option Value → AH → Prop} {nx sz mc ms : Nat} {h : AH} {x1 x2 x3 x6 x7 : Int32} (hq : x3 ≤ x7 → Q (some (.int x6)) h) (q : ¬ x3 ≤ x7 → V X m_X12_years R (ZM X Q nx sz mc ms) (nx, sz, mc, ms) 56 [some (.ref 68), some (.int x1), some (.int x2), some (.int x3), none, none, some (.int x6), some (.int x7), some (.int 0), none] [] h) : V X m_X12_years R (ZM X Q nx sz mc ms) (nx, sz, mc, ms) 47 [some (.ref 68), some (.int x1), some (.int x2), some (.int x3), none, none, some (.int x6), some (.int x7), none, none] [] h := by
  refine v_iload dX12_years_47 rfl ?_
  refine v_iload_n dX12_years_49 rfl ?_
  refine v_icmp_ge (tgt := 176) dX12_years_50 (by decide) (fun c0 => ?_) (fun c0 => ?_)
  · refine v_iload dX12_years_176 rfl ?_
    exact v_iret dX12_years_178 rfl (hq c0)
  · refine v_iconst dX12_years_53 ci_0 ?_
    refine v_istore dX12_years_54 (by decide) (L' := [some (.ref 68), some (.int x1), some (.int x2), some (.int x3), none, none, some (.int x6), some (.int x7), some (.int 0), none]) rfl ?_
    exact (q c0)
theorem c_X12_years_56 {X : CX} {R : Room} {Z : ZX} {A : AX} {h : AH} {x1 x2 x3 x6 x7 x8 : Int32} {d : Nat} {P66 : Int32 → AH → Prop} (hA0 : 91 ≤ A.1) (hR : RO R (d + 1)) (hcs : A.2.2.1 ≤ R.cells ∧ A.2.2.2 ≤ R.slots) (q : (h.1 68 1) ≤ x8 → V X m_X12_years R Z A 148 [some (.ref 68), some (.int x1), some (.int x2), some (.int x3), none, none, some (.int x6), some (.int x7), some (.int 0), none] [] h) (hM : ¬ (h.1 68 1) ≤ x8 → Mk X d m_X12_draw [.ref 68] h A.1 A.2.1 (RI P66)) (q_1 : ¬ (h.1 68 1) ≤ x8 → ∀ (y : Int32) (g : AH), P66 y g → V X m_X12_years R Z A 69 [some (.ref 68), some (.int x1), some (.int x2), some (.int x3), none, none, some (.int x6), some (.int x7), some (.int x8), none] [.int y] g) : V X m_X12_years R Z A 56 [some (.ref 68), some (.int x1), some (.int x2), some (.int x3), none, none, some (.int x6), some (.int x7), some (.int x8), none] [] h := by
  refine v_iload dX12_years_56 rfl ?_
  refine v_aload_n dX12_years_58 rfl ?_
  refine v_getI dX12_years_59 fl_RX12_99 kd_68 (ltA hA0 rfl) rfl ?_
  refine v_icmp_ge (tgt := 145) dX12_years_62 (by decide) (fun c0 => ?_) (fun c0 => ?_)
  · refine v_iconst dX12_years_145 ci_0 ?_
    refine v_istore dX12_years_146 (by decide) (L' := [some (.ref 68), some (.int x1), some (.int x2), some (.int x3), none, none, some (.int x6), some (.int x7), some (.int 0), none]) rfl ?_
    exact (q c0)
  · refine v_aload_n dX12_years_65 rfl ?_
    exact v_cVI (mt := m_X12_years) mo_X12_draw ml_RX12_405 mi_X12_draw mv_X12_draw rfl kd_68 cl_12 rfl (ltA hA0 rfl) hR hcs (Nat.le_of_ble_eq_true rfl) dX12_years_66 rfl (hM c0) (fun y g hp => ((q_1 c0) y g hp))
theorem c_X12_years_69 {X : CX} {R : Room} {Z : ZX} {A : AX} {h : AH} {x1 x2 x3 x6 x7 x8 s0 : Int32} (hA0 : 91 ≤ A.1) (hF : Fx h) (hi_97 : s0 < x2 → vp_in x8 20) (q : s0 < x2 → V X m_X12_years R Z A 101 [some (.ref 68), some (.int x1), some (.int x2), some (.int x3), none, none, some (.int (x6 + 1)), some (.int x7), some (.int x8), some (.int 0)] [] (setI h 76 x8.toNatClampNeg 0)) (hi_80 : ¬ s0 < x2 → vp_in x8 20) (hi_83 : ¬ s0 < x2 → vp_in x8 20) (q_1 : ¬ s0 < x2 → V X m_X12_years R Z A 56 [some (.ref 68), some (.int x1), some (.int x2), some (.int x3), none, none, some (.int x6), some (.int x7), some (.int (x8 + 1)), none] [] (setI h 76 x8.toNatClampNeg ((h.1 76 x8.toNatClampNeg) + 1))) : V X m_X12_years R Z A 69 [some (.ref 68), some (.int x1), some (.int x2), some (.int x3), none, none, some (.int x6), some (.int x7), some (.int x8), none] [.int s0] h := by
  refine v_iload_n dX12_years_69 rfl ?_
  refine v_icmp_lt (tgt := 87) dX12_years_70 (by decide) (fun c0 => ?_) (fun c0 => ?_)
  · refine v_iinc (y := (x6 + 1)) dX12_years_87 rfl rfl (by decide) (L' := [some (.ref 68), some (.int x1), some (.int x2), some (.int x3), none, none, some (.int (x6 + 1)), some (.int x7), some (.int x8), none]) rfl ?_
    refine v_aload_n dX12_years_90 rfl ?_
    refine v_getR dX12_years_91 fl_RX12_46 kd_68 (ltA hA0 rfl) rfl (hF 68 22 76 rfl) ?_
    refine v_iload dX12_years_94 rfl ?_
    refine v_iconst dX12_years_96 ci_0 ?_
    refine v_iast dX12_years_97 kd_76 (ltA hA0 rfl) (hi_97 c0) ?_
    refine v_iconst dX12_years_98 ci_0 ?_
    refine v_istore dX12_years_99 (by decide) (L' := [some (.ref 68), some (.int x1), some (.int x2), some (.int x3), none, none, some (.int (x6 + 1)), some (.int x7), some (.int x8), some (.int 0)]) rfl ?_
    exact (q c0)
  · refine v_aload_n dX12_years_73 rfl ?_
    refine v_getR dX12_years_74 fl_RX12_46 kd_68 (ltA hA0 rfl) rfl (hF 68 22 76 rfl) ?_
    refine v_iload dX12_years_77 rfl ?_
    refine v_dup2 dX12_years_79 rfl rfl ?_
    refine v_iald dX12_years_80 kd_76 (ltA hA0 rfl) (hi_80 c0) ?_
    refine v_iconst dX12_years_81 ci_1 ?_
    refine v_iadd dX12_years_82 ?_
    refine v_iast dX12_years_83 kd_76 (ltA hA0 rfl) (hi_83 c0) ?_
    refine v_goto (tgt := 139) dX12_years_84 (by decide) ?_
    refine v_iinc (y := (x8 + 1)) dX12_years_139 rfl rfl (by decide) (L' := [some (.ref 68), some (.int x1), some (.int x2), some (.int x3), none, none, some (.int x6), some (.int x7), some (.int (x8 + 1)), none]) rfl ?_
    refine v_goto (tgt := 56) dX12_years_142 (by decide) ?_
    exact (q_1 c0)
theorem c_X12_years_101 {X : CX} {R : Room} {Z : ZX} {A : AX} {h : AH} {x1 x2 x3 x6 x7 x8 x9 : Int32} {d : Nat} {P119 : Int32 → AH → Prop} (hA0 : 91 ≤ A.1) (hF : Fx h) (hR : RO R (d + 1)) (hcs : A.2.2.1 ≤ R.cells ∧ A.2.2.2 ≤ R.slots) (q : (h.1 68 1) ≤ x9 → V X m_X12_years R Z A 56 [some (.ref 68), some (.int x1), some (.int x2), some (.int x3), none, none, some (.int x6), some (.int x7), some (.int (x8 + 1)), none] [] h) (hi_116 : ¬ (h.1 68 1) ≤ x9 → vp_in x8 20) (hM : ¬ (h.1 68 1) ≤ x9 → Mk X d m_X12_has [.int (h.1 73 x8.toNatClampNeg), .int x9] h A.1 A.2.1 (RI P119)) (q_1 : ¬ (h.1 68 1) ≤ x9 → ∀ (y : Int32) (g : AH), P119 y g → V X m_X12_years R Z A 122 [some (.ref 68), some (.int x1), some (.int x2), some (.int x3), none, none, some (.int x6), some (.int x7), some (.int x8), some (.int x9)] [.int y] g) : V X m_X12_years R Z A 101 [some (.ref 68), some (.int x1), some (.int x2), some (.int x3), none, none, some (.int x6), some (.int x7), some (.int x8), some (.int x9)] [] h := by
  refine v_iload dX12_years_101 rfl ?_
  refine v_aload_n dX12_years_103 rfl ?_
  refine v_getI dX12_years_104 fl_RX12_99 kd_68 (ltA hA0 rfl) rfl ?_
  refine v_icmp_ge (tgt := 139) dX12_years_107 (by decide) (fun c0 => ?_) (fun c0 => ?_)
  · refine v_iinc (y := (x8 + 1)) dX12_years_139 rfl rfl (by decide) (L' := [some (.ref 68), some (.int x1), some (.int x2), some (.int x3), none, none, some (.int x6), some (.int x7), some (.int (x8 + 1)), some (.int x9)]) rfl ?_
    refine v_goto (tgt := 56) dX12_years_142 (by decide) ?_
    exact (v_drop (lvLe_s (lvLe_s (lvLe_s (lvLe_s (lvLe_n (lvLe_n (lvLe_s (lvLe_s (lvLe_s (lvLe_n lvLe_e)))))))))) (q c0))
  · refine v_aload_n dX12_years_110 rfl ?_
    refine v_getR dX12_years_111 fl_RX12_37 kd_68 (ltA hA0 rfl) rfl (hF 68 19 73 rfl) ?_
    refine v_iload dX12_years_114 rfl ?_
    refine v_iald dX12_years_116 kd_73 (ltA hA0 rfl) (hi_116 c0) ?_
    refine v_iload dX12_years_117 rfl ?_
    exact v_cSI (mt := m_X12_years) mo_X12_has ml_RX12_220 mz_X12_has rfl hR hcs (Nat.le_of_ble_eq_true rfl) dX12_years_119 rfl (hM c0) (fun y g hp => ((q_1 c0) y g hp))
theorem c_X12_years_122 {X : CX} {R : Room} {Z : ZX} {A : AX} {h : AH} {x1 x2 x3 x6 x7 x8 x9 s0 : Int32} {d : Nat} {P130 : AH → Prop} (hA0 : 91 ≤ A.1) (hR : RO R (d + 1)) (hcs : A.2.2.1 ≤ R.cells ∧ A.2.2.2 ≤ R.slots) (q : s0 = 0 → V X m_X12_years R Z A 133 [some (.ref 68), some (.int x1), some (.int x2), some (.int x3), none, none, some (.int x6), some (.int x7), some (.int x8), some (.int x9)] [] h) (hM : ¬ s0 = 0 → Mk X d m_X12_part_ [.ref 68, .int x8, .int x9] h A.1 A.2.1 (RV P130)) (q_1 : ¬ s0 = 0 → ∀ (g : AH), P130 g → V X m_X12_years R Z A 133 [some (.ref 68), some (.int x1), some (.int x2), some (.int x3), none, none, some (.int x6), some (.int x7), some (.int x8), some (.int x9)] [] g) : V X m_X12_years R Z A 122 [some (.ref 68), some (.int x1), some (.int x2), some (.int x3), none, none, some (.int x6), some (.int x7), some (.int x8), some (.int x9)] [.int s0] h := by
  refine v_if_eq (tgt := 133) dX12_years_122 (by decide) (fun c0 => ?_) (fun c0 => ?_)
  · exact (q c0)
  · refine v_aload_n dX12_years_125 rfl ?_
    refine v_iload dX12_years_126 rfl ?_
    refine v_iload dX12_years_128 rfl ?_
    exact v_cVV (mt := m_X12_years) mo_X12_part_ ml_RX12_263 mi_X12_part_ mv_X12_part_ rfl kd_68 cl_12 rfl (ltA hA0 rfl) hR hcs (Nat.le_of_ble_eq_true rfl) dX12_years_130 rfl (hM c0) (fun g hp => ((q_1 c0) g hp))
theorem c_X12_years_133 {X : CX} {R : Room} {Z : ZX} {A : AX} {h : AH} {x1 x2 x3 x6 x7 x8 x9 : Int32} (q : V X m_X12_years R Z A 101 [some (.ref 68), some (.int x1), some (.int x2), some (.int x3), none, none, some (.int x6), some (.int x7), some (.int x8), some (.int (x9 + 1))] [] h) : V X m_X12_years R Z A 133 [some (.ref 68), some (.int x1), some (.int x2), some (.int x3), none, none, some (.int x6), some (.int x7), some (.int x8), some (.int x9)] [] h := by
  refine v_iinc (y := (x9 + 1)) dX12_years_133 rfl rfl (by decide) (L' := [some (.ref 68), some (.int x1), some (.int x2), some (.int x3), none, none, some (.int x6), some (.int x7), some (.int x8), some (.int (x9 + 1))]) rfl ?_
  refine v_goto (tgt := 101) dX12_years_136 (by decide) ?_
  exact q
theorem c_X12_years_148 {X : CX} {R : Room} {Z : ZX} {A : AX} {h : AH} {x1 x2 x3 x6 x7 x8 : Int32} {d : Nat} {P161 : AH → Prop} (hA0 : 91 ≤ A.1) (hR : RO R (d + 1)) (hcs : A.2.2.1 ≤ R.cells ∧ A.2.2.2 ≤ R.slots) (q : (h.1 68 1) ≤ x8 → V X m_X12_years R Z A 47 [some (.ref 68), some (.int x1), some (.int x2), some (.int x3), none, none, some (.int x6), some (.int (x7 + 1)), none, none] [] h) (hM : ¬ (h.1 68 1) ≤ x8 → Mk X d m_X12_looks [.ref 68, .int x1, .int x8] h A.1 A.2.1 (RV P161)) (q_1 : ¬ (h.1 68 1) ≤ x8 → ∀ (g : AH), P161 g → V X m_X12_years R Z A 164 [some (.ref 68), some (.int x1), some (.int x2), some (.int x3), none, none, some (.int x6), some (.int x7), some (.int x8), none] [] g) : V X m_X12_years R Z A 148 [some (.ref 68), some (.int x1), some (.int x2), some (.int x3), none, none, some (.int x6), some (.int x7), some (.int x8), none] [] h := by
  refine v_iload dX12_years_148 rfl ?_
  refine v_aload_n dX12_years_150 rfl ?_
  refine v_getI dX12_years_151 fl_RX12_99 kd_68 (ltA hA0 rfl) rfl ?_
  refine v_icmp_ge (tgt := 170) dX12_years_154 (by decide) (fun c0 => ?_) (fun c0 => ?_)
  · refine v_iinc (y := (x7 + 1)) dX12_years_170 rfl rfl (by decide) (L' := [some (.ref 68), some (.int x1), some (.int x2), some (.int x3), none, none, some (.int x6), some (.int (x7 + 1)), some (.int x8), none]) rfl ?_
    refine v_goto (tgt := 47) dX12_years_173 (by decide) ?_
    exact (v_drop (lvLe_s (lvLe_s (lvLe_s (lvLe_s (lvLe_n (lvLe_n (lvLe_s (lvLe_s (lvLe_n (lvLe_n lvLe_e)))))))))) (q c0))
  · refine v_aload_n dX12_years_157 rfl ?_
    refine v_iload_n dX12_years_158 rfl ?_
    refine v_iload dX12_years_159 rfl ?_
    exact v_cVV (mt := m_X12_years) mo_X12_looks ml_RX12_408 mi_X12_looks mv_X12_looks rfl kd_68 cl_12 rfl (ltA hA0 rfl) hR hcs (Nat.le_of_ble_eq_true rfl) dX12_years_161 rfl (hM c0) (fun g hp => ((q_1 c0) g hp))
theorem c_X12_years_164 {X : CX} {R : Room} {Z : ZX} {A : AX} {h : AH} {x1 x2 x3 x6 x7 x8 : Int32} (q : V X m_X12_years R Z A 148 [some (.ref 68), some (.int x1), some (.int x2), some (.int x3), none, none, some (.int x6), some (.int x7), some (.int (x8 + 1)), none] [] h) : V X m_X12_years R Z A 164 [some (.ref 68), some (.int x1), some (.int x2), some (.int x3), none, none, some (.int x6), some (.int x7), some (.int x8), none] [] h := by
  refine v_iinc (y := (x8 + 1)) dX12_years_164 rfl rfl (by decide) (L' := [some (.ref 68), some (.int x1), some (.int x2), some (.int x3), none, none, some (.int x6), some (.int x7), some (.int (x8 + 1)), none]) rfl ?_
  refine v_goto (tgt := 148) dX12_years_167 (by decide) ?_
  exact q
theorem e_X12_areJumps {X : CX} {d nx sz : Nat} {Q : Option Value → AH → Prop} {h : AH} {x1 : Int32} (q : V X m_X12_areJumps (rm d 0 0) (ZM X Q nx sz 0 0) (nx, sz, 0, 0) 0 [some (.ref 68), some (.int x1)] [] h) : Mk X d m_X12_areJumps [.ref 68, .int x1] h nx sz Q := by
  refine Mok.ofV mo_X12_areJumps (Nat.le_of_ble_eq_true rfl) (L := [some (.ref 68), some (.int x1)]) (lvLe_s (lvLe_s lvLe_e)) (v_grow (n := 0) ?_)
  exact q
theorem c_X12_areJumps_0 {X : CX} {R : Room} {Q : Option Value → AH → Prop} {nx sz mc ms : Nat} {h : AH} {x1 : Int32} {d : Nat} (hA0 : 91 ≤ nx) (hR : RO R (d + 1)) (hcs : mc ≤ R.cells ∧ ms ≤ R.slots) (hq : x1 ≤ 0 → Q (some (.int 0)) h) (hq_1 : ¬ x1 ≤ 0 → ((1 : Int32) <<< (((if ((h.1 68 1) / 2) < 10 then ((h.1 68 1) / 2) else 10) : Int32) &&& 31)) ≤ x1 → Q (some (.int 0)) h) (hq_2 : ¬ x1 ≤ 0 → ¬ ((1 : Int32) <<< (((if ((h.1 68 1) / 2) < 10 then ((h.1 68 1) / 2) else 10) : Int32) &&& 31)) ≤ x1 → Q (some (.int 1)) h) : V X m_X12_areJumps R (ZM X Q nx sz mc ms) (nx, sz, mc, ms) 0 [some (.ref 68), some (.int x1)] [] h := by
  refine v_iload_n dX12_areJumps_0 rfl ?_
  refine v_if_le (tgt := 25) dX12_areJumps_1 (by decide) (fun c0 => ?_) (fun c0 => ?_)
  · refine v_iconst dX12_areJumps_25 ci_0 ?_
    exact v_zret (ty := .boolean) dX12_areJumps_26 rfl rfl (hq c0)
  · refine v_iload_n dX12_areJumps_4 rfl ?_
    refine v_iconst dX12_areJumps_5 ci_1 ?_
    refine v_bipush dX12_areJumps_6 cb_10 ?_
    refine v_aload_n dX12_areJumps_8 rfl ?_
    refine v_getI dX12_areJumps_9 fl_RX12_99 kd_68 (ltA hA0 rfl) rfl ?_
    refine v_iconst dX12_areJumps_12 ci_2 ?_
    refine v_idiv dX12_areJumps_13 (by decide) ?_
    refine v_mmin dX12_areJumps_14 ml_RX12_90 mz_mmin in_math mc_mmin (RO_1 hR) hcs (Nat.le_of_ble_eq_true rfl) ?_
    refine v_ishl dX12_areJumps_17 ?_
    refine v_icmp_ge (tgt := 25) dX12_areJumps_18 (by decide) (fun c1 => ?_) (fun c1 => ?_)
    · refine v_iconst dX12_areJumps_25 ci_0 ?_
      exact v_zret (ty := .boolean) dX12_areJumps_26 rfl rfl (hq_1 c0 c1)
    · refine v_iconst dX12_areJumps_21 ci_1 ?_
      refine v_goto (tgt := 26) dX12_areJumps_22 (by decide) ?_
      exact v_zret (ty := .boolean) dX12_areJumps_26 rfl rfl (hq_2 c0 c1)
theorem e_X12_ringOf {X : CX} {d nx sz : Nat} {Q : Option Value → AH → Prop} {h : AH} {x1 : Int32} (q : V X m_X12_ringOf (rm d 0 0) (ZM X Q nx sz 0 0) (nx, sz, 0, 0) 0 [some (.ref 68), some (.int x1), none, none] [] h) : Mk X d m_X12_ringOf [.ref 68, .int x1] h nx sz Q := by
  refine Mok.ofV mo_X12_ringOf (Nat.le_of_ble_eq_true rfl) (L := [some (.ref 68), some (.int x1)]) (lvLe_s (lvLe_s lvLe_e)) (v_grow (n := 2) ?_)
  exact q
theorem c_X12_ringOf_0 {X : CX} {R : Room} {Z : ZX} {A : AX} {h : AH} {x1 : Int32} (q : V X m_X12_ringOf R Z A 4 [some (.ref 68), some (.int x1), some (.int 0), some (.int 1)] [] h) : V X m_X12_ringOf R Z A 0 [some (.ref 68), some (.int x1), none, none] [] h := by
  refine v_iconst dX12_ringOf_0 ci_0 ?_
  refine v_istore_n dX12_ringOf_1 (by decide) (L' := [some (.ref 68), some (.int x1), some (.int 0), none]) rfl ?_
  refine v_iconst dX12_ringOf_2 ci_1 ?_
  refine v_istore_n dX12_ringOf_3 (by decide) (L' := [some (.ref 68), some (.int x1), some (.int 0), some (.int 1)]) rfl ?_
  exact q
theorem c_X12_ringOf_4 {X : CX} {R : Room} {Q : Option Value → AH → Prop} {nx sz mc ms : Nat} {h : AH} {x1 x2 x3 : Int32} {d : Nat} {P15 : Int32 → AH → Prop} (hR : RO R (d + 1)) (hcs : mc ≤ R.cells ∧ ms ≤ R.slots) (hq : 10 < x3 → Q (some (.int x2)) h) (hM : ¬ 10 < x3 → Mk X d m_X12_has [.int x1, .int (x3 - 1)] h nx sz (RI P15)) (q : ¬ 10 < x3 → ∀ (y : Int32) (g : AH), P15 y g → V X m_X12_ringOf R (ZM X Q nx sz mc ms) (nx, sz, mc, ms) 18 [some (.ref 68), some (.int x1), none, some (.int x3)] [.int y, .int x2] g) : V X m_X12_ringOf R (ZM X Q nx sz mc ms) (nx, sz, mc, ms) 4 [some (.ref 68), some (.int x1), some (.int x2), some (.int x3)] [] h := by
  refine v_iload_n dX12_ringOf_4 rfl ?_
  refine v_bipush dX12_ringOf_5 cb_10 ?_
  refine v_icmp_gt (tgt := 50) dX12_ringOf_7 (by decide) (fun c0 => ?_) (fun c0 => ?_)
  · refine v_iload_n dX12_ringOf_50 rfl ?_
    exact v_iret dX12_ringOf_51 rfl (hq c0)
  · refine v_iload_n dX12_ringOf_10 rfl ?_
    refine v_iload_n dX12_ringOf_11 rfl ?_
    refine v_iload_n dX12_ringOf_12 rfl ?_
    refine v_iconst dX12_ringOf_13 ci_1 ?_
    refine v_isub dX12_ringOf_14 ?_
    exact v_cSI (mt := m_X12_ringOf) mo_X12_has ml_RX12_220 mz_X12_has rfl hR hcs (Nat.le_of_ble_eq_true rfl) dX12_ringOf_15 rfl (hM c0) (fun y g hp => (v_drop (lvLe_s (lvLe_s (lvLe_n (lvLe_s lvLe_e)))) ((q c0) y g hp)))
theorem c_X12_ringOf_18 {X : CX} {R : Room} {Z : ZX} {A : AX} {h : AH} {x1 x3 s0 s1 : Int32} (hA0 : 91 ≤ A.1) (q : s1 = 0 → V X m_X12_ringOf R Z A 4 [some (.ref 68), some (.int x1), some (.int (s0 ||| 0)), some (.int (x3 + 1))] [] h) (hz_27 : ¬ s1 = 0 → ¬ (h.1 68 1) = 0) (q_1 : ¬ s1 = 0 → V X m_X12_ringOf R Z A 4 [some (.ref 68), some (.int x1), some (.int (s0 ||| (((1 : Int32) <<< (((x3 - x3 / (h.1 68 1) * (h.1 68 1)) : Int32) &&& 31)) ||| ((1 : Int32) <<< ((((h.1 68 1) - x3) : Int32) &&& 31))))), some (.int (x3 + 1))] [] h) : V X m_X12_ringOf R Z A 18 [some (.ref 68), some (.int x1), none, some (.int x3)] [.int s1, .int s0] h := by
  refine v_if_eq (tgt := 41) dX12_ringOf_18 (by decide) (fun c0 => ?_) (fun c0 => ?_)
  · refine v_iconst dX12_ringOf_41 ci_0 ?_
    refine v_ior dX12_ringOf_42 ?_
    refine v_istore_n dX12_ringOf_43 (by decide) (L' := [some (.ref 68), some (.int x1), some (.int (s0 ||| 0)), some (.int x3)]) rfl ?_
    refine v_iinc (y := (x3 + 1)) dX12_ringOf_44 rfl rfl (by decide) (L' := [some (.ref 68), some (.int x1), some (.int (s0 ||| 0)), some (.int (x3 + 1))]) rfl ?_
    refine v_goto (tgt := 4) dX12_ringOf_47 (by decide) ?_
    exact (q c0)
  · refine v_iconst dX12_ringOf_21 ci_1 ?_
    refine v_iload_n dX12_ringOf_22 rfl ?_
    refine v_aload_n dX12_ringOf_23 rfl ?_
    refine v_getI dX12_ringOf_24 fl_RX12_99 kd_68 (ltA hA0 rfl) rfl ?_
    refine v_irem dX12_ringOf_27 (hz_27 c0) ?_
    refine v_ishl dX12_ringOf_28 ?_
    refine v_iconst dX12_ringOf_29 ci_1 ?_
    refine v_aload_n dX12_ringOf_30 rfl ?_
    refine v_getI dX12_ringOf_31 fl_RX12_99 kd_68 (ltA hA0 rfl) rfl ?_
    refine v_iload_n dX12_ringOf_34 rfl ?_
    refine v_isub dX12_ringOf_35 ?_
    refine v_ishl dX12_ringOf_36 ?_
    refine v_ior dX12_ringOf_37 ?_
    refine v_goto (tgt := 42) dX12_ringOf_38 (by decide) ?_
    refine v_ior dX12_ringOf_42 ?_
    refine v_istore_n dX12_ringOf_43 (by decide) (L' := [some (.ref 68), some (.int x1), some (.int (s0 ||| (((1 : Int32) <<< (((x3 - x3 / (h.1 68 1) * (h.1 68 1)) : Int32) &&& 31)) ||| ((1 : Int32) <<< ((((h.1 68 1) - x3) : Int32) &&& 31))))), some (.int x3)]) rfl ?_
    refine v_iinc (y := (x3 + 1)) dX12_ringOf_44 rfl rfl (by decide) (L' := [some (.ref 68), some (.int x1), some (.int (s0 ||| (((1 : Int32) <<< (((x3 - x3 / (h.1 68 1) * (h.1 68 1)) : Int32) &&& 31)) ||| ((1 : Int32) <<< ((((h.1 68 1) - x3) : Int32) &&& 31))))), some (.int (x3 + 1))]) rfl ?_
    refine v_goto (tgt := 4) dX12_ringOf_47 (by decide) ?_
    exact (q_1 c0)
theorem e_X12_ring {X : CX} {d nx sz : Nat} {Q : Option Value → AH → Prop} {h : AH} {x1 : Int32} (q : V X m_X12_ring (rm d 0 0) (ZM X Q nx sz 0 0) (nx, sz, 0, 0) 0 [some (.ref 68), some (.int x1), none, none] [] h) : Mk X d m_X12_ring [.ref 68, .int x1] h nx sz Q := by
  refine Mok.ofV mo_X12_ring (Nat.le_of_ble_eq_true rfl) (L := [some (.ref 68), some (.int x1)]) (lvLe_s (lvLe_s lvLe_e)) (v_grow (n := 2) ?_)
  exact q
theorem c_X12_ring_0 {X : CX} {R : Room} {Z : ZX} {A : AX} {h : AH} {x1 : Int32} {d : Nat} {P7 : Int32 → AH → Prop} (hA0 : 91 ≤ A.1) (hR : RO R (d + 1)) (hcs : A.2.2.1 ≤ R.cells ∧ A.2.2.2 ≤ R.slots) (hM : Mk X d m_X12_areJumps [.ref 68, .int x1] (setI h 68 0 0) A.1 A.2.1 (RI P7)) (q : ∀ (y : Int32) (g : AH), P7 y g → V X m_X12_ring R Z A 10 [some (.ref 68), some (.int x1), none, none] [.int y] g) : V X m_X12_ring R Z A 0 [some (.ref 68), some (.int x1), none, none] [] h := by
  refine v_aload_n dX12_ring_0 rfl ?_
  refine v_iconst dX12_ring_1 ci_0 ?_
  refine v_putI rfl rfl rfl dX12_ring_2 fl_RX12_103 (Or.inl rfl) kd_68 (ltA hA0 rfl) ?_
  refine v_aload_n dX12_ring_5 rfl ?_
  refine v_iload_n dX12_ring_6 rfl ?_
  exact v_cVI (mt := m_X12_ring) mo_X12_areJumps ml_RX12_411 mi_X12_areJumps mv_X12_areJumps rfl kd_68 cl_12 rfl (ltA hA0 rfl) hR hcs (Nat.le_of_ble_eq_true rfl) dX12_ring_7 rfl hM (fun y g hp => (q y g hp))
theorem c_X12_ring_10 {X : CX} {R : Room} {Q : Option Value → AH → Prop} {nx sz mc ms : Nat} {h : AH} {x1 s0 : Int32} {d : Nat} {P17 : Int32 → AH → Prop} (hA0 : 91 ≤ nx) (hR : RO R (d + 1)) (hcs : mc ≤ R.cells ∧ ms ≤ R.slots) (hM : ¬ s0 = 0 → Mk X d m_X12_ringOf [.ref 68, .int x1] h nx sz (RI P17)) (q : ¬ s0 = 0 → ∀ (y : Int32) (g : AH), P17 y g → V X m_X12_ring R (ZM X Q nx sz mc ms) (nx, sz, mc, ms) 20 [some (.ref 68), none, none, none] [.int y] g) (hq : s0 = 0 → Q (some (.int (-1))) h) : V X m_X12_ring R (ZM X Q nx sz mc ms) (nx, sz, mc, ms) 10 [some (.ref 68), some (.int x1), none, none] [.int s0] h := by
  refine v_if_ne (tgt := 15) dX12_ring_10 (by decide) (fun c0 => ?_) (fun c0 => ?_)
  · refine v_aload_n dX12_ring_15 rfl ?_
    refine v_iload_n dX12_ring_16 rfl ?_
    exact v_cVI (mt := m_X12_ring) mo_X12_ringOf ml_RX12_414 mi_X12_ringOf mv_X12_ringOf rfl kd_68 cl_12 rfl (ltA hA0 rfl) hR hcs (Nat.le_of_ble_eq_true rfl) dX12_ring_17 rfl (hM c0) (fun y g hp => (v_drop (lvLe_s (lvLe_n (lvLe_n (lvLe_n lvLe_e)))) ((q c0) y g hp)))
  · refine v_iconst dX12_ring_13 ci_m1 ?_
    exact v_iret dX12_ring_14 rfl (hq c0)
theorem c_X12_ring_20 {X : CX} {R : Room} {Z : ZX} {A : AX} {h : AH} {s0 : Int32} (q : V X m_X12_ring R Z A 23 [some (.ref 68), none, some (.int s0), some (.int 0)] [] h) : V X m_X12_ring R Z A 20 [some (.ref 68), none, none, none] [.int s0] h := by
  refine v_istore_n dX12_ring_20 (by decide) (L' := [some (.ref 68), none, some (.int s0), none]) rfl ?_
  refine v_iconst dX12_ring_21 ci_0 ?_
  refine v_istore_n dX12_ring_22 (by decide) (L' := [some (.ref 68), none, some (.int s0), some (.int 0)]) rfl ?_
  exact q
theorem c_X12_ring_23 {X : CX} {R : Room} {Z : ZX} {A : AX} {h : AH} {x2 x3 : Int32} {d : Nat} {P54 : AH → Prop} {P32 : Int32 → AH → Prop} (hA0 : 91 ≤ A.1) (hR : RO R (d + 1)) (hcs : A.2.2.1 ≤ R.cells ∧ A.2.2.2 ≤ R.slots) (hM : (h.1 68 1) ≤ x3 → Mk X d m_X12_layRing [.ref 68, .int x2] h A.1 A.2.1 (RV P54)) (q : (h.1 68 1) ≤ x3 → ∀ (g : AH), P54 g → V X m_X12_ring R Z A 57 [some (.ref 68), none, none, none] [] g) (hM_1 : ¬ (h.1 68 1) ≤ x3 → Mk X d m_J6_bitCount_0f7a4 [.int x2] h A.1 A.2.1 (RI P32)) (q_1 : ¬ (h.1 68 1) ≤ x3 → ∀ (y : Int32) (g : AH), P32 y g → V X m_X12_ring R Z A 35 [some (.ref 68), none, some (.int x2), some (.int x3)] [.int y] g) : V X m_X12_ring R Z A 23 [some (.ref 68), none, some (.int x2), some (.int x3)] [] h := by
  refine v_iload_n dX12_ring_23 rfl ?_
  refine v_aload_n dX12_ring_24 rfl ?_
  refine v_getI dX12_ring_25 fl_RX12_99 kd_68 (ltA hA0 rfl) rfl ?_
  refine v_icmp_ge (tgt := 52) dX12_ring_28 (by decide) (fun c0 => ?_) (fun c0 => ?_)
  · refine v_aload_n dX12_ring_52 rfl ?_
    refine v_iload_n dX12_ring_53 rfl ?_
    exact v_cVV (mt := m_X12_ring) mo_X12_layRing ml_RX12_417 mi_X12_layRing mv_X12_layRing rfl kd_68 cl_12 rfl (ltA hA0 rfl) hR hcs (Nat.le_of_ble_eq_true rfl) dX12_ring_54 rfl (hM c0) (fun g hp => (v_drop (lvLe_s (lvLe_n (lvLe_n (lvLe_n lvLe_e)))) ((q c0) g hp)))
  · refine v_iload_n dX12_ring_31 rfl ?_
    exact v_cSI (mt := m_X12_ring) mo_J6_bitCount_0f7a4 ml_RX12_224 mz_J6_bitCount_0f7a4 rfl hR hcs (Nat.le_of_ble_eq_true rfl) dX12_ring_32 rfl (hM_1 c0) (fun y g hp => ((q_1 c0) y g hp))
theorem c_X12_ring_35 {X : CX} {R : Room} {Q : Option Value → AH → Prop} {nx sz mc ms : Nat} {h : AH} {x2 x3 s0 : Int32} (hA0 : 91 ≤ nx) (hF : Fx h) (hi_40 : vp_in x3 20) (q : s0 ≤ (h.1 75 x3.toNatClampNeg) → V X m_X12_ring R (ZM X Q nx sz mc ms) (nx, sz, mc, ms) 23 [some (.ref 68), none, some (.int x2), some (.int (x3 + 1))] [] h) (hq : ¬ s0 ≤ (h.1 75 x3.toNatClampNeg) → Q (some (.int (-1))) h) : V X m_X12_ring R (ZM X Q nx sz mc ms) (nx, sz, mc, ms) 35 [some (.ref 68), none, some (.int x2), some (.int x3)] [.int s0] h := by
  refine v_aload_n dX12_ring_35 rfl ?_
  refine v_getR dX12_ring_36 fl_RX12_43 kd_68 (ltA hA0 rfl) rfl (hF 68 21 75 rfl) ?_
  refine v_iload_n dX12_ring_39 rfl ?_
  refine v_iald dX12_ring_40 kd_75 (ltA hA0 rfl) hi_40 ?_
  refine v_icmp_le (tgt := 46) dX12_ring_41 (by decide) (fun c0 => ?_) (fun c0 => ?_)
  · refine v_iinc (y := (x3 + 1)) dX12_ring_46 rfl rfl (by decide) (L' := [some (.ref 68), none, some (.int x2), some (.int (x3 + 1))]) rfl ?_
    refine v_goto (tgt := 23) dX12_ring_49 (by decide) ?_
    exact (q c0)
  · refine v_iconst dX12_ring_44 ci_m1 ?_
    exact v_iret dX12_ring_45 rfl (hq c0)
theorem c_X12_ring_57 {X : CX} {R : Room} {Z : ZX} {A : AX} {h : AH} {d : Nat} {P58 : Int32 → AH → Prop} (hA0 : 91 ≤ A.1) (hR : RO R (d + 1)) (hcs : A.2.2.1 ≤ R.cells ∧ A.2.2.2 ≤ R.slots) (hM : Mk X d m_X12_ties [.ref 68] h A.1 A.2.1 (RI P58)) (q : ∀ (y : Int32) (g : AH), P58 y g → V X m_X12_ring R Z A 61 [none, none, none, none] [.int y] g) : V X m_X12_ring R Z A 57 [some (.ref 68), none, none, none] [] h := by
  refine v_aload_n dX12_ring_57 rfl ?_
  exact v_cVI (mt := m_X12_ring) mo_X12_ties ml_RX12_247 mi_X12_ties mv_X12_ties rfl kd_68 cl_12 rfl (ltA hA0 rfl) hR hcs (Nat.le_of_ble_eq_true rfl) dX12_ring_58 rfl hM (fun y g hp => (v_drop (lvLe_n (lvLe_n (lvLe_n (lvLe_n lvLe_e)))) (q y g hp)))
theorem c_X12_ring_61 {X : CX} {R : Room} {Q : Option Value → AH → Prop} {nx sz mc ms : Nat} {h : AH} {s0 : Int32} (hq : Q (some (.int s0)) h) : V X m_X12_ring R (ZM X Q nx sz mc ms) (nx, sz, mc, ms) 61 [none, none, none, none] [.int s0] h := by
  exact v_iret dX12_ring_61 rfl hq
theorem e_X12_layRing {X : CX} {d nx sz : Nat} {Q : Option Value → AH → Prop} {h : AH} {x1 : Int32} (q : V X m_X12_layRing (rm d 0 0) (ZM X Q nx sz 0 0) (nx, sz, 0, 0) 0 [some (.ref 68), some (.int x1), none, none] [] h) : Mk X d m_X12_layRing [.ref 68, .int x1] h nx sz Q := by
  refine Mok.ofV mo_X12_layRing (Nat.le_of_ble_eq_true rfl) (L := [some (.ref 68), some (.int x1)]) (lvLe_s (lvLe_s lvLe_e)) (v_grow (n := 2) ?_)
  exact q
theorem c_X12_layRing_0 {X : CX} {R : Room} {Z : ZX} {A : AX} {h : AH} {x1 : Int32} (q : V X m_X12_layRing R Z A 2 [some (.ref 68), some (.int x1), some (.int 0), none] [] h) : V X m_X12_layRing R Z A 0 [some (.ref 68), some (.int x1), none, none] [] h := by
  refine v_iconst dX12_layRing_0 ci_0 ?_
  refine v_istore_n dX12_layRing_1 (by decide) (L' := [some (.ref 68), some (.int x1), some (.int 0), none]) rfl ?_
  exact q
theorem c_X12_layRing_2 {X : CX} {R : Room} {Q : Option Value → AH → Prop} {nx sz mc ms : Nat} {h : AH} {x1 x2 : Int32} (hA0 : 91 ≤ nx) (hF : Fx h) (hq : (h.1 68 1) ≤ x2 → Q none h) (hi_16 : ¬ (h.1 68 1) ≤ x2 → vp_in x2 20) (q : ¬ (h.1 68 1) ≤ x2 → V X m_X12_layRing R (ZM X Q nx sz mc ms) (nx, sz, mc, ms) 19 [some (.ref 68), some (.int x1), some (.int x2), some (.int 1)] [] (setI h 73 x2.toNatClampNeg 0)) : V X m_X12_layRing R (ZM X Q nx sz mc ms) (nx, sz, mc, ms) 2 [some (.ref 68), some (.int x1), some (.int x2), none] [] h := by
  refine v_iload_n dX12_layRing_2 rfl ?_
  refine v_aload_n dX12_layRing_3 rfl ?_
  refine v_getI dX12_layRing_4 fl_RX12_99 kd_68 (ltA hA0 rfl) rfl ?_
  refine v_icmp_ge (tgt := 66) dX12_layRing_7 (by decide) (fun c0 => ?_) (fun c0 => ?_)
  · exact v_vret dX12_layRing_66 rfl (hq c0)
  · refine v_aload_n dX12_layRing_10 rfl ?_
    refine v_getR dX12_layRing_11 fl_RX12_37 kd_68 (ltA hA0 rfl) rfl (hF 68 19 73 rfl) ?_
    refine v_iload_n dX12_layRing_14 rfl ?_
    refine v_iconst dX12_layRing_15 ci_0 ?_
    refine v_iast dX12_layRing_16 kd_73 (ltA hA0 rfl) (hi_16 c0) ?_
    refine v_iconst dX12_layRing_17 ci_1 ?_
    refine v_istore_n dX12_layRing_18 (by decide) (L' := [some (.ref 68), some (.int x1), some (.int x2), some (.int 1)]) rfl ?_
    exact (q c0)
theorem c_X12_layRing_19 {X : CX} {R : Room} {Z : ZX} {A : AX} {h : AH} {x1 x2 x3 : Int32} {d : Nat} {P29 : Int32 → AH → Prop} (hA0 : 91 ≤ A.1) (hR : RO R (d + 1)) (hcs : A.2.2.1 ≤ R.cells ∧ A.2.2.2 ≤ R.slots) (q : (h.1 68 1) ≤ x3 → V X m_X12_layRing R Z A 2 [some (.ref 68), some (.int x1), some (.int (x2 + 1)), none] [] h) (hM : ¬ (h.1 68 1) ≤ x3 → Mk X d m_X12_has [.int x1, .int x3] h A.1 A.2.1 (RI P29)) (q_1 : ¬ (h.1 68 1) ≤ x3 → ∀ (y : Int32) (g : AH), P29 y g → V X m_X12_layRing R Z A 32 [some (.ref 68), some (.int x1), some (.int x2), some (.int x3)] [.int y] g) : V X m_X12_layRing R Z A 19 [some (.ref 68), some (.int x1), some (.int x2), some (.int x3)] [] h := by
  refine v_iload_n dX12_layRing_19 rfl ?_
  refine v_aload_n dX12_layRing_20 rfl ?_
  refine v_getI dX12_layRing_21 fl_RX12_99 kd_68 (ltA hA0 rfl) rfl ?_
  refine v_icmp_ge (tgt := 60) dX12_layRing_24 (by decide) (fun c0 => ?_) (fun c0 => ?_)
  · refine v_iinc (y := (x2 + 1)) dX12_layRing_60 rfl rfl (by decide) (L' := [some (.ref 68), some (.int x1), some (.int (x2 + 1)), some (.int x3)]) rfl ?_
    refine v_goto (tgt := 2) dX12_layRing_63 (by decide) ?_
    exact (v_drop (lvLe_s (lvLe_s (lvLe_s (lvLe_n lvLe_e)))) (q c0))
  · refine v_iload_n dX12_layRing_27 rfl ?_
    refine v_iload_n dX12_layRing_28 rfl ?_
    exact v_cSI (mt := m_X12_layRing) mo_X12_has ml_RX12_220 mz_X12_has rfl hR hcs (Nat.le_of_ble_eq_true rfl) dX12_layRing_29 rfl (hM c0) (fun y g hp => ((q_1 c0) y g hp))
theorem c_X12_layRing_32 {X : CX} {R : Room} {Z : ZX} {A : AX} {h : AH} {x1 x2 x3 s0 : Int32} (hA0 : 91 ≤ A.1) (hF : Fx h) (q : s0 = 0 → V X m_X12_layRing R Z A 19 [some (.ref 68), some (.int x1), some (.int x2), some (.int (x3 + 1))] [] h) (hi_41 : ¬ s0 = 0 → vp_in x2 20) (hz_50 : ¬ s0 = 0 → ¬ (h.1 68 1) = 0) (hi_53 : ¬ s0 = 0 → vp_in x2 20) (q_1 : ¬ s0 = 0 → V X m_X12_layRing R Z A 19 [some (.ref 68), some (.int x1), some (.int x2), some (.int (x3 + 1))] [] (setI h 73 x2.toNatClampNeg ((h.1 73 x2.toNatClampNeg) ||| ((1 : Int32) <<< ((((x2 + x3) - (x2 + x3) / (h.1 68 1) * (h.1 68 1)) : Int32) &&& 31))))) : V X m_X12_layRing R Z A 32 [some (.ref 68), some (.int x1), some (.int x2), some (.int x3)] [.int s0] h := by
  refine v_if_eq (tgt := 54) dX12_layRing_32 (by decide) (fun c0 => ?_) (fun c0 => ?_)
  · refine v_iinc (y := (x3 + 1)) dX12_layRing_54 rfl rfl (by decide) (L' := [some (.ref 68), some (.int x1), some (.int x2), some (.int (x3 + 1))]) rfl ?_
    refine v_goto (tgt := 19) dX12_layRing_57 (by decide) ?_
    exact (q c0)
  · refine v_aload_n dX12_layRing_35 rfl ?_
    refine v_getR dX12_layRing_36 fl_RX12_37 kd_68 (ltA hA0 rfl) rfl (hF 68 19 73 rfl) ?_
    refine v_iload_n dX12_layRing_39 rfl ?_
    refine v_dup2 dX12_layRing_40 rfl rfl ?_
    refine v_iald dX12_layRing_41 kd_73 (ltA hA0 rfl) (hi_41 c0) ?_
    refine v_iconst dX12_layRing_42 ci_1 ?_
    refine v_iload_n dX12_layRing_43 rfl ?_
    refine v_iload_n dX12_layRing_44 rfl ?_
    refine v_iadd dX12_layRing_45 ?_
    refine v_aload_n dX12_layRing_46 rfl ?_
    refine v_getI dX12_layRing_47 fl_RX12_99 kd_68 (ltA hA0 rfl) rfl ?_
    refine v_irem dX12_layRing_50 (hz_50 c0) ?_
    refine v_ishl dX12_layRing_51 ?_
    refine v_ior dX12_layRing_52 ?_
    refine v_iast dX12_layRing_53 kd_73 (ltA hA0 rfl) (hi_53 c0) ?_
    refine v_iinc (y := (x3 + 1)) dX12_layRing_54 rfl rfl (by decide) (L' := [some (.ref 68), some (.int x1), some (.int x2), some (.int (x3 + 1))]) rfl ?_
    refine v_goto (tgt := 19) dX12_layRing_57 (by decide) ?_
    exact (q_1 c0)
theorem e_X12_fine {X : CX} {d nx sz : Nat} {Q : Option Value → AH → Prop} {h : AH} {x1 x2 : Int32} (q : V X m_X12_fine (rm d 0 0) (ZM X Q nx sz 0 0) (nx, sz, 0, 0) 0 [some (.ref 68), some (.int x1), some (.int x2), none, none, none, none] [] h) : Mk X d m_X12_fine [.ref 68, .int x1, .int x2] h nx sz Q := by
  refine Mok.ofV mo_X12_fine (Nat.le_of_ble_eq_true rfl) (L := [some (.ref 68), some (.int x1), some (.int x2)]) (lvLe_s (lvLe_s (lvLe_s lvLe_e))) (v_grow (n := 4) ?_)
  exact q
theorem c_X12_fine_0 {X : CX} {R : Room} {Z : ZX} {A : AX} {h : AH} {x1 x2 : Int32} {d : Nat} {P8 : Int32 → AH → Prop} (hA0 : 91 ≤ A.1) (hR : RO R (d + 1)) (hcs : A.2.2.1 ≤ R.cells ∧ A.2.2.2 ≤ R.slots) (hM : Mk X d m_X12_isIn [.int x1, .int 1, .int 3] (setI h 68 0 0) A.1 A.2.1 (RI P8)) (q : ∀ (y : Int32) (g : AH), P8 y g → V X m_X12_fine R Z A 11 [some (.ref 68), some (.int x1), some (.int x2), none, none, none, none] [.int y] g) : V X m_X12_fine R Z A 0 [some (.ref 68), some (.int x1), some (.int x2), none, none, none, none] [] h := by
  refine v_aload_n dX12_fine_0 rfl ?_
  refine v_iconst dX12_fine_1 ci_0 ?_
  refine v_putI rfl rfl rfl dX12_fine_2 fl_RX12_103 (Or.inl rfl) kd_68 (ltA hA0 rfl) ?_
  refine v_iload_n dX12_fine_5 rfl ?_
  refine v_iconst dX12_fine_6 ci_1 ?_
  refine v_iconst dX12_fine_7 ci_3 ?_
  exact v_cSI (mt := m_X12_fine) mo_X12_isIn ml_RX12_232 mz_X12_isIn rfl hR hcs (Nat.le_of_ble_eq_true rfl) dX12_fine_8 rfl hM (fun y g hp => (q y g hp))
theorem c_X12_fine_11 {X : CX} {R : Room} {Q : Option Value → AH → Prop} {nx sz mc ms : Nat} {h : AH} {x1 x2 s0 : Int32} {d : Nat} {P17 : Int32 → AH → Prop} (hR : RO R (d + 1)) (hcs : mc ≤ R.cells ∧ ms ≤ R.slots) (hq : s0 = 0 → Q (some (.int (-1))) h) (hM : ¬ s0 = 0 → Mk X d m_X12_isIn [.int x2, .int 0, .int 1] h nx sz (RI P17)) (q : ¬ s0 = 0 → ∀ (y : Int32) (g : AH), P17 y g → V X m_X12_fine R (ZM X Q nx sz mc ms) (nx, sz, mc, ms) 20 [some (.ref 68), some (.int x1), some (.int x2), none, none, none, none] [.int y] g) : V X m_X12_fine R (ZM X Q nx sz mc ms) (nx, sz, mc, ms) 11 [some (.ref 68), some (.int x1), some (.int x2), none, none, none, none] [.int s0] h := by
  refine v_if_eq (tgt := 23) dX12_fine_11 (by decide) (fun c0 => ?_) (fun c0 => ?_)
  · refine v_iconst dX12_fine_23 ci_m1 ?_
    exact v_iret dX12_fine_24 rfl (hq c0)
  · refine v_iload_n dX12_fine_14 rfl ?_
    refine v_iconst dX12_fine_15 ci_0 ?_
    refine v_iconst dX12_fine_16 ci_1 ?_
    exact v_cSI (mt := m_X12_fine) mo_X12_isIn ml_RX12_232 mz_X12_isIn rfl hR hcs (Nat.le_of_ble_eq_true rfl) dX12_fine_17 rfl (hM c0) (fun y g hp => ((q c0) y g hp))
theorem c_X12_fine_20 {X : CX} {R : Room} {Q : Option Value → AH → Prop} {nx sz mc ms : Nat} {h : AH} {x1 x2 s0 : Int32} (q : ¬ s0 = 0 → V X m_X12_fine R (ZM X Q nx sz mc ms) (nx, sz, mc, ms) 27 [some (.ref 68), some (.int x1), some (.int x2), some (.int 0), none, none, none] [] h) (hq : s0 = 0 → Q (some (.int (-1))) h) : V X m_X12_fine R (ZM X Q nx sz mc ms) (nx, sz, mc, ms) 20 [some (.ref 68), some (.int x1), some (.int x2), none, none, none, none] [.int s0] h := by
  refine v_if_ne (tgt := 25) dX12_fine_20 (by decide) (fun c0 => ?_) (fun c0 => ?_)
  · refine v_iconst dX12_fine_25 ci_0 ?_
    refine v_istore_n dX12_fine_26 (by decide) (L' := [some (.ref 68), some (.int x1), some (.int x2), some (.int 0), none, none, none]) rfl ?_
    exact (q c0)
  · refine v_iconst dX12_fine_23 ci_m1 ?_
    exact v_iret dX12_fine_24 rfl (hq c0)
theorem c_X12_fine_27 {X : CX} {R : Room} {Z : ZX} {A : AX} {h : AH} {x1 x2 x3 : Int32} (hA0 : 91 ≤ A.1) (hF : Fx h) (q : (h.1 68 1) ≤ x3 → V X m_X12_fine R Z A 61 [some (.ref 68), some (.int x1), some (.int x2), some (.int (-1)), some (.int 0), some (.int 1), none] [] h) (hi_45 : ¬ (h.1 68 1) ≤ x3 → vp_in x3 20) (hi_46 : ¬ (h.1 68 1) ≤ x3 → vp_in x3 20) (q_1 : ¬ (h.1 68 1) ≤ x3 → V X m_X12_fine R Z A 27 [some (.ref 68), some (.int x1), some (.int x2), some (.int (x3 + 1)), none, none, none] [] (setI h 84 x3.toNatClampNeg (h.1 73 x3.toNatClampNeg))) : V X m_X12_fine R Z A 27 [some (.ref 68), some (.int x1), some (.int x2), some (.int x3), none, none, none] [] h := by
  refine v_iload_n dX12_fine_27 rfl ?_
  refine v_aload_n dX12_fine_28 rfl ?_
  refine v_getI dX12_fine_29 fl_RX12_99 kd_68 (ltA hA0 rfl) rfl ?_
  refine v_icmp_ge (tgt := 53) dX12_fine_32 (by decide) (fun c0 => ?_) (fun c0 => ?_)
  · refine v_iconst dX12_fine_53 ci_m1 ?_
    refine v_istore_n dX12_fine_54 (by decide) (L' := [some (.ref 68), some (.int x1), some (.int x2), some (.int (-1)), none, none, none]) rfl ?_
    refine v_iconst dX12_fine_55 ci_0 ?_
    refine v_istore dX12_fine_56 (by decide) (L' := [some (.ref 68), some (.int x1), some (.int x2), some (.int (-1)), some (.int 0), none, none]) rfl ?_
    refine v_iconst dX12_fine_58 ci_1 ?_
    refine v_istore dX12_fine_59 (by decide) (L' := [some (.ref 68), some (.int x1), some (.int x2), some (.int (-1)), some (.int 0), some (.int 1), none]) rfl ?_
    exact (q c0)
  · refine v_aload_n dX12_fine_35 rfl ?_
    refine v_getR dX12_fine_36 fl_RX12_72 kd_68 (ltA hA0 rfl) rfl (hF 68 38 84 rfl) ?_
    refine v_iload_n dX12_fine_39 rfl ?_
    refine v_aload_n dX12_fine_40 rfl ?_
    refine v_getR dX12_fine_41 fl_RX12_37 kd_68 (ltA hA0 rfl) rfl (hF 68 19 73 rfl) ?_
    refine v_iload_n dX12_fine_44 rfl ?_
    refine v_iald dX12_fine_45 kd_73 (ltA hA0 rfl) (hi_45 c0) ?_
    refine v_iast dX12_fine_46 kd_84 (ltA hA0 rfl) (hi_46 c0) ?_
    refine v_iinc (y := (x3 + 1)) dX12_fine_47 rfl rfl (by decide) (L' := [some (.ref 68), some (.int x1), some (.int x2), some (.int (x3 + 1)), none, none, none]) rfl ?_
    refine v_goto (tgt := 27) dX12_fine_50 (by decide) ?_
    exact (q_1 c0)
theorem c_X12_fine_61 {X : CX} {R : Room} {Z : ZX} {A : AX} {h : AH} {x1 x2 x3 x4 x5 : Int32} {d : Nat} {P64 : Int32 → AH → Prop} (hA0 : 91 ≤ A.1) (hR : RO R (d + 1)) (hcs : A.2.2.1 ≤ R.cells ∧ A.2.2.2 ≤ R.slots) (hM : Mk X d m_X12_areJumps [.ref 68, .int x5] h A.1 A.2.1 (RI P64)) (q : ∀ (y : Int32) (g : AH), P64 y g → V X m_X12_fine R Z A 67 [some (.ref 68), some (.int x1), some (.int x2), some (.int x3), some (.int x4), some (.int x5), none] [.int y] g) : V X m_X12_fine R Z A 61 [some (.ref 68), some (.int x1), some (.int x2), some (.int x3), some (.int x4), some (.int x5), none] [] h := by
  refine v_aload_n dX12_fine_61 rfl ?_
  refine v_iload dX12_fine_62 rfl ?_
  exact v_cVI (mt := m_X12_fine) mo_X12_areJumps ml_RX12_411 mi_X12_areJumps mv_X12_areJumps rfl kd_68 cl_12 rfl (ltA hA0 rfl) hR hcs (Nat.le_of_ble_eq_true rfl) dX12_fine_64 rfl hM (fun y g hp => (q y g hp))
theorem c_X12_fine_67 {X : CX} {R : Room} {Z : ZX} {A : AX} {h : AH} {x1 x2 x3 x4 x5 s0 : Int32} {d : Nat} {P72 : Int32 → AH → Prop} (hR : RO R (d + 1)) (hcs : A.2.2.1 ≤ R.cells ∧ A.2.2.2 ≤ R.slots) (q : s0 = 0 → V X m_X12_fine R Z A 130 [some (.ref 68), none, some (.int x2), some (.int x3), some (.int x4), some (.int 0), none] [] h) (hM : ¬ s0 = 0 → Mk X d m_J6_bitCount_0f7a4 [.int x5] h A.1 A.2.1 (RI P72)) (q_1 : ¬ s0 = 0 → ∀ (y : Int32) (g : AH), P72 y g → V X m_X12_fine R Z A 75 [some (.ref 68), some (.int x1), some (.int x2), some (.int x3), some (.int x4), some (.int x5), none] [.int y] g) : V X m_X12_fine R Z A 67 [some (.ref 68), some (.int x1), some (.int x2), some (.int x3), some (.int x4), some (.int x5), none] [.int s0] h := by
  refine v_if_eq (tgt := 127) dX12_fine_67 (by decide) (fun c0 => ?_) (fun c0 => ?_)
  · refine v_iconst dX12_fine_127 ci_0 ?_
    refine v_istore dX12_fine_128 (by decide) (L' := [some (.ref 68), some (.int x1), some (.int x2), some (.int x3), some (.int x4), some (.int 0), none]) rfl ?_
    exact (v_drop (lvLe_s (lvLe_n (lvLe_s (lvLe_s (lvLe_s (lvLe_s (lvLe_n lvLe_e))))))) (q c0))
  · refine v_iload dX12_fine_70 rfl ?_
    exact v_cSI (mt := m_X12_fine) mo_J6_bitCount_0f7a4 ml_RX12_224 mz_J6_bitCount_0f7a4 rfl hR hcs (Nat.le_of_ble_eq_true rfl) dX12_fine_72 rfl (hM c0) (fun y g hp => ((q_1 c0) y g hp))
theorem c_X12_fine_75 {X : CX} {R : Room} {Z : ZX} {A : AX} {h : AH} {x1 x2 x3 x4 x5 s0 : Int32} {d : Nat} {P86 : Int32 → AH → Prop} (hA0 : 91 ≤ A.1) (hR : RO R (d + 1)) (hcs : A.2.2.1 ≤ R.cells ∧ A.2.2.2 ≤ R.slots) (hM : s0 = x1 → Mk X d m_X12_ringOf [.ref 68, .int x5] h A.1 A.2.1 (RI P86)) (q : s0 = x1 → ∀ (y : Int32) (g : AH), P86 y g → V X m_X12_fine R Z A 89 [some (.ref 68), some (.int x1), some (.int x2), some (.int x3), some (.int x4), some (.int x5), none] [.int y, .ref 68] g) (q_1 : ¬ s0 = x1 → V X m_X12_fine R Z A 61 [some (.ref 68), some (.int x1), some (.int x2), some (.int x3), some (.int x4), some (.int (x5 + 1)), none] [] h) : V X m_X12_fine R Z A 75 [some (.ref 68), some (.int x1), some (.int x2), some (.int x3), some (.int x4), some (.int x5), none] [.int s0] h := by
  refine v_iload_n dX12_fine_75 rfl ?_
  refine v_icmp_eq (tgt := 82) dX12_fine_76 (by decide) (fun c0 => ?_) (fun c0 => ?_)
  · refine v_aload_n dX12_fine_82 rfl ?_
    refine v_aload_n dX12_fine_83 rfl ?_
    refine v_iload dX12_fine_84 rfl ?_
    exact v_cVI (mt := m_X12_fine) mo_X12_ringOf ml_RX12_414 mi_X12_ringOf mv_X12_ringOf rfl kd_68 cl_12 rfl (ltA hA0 rfl) hR hcs (Nat.le_of_ble_eq_true rfl) dX12_fine_86 rfl (hM c0) (fun y g hp => ((q c0) y g hp))
  · refine v_goto (tgt := 121) dX12_fine_79 (by decide) ?_
    refine v_iinc (y := (x5 + 1)) dX12_fine_121 rfl rfl (by decide) (L' := [some (.ref 68), some (.int x1), some (.int x2), some (.int x3), some (.int x4), some (.int (x5 + 1)), none]) rfl ?_
    refine v_goto (tgt := 61) dX12_fine_124 (by decide) ?_
    exact (q_1 c0)
theorem c_X12_fine_89 {X : CX} {R : Room} {Z : ZX} {A : AX} {h : AH} {x1 x2 x3 x4 x5 s1 : Int32} {d : Nat} {P89 : AH → Prop} (hA0 : 91 ≤ A.1) (hR : RO R (d + 1)) (hcs : A.2.2.1 ≤ R.cells ∧ A.2.2.2 ≤ R.slots) (hM : Mk X d m_X12_layRing [.ref 68, .int s1] h A.1 A.2.1 (RV P89)) (q : ∀ (g : AH), P89 g → V X m_X12_fine R Z A 92 [some (.ref 68), some (.int x1), some (.int x2), some (.int x3), some (.int x4), some (.int x5), none] [] g) : V X m_X12_fine R Z A 89 [some (.ref 68), some (.int x1), some (.int x2), some (.int x3), some (.int x4), some (.int x5), none] [.int s1, .ref 68] h := by
  exact v_cVV (mt := m_X12_fine) mo_X12_layRing ml_RX12_417 mi_X12_layRing mv_X12_layRing rfl kd_68 cl_12 rfl (ltA hA0 rfl) hR hcs (Nat.le_of_ble_eq_true rfl) dX12_fine_89 rfl hM (fun g hp => (q g hp))
theorem c_X12_fine_92 {X : CX} {R : Room} {Z : ZX} {A : AX} {h : AH} {x1 x2 x3 x4 x5 : Int32} {d : Nat} {P94 : Int32 → AH → Prop} (hA0 : 91 ≤ A.1) (hR : RO R (d + 1)) (hcs : A.2.2.1 ≤ R.cells ∧ A.2.2.2 ≤ R.slots) (hM : Mk X d m_X12_sumOf [.ref 68, .int 0] h A.1 A.2.1 (RI P94)) (q : ∀ (y : Int32) (g : AH), P94 y g → V X m_X12_fine R Z A 97 [some (.ref 68), some (.int x1), some (.int x2), some (.int x3), some (.int x4), some (.int x5), none] [.int y] g) : V X m_X12_fine R Z A 92 [some (.ref 68), some (.int x1), some (.int x2), some (.int x3), some (.int x4), some (.int x5), none] [] h := by
  refine v_aload_n dX12_fine_92 rfl ?_
  refine v_iconst dX12_fine_93 ci_0 ?_
  exact v_cVI (mt := m_X12_fine) mo_X12_sumOf ml_RX12_286 mi_X12_sumOf mv_X12_sumOf rfl kd_68 cl_12 rfl (ltA hA0 rfl) hR hcs (Nat.le_of_ble_eq_true rfl) dX12_fine_94 rfl hM (fun y g hp => (q y g hp))
theorem c_X12_fine_97 {X : CX} {R : Room} {Z : ZX} {A : AX} {h : AH} {x1 x2 x3 x4 x5 s0 : Int32} (q : x3 = (-1) → V X m_X12_fine R Z A 61 [some (.ref 68), some (.int x1), some (.int x2), some (.int x5), some (.int s0), some (.int (x5 + 1)), none] [] h) (q_1 : ¬ x3 = (-1) → s0 < x4 → V X m_X12_fine R Z A 61 [some (.ref 68), some (.int x1), some (.int x2), some (.int x5), some (.int s0), some (.int (x5 + 1)), none] [] h) (q_2 : ¬ x3 = (-1) → ¬ s0 < x4 → V X m_X12_fine R Z A 61 [some (.ref 68), some (.int x1), some (.int x2), some (.int x3), some (.int x4), some (.int (x5 + 1)), none] [] h) : V X m_X12_fine R Z A 97 [some (.ref 68), some (.int x1), some (.int x2), some (.int x3), some (.int x4), some (.int x5), none] [.int s0] h := by
  refine v_istore dX12_fine_97 (by decide) (L' := [some (.ref 68), some (.int x1), some (.int x2), some (.int x3), some (.int x4), some (.int x5), some (.int s0)]) rfl ?_
  refine v_iload_n dX12_fine_99 rfl ?_
  refine v_iconst dX12_fine_100 ci_m1 ?_
  refine v_icmp_eq (tgt := 114) dX12_fine_101 (by decide) (fun c0 => ?_) (fun c0 => ?_)
  · refine v_iload dX12_fine_114 rfl ?_
    refine v_istore_n dX12_fine_116 (by decide) (L' := [some (.ref 68), some (.int x1), some (.int x2), some (.int x5), some (.int x4), some (.int x5), some (.int s0)]) rfl ?_
    refine v_iload dX12_fine_117 rfl ?_
    refine v_istore dX12_fine_119 (by decide) (L' := [some (.ref 68), some (.int x1), some (.int x2), some (.int x5), some (.int s0), some (.int x5), some (.int s0)]) rfl ?_
    refine v_iinc (y := (x5 + 1)) dX12_fine_121 rfl rfl (by decide) (L' := [some (.ref 68), some (.int x1), some (.int x2), some (.int x5), some (.int s0), some (.int (x5 + 1)), some (.int s0)]) rfl ?_
    refine v_goto (tgt := 61) dX12_fine_124 (by decide) ?_
    exact (v_drop (lvLe_s (lvLe_s (lvLe_s (lvLe_s (lvLe_s (lvLe_s (lvLe_n lvLe_e))))))) (q c0))
  · refine v_iload dX12_fine_104 rfl ?_
    refine v_iload dX12_fine_106 rfl ?_
    refine v_icmp_lt (tgt := 114) dX12_fine_108 (by decide) (fun c1 => ?_) (fun c1 => ?_)
    · refine v_iload dX12_fine_114 rfl ?_
      refine v_istore_n dX12_fine_116 (by decide) (L' := [some (.ref 68), some (.int x1), some (.int x2), some (.int x5), some (.int x4), some (.int x5), some (.int s0)]) rfl ?_
      refine v_iload dX12_fine_117 rfl ?_
      refine v_istore dX12_fine_119 (by decide) (L' := [some (.ref 68), some (.int x1), some (.int x2), some (.int x5), some (.int s0), some (.int x5), some (.int s0)]) rfl ?_
      refine v_iinc (y := (x5 + 1)) dX12_fine_121 rfl rfl (by decide) (L' := [some (.ref 68), some (.int x1), some (.int x2), some (.int x5), some (.int s0), some (.int (x5 + 1)), some (.int s0)]) rfl ?_
      refine v_goto (tgt := 61) dX12_fine_124 (by decide) ?_
      exact (v_drop (lvLe_s (lvLe_s (lvLe_s (lvLe_s (lvLe_s (lvLe_s (lvLe_n lvLe_e))))))) (q_1 c0 c1))
    · refine v_goto (tgt := 121) dX12_fine_111 (by decide) ?_
      refine v_iinc (y := (x5 + 1)) dX12_fine_121 rfl rfl (by decide) (L' := [some (.ref 68), some (.int x1), some (.int x2), some (.int x3), some (.int x4), some (.int (x5 + 1)), some (.int s0)]) rfl ?_
      refine v_goto (tgt := 61) dX12_fine_124 (by decide) ?_
      exact (v_drop (lvLe_s (lvLe_s (lvLe_s (lvLe_s (lvLe_s (lvLe_s (lvLe_n lvLe_e))))))) (q_2 c0 c1))
theorem c_X12_fine_130 {X : CX} {R : Room} {Q : Option Value → AH → Prop} {nx sz mc ms : Nat} {h : AH} {x2 x3 x4 x5 : Int32} (hA0 : 91 ≤ nx) (hF : Fx h) (hq : (h.1 68 1) ≤ x5 → ¬ x3 = (-1) → ¬ x2 = 0 → Q (some (.int x4)) h) (hq_1 : (h.1 68 1) ≤ x5 → ¬ x3 = (-1) → x2 = 0 → Q (some (.int x3)) h) (hq_2 : (h.1 68 1) ≤ x5 → x3 = (-1) → Q (some (.int (-1))) h) (hi_151 : ¬ (h.1 68 1) ≤ x5 → vp_in x5 20) (hi_152 : ¬ (h.1 68 1) ≤ x5 → vp_in x5 20) (q : ¬ (h.1 68 1) ≤ x5 → V X m_X12_fine R (ZM X Q nx sz mc ms) (nx, sz, mc, ms) 130 [some (.ref 68), none, some (.int x2), some (.int x3), some (.int x4), some (.int (x5 + 1)), none] [] (setI h 73 x5.toNatClampNeg (h.1 84 x5.toNatClampNeg))) : V X m_X12_fine R (ZM X Q nx sz mc ms) (nx, sz, mc, ms) 130 [some (.ref 68), none, some (.int x2), some (.int x3), some (.int x4), some (.int x5), none] [] h := by
  refine v_iload dX12_fine_130 rfl ?_
  refine v_aload_n dX12_fine_132 rfl ?_
  refine v_getI dX12_fine_133 fl_RX12_99 kd_68 (ltA hA0 rfl) rfl ?_
  refine v_icmp_ge (tgt := 159) dX12_fine_136 (by decide) (fun c0 => ?_) (fun c0 => ?_)
  · refine v_iload_n dX12_fine_159 rfl ?_
    refine v_iconst dX12_fine_160 ci_m1 ?_
    refine v_icmp_ne (tgt := 168) dX12_fine_161 (by decide) (fun c1 => ?_) (fun c1 => ?_)
    · refine v_iload_n dX12_fine_168 rfl ?_
      refine v_if_ne (tgt := 176) dX12_fine_169 (by decide) (fun c2 => ?_) (fun c2 => ?_)
      · refine v_iload dX12_fine_176 rfl ?_
        exact v_iret dX12_fine_178 rfl (hq c0 c1 c2)
      · refine v_iload_n dX12_fine_172 rfl ?_
        refine v_goto (tgt := 178) dX12_fine_173 (by decide) ?_
        exact v_iret dX12_fine_178 rfl (hq_1 c0 c1 c2)
    · refine v_iconst dX12_fine_164 ci_m1 ?_
      refine v_goto (tgt := 178) dX12_fine_165 (by decide) ?_
      exact v_iret dX12_fine_178 rfl (hq_2 c0 c1)
  · refine v_aload_n dX12_fine_139 rfl ?_
    refine v_getR dX12_fine_140 fl_RX12_37 kd_68 (ltA hA0 rfl) rfl (hF 68 19 73 rfl) ?_
    refine v_iload dX12_fine_143 rfl ?_
    refine v_aload_n dX12_fine_145 rfl ?_
    refine v_getR dX12_fine_146 fl_RX12_72 kd_68 (ltA hA0 rfl) rfl (hF 68 38 84 rfl) ?_
    refine v_iload dX12_fine_149 rfl ?_
    refine v_iald dX12_fine_151 kd_84 (ltA hA0 rfl) (hi_151 c0) ?_
    refine v_iast dX12_fine_152 kd_73 (ltA hA0 rfl) (hi_152 c0) ?_
    refine v_iinc (y := (x5 + 1)) dX12_fine_153 rfl rfl (by decide) (L' := [some (.ref 68), none, some (.int x2), some (.int x3), some (.int x4), some (.int (x5 + 1)), none]) rfl ?_
    refine v_goto (tgt := 130) dX12_fine_156 (by decide) ?_
    exact (q c0)
theorem e_X12_bound {X : CX} {d nx sz : Nat} {Q : Option Value → AH → Prop} {h : AH} {x1 : Int32} (q : V X m_X12_bound (rm d 0 0) (ZM X Q nx sz 0 0) (nx, sz, 0, 0) 0 [some (.ref 68), some (.int x1), none, none, none, none, none] [] h) : Mk X d m_X12_bound [.ref 68, .int x1] h nx sz Q := by
  refine Mok.ofV mo_X12_bound (Nat.le_of_ble_eq_true rfl) (L := [some (.ref 68), some (.int x1)]) (lvLe_s (lvLe_s lvLe_e)) (v_grow (n := 5) ?_)
  exact q
theorem c_X12_bound_0 {X : CX} {R : Room} {Z : ZX} {A : AX} {h : AH} {x1 : Int32} {d : Nat} {P9 : Int32 → AH → Prop} (hA0 : 91 ≤ A.1) (hR : RO R (d + 1)) (hcs : A.2.2.1 ≤ R.cells ∧ A.2.2.2 ≤ R.slots) (hM : Mk X d m_X12_isIn [.int x1, .int 1, .int 9] (setI h 68 0 0) A.1 A.2.1 (RI P9)) (q : ∀ (y : Int32) (g : AH), P9 y g → V X m_X12_bound R Z A 12 [some (.ref 68), some (.int x1), none, none, none, none, none] [.int y] g) : V X m_X12_bound R Z A 0 [some (.ref 68), some (.int x1), none, none, none, none, none] [] h := by
  refine v_aload_n dX12_bound_0 rfl ?_
  refine v_iconst dX12_bound_1 ci_0 ?_
  refine v_putI rfl rfl rfl dX12_bound_2 fl_RX12_103 (Or.inl rfl) kd_68 (ltA hA0 rfl) ?_
  refine v_iload_n dX12_bound_5 rfl ?_
  refine v_iconst dX12_bound_6 ci_1 ?_
  refine v_bipush dX12_bound_7 cb_9 ?_
  exact v_cSI (mt := m_X12_bound) mo_X12_isIn ml_RX12_232 mz_X12_isIn rfl hR hcs (Nat.le_of_ble_eq_true rfl) dX12_bound_9 rfl hM (fun y g hp => (q y g hp))
theorem c_X12_bound_12 {X : CX} {R : Room} {Q : Option Value → AH → Prop} {nx sz mc ms : Nat} {h : AH} {x1 s0 : Int32} (hA0 : 91 ≤ nx) (q : ¬ s0 = 0 → V X m_X12_bound R (ZM X Q nx sz mc ms) (nx, sz, mc, ms) 32 [some (.ref 68), some (.int x1), some (.int ((h.1 68 1) - 1)), some (.int 0), some (.int x1), some (.int 1), none] [] h) (hq : s0 = 0 → Q (some (.int (-1))) h) : V X m_X12_bound R (ZM X Q nx sz mc ms) (nx, sz, mc, ms) 12 [some (.ref 68), some (.int x1), none, none, none, none, none] [.int s0] h := by
  refine v_if_ne (tgt := 17) dX12_bound_12 (by decide) (fun c0 => ?_) (fun c0 => ?_)
  · refine v_aload_n dX12_bound_17 rfl ?_
    refine v_getI dX12_bound_18 fl_RX12_99 kd_68 (ltA hA0 rfl) rfl ?_
    refine v_iconst dX12_bound_21 ci_1 ?_
    refine v_isub dX12_bound_22 ?_
    refine v_istore_n dX12_bound_23 (by decide) (L' := [some (.ref 68), some (.int x1), some (.int ((h.1 68 1) - 1)), none, none, none, none]) rfl ?_
    refine v_iconst dX12_bound_24 ci_0 ?_
    refine v_istore_n dX12_bound_25 (by decide) (L' := [some (.ref 68), some (.int x1), some (.int ((h.1 68 1) - 1)), some (.int 0), none, none, none]) rfl ?_
    refine v_iload_n dX12_bound_26 rfl ?_
    refine v_istore dX12_bound_27 (by decide) (L' := [some (.ref 68), some (.int x1), some (.int ((h.1 68 1) - 1)), some (.int 0), some (.int x1), none, none]) rfl ?_
    refine v_iconst dX12_bound_29 ci_1 ?_
    refine v_istore dX12_bound_30 (by decide) (L' := [some (.ref 68), some (.int x1), some (.int ((h.1 68 1) - 1)), some (.int 0), some (.int x1), some (.int 1), none]) rfl ?_
    exact (q c0)
  · refine v_iconst dX12_bound_15 ci_m1 ?_
    exact v_iret dX12_bound_16 rfl (hq c0)
theorem c_X12_bound_32 {X : CX} {R : Room} {Q : Option Value → AH → Prop} {nx sz mc ms : Nat} {h : AH} {x1 x2 x3 x4 x5 : Int32} {d : Nat} (hA0 : 91 ≤ nx) (hR : RO R (d + 1)) (hcs : mc ≤ R.cells ∧ ms ≤ R.slots) (hq : x2 ≤ 0 → Q (some (.int (x3 + (x2 * (h.1 68 1))))) h) (hq_1 : ¬ x2 ≤ 0 → x4 ≤ 0 → Q (some (.int (x3 + (x2 * (h.1 68 1))))) h) (q : ¬ x2 ≤ 0 → ¬ x4 ≤ 0 → V X m_X12_bound R (ZM X Q nx sz mc ms) (nx, sz, mc, ms) 32 [some (.ref 68), some (.int x1), some (.int (x2 - (if x4 < x2 then x4 else x2))), some (.int (x3 + ((if x4 < x2 then x4 else x2) * x5))), some (.int (x4 * (x1 - 1))), some (.int (x5 + 1)), none] [] h) : V X m_X12_bound R (ZM X Q nx sz mc ms) (nx, sz, mc, ms) 32 [some (.ref 68), some (.int x1), some (.int x2), some (.int x3), some (.int x4), some (.int x5), none] [] h := by
  refine v_iload_n dX12_bound_32 rfl ?_
  refine v_if_le (tgt := 76) dX12_bound_33 (by decide) (fun c0 => ?_) (fun c0 => ?_)
  · refine v_iload_n dX12_bound_76 rfl ?_
    refine v_iload_n dX12_bound_77 rfl ?_
    refine v_aload_n dX12_bound_78 rfl ?_
    refine v_getI dX12_bound_79 fl_RX12_99 kd_68 (ltA hA0 rfl) rfl ?_
    refine v_imul dX12_bound_82 ?_
    refine v_iadd dX12_bound_83 ?_
    exact v_iret dX12_bound_84 rfl (hq c0)
  · refine v_iload dX12_bound_36 rfl ?_
    refine v_if_le (tgt := 76) dX12_bound_38 (by decide) (fun c1 => ?_) (fun c1 => ?_)
    · refine v_iload_n dX12_bound_76 rfl ?_
      refine v_iload_n dX12_bound_77 rfl ?_
      refine v_aload_n dX12_bound_78 rfl ?_
      refine v_getI dX12_bound_79 fl_RX12_99 kd_68 (ltA hA0 rfl) rfl ?_
      refine v_imul dX12_bound_82 ?_
      refine v_iadd dX12_bound_83 ?_
      exact v_iret dX12_bound_84 rfl (hq_1 c0 c1)
    · refine v_iload_n dX12_bound_41 rfl ?_
      refine v_iload dX12_bound_42 rfl ?_
      refine v_mmin dX12_bound_44 ml_RX12_90 mz_mmin in_math mc_mmin (RO_1 hR) hcs (Nat.le_of_ble_eq_true rfl) ?_
      refine v_istore dX12_bound_47 (by decide) (L' := [some (.ref 68), some (.int x1), some (.int x2), some (.int x3), some (.int x4), some (.int x5), some (.int (if x4 < x2 then x4 else x2))]) rfl ?_
      refine v_iload_n dX12_bound_49 rfl ?_
      refine v_iload dX12_bound_50 rfl ?_
      refine v_iload dX12_bound_52 rfl ?_
      refine v_imul dX12_bound_54 ?_
      refine v_iadd dX12_bound_55 ?_
      refine v_istore_n dX12_bound_56 (by decide) (L' := [some (.ref 68), some (.int x1), some (.int x2), some (.int (x3 + ((if x4 < x2 then x4 else x2) * x5))), some (.int x4), some (.int x5), some (.int (if x4 < x2 then x4 else x2))]) rfl ?_
      refine v_iload_n dX12_bound_57 rfl ?_
      refine v_iload dX12_bound_58 rfl ?_
      refine v_isub dX12_bound_60 ?_
      refine v_istore_n dX12_bound_61 (by decide) (L' := [some (.ref 68), some (.int x1), some (.int (x2 - (if x4 < x2 then x4 else x2))), some (.int (x3 + ((if x4 < x2 then x4 else x2) * x5))), some (.int x4), some (.int x5), some (.int (if x4 < x2 then x4 else x2))]) rfl ?_
      refine v_iload dX12_bound_62 rfl ?_
      refine v_iload_n dX12_bound_64 rfl ?_
      refine v_iconst dX12_bound_65 ci_1 ?_
      refine v_isub dX12_bound_66 ?_
      refine v_imul dX12_bound_67 ?_
      refine v_istore dX12_bound_68 (by decide) (L' := [some (.ref 68), some (.int x1), some (.int (x2 - (if x4 < x2 then x4 else x2))), some (.int (x3 + ((if x4 < x2 then x4 else x2) * x5))), some (.int (x4 * (x1 - 1))), some (.int x5), some (.int (if x4 < x2 then x4 else x2))]) rfl ?_
      refine v_iinc (y := (x5 + 1)) dX12_bound_70 rfl rfl (by decide) (L' := [some (.ref 68), some (.int x1), some (.int (x2 - (if x4 < x2 then x4 else x2))), some (.int (x3 + ((if x4 < x2 then x4 else x2) * x5))), some (.int (x4 * (x1 - 1))), some (.int (x5 + 1)), some (.int (if x4 < x2 then x4 else x2))]) rfl ?_
      refine v_goto (tgt := 32) dX12_bound_73 (by decide) ?_
      exact (v_drop (lvLe_s (lvLe_s (lvLe_s (lvLe_s (lvLe_s (lvLe_s (lvLe_n lvLe_e))))))) (q c0 c1))
theorem e_X12_image {X : CX} {d nx sz : Nat} {Q : Option Value → AH → Prop} {h : AH} (q : V X m_X12_image (rm d 0 0) (ZM X Q nx sz 0 0) (nx, sz, 0, 0) 0 [some (.ref 68), none] [] h) : Mk X d m_X12_image [.ref 68] h nx sz Q := by
  refine Mok.ofV mo_X12_image (Nat.le_of_ble_eq_true rfl) (L := [some (.ref 68)]) (lvLe_s lvLe_e) (v_grow (n := 1) ?_)
  exact q
theorem c_X12_image_0 {X : CX} {R : Room} {Z : ZX} {A : AX} {h : AH} (hA0 : 91 ≤ A.1) (q : V X m_X12_image R Z A 7 [some (.ref 68), some (.int 0)] [] (setI h 68 0 0)) : V X m_X12_image R Z A 0 [some (.ref 68), none] [] h := by
  refine v_aload_n dX12_image_0 rfl ?_
  refine v_iconst dX12_image_1 ci_0 ?_
  refine v_putI rfl rfl rfl dX12_image_2 fl_RX12_103 (Or.inl rfl) kd_68 (ltA hA0 rfl) ?_
  refine v_iconst dX12_image_5 ci_0 ?_
  refine v_istore_n dX12_image_6 (by decide) (L' := [some (.ref 68), some (.int 0)]) rfl ?_
  exact q
theorem c_X12_image_7 {X : CX} {R : Room} {Z : ZX} {A : AX} {h : AH} {x1 : Int32} {d : Nat} {P63 : Int32 → AH → Prop} (hA0 : 91 ≤ A.1) (hF : Fx h) (hR : RO R (d + 1)) (hcs : A.2.2.1 ≤ R.cells ∧ A.2.2.2 ≤ R.slots) (hM : (h.1 68 1) ≤ x1 → Mk X d m_X12_ties [.ref 68] (setI h 68 46 1) A.1 A.2.1 (RI P63)) (q : (h.1 68 1) ≤ x1 → ∀ (y : Int32) (g : AH), P63 y g → V X m_X12_image R Z A 66 [none, none] [.int y] g) (hi_25 : ¬ (h.1 68 1) ≤ x1 → vp_in x1 20) (hi_26 : ¬ (h.1 68 1) ≤ x1 → vp_in x1 20) (hi_37 : ¬ (h.1 68 1) ≤ x1 → vp_in x1 20) (hi_38 : ¬ (h.1 68 1) ≤ x1 → vp_in x1 20) (hi_49 : ¬ (h.1 68 1) ≤ x1 → vp_in x1 20) (hi_50 : ¬ (h.1 68 1) ≤ x1 → vp_in x1 20) (q_1 : ¬ (h.1 68 1) ≤ x1 → V X m_X12_image R Z A 7 [some (.ref 68), some (.int (x1 + 1))] [] (setI (setI (setI h 87 x1.toNatClampNeg (h.1 73 x1.toNatClampNeg)) 88 x1.toNatClampNeg (h.1 75 x1.toNatClampNeg)) 89 x1.toNatClampNeg (h.1 76 x1.toNatClampNeg))) : V X m_X12_image R Z A 7 [some (.ref 68), some (.int x1)] [] h := by
  refine v_iload_n dX12_image_7 rfl ?_
  refine v_aload_n dX12_image_8 rfl ?_
  refine v_getI dX12_image_9 fl_RX12_99 kd_68 (ltA hA0 rfl) rfl ?_
  refine v_icmp_ge (tgt := 57) dX12_image_12 (by decide) (fun c0 => ?_) (fun c0 => ?_)
  · refine v_aload_n dX12_image_57 rfl ?_
    refine v_iconst dX12_image_58 ci_1 ?_
    refine v_putI rfl rfl rfl dX12_image_59 fl_RX12_420 (Or.inl rfl) kd_68 (ltA hA0 rfl) ?_
    refine v_aload_n dX12_image_62 rfl ?_
    exact v_cVI (mt := m_X12_image) mo_X12_ties ml_RX12_247 mi_X12_ties mv_X12_ties rfl kd_68 cl_12 rfl (ltA hA0 rfl) hR hcs (Nat.le_of_ble_eq_true rfl) dX12_image_63 rfl (hM c0) (fun y g hp => (v_drop (lvLe_n (lvLe_n lvLe_e)) ((q c0) y g hp)))
  · refine v_aload_n dX12_image_15 rfl ?_
    refine v_getR dX12_image_16 fl_RX12_81 kd_68 (ltA hA0 rfl) rfl (hF 68 43 87 rfl) ?_
    refine v_iload_n dX12_image_19 rfl ?_
    refine v_aload_n dX12_image_20 rfl ?_
    refine v_getR dX12_image_21 fl_RX12_37 kd_68 (ltA hA0 rfl) rfl (hF 68 19 73 rfl) ?_
    refine v_iload_n dX12_image_24 rfl ?_
    refine v_iald dX12_image_25 kd_73 (ltA hA0 rfl) (hi_25 c0) ?_
    refine v_iast dX12_image_26 kd_87 (ltA hA0 rfl) (hi_26 c0) ?_
    refine v_aload_n dX12_image_27 rfl ?_
    refine v_getR dX12_image_28 fl_RX12_84 kd_68 (ltA hA0 rfl) rfl (hF 68 44 88 rfl) ?_
    refine v_iload_n dX12_image_31 rfl ?_
    refine v_aload_n dX12_image_32 rfl ?_
    refine v_getR dX12_image_33 fl_RX12_43 kd_68 (ltA hA0 rfl) rfl (hF 68 21 75 rfl) ?_
    refine v_iload_n dX12_image_36 rfl ?_
    refine v_iald dX12_image_37 kd_75 (ltA hA0 rfl) (hi_37 c0) ?_
    refine v_iast dX12_image_38 kd_88 (ltA hA0 rfl) (hi_38 c0) ?_
    refine v_aload_n dX12_image_39 rfl ?_
    refine v_getR dX12_image_40 fl_RX12_87 kd_68 (ltA hA0 rfl) rfl (hF 68 45 89 rfl) ?_
    refine v_iload_n dX12_image_43 rfl ?_
    refine v_aload_n dX12_image_44 rfl ?_
    refine v_getR dX12_image_45 fl_RX12_46 kd_68 (ltA hA0 rfl) rfl (hF 68 22 76 rfl) ?_
    refine v_iload_n dX12_image_48 rfl ?_
    refine v_iald dX12_image_49 kd_76 (ltA hA0 rfl) (hi_49 c0) ?_
    refine v_iast dX12_image_50 kd_89 (ltA hA0 rfl) (hi_50 c0) ?_
    refine v_iinc (y := (x1 + 1)) dX12_image_51 rfl rfl (by decide) (L' := [some (.ref 68), some (.int (x1 + 1))]) rfl ?_
    refine v_goto (tgt := 7) dX12_image_54 (by decide) ?_
    exact (q_1 c0)
theorem c_X12_image_66 {X : CX} {R : Room} {Q : Option Value → AH → Prop} {nx sz mc ms : Nat} {h : AH} {s0 : Int32} (hq : Q (some (.int s0)) h) : V X m_X12_image R (ZM X Q nx sz mc ms) (nx, sz, mc, ms) 66 [none, none] [.int s0] h := by
  exact v_iret dX12_image_66 rfl hq
theorem e_X12_back {X : CX} {d nx sz : Nat} {Q : Option Value → AH → Prop} {h : AH} (q : V X m_X12_back (rm d 0 0) (ZM X Q nx sz 0 0) (nx, sz, 0, 0) 0 [some (.ref 68), none] [] h) : Mk X d m_X12_back [.ref 68] h nx sz Q := by
  refine Mok.ofV mo_X12_back (Nat.le_of_ble_eq_true rfl) (L := [some (.ref 68)]) (lvLe_s lvLe_e) (v_grow (n := 1) ?_)
  exact q
theorem c_X12_back_0 {X : CX} {R : Room} {Q : Option Value → AH → Prop} {nx sz mc ms : Nat} {h : AH} (hA0 : 91 ≤ nx) (q : ¬ (h.1 68 46) = 0 → V X m_X12_back R (ZM X Q nx sz mc ms) (nx, sz, mc, ms) 16 [some (.ref 68), some (.int 0)] [] (setI h 68 0 0)) (hq : (h.1 68 46) = 0 → Q (some (.int (-1))) (setI h 68 0 0)) : V X m_X12_back R (ZM X Q nx sz mc ms) (nx, sz, mc, ms) 0 [some (.ref 68), none] [] h := by
  refine v_aload_n dX12_back_0 rfl ?_
  refine v_iconst dX12_back_1 ci_0 ?_
  refine v_putI rfl rfl rfl dX12_back_2 fl_RX12_103 (Or.inl rfl) kd_68 (ltA hA0 rfl) ?_
  refine v_aload_n dX12_back_5 rfl ?_
  refine v_getI dX12_back_6 fl_RX12_420 kd_68 (ltA hA0 rfl) rfl ?_
  refine v_if_ne (tgt := 14) dX12_back_9 (by decide) (fun c0 => ?_) (fun c0 => ?_)
  · refine v_iconst dX12_back_14 ci_0 ?_
    refine v_istore_n dX12_back_15 (by decide) (L' := [some (.ref 68), some (.int 0)]) rfl ?_
    exact (q c0)
  · refine v_iconst dX12_back_12 ci_m1 ?_
    exact v_iret dX12_back_13 rfl (hq c0)
theorem c_X12_back_16 {X : CX} {R : Room} {Z : ZX} {A : AX} {h : AH} {x1 : Int32} {d : Nat} {P67 : Int32 → AH → Prop} (hA0 : 91 ≤ A.1) (hF : Fx h) (hR : RO R (d + 1)) (hcs : A.2.2.1 ≤ R.cells ∧ A.2.2.2 ≤ R.slots) (hM : (h.1 68 1) ≤ x1 → Mk X d m_X12_ties [.ref 68] h A.1 A.2.1 (RI P67)) (q : (h.1 68 1) ≤ x1 → ∀ (y : Int32) (g : AH), P67 y g → V X m_X12_back R Z A 70 [none, none] [.int y] g) (hi_34 : ¬ (h.1 68 1) ≤ x1 → vp_in x1 20) (hi_35 : ¬ (h.1 68 1) ≤ x1 → vp_in x1 20) (hi_46 : ¬ (h.1 68 1) ≤ x1 → vp_in x1 20) (hi_47 : ¬ (h.1 68 1) ≤ x1 → vp_in x1 20) (hi_58 : ¬ (h.1 68 1) ≤ x1 → vp_in x1 20) (hi_59 : ¬ (h.1 68 1) ≤ x1 → vp_in x1 20) (q_1 : ¬ (h.1 68 1) ≤ x1 → V X m_X12_back R Z A 16 [some (.ref 68), some (.int (x1 + 1))] [] (setI (setI (setI h 73 x1.toNatClampNeg (h.1 87 x1.toNatClampNeg)) 75 x1.toNatClampNeg (h.1 88 x1.toNatClampNeg)) 76 x1.toNatClampNeg (h.1 89 x1.toNatClampNeg))) : V X m_X12_back R Z A 16 [some (.ref 68), some (.int x1)] [] h := by
  refine v_iload_n dX12_back_16 rfl ?_
  refine v_aload_n dX12_back_17 rfl ?_
  refine v_getI dX12_back_18 fl_RX12_99 kd_68 (ltA hA0 rfl) rfl ?_
  refine v_icmp_ge (tgt := 66) dX12_back_21 (by decide) (fun c0 => ?_) (fun c0 => ?_)
  · refine v_aload_n dX12_back_66 rfl ?_
    exact v_cVI (mt := m_X12_back) mo_X12_ties ml_RX12_247 mi_X12_ties mv_X12_ties rfl kd_68 cl_12 rfl (ltA hA0 rfl) hR hcs (Nat.le_of_ble_eq_true rfl) dX12_back_67 rfl (hM c0) (fun y g hp => (v_drop (lvLe_n (lvLe_n lvLe_e)) ((q c0) y g hp)))
  · refine v_aload_n dX12_back_24 rfl ?_
    refine v_getR dX12_back_25 fl_RX12_37 kd_68 (ltA hA0 rfl) rfl (hF 68 19 73 rfl) ?_
    refine v_iload_n dX12_back_28 rfl ?_
    refine v_aload_n dX12_back_29 rfl ?_
    refine v_getR dX12_back_30 fl_RX12_81 kd_68 (ltA hA0 rfl) rfl (hF 68 43 87 rfl) ?_
    refine v_iload_n dX12_back_33 rfl ?_
    refine v_iald dX12_back_34 kd_87 (ltA hA0 rfl) (hi_34 c0) ?_
    refine v_iast dX12_back_35 kd_73 (ltA hA0 rfl) (hi_35 c0) ?_
    refine v_aload_n dX12_back_36 rfl ?_
    refine v_getR dX12_back_37 fl_RX12_43 kd_68 (ltA hA0 rfl) rfl (hF 68 21 75 rfl) ?_
    refine v_iload_n dX12_back_40 rfl ?_
    refine v_aload_n dX12_back_41 rfl ?_
    refine v_getR dX12_back_42 fl_RX12_84 kd_68 (ltA hA0 rfl) rfl (hF 68 44 88 rfl) ?_
    refine v_iload_n dX12_back_45 rfl ?_
    refine v_iald dX12_back_46 kd_88 (ltA hA0 rfl) (hi_46 c0) ?_
    refine v_iast dX12_back_47 kd_75 (ltA hA0 rfl) (hi_47 c0) ?_
    refine v_aload_n dX12_back_48 rfl ?_
    refine v_getR dX12_back_49 fl_RX12_46 kd_68 (ltA hA0 rfl) rfl (hF 68 22 76 rfl) ?_
    refine v_iload_n dX12_back_52 rfl ?_
    refine v_aload_n dX12_back_53 rfl ?_
    refine v_getR dX12_back_54 fl_RX12_87 kd_68 (ltA hA0 rfl) rfl (hF 68 45 89 rfl) ?_
    refine v_iload_n dX12_back_57 rfl ?_
    refine v_iald dX12_back_58 kd_89 (ltA hA0 rfl) (hi_58 c0) ?_
    refine v_iast dX12_back_59 kd_76 (ltA hA0 rfl) (hi_59 c0) ?_
    refine v_iinc (y := (x1 + 1)) dX12_back_60 rfl rfl (by decide) (L' := [some (.ref 68), some (.int (x1 + 1))]) rfl ?_
    refine v_goto (tgt := 16) dX12_back_63 (by decide) ?_
    exact (q_1 c0)
theorem c_X12_back_70 {X : CX} {R : Room} {Q : Option Value → AH → Prop} {nx sz mc ms : Nat} {h : AH} {s0 : Int32} (hq : Q (some (.int s0)) h) : V X m_X12_back R (ZM X Q nx sz mc ms) (nx, sz, mc, ms) 70 [none, none] [.int s0] h := by
  exact v_iret dX12_back_70 rfl hq
theorem e_X12_isBetter {X : CX} {d nx sz : Nat} {Q : Option Value → AH → Prop} {h : AH} {x0 x1 x2 : Int32} (q : V X m_X12_isBetter (rm d 0 0) (ZM X Q nx sz 0 0) (nx, sz, 0, 0) 0 [some (.int x0), some (.int x1), some (.int x2), none, none, none] [] h) : Mk X d m_X12_isBetter [.int x0, .int x1, .int x2] h nx sz Q := by
  refine Mok.ofV mo_X12_isBetter (Nat.le_of_ble_eq_true rfl) (L := [some (.int x0), some (.int x1), some (.int x2)]) (lvLe_s (lvLe_s (lvLe_s lvLe_e))) (v_grow (n := 3) ?_)
  exact q
theorem c_X12_isBetter_0 {X : CX} {R : Room} {Z : ZX} {A : AX} {h : AH} {x0 x1 x2 : Int32} {d : Nat} {P1 : Int32 → AH → Prop} (hR : RO R (d + 1)) (hcs : A.2.2.1 ≤ R.cells ∧ A.2.2.2 ≤ R.slots) (hM : Mk X d m_J6_bitCount_0f7a4 [.int x0] h A.1 A.2.1 (RI P1)) (q : ∀ (y : Int32) (g : AH), P1 y g → V X m_X12_isBetter R Z A 4 [some (.int x0), some (.int x1), some (.int x2), none, none, none] [.int y] g) : V X m_X12_isBetter R Z A 0 [some (.int x0), some (.int x1), some (.int x2), none, none, none] [] h := by
  refine v_iload_n dX12_isBetter_0 rfl ?_
  exact v_cSI (mt := m_X12_isBetter) mo_J6_bitCount_0f7a4 ml_RX12_224 mz_J6_bitCount_0f7a4 rfl hR hcs (Nat.le_of_ble_eq_true rfl) dX12_isBetter_1 rfl hM (fun y g hp => (q y g hp))
theorem c_X12_isBetter_4 {X : CX} {R : Room} {Z : ZX} {A : AX} {h : AH} {x0 x1 x2 s0 : Int32} {d : Nat} {P6 : Int32 → AH → Prop} (hR : RO R (d + 1)) (hcs : A.2.2.1 ≤ R.cells ∧ A.2.2.2 ≤ R.slots) (hM : Mk X d m_J6_bitCount_0f7a4 [.int x1] h A.1 A.2.1 (RI P6)) (q : ∀ (y : Int32) (g : AH), P6 y g → V X m_X12_isBetter R Z A 9 [some (.int x0), some (.int x1), some (.int x2), some (.int s0), none, none] [.int y] g) : V X m_X12_isBetter R Z A 4 [some (.int x0), some (.int x1), some (.int x2), none, none, none] [.int s0] h := by
  refine v_istore_n dX12_isBetter_4 (by decide) (L' := [some (.int x0), some (.int x1), some (.int x2), some (.int s0), none, none]) rfl ?_
  refine v_iload_n dX12_isBetter_5 rfl ?_
  exact v_cSI (mt := m_X12_isBetter) mo_J6_bitCount_0f7a4 ml_RX12_224 mz_J6_bitCount_0f7a4 rfl hR hcs (Nat.le_of_ble_eq_true rfl) dX12_isBetter_6 rfl hM (fun y g hp => (q y g hp))
theorem c_X12_isBetter_9 {X : CX} {R : Room} {Q : Option Value → AH → Prop} {nx sz mc ms : Nat} {h : AH} {x0 x1 x2 x3 s0 : Int32} (hq : x3 = s0 → ((x0 &&& (x0 ^^^ x1)) &&& (-(x0 ^^^ x1))) = 0 → Q (some (.int 0)) h) (hq_1 : x3 = s0 → ¬ ((x0 &&& (x0 ^^^ x1)) &&& (-(x0 ^^^ x1))) = 0 → Q (some (.int 1)) h) (hq_2 : ¬ x3 = s0 → s0 ≤ x3 → ¬ 0 = x2 → Q (some (.int 0)) h) (hq_3 : ¬ x3 = s0 → s0 ≤ x3 → 0 = x2 → Q (some (.int 1)) h) (hq_4 : ¬ x3 = s0 → ¬ s0 ≤ x3 → ¬ 1 = x2 → Q (some (.int 0)) h) (hq_5 : ¬ x3 = s0 → ¬ s0 ≤ x3 → 1 = x2 → Q (some (.int 1)) h) : V X m_X12_isBetter R (ZM X Q nx sz mc ms) (nx, sz, mc, ms) 9 [some (.int x0), some (.int x1), some (.int x2), some (.int x3), none, none] [.int s0] h := by
  refine v_istore dX12_isBetter_9 (by decide) (L' := [some (.int x0), some (.int x1), some (.int x2), some (.int x3), some (.int s0), none]) rfl ?_
  refine v_iload_n dX12_isBetter_11 rfl ?_
  refine v_iload_n dX12_isBetter_12 rfl ?_
  refine v_ixor dX12_isBetter_13 ?_
  refine v_istore dX12_isBetter_14 (by decide) (L' := [some (.int x0), some (.int x1), some (.int x2), some (.int x3), some (.int s0), some (.int (x0 ^^^ x1))]) rfl ?_
  refine v_iload_n dX12_isBetter_16 rfl ?_
  refine v_iload dX12_isBetter_17 rfl ?_
  refine v_icmp_eq (tgt := 45) dX12_isBetter_19 (by decide) (fun c0 => ?_) (fun c0 => ?_)
  · refine v_iload_n dX12_isBetter_45 rfl ?_
    refine v_iload dX12_isBetter_46 rfl ?_
    refine v_iand dX12_isBetter_48 ?_
    refine v_iload dX12_isBetter_49 rfl ?_
    refine v_ineg dX12_isBetter_51 ?_
    refine v_iand dX12_isBetter_52 ?_
    refine v_if_eq (tgt := 60) dX12_isBetter_53 (by decide) (fun c1 => ?_) (fun c1 => ?_)
    · refine v_iconst dX12_isBetter_60 ci_0 ?_
      exact v_zret (ty := .boolean) dX12_isBetter_61 rfl rfl (hq c0 c1)
    · refine v_iconst dX12_isBetter_56 ci_1 ?_
      refine v_goto (tgt := 61) dX12_isBetter_57 (by decide) ?_
      exact v_zret (ty := .boolean) dX12_isBetter_61 rfl rfl (hq_1 c0 c1)
  · refine v_iload_n dX12_isBetter_22 rfl ?_
    refine v_iload dX12_isBetter_23 rfl ?_
    refine v_icmp_ge (tgt := 32) dX12_isBetter_25 (by decide) (fun c1 => ?_) (fun c1 => ?_)
    · refine v_iconst dX12_isBetter_32 ci_0 ?_
      refine v_iload_n dX12_isBetter_33 rfl ?_
      refine v_icmp_ne (tgt := 41) dX12_isBetter_34 (by decide) (fun c2 => ?_) (fun c2 => ?_)
      · refine v_iconst dX12_isBetter_41 ci_0 ?_
        refine v_goto (tgt := 61) dX12_isBetter_42 (by decide) ?_
        exact v_zret (ty := .boolean) dX12_isBetter_61 rfl rfl (hq_2 c0 c1 c2)
      · refine v_iconst dX12_isBetter_37 ci_1 ?_
        refine v_goto (tgt := 61) dX12_isBetter_38 (by decide) ?_
        exact v_zret (ty := .boolean) dX12_isBetter_61 rfl rfl (hq_3 c0 c1 c2)
    · refine v_iconst dX12_isBetter_28 ci_1 ?_
      refine v_goto (tgt := 33) dX12_isBetter_29 (by decide) ?_
      refine v_iload_n dX12_isBetter_33 rfl ?_
      refine v_icmp_ne (tgt := 41) dX12_isBetter_34 (by decide) (fun c2 => ?_) (fun c2 => ?_)
      · refine v_iconst dX12_isBetter_41 ci_0 ?_
        refine v_goto (tgt := 61) dX12_isBetter_42 (by decide) ?_
        exact v_zret (ty := .boolean) dX12_isBetter_61 rfl rfl (hq_4 c0 c1 c2)
      · refine v_iconst dX12_isBetter_37 ci_1 ?_
        refine v_goto (tgt := 61) dX12_isBetter_38 (by decide) ?_
        exact v_zret (ty := .boolean) dX12_isBetter_61 rfl rfl (hq_5 c0 c1 c2)
theorem e_X12_isSet {X : CX} {d nx sz : Nat} {Q : Option Value → AH → Prop} {h : AH} {x1 x2 : Int32} (q : V X m_X12_isSet (rm d 0 0) (ZM X Q nx sz 0 0) (nx, sz, 0, 0) 0 [some (.ref 68), some (.int x1), some (.int x2), none, none] [] h) : Mk X d m_X12_isSet [.ref 68, .int x1, .int x2] h nx sz Q := by
  refine Mok.ofV mo_X12_isSet (Nat.le_of_ble_eq_true rfl) (L := [some (.ref 68), some (.int x1), some (.int x2)]) (lvLe_s (lvLe_s (lvLe_s lvLe_e))) (v_grow (n := 2) ?_)
  exact q
theorem c_X12_isSet_0 {X : CX} {R : Room} {Z : ZX} {A : AX} {h : AH} {x1 x2 : Int32} (q : V X m_X12_isSet R Z A 2 [some (.ref 68), some (.int x1), some (.int x2), some (.int 0), none] [] h) : V X m_X12_isSet R Z A 0 [some (.ref 68), some (.int x1), some (.int x2), none, none] [] h := by
  refine v_iconst dX12_isSet_0 ci_0 ?_
  refine v_istore_n dX12_isSet_1 (by decide) (L' := [some (.ref 68), some (.int x1), some (.int x2), some (.int 0), none]) rfl ?_
  exact q
theorem c_X12_isSet_2 {X : CX} {R : Room} {Q : Option Value → AH → Prop} {nx sz mc ms : Nat} {h : AH} {x1 x2 x3 : Int32} {d : Nat} {P12 : Int32 → AH → Prop} (hA0 : 91 ≤ nx) (hR : RO R (d + 1)) (hcs : mc ≤ R.cells ∧ ms ≤ R.slots) (hq : (h.1 68 1) ≤ x3 → Q (some (.int 1)) h) (hM : ¬ (h.1 68 1) ≤ x3 → Mk X d m_X12_has [.int x1, .int x3] h nx sz (RI P12)) (q : ¬ (h.1 68 1) ≤ x3 → ∀ (y : Int32) (g : AH), P12 y g → V X m_X12_isSet R (ZM X Q nx sz mc ms) (nx, sz, mc, ms) 15 [some (.ref 68), some (.int x1), some (.int x2), some (.int x3), none] [.int y] g) : V X m_X12_isSet R (ZM X Q nx sz mc ms) (nx, sz, mc, ms) 2 [some (.ref 68), some (.int x1), some (.int x2), some (.int x3), none] [] h := by
  refine v_iload_n dX12_isSet_2 rfl ?_
  refine v_aload_n dX12_isSet_3 rfl ?_
  refine v_getI dX12_isSet_4 fl_RX12_99 kd_68 (ltA hA0 rfl) rfl ?_
  refine v_icmp_ge (tgt := 96) dX12_isSet_7 (by decide) (fun c0 => ?_) (fun c0 => ?_)
  · refine v_iconst dX12_isSet_96 ci_1 ?_
    exact v_zret (ty := .boolean) dX12_isSet_97 rfl rfl (hq c0)
  · refine v_iload_n dX12_isSet_10 rfl ?_
    refine v_iload_n dX12_isSet_11 rfl ?_
    exact v_cSI (mt := m_X12_isSet) mo_X12_has ml_RX12_220 mz_X12_has rfl hR hcs (Nat.le_of_ble_eq_true rfl) dX12_isSet_12 rfl (hM c0) (fun y g hp => ((q c0) y g hp))
theorem c_X12_isSet_15 {X : CX} {R : Room} {Q : Option Value → AH → Prop} {nx sz mc ms : Nat} {h : AH} {x1 x2 x3 s0 : Int32} (hA0 : 91 ≤ nx) (hF : Fx h) (q : ¬ x2 = 0 → V X m_X12_isSet R (ZM X Q nx sz mc ms) (nx, sz, mc, ms) 44 [some (.ref 68), some (.int x1), some (.int x2), some (.int x3), some (.int s0)] [] h) (q_1 : x2 = 0 → s0 = 0 → V X m_X12_isSet R (ZM X Q nx sz mc ms) (nx, sz, mc, ms) 44 [some (.ref 68), some (.int x1), some (.int x2), some (.int x3), some (.int s0)] [] h) (hi_32 : x2 = 0 → ¬ s0 = 0 → vp_in x3 20) (q_2 : x2 = 0 → ¬ s0 = 0 → (x1 &&& ((h.1 73 x3.toNatClampNeg) ^^^ (-1))) = ((1 : Int32) <<< ((x3 : Int32) &&& 31)) → V X m_X12_isSet R (ZM X Q nx sz mc ms) (nx, sz, mc, ms) 44 [some (.ref 68), some (.int x1), some (.int x2), some (.int x3), some (.int s0)] [] h) (hq : x2 = 0 → ¬ s0 = 0 → ¬ (x1 &&& ((h.1 73 x3.toNatClampNeg) ^^^ (-1))) = ((1 : Int32) <<< ((x3 : Int32) &&& 31)) → Q (some (.int 0)) h) : V X m_X12_isSet R (ZM X Q nx sz mc ms) (nx, sz, mc, ms) 15 [some (.ref 68), some (.int x1), some (.int x2), some (.int x3), none] [.int s0] h := by
  refine v_istore dX12_isSet_15 (by decide) (L' := [some (.ref 68), some (.int x1), some (.int x2), some (.int x3), some (.int s0)]) rfl ?_
  refine v_iload_n dX12_isSet_17 rfl ?_
  refine v_if_ne (tgt := 44) dX12_isSet_18 (by decide) (fun c0 => ?_) (fun c0 => ?_)
  · exact (q c0)
  · refine v_iload dX12_isSet_21 rfl ?_
    refine v_if_eq (tgt := 44) dX12_isSet_23 (by decide) (fun c1 => ?_) (fun c1 => ?_)
    · exact (q_1 c0 c1)
    · refine v_iload_n dX12_isSet_26 rfl ?_
      refine v_aload_n dX12_isSet_27 rfl ?_
      refine v_getR dX12_isSet_28 fl_RX12_37 kd_68 (ltA hA0 rfl) rfl (hF 68 19 73 rfl) ?_
      refine v_iload_n dX12_isSet_31 rfl ?_
      refine v_iald dX12_isSet_32 kd_73 (ltA hA0 rfl) (hi_32 c0 c1) ?_
      refine v_iconst dX12_isSet_33 ci_m1 ?_
      refine v_ixor dX12_isSet_34 ?_
      refine v_iand dX12_isSet_35 ?_
      refine v_iconst dX12_isSet_36 ci_1 ?_
      refine v_iload_n dX12_isSet_37 rfl ?_
      refine v_ishl dX12_isSet_38 ?_
      refine v_icmp_eq (tgt := 44) dX12_isSet_39 (by decide) (fun c2 => ?_) (fun c2 => ?_)
      · exact (q_2 c0 c1 c2)
      · refine v_iconst dX12_isSet_42 ci_0 ?_
        exact v_zret (ty := .boolean) dX12_isSet_43 rfl rfl (hq c0 c1 c2)
theorem c_X12_isSet_44 {X : CX} {R : Room} {Q : Option Value → AH → Prop} {nx sz mc ms : Nat} {h : AH} {x1 x2 x3 x4 : Int32} (hA0 : 91 ≤ nx) (hF : Fx h) (q : ¬ x2 = 1 → ¬ x2 = 2 → V X m_X12_isSet R (ZM X Q nx sz mc ms) (nx, sz, mc, ms) 2 [some (.ref 68), some (.int x1), some (.int x2), some (.int (x3 + 1)), none] [] h) (q_1 : ¬ x2 = 1 → x2 = 2 → ¬ x4 = 0 → V X m_X12_isSet R (ZM X Q nx sz mc ms) (nx, sz, mc, ms) 2 [some (.ref 68), some (.int x1), some (.int x2), some (.int (x3 + 1)), none] [] h) (hi_83 : ¬ x2 = 1 → x2 = 2 → x4 = 0 → vp_in x3 20) (q_2 : ¬ x2 = 1 → x2 = 2 → x4 = 0 → ¬ (x1 &&& (h.1 73 x3.toNatClampNeg)) = 0 → V X m_X12_isSet R (ZM X Q nx sz mc ms) (nx, sz, mc, ms) 2 [some (.ref 68), some (.int x1), some (.int x2), some (.int (x3 + 1)), none] [] h) (hq : ¬ x2 = 1 → x2 = 2 → x4 = 0 → (x1 &&& (h.1 73 x3.toNatClampNeg)) = 0 → Q (some (.int 0)) h) (q_3 : x2 = 1 → x4 = 0 → ¬ x2 = 2 → V X m_X12_isSet R (ZM X Q nx sz mc ms) (nx, sz, mc, ms) 2 [some (.ref 68), some (.int x1), some (.int x2), some (.int (x3 + 1)), none] [] h) (q_4 : x2 = 1 → x4 = 0 → x2 = 2 → ¬ x4 = 0 → V X m_X12_isSet R (ZM X Q nx sz mc ms) (nx, sz, mc, ms) 2 [some (.ref 68), some (.int x1), some (.int x2), some (.int (x3 + 1)), none] [] h) (hi_83_1 : x2 = 1 → x4 = 0 → x2 = 2 → x4 = 0 → vp_in x3 20) (q_5 : x2 = 1 → x4 = 0 → x2 = 2 → x4 = 0 → ¬ (x1 &&& (h.1 73 x3.toNatClampNeg)) = 0 → V X m_X12_isSet R (ZM X Q nx sz mc ms) (nx, sz, mc, ms) 2 [some (.ref 68), some (.int x1), some (.int x2), some (.int (x3 + 1)), none] [] h) (hq_1 : x2 = 1 → x4 = 0 → x2 = 2 → x4 = 0 → (x1 &&& (h.1 73 x3.toNatClampNeg)) = 0 → Q (some (.int 0)) h) (hi_60 : x2 = 1 → ¬ x4 = 0 → vp_in x3 20) (q_6 : x2 = 1 → ¬ x4 = 0 → (x1 &&& (h.1 73 x3.toNatClampNeg)) = 0 → ¬ x2 = 2 → V X m_X12_isSet R (ZM X Q nx sz mc ms) (nx, sz, mc, ms) 2 [some (.ref 68), some (.int x1), some (.int x2), some (.int (x3 + 1)), none] [] h) (q_7 : x2 = 1 → ¬ x4 = 0 → (x1 &&& (h.1 73 x3.toNatClampNeg)) = 0 → x2 = 2 → ¬ x4 = 0 → V X m_X12_isSet R (ZM X Q nx sz mc ms) (nx, sz, mc, ms) 2 [some (.ref 68), some (.int x1), some (.int x2), some (.int (x3 + 1)), none] [] h) (hi_83_2 : x2 = 1 → ¬ x4 = 0 → (x1 &&& (h.1 73 x3.toNatClampNeg)) = 0 → x2 = 2 → x4 = 0 → vp_in x3 20) (q_8 : x2 = 1 → ¬ x4 = 0 → (x1 &&& (h.1 73 x3.toNatClampNeg)) = 0 → x2 = 2 → x4 = 0 → ¬ (x1 &&& (h.1 73 x3.toNatClampNeg)) = 0 → V X m_X12_isSet R (ZM X Q nx sz mc ms) (nx, sz, mc, ms) 2 [some (.ref 68), some (.int x1), some (.int x2), some (.int (x3 + 1)), none] [] h) (hq_2 : x2 = 1 → ¬ x4 = 0 → (x1 &&& (h.1 73 x3.toNatClampNeg)) = 0 → x2 = 2 → x4 = 0 → (x1 &&& (h.1 73 x3.toNatClampNeg)) = 0 → Q (some (.int 0)) h) (hq_3 : x2 = 1 → ¬ x4 = 0 → ¬ (x1 &&& (h.1 73 x3.toNatClampNeg)) = 0 → Q (some (.int 0)) h) : V X m_X12_isSet R (ZM X Q nx sz mc ms) (nx, sz, mc, ms) 44 [some (.ref 68), some (.int x1), some (.int x2), some (.int x3), some (.int x4)] [] h := by
  refine v_iload_n dX12_isSet_44 rfl ?_
  refine v_iconst dX12_isSet_45 ci_1 ?_
  refine v_icmp_ne (tgt := 67) dX12_isSet_46 (by decide) (fun c0 => ?_) (fun c0 => ?_)
  · refine v_iload_n dX12_isSet_67 rfl ?_
    refine v_iconst dX12_isSet_68 ci_2 ?_
    refine v_icmp_ne (tgt := 90) dX12_isSet_69 (by decide) (fun c1 => ?_) (fun c1 => ?_)
    · refine v_iinc (y := (x3 + 1)) dX12_isSet_90 rfl rfl (by decide) (L' := [some (.ref 68), some (.int x1), some (.int x2), some (.int (x3 + 1)), some (.int x4)]) rfl ?_
      refine v_goto (tgt := 2) dX12_isSet_93 (by decide) ?_
      exact (v_drop (lvLe_s (lvLe_s (lvLe_s (lvLe_s (lvLe_n lvLe_e))))) (q c0 c1))
    · refine v_iload dX12_isSet_72 rfl ?_
      refine v_if_ne (tgt := 90) dX12_isSet_74 (by decide) (fun c2 => ?_) (fun c2 => ?_)
      · refine v_iinc (y := (x3 + 1)) dX12_isSet_90 rfl rfl (by decide) (L' := [some (.ref 68), some (.int x1), some (.int x2), some (.int (x3 + 1)), some (.int x4)]) rfl ?_
        refine v_goto (tgt := 2) dX12_isSet_93 (by decide) ?_
        exact (v_drop (lvLe_s (lvLe_s (lvLe_s (lvLe_s (lvLe_n lvLe_e))))) (q_1 c0 c1 c2))
      · refine v_iload_n dX12_isSet_77 rfl ?_
        refine v_aload_n dX12_isSet_78 rfl ?_
        refine v_getR dX12_isSet_79 fl_RX12_37 kd_68 (ltA hA0 rfl) rfl (hF 68 19 73 rfl) ?_
        refine v_iload_n dX12_isSet_82 rfl ?_
        refine v_iald dX12_isSet_83 kd_73 (ltA hA0 rfl) (hi_83 c0 c1 c2) ?_
        refine v_iand dX12_isSet_84 ?_
        refine v_if_ne (tgt := 90) dX12_isSet_85 (by decide) (fun c3 => ?_) (fun c3 => ?_)
        · refine v_iinc (y := (x3 + 1)) dX12_isSet_90 rfl rfl (by decide) (L' := [some (.ref 68), some (.int x1), some (.int x2), some (.int (x3 + 1)), some (.int x4)]) rfl ?_
          refine v_goto (tgt := 2) dX12_isSet_93 (by decide) ?_
          exact (v_drop (lvLe_s (lvLe_s (lvLe_s (lvLe_s (lvLe_n lvLe_e))))) (q_2 c0 c1 c2 c3))
        · refine v_iconst dX12_isSet_88 ci_0 ?_
          exact v_zret (ty := .boolean) dX12_isSet_89 rfl rfl (hq c0 c1 c2 c3)
  · refine v_iload dX12_isSet_49 rfl ?_
    refine v_if_eq (tgt := 67) dX12_isSet_51 (by decide) (fun c1 => ?_) (fun c1 => ?_)
    · refine v_iload_n dX12_isSet_67 rfl ?_
      refine v_iconst dX12_isSet_68 ci_2 ?_
      refine v_icmp_ne (tgt := 90) dX12_isSet_69 (by decide) (fun c2 => ?_) (fun c2 => ?_)
      · refine v_iinc (y := (x3 + 1)) dX12_isSet_90 rfl rfl (by decide) (L' := [some (.ref 68), some (.int x1), some (.int x2), some (.int (x3 + 1)), some (.int x4)]) rfl ?_
        refine v_goto (tgt := 2) dX12_isSet_93 (by decide) ?_
        exact (v_drop (lvLe_s (lvLe_s (lvLe_s (lvLe_s (lvLe_n lvLe_e))))) (q_3 c0 c1 c2))
      · refine v_iload dX12_isSet_72 rfl ?_
        refine v_if_ne (tgt := 90) dX12_isSet_74 (by decide) (fun c3 => ?_) (fun c3 => ?_)
        · refine v_iinc (y := (x3 + 1)) dX12_isSet_90 rfl rfl (by decide) (L' := [some (.ref 68), some (.int x1), some (.int x2), some (.int (x3 + 1)), some (.int x4)]) rfl ?_
          refine v_goto (tgt := 2) dX12_isSet_93 (by decide) ?_
          exact (v_drop (lvLe_s (lvLe_s (lvLe_s (lvLe_s (lvLe_n lvLe_e))))) (q_4 c0 c1 c2 c3))
        · refine v_iload_n dX12_isSet_77 rfl ?_
          refine v_aload_n dX12_isSet_78 rfl ?_
          refine v_getR dX12_isSet_79 fl_RX12_37 kd_68 (ltA hA0 rfl) rfl (hF 68 19 73 rfl) ?_
          refine v_iload_n dX12_isSet_82 rfl ?_
          refine v_iald dX12_isSet_83 kd_73 (ltA hA0 rfl) (hi_83_1 c0 c1 c2 c3) ?_
          refine v_iand dX12_isSet_84 ?_
          refine v_if_ne (tgt := 90) dX12_isSet_85 (by decide) (fun c4 => ?_) (fun c4 => ?_)
          · refine v_iinc (y := (x3 + 1)) dX12_isSet_90 rfl rfl (by decide) (L' := [some (.ref 68), some (.int x1), some (.int x2), some (.int (x3 + 1)), some (.int x4)]) rfl ?_
            refine v_goto (tgt := 2) dX12_isSet_93 (by decide) ?_
            exact (v_drop (lvLe_s (lvLe_s (lvLe_s (lvLe_s (lvLe_n lvLe_e))))) (q_5 c0 c1 c2 c3 c4))
          · refine v_iconst dX12_isSet_88 ci_0 ?_
            exact v_zret (ty := .boolean) dX12_isSet_89 rfl rfl (hq_1 c0 c1 c2 c3 c4)
    · refine v_iload_n dX12_isSet_54 rfl ?_
      refine v_aload_n dX12_isSet_55 rfl ?_
      refine v_getR dX12_isSet_56 fl_RX12_37 kd_68 (ltA hA0 rfl) rfl (hF 68 19 73 rfl) ?_
      refine v_iload_n dX12_isSet_59 rfl ?_
      refine v_iald dX12_isSet_60 kd_73 (ltA hA0 rfl) (hi_60 c0 c1) ?_
      refine v_iand dX12_isSet_61 ?_
      refine v_if_eq (tgt := 67) dX12_isSet_62 (by decide) (fun c2 => ?_) (fun c2 => ?_)
      · refine v_iload_n dX12_isSet_67 rfl ?_
        refine v_iconst dX12_isSet_68 ci_2 ?_
        refine v_icmp_ne (tgt := 90) dX12_isSet_69 (by decide) (fun c3 => ?_) (fun c3 => ?_)
        · refine v_iinc (y := (x3 + 1)) dX12_isSet_90 rfl rfl (by decide) (L' := [some (.ref 68), some (.int x1), some (.int x2), some (.int (x3 + 1)), some (.int x4)]) rfl ?_
          refine v_goto (tgt := 2) dX12_isSet_93 (by decide) ?_
          exact (v_drop (lvLe_s (lvLe_s (lvLe_s (lvLe_s (lvLe_n lvLe_e))))) (q_6 c0 c1 c2 c3))
        · refine v_iload dX12_isSet_72 rfl ?_
          refine v_if_ne (tgt := 90) dX12_isSet_74 (by decide) (fun c4 => ?_) (fun c4 => ?_)
          · refine v_iinc (y := (x3 + 1)) dX12_isSet_90 rfl rfl (by decide) (L' := [some (.ref 68), some (.int x1), some (.int x2), some (.int (x3 + 1)), some (.int x4)]) rfl ?_
            refine v_goto (tgt := 2) dX12_isSet_93 (by decide) ?_
            exact (v_drop (lvLe_s (lvLe_s (lvLe_s (lvLe_s (lvLe_n lvLe_e))))) (q_7 c0 c1 c2 c3 c4))
          · refine v_iload_n dX12_isSet_77 rfl ?_
            refine v_aload_n dX12_isSet_78 rfl ?_
            refine v_getR dX12_isSet_79 fl_RX12_37 kd_68 (ltA hA0 rfl) rfl (hF 68 19 73 rfl) ?_
            refine v_iload_n dX12_isSet_82 rfl ?_
            refine v_iald dX12_isSet_83 kd_73 (ltA hA0 rfl) (hi_83_2 c0 c1 c2 c3 c4) ?_
            refine v_iand dX12_isSet_84 ?_
            refine v_if_ne (tgt := 90) dX12_isSet_85 (by decide) (fun c5 => ?_) (fun c5 => ?_)
            · refine v_iinc (y := (x3 + 1)) dX12_isSet_90 rfl rfl (by decide) (L' := [some (.ref 68), some (.int x1), some (.int x2), some (.int (x3 + 1)), some (.int x4)]) rfl ?_
              refine v_goto (tgt := 2) dX12_isSet_93 (by decide) ?_
              exact (v_drop (lvLe_s (lvLe_s (lvLe_s (lvLe_s (lvLe_n lvLe_e))))) (q_8 c0 c1 c2 c3 c4 c5))
            · refine v_iconst dX12_isSet_88 ci_0 ?_
              exact v_zret (ty := .boolean) dX12_isSet_89 rfl rfl (hq_2 c0 c1 c2 c3 c4 c5)
      · refine v_iconst dX12_isSet_65 ci_0 ?_
        exact v_zret (ty := .boolean) dX12_isSet_66 rfl rfl (hq_3 c0 c1 c2)
theorem e_X12_set {X : CX} {d nx sz : Nat} {Q : Option Value → AH → Prop} {h : AH} {x1 : Int32} (q : V X m_X12_set (rm d 0 0) (ZM X Q nx sz 0 0) (nx, sz, 0, 0) 0 [some (.ref 68), some (.int x1), none, none] [] h) : Mk X d m_X12_set [.ref 68, .int x1] h nx sz Q := by
  refine Mok.ofV mo_X12_set (Nat.le_of_ble_eq_true rfl) (L := [some (.ref 68), some (.int x1)]) (lvLe_s (lvLe_s lvLe_e)) (v_grow (n := 2) ?_)
  exact q
theorem c_X12_set_0 {X : CX} {R : Room} {Z : ZX} {A : AX} {h : AH} {x1 : Int32} {d : Nat} {P8 : Int32 → AH → Prop} (hA0 : 91 ≤ A.1) (hR : RO R (d + 1)) (hcs : A.2.2.1 ≤ R.cells ∧ A.2.2.2 ≤ R.slots) (hM : Mk X d m_X12_isIn [.int x1, .int 0, .int 2] (setI h 68 0 0) A.1 A.2.1 (RI P8)) (q : ∀ (y : Int32) (g : AH), P8 y g → V X m_X12_set R Z A 11 [some (.ref 68), some (.int x1), none, none] [.int y] g) : V X m_X12_set R Z A 0 [some (.ref 68), some (.int x1), none, none] [] h := by
  refine v_aload_n dX12_set_0 rfl ?_
  refine v_iconst dX12_set_1 ci_0 ?_
  refine v_putI rfl rfl rfl dX12_set_2 fl_RX12_103 (Or.inl rfl) kd_68 (ltA hA0 rfl) ?_
  refine v_iload_n dX12_set_5 rfl ?_
  refine v_iconst dX12_set_6 ci_0 ?_
  refine v_iconst dX12_set_7 ci_2 ?_
  exact v_cSI (mt := m_X12_set) mo_X12_isIn ml_RX12_232 mz_X12_isIn rfl hR hcs (Nat.le_of_ble_eq_true rfl) dX12_set_8 rfl hM (fun y g hp => (q y g hp))
theorem c_X12_set_11 {X : CX} {R : Room} {Q : Option Value → AH → Prop} {nx sz mc ms : Nat} {h : AH} {x1 s0 : Int32} (hA0 : 91 ≤ nx) (q : ¬ s0 = 0 → ¬ x1 = 2 → V X m_X12_set R (ZM X Q nx sz mc ms) (nx, sz, mc, ms) 36 [some (.ref 68), some (.int x1), some (.int 0), some (.int 0)] [] h) (q_1 : ¬ s0 = 0 → x1 = 2 → V X m_X12_set R (ZM X Q nx sz mc ms) (nx, sz, mc, ms) 36 [some (.ref 68), some (.int x1), some (.int (((1 : Int32) <<< (((h.1 68 1) : Int32) &&& 31)) - 1)), some (.int 0)] [] h) (hq : s0 = 0 → Q (some (.int (-1))) h) : V X m_X12_set R (ZM X Q nx sz mc ms) (nx, sz, mc, ms) 11 [some (.ref 68), some (.int x1), none, none] [.int s0] h := by
  refine v_if_ne (tgt := 16) dX12_set_11 (by decide) (fun c0 => ?_) (fun c0 => ?_)
  · refine v_iload_n dX12_set_16 rfl ?_
    refine v_iconst dX12_set_17 ci_2 ?_
    refine v_icmp_ne (tgt := 32) dX12_set_18 (by decide) (fun c1 => ?_) (fun c1 => ?_)
    · refine v_iconst dX12_set_32 ci_0 ?_
      refine v_istore_n dX12_set_33 (by decide) (L' := [some (.ref 68), some (.int x1), some (.int 0), none]) rfl ?_
      refine v_iconst dX12_set_34 ci_0 ?_
      refine v_istore_n dX12_set_35 (by decide) (L' := [some (.ref 68), some (.int x1), some (.int 0), some (.int 0)]) rfl ?_
      exact (q c0 c1)
    · refine v_iconst dX12_set_21 ci_1 ?_
      refine v_aload_n dX12_set_22 rfl ?_
      refine v_getI dX12_set_23 fl_RX12_99 kd_68 (ltA hA0 rfl) rfl ?_
      refine v_ishl dX12_set_26 ?_
      refine v_iconst dX12_set_27 ci_1 ?_
      refine v_isub dX12_set_28 ?_
      refine v_goto (tgt := 33) dX12_set_29 (by decide) ?_
      refine v_istore_n dX12_set_33 (by decide) (L' := [some (.ref 68), some (.int x1), some (.int (((1 : Int32) <<< (((h.1 68 1) : Int32) &&& 31)) - 1)), none]) rfl ?_
      refine v_iconst dX12_set_34 ci_0 ?_
      refine v_istore_n dX12_set_35 (by decide) (L' := [some (.ref 68), some (.int x1), some (.int (((1 : Int32) <<< (((h.1 68 1) : Int32) &&& 31)) - 1)), some (.int 0)]) rfl ?_
      exact (q_1 c0 c1)
  · refine v_iconst dX12_set_14 ci_m1 ?_
    exact v_iret dX12_set_15 rfl (hq c0)
theorem c_X12_set_36 {X : CX} {R : Room} {Q : Option Value → AH → Prop} {nx sz mc ms : Nat} {h : AH} {x1 x2 x3 : Int32} {d : Nat} {P58 P58_1 : Int32 → AH → Prop} (hA0 : 91 ≤ nx) (hR : RO R (d + 1)) (hcs : mc ≤ R.cells ∧ ms ≤ R.slots) (hq : ((1 : Int32) <<< (((h.1 68 1) : Int32) &&& 31)) ≤ x3 → Q (some (.int x2)) h) (hM : ¬ ((1 : Int32) <<< (((h.1 68 1) : Int32) &&& 31)) ≤ x3 → ¬ x1 = 2 → Mk X d m_X12_isBetter [.int x3, .int x2, .int 0] h nx sz (RI P58)) (q : ¬ ((1 : Int32) <<< (((h.1 68 1) : Int32) &&& 31)) ≤ x3 → ¬ x1 = 2 → ∀ (y : Int32) (g : AH), P58 y g → V X m_X12_set R (ZM X Q nx sz mc ms) (nx, sz, mc, ms) 61 [some (.ref 68), some (.int x1), some (.int x2), some (.int x3)] [.int y] g) (hM_1 : ¬ ((1 : Int32) <<< (((h.1 68 1) : Int32) &&& 31)) ≤ x3 → x1 = 2 → Mk X d m_X12_isBetter [.int x3, .int x2, .int 1] h nx sz (RI P58_1)) (q_1 : ¬ ((1 : Int32) <<< (((h.1 68 1) : Int32) &&& 31)) ≤ x3 → x1 = 2 → ∀ (y : Int32) (g : AH), P58_1 y g → V X m_X12_set R (ZM X Q nx sz mc ms) (nx, sz, mc, ms) 61 [some (.ref 68), some (.int x1), some (.int x2), some (.int x3)] [.int y] g) : V X m_X12_set R (ZM X Q nx sz mc ms) (nx, sz, mc, ms) 36 [some (.ref 68), some (.int x1), some (.int x2), some (.int x3)] [] h := by
  refine v_iload_n dX12_set_36 rfl ?_
  refine v_iconst dX12_set_37 ci_1 ?_
  refine v_aload_n dX12_set_38 rfl ?_
  refine v_getI dX12_set_39 fl_RX12_99 kd_68 (ltA hA0 rfl) rfl ?_
  refine v_ishl dX12_set_42 ?_
  refine v_icmp_ge (tgt := 81) dX12_set_43 (by decide) (fun c0 => ?_) (fun c0 => ?_)
  · refine v_iload_n dX12_set_81 rfl ?_
    exact v_iret dX12_set_82 rfl (hq c0)
  · refine v_iload_n dX12_set_46 rfl ?_
    refine v_iload_n dX12_set_47 rfl ?_
    refine v_iload_n dX12_set_48 rfl ?_
    refine v_iconst dX12_set_49 ci_2 ?_
    refine v_icmp_ne (tgt := 57) dX12_set_50 (by decide) (fun c1 => ?_) (fun c1 => ?_)
    · refine v_iconst dX12_set_57 ci_0 ?_
      exact v_cSI (mt := m_X12_set) mo_X12_isBetter ml_RX12_423 mz_X12_isBetter rfl hR hcs (Nat.le_of_ble_eq_true rfl) dX12_set_58 rfl (hM c0 c1) (fun y g hp => ((q c0 c1) y g hp))
    · refine v_iconst dX12_set_53 ci_1 ?_
      refine v_goto (tgt := 58) dX12_set_54 (by decide) ?_
      exact v_cSI (mt := m_X12_set) mo_X12_isBetter ml_RX12_423 mz_X12_isBetter rfl hR hcs (Nat.le_of_ble_eq_true rfl) dX12_set_58 rfl (hM_1 c0 c1) (fun y g hp => ((q_1 c0 c1) y g hp))
theorem c_X12_set_61 {X : CX} {R : Room} {Z : ZX} {A : AX} {h : AH} {x1 x2 x3 s0 : Int32} {d : Nat} {P67 : Int32 → AH → Prop} (hA0 : 91 ≤ A.1) (hR : RO R (d + 1)) (hcs : A.2.2.1 ≤ R.cells ∧ A.2.2.2 ≤ R.slots) (q : s0 = 0 → V X m_X12_set R Z A 36 [some (.ref 68), some (.int x1), some (.int x2), some (.int (x3 + 1))] [] h) (hM : ¬ s0 = 0 → Mk X d m_X12_isSet [.ref 68, .int x3, .int x1] h A.1 A.2.1 (RI P67)) (q_1 : ¬ s0 = 0 → ∀ (y : Int32) (g : AH), P67 y g → V X m_X12_set R Z A 70 [some (.ref 68), some (.int x1), some (.int x2), some (.int x3)] [.int y] g) : V X m_X12_set R Z A 61 [some (.ref 68), some (.int x1), some (.int x2), some (.int x3)] [.int s0] h := by
  refine v_if_eq (tgt := 75) dX12_set_61 (by decide) (fun c0 => ?_) (fun c0 => ?_)
  · refine v_iinc (y := (x3 + 1)) dX12_set_75 rfl rfl (by decide) (L' := [some (.ref 68), some (.int x1), some (.int x2), some (.int (x3 + 1))]) rfl ?_
    refine v_goto (tgt := 36) dX12_set_78 (by decide) ?_
    exact (q c0)
  · refine v_aload_n dX12_set_64 rfl ?_
    refine v_iload_n dX12_set_65 rfl ?_
    refine v_iload_n dX12_set_66 rfl ?_
    exact v_cVI (mt := m_X12_set) mo_X12_isSet ml_RX12_427 mi_X12_isSet mv_X12_isSet rfl kd_68 cl_12 rfl (ltA hA0 rfl) hR hcs (Nat.le_of_ble_eq_true rfl) dX12_set_67 rfl (hM c0) (fun y g hp => ((q_1 c0) y g hp))
theorem c_X12_set_70 {X : CX} {R : Room} {Z : ZX} {A : AX} {h : AH} {x1 x2 x3 s0 : Int32} (q : s0 = 0 → V X m_X12_set R Z A 36 [some (.ref 68), some (.int x1), some (.int x2), some (.int (x3 + 1))] [] h) (q_1 : ¬ s0 = 0 → V X m_X12_set R Z A 36 [some (.ref 68), some (.int x1), some (.int x3), some (.int (x3 + 1))] [] h) : V X m_X12_set R Z A 70 [some (.ref 68), some (.int x1), some (.int x2), some (.int x3)] [.int s0] h := by
  refine v_if_eq (tgt := 75) dX12_set_70 (by decide) (fun c0 => ?_) (fun c0 => ?_)
  · refine v_iinc (y := (x3 + 1)) dX12_set_75 rfl rfl (by decide) (L' := [some (.ref 68), some (.int x1), some (.int x2), some (.int (x3 + 1))]) rfl ?_
    refine v_goto (tgt := 36) dX12_set_78 (by decide) ?_
    exact (q c0)
  · refine v_iload_n dX12_set_73 rfl ?_
    refine v_istore_n dX12_set_74 (by decide) (L' := [some (.ref 68), some (.int x1), some (.int x3), some (.int x3)]) rfl ?_
    refine v_iinc (y := (x3 + 1)) dX12_set_75 rfl rfl (by decide) (L' := [some (.ref 68), some (.int x1), some (.int x3), some (.int (x3 + 1))]) rfl ?_
    refine v_goto (tgt := 36) dX12_set_78 (by decide) ?_
    exact (q_1 c0)
theorem e_X12_areSome {X : CX} {d nx sz : Nat} {Q : Option Value → AH → Prop} {h : AH} {x1 : Int32} (q : V X m_X12_areSome (rm d 0 0) (ZM X Q nx sz 0 0) (nx, sz, 0, 0) 0 [some (.ref 68), some (.int x1)] [] h) : Mk X d m_X12_areSome [.ref 68, .int x1] h nx sz Q := by
  refine Mok.ofV mo_X12_areSome (Nat.le_of_ble_eq_true rfl) (L := [some (.ref 68), some (.int x1)]) (lvLe_s (lvLe_s lvLe_e)) (v_grow (n := 0) ?_)
  exact q
theorem c_X12_areSome_0 {X : CX} {R : Room} {Q : Option Value → AH → Prop} {nx sz mc ms : Nat} {h : AH} {x1 : Int32} (hA0 : 91 ≤ nx) (hq : x1 ≤ 0 → Q (some (.int 0)) h) (hq_1 : ¬ x1 ≤ 0 → ((1 : Int32) <<< (((h.1 68 1) : Int32) &&& 31)) ≤ x1 → Q (some (.int 0)) h) (hq_2 : ¬ x1 ≤ 0 → ¬ ((1 : Int32) <<< (((h.1 68 1) : Int32) &&& 31)) ≤ x1 → Q (some (.int 1)) h) : V X m_X12_areSome R (ZM X Q nx sz mc ms) (nx, sz, mc, ms) 0 [some (.ref 68), some (.int x1)] [] h := by
  refine v_iload_n dX12_areSome_0 rfl ?_
  refine v_if_le (tgt := 18) dX12_areSome_1 (by decide) (fun c0 => ?_) (fun c0 => ?_)
  · refine v_iconst dX12_areSome_18 ci_0 ?_
    exact v_zret (ty := .boolean) dX12_areSome_19 rfl rfl (hq c0)
  · refine v_iload_n dX12_areSome_4 rfl ?_
    refine v_iconst dX12_areSome_5 ci_1 ?_
    refine v_aload_n dX12_areSome_6 rfl ?_
    refine v_getI dX12_areSome_7 fl_RX12_99 kd_68 (ltA hA0 rfl) rfl ?_
    refine v_ishl dX12_areSome_10 ?_
    refine v_icmp_ge (tgt := 18) dX12_areSome_11 (by decide) (fun c1 => ?_) (fun c1 => ?_)
    · refine v_iconst dX12_areSome_18 ci_0 ?_
      exact v_zret (ty := .boolean) dX12_areSome_19 rfl rfl (hq_1 c0 c1)
    · refine v_iconst dX12_areSome_14 ci_1 ?_
      refine v_goto (tgt := 19) dX12_areSome_15 (by decide) ?_
      exact v_zret (ty := .boolean) dX12_areSome_19 rfl rfl (hq_2 c0 c1)
theorem e_X12_word {X : CX} {d nx sz : Nat} {Q : Option Value → AH → Prop} {h : AH} {x1 x2 : Int32} (q : V X m_X12_word (rm d 0 0) (ZM X Q nx sz 0 0) (nx, sz, 0, 0) 0 [some (.ref 68), some (.int x1), some (.int x2), none, none] [] h) : Mk X d m_X12_word [.ref 68, .int x1, .int x2] h nx sz Q := by
  refine Mok.ofV mo_X12_word (Nat.le_of_ble_eq_true rfl) (L := [some (.ref 68), some (.int x1), some (.int x2)]) (lvLe_s (lvLe_s (lvLe_s lvLe_e))) (v_grow (n := 2) ?_)
  exact q
theorem c_X12_word_0 {X : CX} {R : Room} {Z : ZX} {A : AX} {h : AH} {x1 x2 : Int32} {d : Nat} {P7 : Int32 → AH → Prop} (hA0 : 91 ≤ A.1) (hR : RO R (d + 1)) (hcs : A.2.2.1 ≤ R.cells ∧ A.2.2.2 ≤ R.slots) (hM : Mk X d m_X12_areSome [.ref 68, .int x1] (setI h 68 0 0) A.1 A.2.1 (RI P7)) (q : ∀ (y : Int32) (g : AH), P7 y g → V X m_X12_word R Z A 10 [some (.ref 68), some (.int x1), some (.int x2), none, none] [.int y] g) : V X m_X12_word R Z A 0 [some (.ref 68), some (.int x1), some (.int x2), none, none] [] h := by
  refine v_aload_n dX12_word_0 rfl ?_
  refine v_iconst dX12_word_1 ci_0 ?_
  refine v_putI rfl rfl rfl dX12_word_2 fl_RX12_103 (Or.inl rfl) kd_68 (ltA hA0 rfl) ?_
  refine v_aload_n dX12_word_5 rfl ?_
  refine v_iload_n dX12_word_6 rfl ?_
  exact v_cVI (mt := m_X12_word) mo_X12_areSome ml_RX12_430 mi_X12_areSome mv_X12_areSome rfl kd_68 cl_12 rfl (ltA hA0 rfl) hR hcs (Nat.le_of_ble_eq_true rfl) dX12_word_7 rfl hM (fun y g hp => (q y g hp))
theorem c_X12_word_10 {X : CX} {R : Room} {Q : Option Value → AH → Prop} {nx sz mc ms : Nat} {h : AH} {x1 x2 s0 : Int32} {d : Nat} {P17 : Int32 → AH → Prop} (hR : RO R (d + 1)) (hcs : mc ≤ R.cells ∧ ms ≤ R.slots) (hq : s0 = 0 → Q (some (.int (-1))) h) (hM : ¬ s0 = 0 → Mk X d m_X12_isIn [.int x2, .int 0, .int 20] h nx sz (RI P17)) (q : ¬ s0 = 0 → ∀ (y : Int32) (g : AH), P17 y g → V X m_X12_word R (ZM X Q nx sz mc ms) (nx, sz, mc, ms) 20 [some (.ref 68), some (.int x1), some (.int x2), none, none] [.int y] g) : V X m_X12_word R (ZM X Q nx sz mc ms) (nx, sz, mc, ms) 10 [some (.ref 68), some (.int x1), some (.int x2), none, none] [.int s0] h := by
  refine v_if_eq (tgt := 23) dX12_word_10 (by decide) (fun c0 => ?_) (fun c0 => ?_)
  · refine v_iconst dX12_word_23 ci_m1 ?_
    exact v_iret dX12_word_24 rfl (hq c0)
  · refine v_iload_n dX12_word_13 rfl ?_
    refine v_iconst dX12_word_14 ci_0 ?_
    refine v_bipush dX12_word_15 cb_20 ?_
    exact v_cSI (mt := m_X12_word) mo_X12_isIn ml_RX12_232 mz_X12_isIn rfl hR hcs (Nat.le_of_ble_eq_true rfl) dX12_word_17 rfl (hM c0) (fun y g hp => ((q c0) y g hp))
theorem c_X12_word_20 {X : CX} {R : Room} {Q : Option Value → AH → Prop} {nx sz mc ms : Nat} {h : AH} {x1 x2 s0 : Int32} (q : ¬ s0 = 0 → V X m_X12_word R (ZM X Q nx sz mc ms) (nx, sz, mc, ms) 30 [some (.ref 68), none, some (.int x2), some (.int x1), some (.int 0)] [] h) (hq : s0 = 0 → Q (some (.int (-1))) h) : V X m_X12_word R (ZM X Q nx sz mc ms) (nx, sz, mc, ms) 20 [some (.ref 68), some (.int x1), some (.int x2), none, none] [.int s0] h := by
  refine v_if_ne (tgt := 25) dX12_word_20 (by decide) (fun c0 => ?_) (fun c0 => ?_)
  · refine v_iload_n dX12_word_25 rfl ?_
    refine v_istore_n dX12_word_26 (by decide) (L' := [some (.ref 68), some (.int x1), some (.int x2), some (.int x1), none]) rfl ?_
    refine v_iconst dX12_word_27 ci_0 ?_
    refine v_istore dX12_word_28 (by decide) (L' := [some (.ref 68), some (.int x1), some (.int x2), some (.int x1), some (.int 0)]) rfl ?_
    exact (v_drop (lvLe_s (lvLe_n (lvLe_s (lvLe_s (lvLe_s lvLe_e))))) (q c0))
  · refine v_iconst dX12_word_23 ci_m1 ?_
    exact v_iret dX12_word_24 rfl (hq c0)
theorem c_X12_word_30 {X : CX} {R : Room} {Q : Option Value → AH → Prop} {nx sz mc ms : Nat} {h : AH} {x2 x3 x4 : Int32} {d : Nat} {P40 : Int32 → AH → Prop} (hA0 : 91 ≤ nx) (hR : RO R (d + 1)) (hcs : mc ≤ R.cells ∧ ms ≤ R.slots) (hq : x2 ≤ x4 → Q (some (.int x3)) h) (hM : ¬ x2 ≤ x4 → Mk X d m_X12_around [.ref 68, .int x3, .int 0] h nx sz (RI P40)) (q : ¬ x2 ≤ x4 → ∀ (y : Int32) (g : AH), P40 y g → V X m_X12_word R (ZM X Q nx sz mc ms) (nx, sz, mc, ms) 43 [some (.ref 68), none, some (.int x2), none, some (.int x4)] [.int y, .int x3] g) : V X m_X12_word R (ZM X Q nx sz mc ms) (nx, sz, mc, ms) 30 [some (.ref 68), none, some (.int x2), some (.int x3), some (.int x4)] [] h := by
  refine v_iload dX12_word_30 rfl ?_
  refine v_iload_n dX12_word_32 rfl ?_
  refine v_icmp_ge (tgt := 51) dX12_word_33 (by decide) (fun c0 => ?_) (fun c0 => ?_)
  · refine v_iload_n dX12_word_51 rfl ?_
    exact v_iret dX12_word_52 rfl (hq c0)
  · refine v_iload_n dX12_word_36 rfl ?_
    refine v_aload_n dX12_word_37 rfl ?_
    refine v_iload_n dX12_word_38 rfl ?_
    refine v_iconst dX12_word_39 ci_0 ?_
    exact v_cVI (mt := m_X12_word) mo_X12_around ml_RX12_265 mi_X12_around mv_X12_around rfl kd_68 cl_12 rfl (ltA hA0 rfl) hR hcs (Nat.le_of_ble_eq_true rfl) dX12_word_40 rfl (hM c0) (fun y g hp => (v_drop (lvLe_s (lvLe_n (lvLe_s (lvLe_n (lvLe_s lvLe_e))))) ((q c0) y g hp)))
theorem c_X12_word_43 {X : CX} {R : Room} {Z : ZX} {A : AX} {h : AH} {x2 x4 s0 s1 : Int32} (q : V X m_X12_word R Z A 30 [some (.ref 68), none, some (.int x2), some (.int (s0 ||| s1)), some (.int (x4 + 1))] [] h) : V X m_X12_word R Z A 43 [some (.ref 68), none, some (.int x2), none, some (.int x4)] [.int s1, .int s0] h := by
  refine v_ior dX12_word_43 ?_
  refine v_istore_n dX12_word_44 (by decide) (L' := [some (.ref 68), none, some (.int x2), some (.int (s0 ||| s1)), some (.int x4)]) rfl ?_
  refine v_iinc (y := (x4 + 1)) dX12_word_45 rfl rfl (by decide) (L' := [some (.ref 68), none, some (.int x2), some (.int (s0 ||| s1)), some (.int (x4 + 1))]) rfl ?_
  refine v_goto (tgt := 30) dX12_word_48 (by decide) ?_
  exact q
theorem e_X12_outFrom {X : CX} {d nx sz : Nat} {Q : Option Value → AH → Prop} {h : AH} {x1 : Int32} (q : V X m_X12_outFrom (rm d 0 0) (ZM X Q nx sz 0 0) (nx, sz, 0, 0) 0 [some (.ref 68), some (.int x1), none, none, none] [] h) : Mk X d m_X12_outFrom [.ref 68, .int x1] h nx sz Q := by
  refine Mok.ofV mo_X12_outFrom (Nat.le_of_ble_eq_true rfl) (L := [some (.ref 68), some (.int x1)]) (lvLe_s (lvLe_s lvLe_e)) (v_grow (n := 3) ?_)
  exact q
theorem c_X12_outFrom_0 {X : CX} {R : Room} {Z : ZX} {A : AX} {h : AH} {x1 : Int32} (q : V X m_X12_outFrom R Z A 4 [some (.ref 68), none, some (.int x1), some (.int 0), none] [] h) : V X m_X12_outFrom R Z A 0 [some (.ref 68), some (.int x1), none, none, none] [] h := by
  refine v_iload_n dX12_outFrom_0 rfl ?_
  refine v_istore_n dX12_outFrom_1 (by decide) (L' := [some (.ref 68), some (.int x1), some (.int x1), none, none]) rfl ?_
  refine v_iconst dX12_outFrom_2 ci_0 ?_
  refine v_istore_n dX12_outFrom_3 (by decide) (L' := [some (.ref 68), some (.int x1), some (.int x1), some (.int 0), none]) rfl ?_
  exact (v_drop (lvLe_s (lvLe_n (lvLe_s (lvLe_s (lvLe_n lvLe_e))))) q)
theorem c_X12_outFrom_4 {X : CX} {R : Room} {Q : Option Value → AH → Prop} {nx sz mc ms : Nat} {h : AH} {x2 x3 : Int32} {d : Nat} {P16 : Int32 → AH → Prop} (hA0 : 91 ≤ nx) (hR : RO R (d + 1)) (hcs : mc ≤ R.cells ∧ ms ≤ R.slots) (hq : (h.1 68 1) < x3 → Q (some (.int (-1))) h) (hM : ¬ (h.1 68 1) < x3 → Mk X d m_X12_around [.ref 68, .int x2, .int 0] h nx sz (RI P16)) (q : ¬ (h.1 68 1) < x3 → ∀ (y : Int32) (g : AH), P16 y g → V X m_X12_outFrom R (ZM X Q nx sz mc ms) (nx, sz, mc, ms) 19 [some (.ref 68), none, some (.int x2), some (.int x3), none] [.int y, .int x2] g) : V X m_X12_outFrom R (ZM X Q nx sz mc ms) (nx, sz, mc, ms) 4 [some (.ref 68), none, some (.int x2), some (.int x3), none] [] h := by
  refine v_iload_n dX12_outFrom_4 rfl ?_
  refine v_aload_n dX12_outFrom_5 rfl ?_
  refine v_getI dX12_outFrom_6 fl_RX12_99 kd_68 (ltA hA0 rfl) rfl ?_
  refine v_icmp_gt (tgt := 39) dX12_outFrom_9 (by decide) (fun c0 => ?_) (fun c0 => ?_)
  · refine v_iconst dX12_outFrom_39 ci_m1 ?_
    exact v_iret dX12_outFrom_40 rfl (hq c0)
  · refine v_iload_n dX12_outFrom_12 rfl ?_
    refine v_aload_n dX12_outFrom_13 rfl ?_
    refine v_iload_n dX12_outFrom_14 rfl ?_
    refine v_iconst dX12_outFrom_15 ci_0 ?_
    exact v_cVI (mt := m_X12_outFrom) mo_X12_around ml_RX12_265 mi_X12_around mv_X12_around rfl kd_68 cl_12 rfl (ltA hA0 rfl) hR hcs (Nat.le_of_ble_eq_true rfl) dX12_outFrom_16 rfl (hM c0) (fun y g hp => ((q c0) y g hp))
theorem c_X12_outFrom_19 {X : CX} {R : Room} {Q : Option Value → AH → Prop} {nx sz mc ms : Nat} {h : AH} {x2 x3 s0 s1 : Int32} (q : ¬ (s0 ||| s1) = x2 → V X m_X12_outFrom R (ZM X Q nx sz mc ms) (nx, sz, mc, ms) 4 [some (.ref 68), none, some (.int (s0 ||| s1)), some (.int (x3 + 1)), none] [] h) (hq : (s0 ||| s1) = x2 → Q (some (.int x3)) h) : V X m_X12_outFrom R (ZM X Q nx sz mc ms) (nx, sz, mc, ms) 19 [some (.ref 68), none, some (.int x2), some (.int x3), none] [.int s1, .int s0] h := by
  refine v_ior dX12_outFrom_19 ?_
  refine v_istore dX12_outFrom_20 (by decide) (L' := [some (.ref 68), none, some (.int x2), some (.int x3), some (.int (s0 ||| s1))]) rfl ?_
  refine v_iload dX12_outFrom_22 rfl ?_
  refine v_iload_n dX12_outFrom_24 rfl ?_
  refine v_icmp_ne (tgt := 30) dX12_outFrom_25 (by decide) (fun c0 => ?_) (fun c0 => ?_)
  · refine v_iload dX12_outFrom_30 rfl ?_
    refine v_istore_n dX12_outFrom_32 (by decide) (L' := [some (.ref 68), none, some (.int (s0 ||| s1)), some (.int x3), some (.int (s0 ||| s1))]) rfl ?_
    refine v_iinc (y := (x3 + 1)) dX12_outFrom_33 rfl rfl (by decide) (L' := [some (.ref 68), none, some (.int (s0 ||| s1)), some (.int (x3 + 1)), some (.int (s0 ||| s1))]) rfl ?_
    refine v_goto (tgt := 4) dX12_outFrom_36 (by decide) ?_
    exact (v_drop (lvLe_s (lvLe_n (lvLe_s (lvLe_s (lvLe_n lvLe_e))))) (q c0))
  · refine v_iload_n dX12_outFrom_28 rfl ?_
    exact v_iret dX12_outFrom_29 rfl (hq c0)
theorem e_X12_out {X : CX} {d nx sz : Nat} {Q : Option Value → AH → Prop} {h : AH} {x1 : Int32} (q : V X m_X12_out (rm d 0 0) (ZM X Q nx sz 0 0) (nx, sz, 0, 0) 0 [some (.ref 68), some (.int x1)] [] h) : Mk X d m_X12_out [.ref 68, .int x1] h nx sz Q := by
  refine Mok.ofV mo_X12_out (Nat.le_of_ble_eq_true rfl) (L := [some (.ref 68), some (.int x1)]) (lvLe_s (lvLe_s lvLe_e)) (v_grow (n := 0) ?_)
  exact q
theorem c_X12_out_0 {X : CX} {R : Room} {Z : ZX} {A : AX} {h : AH} {x1 : Int32} {d : Nat} {P7 : Int32 → AH → Prop} (hA0 : 91 ≤ A.1) (hR : RO R (d + 1)) (hcs : A.2.2.1 ≤ R.cells ∧ A.2.2.2 ≤ R.slots) (hM : Mk X d m_X12_areSome [.ref 68, .int x1] (setI h 68 0 0) A.1 A.2.1 (RI P7)) (q : ∀ (y : Int32) (g : AH), P7 y g → V X m_X12_out R Z A 10 [some (.ref 68), some (.int x1)] [.int y] g) : V X m_X12_out R Z A 0 [some (.ref 68), some (.int x1)] [] h := by
  refine v_aload_n dX12_out_0 rfl ?_
  refine v_iconst dX12_out_1 ci_0 ?_
  refine v_putI rfl rfl rfl dX12_out_2 fl_RX12_103 (Or.inl rfl) kd_68 (ltA hA0 rfl) ?_
  refine v_aload_n dX12_out_5 rfl ?_
  refine v_iload_n dX12_out_6 rfl ?_
  exact v_cVI (mt := m_X12_out) mo_X12_areSome ml_RX12_430 mi_X12_areSome mv_X12_areSome rfl kd_68 cl_12 rfl (ltA hA0 rfl) hR hcs (Nat.le_of_ble_eq_true rfl) dX12_out_7 rfl hM (fun y g hp => (q y g hp))
theorem c_X12_out_10 {X : CX} {R : Room} {Q : Option Value → AH → Prop} {nx sz mc ms : Nat} {h : AH} {x1 s0 : Int32} {d : Nat} {P15 : Int32 → AH → Prop} (hA0 : 91 ≤ nx) (hR : RO R (d + 1)) (hcs : mc ≤ R.cells ∧ ms ≤ R.slots) (hq : s0 = 0 → Q (some (.int (-1))) h) (hM : ¬ s0 = 0 → Mk X d m_X12_outFrom [.ref 68, .int x1] h nx sz (RI P15)) (q : ¬ s0 = 0 → ∀ (y : Int32) (g : AH), P15 y g → V X m_X12_out R (ZM X Q nx sz mc ms) (nx, sz, mc, ms) 18 [none, none] [.int y] g) : V X m_X12_out R (ZM X Q nx sz mc ms) (nx, sz, mc, ms) 10 [some (.ref 68), some (.int x1)] [.int s0] h := by
  refine v_if_eq (tgt := 21) dX12_out_10 (by decide) (fun c0 => ?_) (fun c0 => ?_)
  · refine v_iconst dX12_out_21 ci_m1 ?_
    exact v_iret dX12_out_22 rfl (hq c0)
  · refine v_aload_n dX12_out_13 rfl ?_
    refine v_iload_n dX12_out_14 rfl ?_
    exact v_cVI (mt := m_X12_out) mo_X12_outFrom ml_RX12_433 mi_X12_outFrom mv_X12_outFrom rfl kd_68 cl_12 rfl (ltA hA0 rfl) hR hcs (Nat.le_of_ble_eq_true rfl) dX12_out_15 rfl (hM c0) (fun y g hp => (v_drop (lvLe_n (lvLe_n lvLe_e)) ((q c0) y g hp)))
theorem c_X12_out_18 {X : CX} {R : Room} {Q : Option Value → AH → Prop} {nx sz mc ms : Nat} {h : AH} {s0 : Int32} (hq : Q (some (.int s0)) h) : V X m_X12_out R (ZM X Q nx sz mc ms) (nx, sz, mc, ms) 18 [none, none] [.int s0] h := by
  refine v_goto (tgt := 22) dX12_out_18 (by decide) ?_
  exact v_iret dX12_out_22 rfl hq
theorem e_X12_heardFrom {X : CX} {d nx sz : Nat} {Q : Option Value → AH → Prop} {h : AH} {x1 : Int32} (q : V X m_X12_heardFrom (rm d 0 0) (ZM X Q nx sz 0 0) (nx, sz, 0, 0) 0 [some (.ref 68), some (.int x1), none, none] [] h) : Mk X d m_X12_heardFrom [.ref 68, .int x1] h nx sz Q := by
  refine Mok.ofV mo_X12_heardFrom (Nat.le_of_ble_eq_true rfl) (L := [some (.ref 68), some (.int x1)]) (lvLe_s (lvLe_s lvLe_e)) (v_grow (n := 2) ?_)
  exact q
theorem c_X12_heardFrom_0 {X : CX} {R : Room} {Z : ZX} {A : AX} {h : AH} {x1 : Int32} (q : V X m_X12_heardFrom R Z A 4 [some (.ref 68), none, some (.int x1), some (.int 0)] [] h) : V X m_X12_heardFrom R Z A 0 [some (.ref 68), some (.int x1), none, none] [] h := by
  refine v_iload_n dX12_heardFrom_0 rfl ?_
  refine v_istore_n dX12_heardFrom_1 (by decide) (L' := [some (.ref 68), some (.int x1), some (.int x1), none]) rfl ?_
  refine v_iconst dX12_heardFrom_2 ci_0 ?_
  refine v_istore_n dX12_heardFrom_3 (by decide) (L' := [some (.ref 68), some (.int x1), some (.int x1), some (.int 0)]) rfl ?_
  exact (v_drop (lvLe_s (lvLe_n (lvLe_s (lvLe_s lvLe_e)))) q)
theorem c_X12_heardFrom_4 {X : CX} {R : Room} {Z : ZX} {A : AX} {h : AH} {x2 x3 : Int32} {d : Nat} {P28 P16 : Int32 → AH → Prop} (hA0 : 91 ≤ A.1) (hR : RO R (d + 1)) (hcs : A.2.2.1 ≤ R.cells ∧ A.2.2.2 ≤ R.slots) (hM : (h.1 68 1) ≤ x3 → Mk X d m_J6_bitCount_0f7a4 [.int x2] h A.1 A.2.1 (RI P28)) (q : (h.1 68 1) ≤ x3 → ∀ (y : Int32) (g : AH), P28 y g → V X m_X12_heardFrom R Z A 31 [none, none, none, none] [.int y] g) (hM_1 : ¬ (h.1 68 1) ≤ x3 → Mk X d m_X12_around [.ref 68, .int x2, .int 0] h A.1 A.2.1 (RI P16)) (q_1 : ¬ (h.1 68 1) ≤ x3 → ∀ (y : Int32) (g : AH), P16 y g → V X m_X12_heardFrom R Z A 19 [some (.ref 68), none, none, some (.int x3)] [.int y, .int x2] g) : V X m_X12_heardFrom R Z A 4 [some (.ref 68), none, some (.int x2), some (.int x3)] [] h := by
  refine v_iload_n dX12_heardFrom_4 rfl ?_
  refine v_aload_n dX12_heardFrom_5 rfl ?_
  refine v_getI dX12_heardFrom_6 fl_RX12_99 kd_68 (ltA hA0 rfl) rfl ?_
  refine v_icmp_ge (tgt := 27) dX12_heardFrom_9 (by decide) (fun c0 => ?_) (fun c0 => ?_)
  · refine v_iload_n dX12_heardFrom_27 rfl ?_
    exact v_cSI (mt := m_X12_heardFrom) mo_J6_bitCount_0f7a4 ml_RX12_224 mz_J6_bitCount_0f7a4 rfl hR hcs (Nat.le_of_ble_eq_true rfl) dX12_heardFrom_28 rfl (hM c0) (fun y g hp => (v_drop (lvLe_n (lvLe_n (lvLe_n (lvLe_n lvLe_e)))) ((q c0) y g hp)))
  · refine v_iload_n dX12_heardFrom_12 rfl ?_
    refine v_aload_n dX12_heardFrom_13 rfl ?_
    refine v_iload_n dX12_heardFrom_14 rfl ?_
    refine v_iconst dX12_heardFrom_15 ci_0 ?_
    exact v_cVI (mt := m_X12_heardFrom) mo_X12_around ml_RX12_265 mi_X12_around mv_X12_around rfl kd_68 cl_12 rfl (ltA hA0 rfl) hR hcs (Nat.le_of_ble_eq_true rfl) dX12_heardFrom_16 rfl (hM_1 c0) (fun y g hp => (v_drop (lvLe_s (lvLe_n (lvLe_n (lvLe_s lvLe_e)))) ((q_1 c0) y g hp)))
theorem c_X12_heardFrom_19 {X : CX} {R : Room} {Z : ZX} {A : AX} {h : AH} {x3 s0 s1 : Int32} (q : V X m_X12_heardFrom R Z A 4 [some (.ref 68), none, some (.int (s0 ||| s1)), some (.int (x3 + 1))] [] h) : V X m_X12_heardFrom R Z A 19 [some (.ref 68), none, none, some (.int x3)] [.int s1, .int s0] h := by
  refine v_ior dX12_heardFrom_19 ?_
  refine v_istore_n dX12_heardFrom_20 (by decide) (L' := [some (.ref 68), none, some (.int (s0 ||| s1)), some (.int x3)]) rfl ?_
  refine v_iinc (y := (x3 + 1)) dX12_heardFrom_21 rfl rfl (by decide) (L' := [some (.ref 68), none, some (.int (s0 ||| s1)), some (.int (x3 + 1))]) rfl ?_
  refine v_goto (tgt := 4) dX12_heardFrom_24 (by decide) ?_
  exact q
theorem c_X12_heardFrom_31 {X : CX} {R : Room} {Q : Option Value → AH → Prop} {nx sz mc ms : Nat} {h : AH} {s0 : Int32} (hq : Q (some (.int s0)) h) : V X m_X12_heardFrom R (ZM X Q nx sz mc ms) (nx, sz, mc, ms) 31 [none, none, none, none] [.int s0] h := by
  exact v_iret dX12_heardFrom_31 rfl hq
theorem e_X12_begin {X : CX} {d nx sz : Nat} {Q : Option Value → AH → Prop} {h : AH} {x1 : Int32} (q : V X m_X12_begin (rm d 0 0) (ZM X Q nx sz 0 0) (nx, sz, 0, 0) 0 [some (.ref 68), some (.int x1), none, none, none, none, none, none, none] [] h) : Mk X d m_X12_begin [.ref 68, .int x1] h nx sz Q := by
  refine Mok.ofV mo_X12_begin (Nat.le_of_ble_eq_true rfl) (L := [some (.ref 68), some (.int x1)]) (lvLe_s (lvLe_s lvLe_e)) (v_grow (n := 7) ?_)
  exact q
theorem c_X12_begin_0 {X : CX} {R : Room} {Z : ZX} {A : AX} {h : AH} {x1 : Int32} {d : Nat} {P8 : Int32 → AH → Prop} (hA0 : 91 ≤ A.1) (hR : RO R (d + 1)) (hcs : A.2.2.1 ≤ R.cells ∧ A.2.2.2 ≤ R.slots) (hM : Mk X d m_X12_isIn [.int x1, .int 1, .int 3] (setI h 68 0 0) A.1 A.2.1 (RI P8)) (q : ∀ (y : Int32) (g : AH), P8 y g → V X m_X12_begin R Z A 11 [some (.ref 68), some (.int x1), none, none, none, none, none, none, none] [.int y] g) : V X m_X12_begin R Z A 0 [some (.ref 68), some (.int x1), none, none, none, none, none, none, none] [] h := by
  refine v_aload_n dX12_begin_0 rfl ?_
  refine v_iconst dX12_begin_1 ci_0 ?_
  refine v_putI rfl rfl rfl dX12_begin_2 fl_RX12_103 (Or.inl rfl) kd_68 (ltA hA0 rfl) ?_
  refine v_iload_n dX12_begin_5 rfl ?_
  refine v_iconst dX12_begin_6 ci_1 ?_
  refine v_iconst dX12_begin_7 ci_3 ?_
  exact v_cSI (mt := m_X12_begin) mo_X12_isIn ml_RX12_232 mz_X12_isIn rfl hR hcs (Nat.le_of_ble_eq_true rfl) dX12_begin_8 rfl hM (fun y g hp => (q y g hp))
theorem c_X12_begin_11 {X : CX} {R : Room} {Q : Option Value → AH → Prop} {nx sz mc ms : Nat} {h : AH} {x1 s0 : Int32} (hA0 : 91 ≤ nx) (hq : s0 = 0 → Q (some (.int (-1))) h) (q : ¬ s0 = 0 → x1 ≤ (h.1 68 1) → V X m_X12_begin R (ZM X Q nx sz mc ms) (nx, sz, mc, ms) 34 [some (.ref 68), some (.int x1), some (.int (-1)), some (.int 0), some (.int 0), some (.int 1), none, none, none] [] h) (hq_1 : ¬ s0 = 0 → ¬ x1 ≤ (h.1 68 1) → Q (some (.int (-1))) h) : V X m_X12_begin R (ZM X Q nx sz mc ms) (nx, sz, mc, ms) 11 [some (.ref 68), some (.int x1), none, none, none, none, none, none, none] [.int s0] h := by
  refine v_if_eq (tgt := 22) dX12_begin_11 (by decide) (fun c0 => ?_) (fun c0 => ?_)
  · refine v_iconst dX12_begin_22 ci_m1 ?_
    exact v_iret dX12_begin_23 rfl (hq c0)
  · refine v_iload_n dX12_begin_14 rfl ?_
    refine v_aload_n dX12_begin_15 rfl ?_
    refine v_getI dX12_begin_16 fl_RX12_99 kd_68 (ltA hA0 rfl) rfl ?_
    refine v_icmp_le (tgt := 24) dX12_begin_19 (by decide) (fun c1 => ?_) (fun c1 => ?_)
    · refine v_iconst dX12_begin_24 ci_m1 ?_
      refine v_istore_n dX12_begin_25 (by decide) (L' := [some (.ref 68), some (.int x1), some (.int (-1)), none, none, none, none, none, none]) rfl ?_
      refine v_iconst dX12_begin_26 ci_0 ?_
      refine v_istore_n dX12_begin_27 (by decide) (L' := [some (.ref 68), some (.int x1), some (.int (-1)), some (.int 0), none, none, none, none, none]) rfl ?_
      refine v_iconst dX12_begin_28 ci_0 ?_
      refine v_istore dX12_begin_29 (by decide) (L' := [some (.ref 68), some (.int x1), some (.int (-1)), some (.int 0), some (.int 0), none, none, none, none]) rfl ?_
      refine v_iconst dX12_begin_31 ci_1 ?_
      refine v_istore dX12_begin_32 (by decide) (L' := [some (.ref 68), some (.int x1), some (.int (-1)), some (.int 0), some (.int 0), some (.int 1), none, none, none]) rfl ?_
      exact (q c0 c1)
    · refine v_iconst dX12_begin_22 ci_m1 ?_
      exact v_iret dX12_begin_23 rfl (hq_1 c0 c1)
theorem c_X12_begin_34 {X : CX} {R : Room} {Q : Option Value → AH → Prop} {nx sz mc ms : Nat} {h : AH} {x1 x2 x3 x4 x5 : Int32} {d : Nat} {P47 : Int32 → AH → Prop} (hA0 : 91 ≤ nx) (hR : RO R (d + 1)) (hcs : mc ≤ R.cells ∧ ms ≤ R.slots) (hq : ((1 : Int32) <<< (((h.1 68 1) : Int32) &&& 31)) ≤ x5 → Q (some (.int x2)) h) (hM : ¬ ((1 : Int32) <<< (((h.1 68 1) : Int32) &&& 31)) ≤ x5 → Mk X d m_J6_bitCount_0f7a4 [.int x5] h nx sz (RI P47)) (q : ¬ ((1 : Int32) <<< (((h.1 68 1) : Int32) &&& 31)) ≤ x5 → ∀ (y : Int32) (g : AH), P47 y g → V X m_X12_begin R (ZM X Q nx sz mc ms) (nx, sz, mc, ms) 50 [some (.ref 68), some (.int x1), some (.int x2), some (.int x3), some (.int x4), some (.int x5), none, none, none] [.int y] g) : V X m_X12_begin R (ZM X Q nx sz mc ms) (nx, sz, mc, ms) 34 [some (.ref 68), some (.int x1), some (.int x2), some (.int x3), some (.int x4), some (.int x5), none, none, none] [] h := by
  refine v_iload dX12_begin_34 rfl ?_
  refine v_iconst dX12_begin_36 ci_1 ?_
  refine v_aload_n dX12_begin_37 rfl ?_
  refine v_getI dX12_begin_38 fl_RX12_99 kd_68 (ltA hA0 rfl) rfl ?_
  refine v_ishl dX12_begin_41 ?_
  refine v_icmp_ge (tgt := 145) dX12_begin_42 (by decide) (fun c0 => ?_) (fun c0 => ?_)
  · refine v_iload_n dX12_begin_145 rfl ?_
    exact v_iret dX12_begin_146 rfl (hq c0)
  · refine v_iload dX12_begin_45 rfl ?_
    exact v_cSI (mt := m_X12_begin) mo_J6_bitCount_0f7a4 ml_RX12_224 mz_J6_bitCount_0f7a4 rfl hR hcs (Nat.le_of_ble_eq_true rfl) dX12_begin_47 rfl (hM c0) (fun y g hp => ((q c0) y g hp))
theorem c_X12_begin_50 {X : CX} {R : Room} {Z : ZX} {A : AX} {h : AH} {x1 x2 x3 x4 x5 s0 : Int32} {d : Nat} {P60 : Int32 → AH → Prop} (hA0 : 91 ≤ A.1) (hR : RO R (d + 1)) (hcs : A.2.2.1 ≤ R.cells ∧ A.2.2.2 ≤ R.slots) (hM : s0 = x1 → Mk X d m_X12_heardFrom [.ref 68, .int x5] h A.1 A.2.1 (RI P60)) (q : s0 = x1 → ∀ (y : Int32) (g : AH), P60 y g → V X m_X12_begin R Z A 63 [some (.ref 68), some (.int x1), some (.int x2), some (.int x3), some (.int x4), some (.int x5), none, none, none] [.int y] g) (q_1 : ¬ s0 = x1 → V X m_X12_begin R Z A 34 [some (.ref 68), some (.int x1), some (.int x2), some (.int x3), some (.int x4), some (.int (x5 + 1)), none, none, none] [] h) : V X m_X12_begin R Z A 50 [some (.ref 68), some (.int x1), some (.int x2), some (.int x3), some (.int x4), some (.int x5), none, none, none] [.int s0] h := by
  refine v_iload_n dX12_begin_50 rfl ?_
  refine v_icmp_eq (tgt := 57) dX12_begin_51 (by decide) (fun c0 => ?_) (fun c0 => ?_)
  · refine v_aload_n dX12_begin_57 rfl ?_
    refine v_iload dX12_begin_58 rfl ?_
    exact v_cVI (mt := m_X12_begin) mo_X12_heardFrom ml_RX12_436 mi_X12_heardFrom mv_X12_heardFrom rfl kd_68 cl_12 rfl (ltA hA0 rfl) hR hcs (Nat.le_of_ble_eq_true rfl) dX12_begin_60 rfl (hM c0) (fun y g hp => ((q c0) y g hp))
  · refine v_goto (tgt := 139) dX12_begin_54 (by decide) ?_
    refine v_iinc (y := (x5 + 1)) dX12_begin_139 rfl rfl (by decide) (L' := [some (.ref 68), some (.int x1), some (.int x2), some (.int x3), some (.int x4), some (.int (x5 + 1)), none, none, none]) rfl ?_
    refine v_goto (tgt := 34) dX12_begin_142 (by decide) ?_
    exact (q_1 c0)
theorem c_X12_begin_63 {X : CX} {R : Room} {Z : ZX} {A : AX} {h : AH} {x1 x2 x3 x4 x5 s0 : Int32} {d : Nat} {P68 : Int32 → AH → Prop} (hA0 : 91 ≤ A.1) (hR : RO R (d + 1)) (hcs : A.2.2.1 ≤ R.cells ∧ A.2.2.2 ≤ R.slots) (hM : Mk X d m_X12_outFrom [.ref 68, .int x5] h A.1 A.2.1 (RI P68)) (q : ∀ (y : Int32) (g : AH), P68 y g → V X m_X12_begin R Z A 71 [some (.ref 68), some (.int x1), some (.int x2), some (.int x3), some (.int x4), some (.int x5), some (.int s0), none, none] [.int y] g) : V X m_X12_begin R Z A 63 [some (.ref 68), some (.int x1), some (.int x2), some (.int x3), some (.int x4), some (.int x5), none, none, none] [.int s0] h := by
  refine v_istore dX12_begin_63 (by decide) (L' := [some (.ref 68), some (.int x1), some (.int x2), some (.int x3), some (.int x4), some (.int x5), some (.int s0), none, none]) rfl ?_
  refine v_aload_n dX12_begin_65 rfl ?_
  refine v_iload dX12_begin_66 rfl ?_
  exact v_cVI (mt := m_X12_begin) mo_X12_outFrom ml_RX12_433 mi_X12_outFrom mv_X12_outFrom rfl kd_68 cl_12 rfl (ltA hA0 rfl) hR hcs (Nat.le_of_ble_eq_true rfl) dX12_begin_68 rfl hM (fun y g hp => (q y g hp))
theorem c_X12_begin_71 {X : CX} {R : Room} {Z : ZX} {A : AX} {h : AH} {x1 x2 x3 x4 x5 x6 s0 : Int32} {d : Nat} {P108 : Int32 → AH → Prop} (hR : RO R (d + 1)) (hcs : A.2.2.1 ≤ R.cells ∧ A.2.2.2 ≤ R.slots) (q : x2 = (-1) → V X m_X12_begin R Z A 34 [some (.ref 68), some (.int x1), some (.int x5), some (.int x6), some (.int s0), some (.int (x5 + 1)), none, none, none] [] h) (q_1 : ¬ x2 = (-1) → x3 < x6 → V X m_X12_begin R Z A 34 [some (.ref 68), some (.int x1), some (.int x5), some (.int x6), some (.int s0), some (.int (x5 + 1)), none, none, none] [] h) (q_2 : ¬ x2 = (-1) → ¬ x3 < x6 → ¬ x6 = x3 → V X m_X12_begin R Z A 34 [some (.ref 68), some (.int x1), some (.int x2), some (.int x3), some (.int x4), some (.int (x5 + 1)), none, none, none] [] h) (q_3 : ¬ x2 = (-1) → ¬ x3 < x6 → x6 = x3 → s0 < x4 → V X m_X12_begin R Z A 34 [some (.ref 68), some (.int x1), some (.int x5), some (.int x6), some (.int s0), some (.int (x5 + 1)), none, none, none] [] h) (q_4 : ¬ x2 = (-1) → ¬ x3 < x6 → x6 = x3 → ¬ s0 < x4 → ¬ s0 = x4 → V X m_X12_begin R Z A 34 [some (.ref 68), some (.int x1), some (.int x2), some (.int x3), some (.int x4), some (.int (x5 + 1)), none, none, none] [] h) (hM : ¬ x2 = (-1) → ¬ x3 < x6 → x6 = x3 → ¬ s0 < x4 → s0 = x4 → Mk X d m_X12_isBetter [.int x5, .int x2, .int 1] h A.1 A.2.1 (RI P108)) (q_5 : ¬ x2 = (-1) → ¬ x3 < x6 → x6 = x3 → ¬ s0 < x4 → s0 = x4 → ∀ (y : Int32) (g : AH), P108 y g → V X m_X12_begin R Z A 111 [some (.ref 68), some (.int x1), some (.int x2), some (.int x3), some (.int x4), some (.int x5), some (.int x6), some (.int s0), none] [.int y] g) : V X m_X12_begin R Z A 71 [some (.ref 68), some (.int x1), some (.int x2), some (.int x3), some (.int x4), some (.int x5), some (.int x6), none, none] [.int s0] h := by
  refine v_istore dX12_begin_71 (by decide) (L' := [some (.ref 68), some (.int x1), some (.int x2), some (.int x3), some (.int x4), some (.int x5), some (.int x6), some (.int s0), none]) rfl ?_
  refine v_iload_n dX12_begin_73 rfl ?_
  refine v_iconst dX12_begin_74 ci_m1 ?_
  refine v_icmp_eq (tgt := 114) dX12_begin_75 (by decide) (fun c0 => ?_) (fun c0 => ?_)
  · refine v_iconst dX12_begin_114 ci_1 ?_
    refine v_goto (tgt := 119) dX12_begin_115 (by decide) ?_
    refine v_istore dX12_begin_119 (by decide) (L' := [some (.ref 68), some (.int x1), some (.int x2), some (.int x3), some (.int x4), some (.int x5), some (.int x6), some (.int s0), some (.int 1)]) rfl ?_
    refine v_iload dX12_begin_121 rfl ?_
    refine v_if_ne (tgt := 129) dX12_begin_123 (by decide) (fun _ => ?_) (fun z => absurd (show (1 : Int32) = 0 from z) (by decide))
    refine v_iload dX12_begin_129 rfl ?_
    refine v_istore_n dX12_begin_131 (by decide) (L' := [some (.ref 68), some (.int x1), some (.int x5), some (.int x3), some (.int x4), some (.int x5), some (.int x6), some (.int s0), some (.int 1)]) rfl ?_
    refine v_iload dX12_begin_132 rfl ?_
    refine v_istore_n dX12_begin_134 (by decide) (L' := [some (.ref 68), some (.int x1), some (.int x5), some (.int x6), some (.int x4), some (.int x5), some (.int x6), some (.int s0), some (.int 1)]) rfl ?_
    refine v_iload dX12_begin_135 rfl ?_
    refine v_istore dX12_begin_137 (by decide) (L' := [some (.ref 68), some (.int x1), some (.int x5), some (.int x6), some (.int s0), some (.int x5), some (.int x6), some (.int s0), some (.int 1)]) rfl ?_
    refine v_iinc (y := (x5 + 1)) dX12_begin_139 rfl rfl (by decide) (L' := [some (.ref 68), some (.int x1), some (.int x5), some (.int x6), some (.int s0), some (.int (x5 + 1)), some (.int x6), some (.int s0), some (.int 1)]) rfl ?_
    refine v_goto (tgt := 34) dX12_begin_142 (by decide) ?_
    exact (v_drop (lvLe_s (lvLe_s (lvLe_s (lvLe_s (lvLe_s (lvLe_s (lvLe_n (lvLe_n (lvLe_n lvLe_e))))))))) (q c0))
  · refine v_iload dX12_begin_78 rfl ?_
    refine v_iload_n dX12_begin_80 rfl ?_
    refine v_icmp_gt (tgt := 114) dX12_begin_81 (by decide) (fun c1 => ?_) (fun c1 => ?_)
    · refine v_iconst dX12_begin_114 ci_1 ?_
      refine v_goto (tgt := 119) dX12_begin_115 (by decide) ?_
      refine v_istore dX12_begin_119 (by decide) (L' := [some (.ref 68), some (.int x1), some (.int x2), some (.int x3), some (.int x4), some (.int x5), some (.int x6), some (.int s0), some (.int 1)]) rfl ?_
      refine v_iload dX12_begin_121 rfl ?_
      refine v_if_ne (tgt := 129) dX12_begin_123 (by decide) (fun _ => ?_) (fun z => absurd (show (1 : Int32) = 0 from z) (by decide))
      refine v_iload dX12_begin_129 rfl ?_
      refine v_istore_n dX12_begin_131 (by decide) (L' := [some (.ref 68), some (.int x1), some (.int x5), some (.int x3), some (.int x4), some (.int x5), some (.int x6), some (.int s0), some (.int 1)]) rfl ?_
      refine v_iload dX12_begin_132 rfl ?_
      refine v_istore_n dX12_begin_134 (by decide) (L' := [some (.ref 68), some (.int x1), some (.int x5), some (.int x6), some (.int x4), some (.int x5), some (.int x6), some (.int s0), some (.int 1)]) rfl ?_
      refine v_iload dX12_begin_135 rfl ?_
      refine v_istore dX12_begin_137 (by decide) (L' := [some (.ref 68), some (.int x1), some (.int x5), some (.int x6), some (.int s0), some (.int x5), some (.int x6), some (.int s0), some (.int 1)]) rfl ?_
      refine v_iinc (y := (x5 + 1)) dX12_begin_139 rfl rfl (by decide) (L' := [some (.ref 68), some (.int x1), some (.int x5), some (.int x6), some (.int s0), some (.int (x5 + 1)), some (.int x6), some (.int s0), some (.int 1)]) rfl ?_
      refine v_goto (tgt := 34) dX12_begin_142 (by decide) ?_
      exact (v_drop (lvLe_s (lvLe_s (lvLe_s (lvLe_s (lvLe_s (lvLe_s (lvLe_n (lvLe_n (lvLe_n lvLe_e))))))))) (q_1 c0 c1))
    · refine v_iload dX12_begin_84 rfl ?_
      refine v_iload_n dX12_begin_86 rfl ?_
      refine v_icmp_ne (tgt := 118) dX12_begin_87 (by decide) (fun c2 => ?_) (fun c2 => ?_)
      · refine v_iconst dX12_begin_118 ci_0 ?_
        refine v_istore dX12_begin_119 (by decide) (L' := [some (.ref 68), some (.int x1), some (.int x2), some (.int x3), some (.int x4), some (.int x5), some (.int x6), some (.int s0), some (.int 0)]) rfl ?_
        refine v_iload dX12_begin_121 rfl ?_
        refine v_if_ne (tgt := 129) dX12_begin_123 (by decide) (fun z => absurd (show ¬ (0 : Int32) = 0 from z) (by decide)) (fun _ => ?_)
        refine v_goto (tgt := 139) dX12_begin_126 (by decide) ?_
        refine v_iinc (y := (x5 + 1)) dX12_begin_139 rfl rfl (by decide) (L' := [some (.ref 68), some (.int x1), some (.int x2), some (.int x3), some (.int x4), some (.int (x5 + 1)), some (.int x6), some (.int s0), some (.int 0)]) rfl ?_
        refine v_goto (tgt := 34) dX12_begin_142 (by decide) ?_
        exact (v_drop (lvLe_s (lvLe_s (lvLe_s (lvLe_s (lvLe_s (lvLe_s (lvLe_n (lvLe_n (lvLe_n lvLe_e))))))))) (q_2 c0 c1 c2))
      · refine v_iload dX12_begin_90 rfl ?_
        refine v_iload dX12_begin_92 rfl ?_
        refine v_icmp_lt (tgt := 114) dX12_begin_94 (by decide) (fun c3 => ?_) (fun c3 => ?_)
        · refine v_iconst dX12_begin_114 ci_1 ?_
          refine v_goto (tgt := 119) dX12_begin_115 (by decide) ?_
          refine v_istore dX12_begin_119 (by decide) (L' := [some (.ref 68), some (.int x1), some (.int x2), some (.int x3), some (.int x4), some (.int x5), some (.int x6), some (.int s0), some (.int 1)]) rfl ?_
          refine v_iload dX12_begin_121 rfl ?_
          refine v_if_ne (tgt := 129) dX12_begin_123 (by decide) (fun _ => ?_) (fun z => absurd (show (1 : Int32) = 0 from z) (by decide))
          refine v_iload dX12_begin_129 rfl ?_
          refine v_istore_n dX12_begin_131 (by decide) (L' := [some (.ref 68), some (.int x1), some (.int x5), some (.int x3), some (.int x4), some (.int x5), some (.int x6), some (.int s0), some (.int 1)]) rfl ?_
          refine v_iload dX12_begin_132 rfl ?_
          refine v_istore_n dX12_begin_134 (by decide) (L' := [some (.ref 68), some (.int x1), some (.int x5), some (.int x6), some (.int x4), some (.int x5), some (.int x6), some (.int s0), some (.int 1)]) rfl ?_
          refine v_iload dX12_begin_135 rfl ?_
          refine v_istore dX12_begin_137 (by decide) (L' := [some (.ref 68), some (.int x1), some (.int x5), some (.int x6), some (.int s0), some (.int x5), some (.int x6), some (.int s0), some (.int 1)]) rfl ?_
          refine v_iinc (y := (x5 + 1)) dX12_begin_139 rfl rfl (by decide) (L' := [some (.ref 68), some (.int x1), some (.int x5), some (.int x6), some (.int s0), some (.int (x5 + 1)), some (.int x6), some (.int s0), some (.int 1)]) rfl ?_
          refine v_goto (tgt := 34) dX12_begin_142 (by decide) ?_
          exact (v_drop (lvLe_s (lvLe_s (lvLe_s (lvLe_s (lvLe_s (lvLe_s (lvLe_n (lvLe_n (lvLe_n lvLe_e))))))))) (q_3 c0 c1 c2 c3))
        · refine v_iload dX12_begin_97 rfl ?_
          refine v_iload dX12_begin_99 rfl ?_
          refine v_icmp_ne (tgt := 118) dX12_begin_101 (by decide) (fun c4 => ?_) (fun c4 => ?_)
          · refine v_iconst dX12_begin_118 ci_0 ?_
            refine v_istore dX12_begin_119 (by decide) (L' := [some (.ref 68), some (.int x1), some (.int x2), some (.int x3), some (.int x4), some (.int x5), some (.int x6), some (.int s0), some (.int 0)]) rfl ?_
            refine v_iload dX12_begin_121 rfl ?_
            refine v_if_ne (tgt := 129) dX12_begin_123 (by decide) (fun z => absurd (show ¬ (0 : Int32) = 0 from z) (by decide)) (fun _ => ?_)
            refine v_goto (tgt := 139) dX12_begin_126 (by decide) ?_
            refine v_iinc (y := (x5 + 1)) dX12_begin_139 rfl rfl (by decide) (L' := [some (.ref 68), some (.int x1), some (.int x2), some (.int x3), some (.int x4), some (.int (x5 + 1)), some (.int x6), some (.int s0), some (.int 0)]) rfl ?_
            refine v_goto (tgt := 34) dX12_begin_142 (by decide) ?_
            exact (v_drop (lvLe_s (lvLe_s (lvLe_s (lvLe_s (lvLe_s (lvLe_s (lvLe_n (lvLe_n (lvLe_n lvLe_e))))))))) (q_4 c0 c1 c2 c3 c4))
          · refine v_iload dX12_begin_104 rfl ?_
            refine v_iload_n dX12_begin_106 rfl ?_
            refine v_iconst dX12_begin_107 ci_1 ?_
            exact v_cSI (mt := m_X12_begin) mo_X12_isBetter ml_RX12_423 mz_X12_isBetter rfl hR hcs (Nat.le_of_ble_eq_true rfl) dX12_begin_108 rfl (hM c0 c1 c2 c3 c4) (fun y g hp => ((q_5 c0 c1 c2 c3 c4) y g hp))
theorem c_X12_begin_111 {X : CX} {R : Room} {Z : ZX} {A : AX} {h : AH} {x1 x2 x3 x4 x5 x6 x7 s0 : Int32} (q : s0 = 0 → V X m_X12_begin R Z A 34 [some (.ref 68), some (.int x1), some (.int x2), some (.int x3), some (.int x4), some (.int (x5 + 1)), none, none, none] [] h) (q_1 : ¬ s0 = 0 → V X m_X12_begin R Z A 34 [some (.ref 68), some (.int x1), some (.int x5), some (.int x6), some (.int x7), some (.int (x5 + 1)), none, none, none] [] h) : V X m_X12_begin R Z A 111 [some (.ref 68), some (.int x1), some (.int x2), some (.int x3), some (.int x4), some (.int x5), some (.int x6), some (.int x7), none] [.int s0] h := by
  refine v_if_eq (tgt := 118) dX12_begin_111 (by decide) (fun c0 => ?_) (fun c0 => ?_)
  · refine v_iconst dX12_begin_118 ci_0 ?_
    refine v_istore dX12_begin_119 (by decide) (L' := [some (.ref 68), some (.int x1), some (.int x2), some (.int x3), some (.int x4), some (.int x5), some (.int x6), some (.int x7), some (.int 0)]) rfl ?_
    refine v_iload dX12_begin_121 rfl ?_
    refine v_if_ne (tgt := 129) dX12_begin_123 (by decide) (fun z => absurd (show ¬ (0 : Int32) = 0 from z) (by decide)) (fun _ => ?_)
    refine v_goto (tgt := 139) dX12_begin_126 (by decide) ?_
    refine v_iinc (y := (x5 + 1)) dX12_begin_139 rfl rfl (by decide) (L' := [some (.ref 68), some (.int x1), some (.int x2), some (.int x3), some (.int x4), some (.int (x5 + 1)), some (.int x6), some (.int x7), some (.int 0)]) rfl ?_
    refine v_goto (tgt := 34) dX12_begin_142 (by decide) ?_
    exact (v_drop (lvLe_s (lvLe_s (lvLe_s (lvLe_s (lvLe_s (lvLe_s (lvLe_n (lvLe_n (lvLe_n lvLe_e))))))))) (q c0))
  · refine v_iconst dX12_begin_114 ci_1 ?_
    refine v_goto (tgt := 119) dX12_begin_115 (by decide) ?_
    refine v_istore dX12_begin_119 (by decide) (L' := [some (.ref 68), some (.int x1), some (.int x2), some (.int x3), some (.int x4), some (.int x5), some (.int x6), some (.int x7), some (.int 1)]) rfl ?_
    refine v_iload dX12_begin_121 rfl ?_
    refine v_if_ne (tgt := 129) dX12_begin_123 (by decide) (fun _ => ?_) (fun z => absurd (show (1 : Int32) = 0 from z) (by decide))
    refine v_iload dX12_begin_129 rfl ?_
    refine v_istore_n dX12_begin_131 (by decide) (L' := [some (.ref 68), some (.int x1), some (.int x5), some (.int x3), some (.int x4), some (.int x5), some (.int x6), some (.int x7), some (.int 1)]) rfl ?_
    refine v_iload dX12_begin_132 rfl ?_
    refine v_istore_n dX12_begin_134 (by decide) (L' := [some (.ref 68), some (.int x1), some (.int x5), some (.int x6), some (.int x4), some (.int x5), some (.int x6), some (.int x7), some (.int 1)]) rfl ?_
    refine v_iload dX12_begin_135 rfl ?_
    refine v_istore dX12_begin_137 (by decide) (L' := [some (.ref 68), some (.int x1), some (.int x5), some (.int x6), some (.int x7), some (.int x5), some (.int x6), some (.int x7), some (.int 1)]) rfl ?_
    refine v_iinc (y := (x5 + 1)) dX12_begin_139 rfl rfl (by decide) (L' := [some (.ref 68), some (.int x1), some (.int x5), some (.int x6), some (.int x7), some (.int (x5 + 1)), some (.int x6), some (.int x7), some (.int 1)]) rfl ?_
    refine v_goto (tgt := 34) dX12_begin_142 (by decide) ?_
    exact (v_drop (lvLe_s (lvLe_s (lvLe_s (lvLe_s (lvLe_s (lvLe_s (lvLe_n (lvLe_n (lvLe_n lvLe_e))))))))) (q_1 c0))
theorem e_X12_commonOf {X : CX} {d nx sz : Nat} {Q : Option Value → AH → Prop} {h : AH} {x1 x2 : Int32} (q : V X m_X12_commonOf (rm d 0 0) (ZM X Q nx sz 0 0) (nx, sz, 0, 0) 0 [some (.ref 68), some (.int x1), some (.int x2)] [] h) : Mk X d m_X12_commonOf [.ref 68, .int x1, .int x2] h nx sz Q := by
  refine Mok.ofV mo_X12_commonOf (Nat.le_of_ble_eq_true rfl) (L := [some (.ref 68), some (.int x1), some (.int x2)]) (lvLe_s (lvLe_s (lvLe_s lvLe_e))) (v_grow (n := 0) ?_)
  exact q
theorem c_X12_commonOf_0 {X : CX} {R : Room} {Z : ZX} {A : AX} {h : AH} {x1 x2 : Int32} {d : Nat} {P13 : Int32 → AH → Prop} (hA0 : 91 ≤ A.1) (hF : Fx h) (hR : RO R (d + 1)) (hcs : A.2.2.1 ≤ R.cells ∧ A.2.2.2 ≤ R.slots) (hi_5 : vp_in x1 20) (hi_11 : vp_in x2 20) (hM : Mk X d m_J6_bitCount_0f7a4 [.int ((h.1 73 x1.toNatClampNeg) &&& (h.1 73 x2.toNatClampNeg))] h A.1 A.2.1 (RI P13)) (q : ∀ (y : Int32) (g : AH), P13 y g → V X m_X12_commonOf R Z A 16 [none, none, none] [.int y] g) : V X m_X12_commonOf R Z A 0 [some (.ref 68), some (.int x1), some (.int x2)] [] h := by
  refine v_aload_n dX12_commonOf_0 rfl ?_
  refine v_getR dX12_commonOf_1 fl_RX12_37 kd_68 (ltA hA0 rfl) rfl (hF 68 19 73 rfl) ?_
  refine v_iload_n dX12_commonOf_4 rfl ?_
  refine v_iald dX12_commonOf_5 kd_73 (ltA hA0 rfl) hi_5 ?_
  refine v_aload_n dX12_commonOf_6 rfl ?_
  refine v_getR dX12_commonOf_7 fl_RX12_37 kd_68 (ltA hA0 rfl) rfl (hF 68 19 73 rfl) ?_
  refine v_iload_n dX12_commonOf_10 rfl ?_
  refine v_iald dX12_commonOf_11 kd_73 (ltA hA0 rfl) hi_11 ?_
  refine v_iand dX12_commonOf_12 ?_
  exact v_cSI (mt := m_X12_commonOf) mo_J6_bitCount_0f7a4 ml_RX12_224 mz_J6_bitCount_0f7a4 rfl hR hcs (Nat.le_of_ble_eq_true rfl) dX12_commonOf_13 rfl hM (fun y g hp => (v_drop (lvLe_n (lvLe_n (lvLe_n lvLe_e))) (q y g hp)))
theorem c_X12_commonOf_16 {X : CX} {R : Room} {Q : Option Value → AH → Prop} {nx sz mc ms : Nat} {h : AH} {s0 : Int32} (hq : Q (some (.int s0)) h) : V X m_X12_commonOf R (ZM X Q nx sz mc ms) (nx, sz, mc, ms) 16 [none, none, none] [.int s0] h := by
  exact v_iret dX12_commonOf_16 rfl hq
theorem e_X12_common {X : CX} {d nx sz : Nat} {Q : Option Value → AH → Prop} {h : AH} {x1 x2 : Int32} (q : V X m_X12_common (rm d 0 0) (ZM X Q nx sz 0 0) (nx, sz, 0, 0) 0 [some (.ref 68), some (.int x1), some (.int x2)] [] h) : Mk X d m_X12_common [.ref 68, .int x1, .int x2] h nx sz Q := by
  refine Mok.ofV mo_X12_common (Nat.le_of_ble_eq_true rfl) (L := [some (.ref 68), some (.int x1), some (.int x2)]) (lvLe_s (lvLe_s (lvLe_s lvLe_e))) (v_grow (n := 0) ?_)
  exact q
theorem c_X12_common_0 {X : CX} {R : Room} {Z : ZX} {A : AX} {h : AH} {x1 x2 : Int32} {d : Nat} {P8 : Int32 → AH → Prop} (hA0 : 91 ≤ A.1) (hR : RO R (d + 1)) (hcs : A.2.2.1 ≤ R.cells ∧ A.2.2.2 ≤ R.slots) (hM : Mk X d m_X12_areTwo [.ref 68, .int x1, .int x2] (setI h 68 0 0) A.1 A.2.1 (RI P8)) (q : ∀ (y : Int32) (g : AH), P8 y g → V X m_X12_common R Z A 11 [some (.ref 68), some (.int x1), some (.int x2)] [.int y] g) : V X m_X12_common R Z A 0 [some (.ref 68), some (.int x1), some (.int x2)] [] h := by
  refine v_aload_n dX12_common_0 rfl ?_
  refine v_iconst dX12_common_1 ci_0 ?_
  refine v_putI rfl rfl rfl dX12_common_2 fl_RX12_103 (Or.inl rfl) kd_68 (ltA hA0 rfl) ?_
  refine v_aload_n dX12_common_5 rfl ?_
  refine v_iload_n dX12_common_6 rfl ?_
  refine v_iload_n dX12_common_7 rfl ?_
  exact v_cVI (mt := m_X12_common) mo_X12_areTwo ml_RX12_256 mi_X12_areTwo mv_X12_areTwo rfl kd_68 cl_12 rfl (ltA hA0 rfl) hR hcs (Nat.le_of_ble_eq_true rfl) dX12_common_8 rfl hM (fun y g hp => (q y g hp))
theorem c_X12_common_11 {X : CX} {R : Room} {Q : Option Value → AH → Prop} {nx sz mc ms : Nat} {h : AH} {x1 x2 s0 : Int32} {d : Nat} {P17 : Int32 → AH → Prop} (hA0 : 91 ≤ nx) (hR : RO R (d + 1)) (hcs : mc ≤ R.cells ∧ ms ≤ R.slots) (hq : s0 = 0 → Q (some (.int (-1))) h) (hM : ¬ s0 = 0 → Mk X d m_X12_commonOf [.ref 68, .int x1, .int x2] h nx sz (RI P17)) (q : ¬ s0 = 0 → ∀ (y : Int32) (g : AH), P17 y g → V X m_X12_common R (ZM X Q nx sz mc ms) (nx, sz, mc, ms) 20 [none, none, none] [.int y] g) : V X m_X12_common R (ZM X Q nx sz mc ms) (nx, sz, mc, ms) 11 [some (.ref 68), some (.int x1), some (.int x2)] [.int s0] h := by
  refine v_if_eq (tgt := 23) dX12_common_11 (by decide) (fun c0 => ?_) (fun c0 => ?_)
  · refine v_iconst dX12_common_23 ci_m1 ?_
    exact v_iret dX12_common_24 rfl (hq c0)
  · refine v_aload_n dX12_common_14 rfl ?_
    refine v_iload_n dX12_common_15 rfl ?_
    refine v_iload_n dX12_common_16 rfl ?_
    exact v_cVI (mt := m_X12_common) mo_X12_commonOf ml_RX12_439 mi_X12_commonOf mv_X12_commonOf rfl kd_68 cl_12 rfl (ltA hA0 rfl) hR hcs (Nat.le_of_ble_eq_true rfl) dX12_common_17 rfl (hM c0) (fun y g hp => (v_drop (lvLe_n (lvLe_n (lvLe_n lvLe_e))) ((q c0) y g hp)))
theorem c_X12_common_20 {X : CX} {R : Room} {Q : Option Value → AH → Prop} {nx sz mc ms : Nat} {h : AH} {s0 : Int32} (hq : Q (some (.int s0)) h) : V X m_X12_common R (ZM X Q nx sz mc ms) (nx, sz, mc, ms) 20 [none, none, none] [.int s0] h := by
  refine v_goto (tgt := 24) dX12_common_20 (by decide) ?_
  exact v_iret dX12_common_24 rfl hq
theorem e_X12_likely {X : CX} {d nx sz : Nat} {Q : Option Value → AH → Prop} {h : AH} (q : V X m_X12_likely (rm d 0 0) (ZM X Q nx sz 0 0) (nx, sz, 0, 0) 0 [some (.ref 68), none, none, none, none] [] h) : Mk X d m_X12_likely [.ref 68] h nx sz Q := by
  refine Mok.ofV mo_X12_likely (Nat.le_of_ble_eq_true rfl) (L := [some (.ref 68)]) (lvLe_s lvLe_e) (v_grow (n := 4) ?_)
  exact q
theorem c_X12_likely_0 {X : CX} {R : Room} {Z : ZX} {A : AX} {h : AH} (hA0 : 91 ≤ A.1) (q : V X m_X12_likely R Z A 11 [some (.ref 68), some (.int (-1)), some (.int 0), some (.int 0), none] [] (setI h 68 0 0)) : V X m_X12_likely R Z A 0 [some (.ref 68), none, none, none, none] [] h := by
  refine v_aload_n dX12_likely_0 rfl ?_
  refine v_iconst dX12_likely_1 ci_0 ?_
  refine v_putI rfl rfl rfl dX12_likely_2 fl_RX12_103 (Or.inl rfl) kd_68 (ltA hA0 rfl) ?_
  refine v_iconst dX12_likely_5 ci_m1 ?_
  refine v_istore_n dX12_likely_6 (by decide) (L' := [some (.ref 68), some (.int (-1)), none, none, none]) rfl ?_
  refine v_iconst dX12_likely_7 ci_0 ?_
  refine v_istore_n dX12_likely_8 (by decide) (L' := [some (.ref 68), some (.int (-1)), some (.int 0), none, none]) rfl ?_
  refine v_iconst dX12_likely_9 ci_0 ?_
  refine v_istore_n dX12_likely_10 (by decide) (L' := [some (.ref 68), some (.int (-1)), some (.int 0), some (.int 0), none]) rfl ?_
  exact q
theorem c_X12_likely_11 {X : CX} {R : Room} {Q : Option Value → AH → Prop} {nx sz mc ms : Nat} {h : AH} {x1 x2 x3 : Int32} (hA0 : 91 ≤ nx) (hq : (h.1 68 1) ≤ x3 → Q (some (.int x1)) h) (q : ¬ (h.1 68 1) ≤ x3 → V X m_X12_likely R (ZM X Q nx sz mc ms) (nx, sz, mc, ms) 24 [some (.ref 68), some (.int x1), some (.int x2), some (.int x3), some (.int (x3 + 1))] [] h) : V X m_X12_likely R (ZM X Q nx sz mc ms) (nx, sz, mc, ms) 11 [some (.ref 68), some (.int x1), some (.int x2), some (.int x3), none] [] h := by
  refine v_iload_n dX12_likely_11 rfl ?_
  refine v_aload_n dX12_likely_12 rfl ?_
  refine v_getI dX12_likely_13 fl_RX12_99 kd_68 (ltA hA0 rfl) rfl ?_
  refine v_icmp_ge (tgt := 94) dX12_likely_16 (by decide) (fun c0 => ?_) (fun c0 => ?_)
  · refine v_iload_n dX12_likely_94 rfl ?_
    exact v_iret dX12_likely_95 rfl (hq c0)
  · refine v_iload_n dX12_likely_19 rfl ?_
    refine v_iconst dX12_likely_20 ci_1 ?_
    refine v_iadd dX12_likely_21 ?_
    refine v_istore dX12_likely_22 (by decide) (L' := [some (.ref 68), some (.int x1), some (.int x2), some (.int x3), some (.int (x3 + 1))]) rfl ?_
    exact (q c0)
theorem c_X12_likely_24 {X : CX} {R : Room} {Z : ZX} {A : AX} {h : AH} {x1 x2 x3 x4 : Int32} {d : Nat} {P41 : Int32 → AH → Prop} (hA0 : 91 ≤ A.1) (hF : Fx h) (hR : RO R (d + 1)) (hcs : A.2.2.1 ≤ R.cells ∧ A.2.2.2 ≤ R.slots) (q : (h.1 68 1) ≤ x4 → V X m_X12_likely R Z A 11 [some (.ref 68), some (.int x1), some (.int x2), some (.int (x3 + 1)), none] [] h) (hi_38 : ¬ (h.1 68 1) ≤ x4 → vp_in x3 20) (hM : ¬ (h.1 68 1) ≤ x4 → Mk X d m_X12_has [.int (h.1 73 x3.toNatClampNeg), .int x4] h A.1 A.2.1 (RI P41)) (q_1 : ¬ (h.1 68 1) ≤ x4 → ∀ (y : Int32) (g : AH), P41 y g → V X m_X12_likely R Z A 44 [some (.ref 68), some (.int x1), some (.int x2), some (.int x3), some (.int x4)] [.int y] g) : V X m_X12_likely R Z A 24 [some (.ref 68), some (.int x1), some (.int x2), some (.int x3), some (.int x4)] [] h := by
  refine v_iload dX12_likely_24 rfl ?_
  refine v_aload_n dX12_likely_26 rfl ?_
  refine v_getI dX12_likely_27 fl_RX12_99 kd_68 (ltA hA0 rfl) rfl ?_
  refine v_icmp_ge (tgt := 88) dX12_likely_30 (by decide) (fun c0 => ?_) (fun c0 => ?_)
  · refine v_iinc (y := (x3 + 1)) dX12_likely_88 rfl rfl (by decide) (L' := [some (.ref 68), some (.int x1), some (.int x2), some (.int (x3 + 1)), some (.int x4)]) rfl ?_
    refine v_goto (tgt := 11) dX12_likely_91 (by decide) ?_
    exact (v_drop (lvLe_s (lvLe_s (lvLe_s (lvLe_s (lvLe_n lvLe_e))))) (q c0))
  · refine v_aload_n dX12_likely_33 rfl ?_
    refine v_getR dX12_likely_34 fl_RX12_37 kd_68 (ltA hA0 rfl) rfl (hF 68 19 73 rfl) ?_
    refine v_iload_n dX12_likely_37 rfl ?_
    refine v_iald dX12_likely_38 kd_73 (ltA hA0 rfl) (hi_38 c0) ?_
    refine v_iload dX12_likely_39 rfl ?_
    exact v_cSI (mt := m_X12_likely) mo_X12_has ml_RX12_220 mz_X12_has rfl hR hcs (Nat.le_of_ble_eq_true rfl) dX12_likely_41 rfl (hM c0) (fun y g hp => ((q_1 c0) y g hp))
theorem c_X12_likely_44 {X : CX} {R : Room} {Z : ZX} {A : AX} {h : AH} {x1 x2 x3 x4 s0 : Int32} {d : Nat} {P78 P56 : Int32 → AH → Prop} (hA0 : 91 ≤ A.1) (hR : RO R (d + 1)) (hcs : A.2.2.1 ≤ R.cells ∧ A.2.2.2 ≤ R.slots) (q : ¬ s0 = 0 → V X m_X12_likely R Z A 24 [some (.ref 68), some (.int x1), some (.int x2), some (.int x3), some (.int (x4 + 1))] [] h) (hM : s0 = 0 → x1 = (-1) → Mk X d m_X12_commonOf [.ref 68, .int x3, .int x4] h A.1 A.2.1 (RI P78)) (q_1 : s0 = 0 → x1 = (-1) → ∀ (y : Int32) (g : AH), P78 y g → V X m_X12_likely R Z A 81 [some (.ref 68), some (.int ((20 * x3) + x4)), none, some (.int x3), some (.int x4)] [.int y] g) (hM_1 : s0 = 0 → ¬ x1 = (-1) → Mk X d m_X12_commonOf [.ref 68, .int x3, .int x4] h A.1 A.2.1 (RI P56)) (q_2 : s0 = 0 → ¬ x1 = (-1) → ∀ (y : Int32) (g : AH), P56 y g → V X m_X12_likely R Z A 59 [some (.ref 68), some (.int x1), some (.int x2), some (.int x3), some (.int x4)] [.int y] g) : V X m_X12_likely R Z A 44 [some (.ref 68), some (.int x1), some (.int x2), some (.int x3), some (.int x4)] [.int s0] h := by
  refine v_if_ne (tgt := 82) dX12_likely_44 (by decide) (fun c0 => ?_) (fun c0 => ?_)
  · refine v_iinc (y := (x4 + 1)) dX12_likely_82 rfl rfl (by decide) (L' := [some (.ref 68), some (.int x1), some (.int x2), some (.int x3), some (.int (x4 + 1))]) rfl ?_
    refine v_goto (tgt := 24) dX12_likely_85 (by decide) ?_
    exact (q c0)
  · refine v_iload_n dX12_likely_47 rfl ?_
    refine v_iconst dX12_likely_48 ci_m1 ?_
    refine v_icmp_eq (tgt := 66) dX12_likely_49 (by decide) (fun c1 => ?_) (fun c1 => ?_)
    · refine v_bipush dX12_likely_66 cb_20 ?_
      refine v_iload_n dX12_likely_68 rfl ?_
      refine v_imul dX12_likely_69 ?_
      refine v_iload dX12_likely_70 rfl ?_
      refine v_iadd dX12_likely_72 ?_
      refine v_istore_n dX12_likely_73 (by decide) (L' := [some (.ref 68), some (.int ((20 * x3) + x4)), some (.int x2), some (.int x3), some (.int x4)]) rfl ?_
      refine v_aload_n dX12_likely_74 rfl ?_
      refine v_iload_n dX12_likely_75 rfl ?_
      refine v_iload dX12_likely_76 rfl ?_
      exact v_cVI (mt := m_X12_likely) mo_X12_commonOf ml_RX12_439 mi_X12_commonOf mv_X12_commonOf rfl kd_68 cl_12 rfl (ltA hA0 rfl) hR hcs (Nat.le_of_ble_eq_true rfl) dX12_likely_78 rfl (hM c0 c1) (fun y g hp => (v_drop (lvLe_s (lvLe_s (lvLe_n (lvLe_s (lvLe_s lvLe_e))))) ((q_1 c0 c1) y g hp)))
    · refine v_aload_n dX12_likely_52 rfl ?_
      refine v_iload_n dX12_likely_53 rfl ?_
      refine v_iload dX12_likely_54 rfl ?_
      exact v_cVI (mt := m_X12_likely) mo_X12_commonOf ml_RX12_439 mi_X12_commonOf mv_X12_commonOf rfl kd_68 cl_12 rfl (ltA hA0 rfl) hR hcs (Nat.le_of_ble_eq_true rfl) dX12_likely_56 rfl (hM_1 c0 c1) (fun y g hp => ((q_2 c0 c1) y g hp))
theorem c_X12_likely_59 {X : CX} {R : Room} {Z : ZX} {A : AX} {h : AH} {x1 x2 x3 x4 s0 : Int32} {d : Nat} {P78 : Int32 → AH → Prop} (hA0 : 91 ≤ A.1) (hR : RO R (d + 1)) (hcs : A.2.2.1 ≤ R.cells ∧ A.2.2.2 ≤ R.slots) (hM : x2 < s0 → Mk X d m_X12_commonOf [.ref 68, .int x3, .int x4] h A.1 A.2.1 (RI P78)) (q : x2 < s0 → ∀ (y : Int32) (g : AH), P78 y g → V X m_X12_likely R Z A 81 [some (.ref 68), some (.int ((20 * x3) + x4)), none, some (.int x3), some (.int x4)] [.int y] g) (q_1 : ¬ x2 < s0 → V X m_X12_likely R Z A 24 [some (.ref 68), some (.int x1), some (.int x2), some (.int x3), some (.int (x4 + 1))] [] h) : V X m_X12_likely R Z A 59 [some (.ref 68), some (.int x1), some (.int x2), some (.int x3), some (.int x4)] [.int s0] h := by
  refine v_iload_n dX12_likely_59 rfl ?_
  refine v_icmp_gt (tgt := 66) dX12_likely_60 (by decide) (fun c0 => ?_) (fun c0 => ?_)
  · refine v_bipush dX12_likely_66 cb_20 ?_
    refine v_iload_n dX12_likely_68 rfl ?_
    refine v_imul dX12_likely_69 ?_
    refine v_iload dX12_likely_70 rfl ?_
    refine v_iadd dX12_likely_72 ?_
    refine v_istore_n dX12_likely_73 (by decide) (L' := [some (.ref 68), some (.int ((20 * x3) + x4)), some (.int x2), some (.int x3), some (.int x4)]) rfl ?_
    refine v_aload_n dX12_likely_74 rfl ?_
    refine v_iload_n dX12_likely_75 rfl ?_
    refine v_iload dX12_likely_76 rfl ?_
    exact v_cVI (mt := m_X12_likely) mo_X12_commonOf ml_RX12_439 mi_X12_commonOf mv_X12_commonOf rfl kd_68 cl_12 rfl (ltA hA0 rfl) hR hcs (Nat.le_of_ble_eq_true rfl) dX12_likely_78 rfl (hM c0) (fun y g hp => (v_drop (lvLe_s (lvLe_s (lvLe_n (lvLe_s (lvLe_s lvLe_e))))) ((q c0) y g hp)))
  · refine v_goto (tgt := 82) dX12_likely_63 (by decide) ?_
    refine v_iinc (y := (x4 + 1)) dX12_likely_82 rfl rfl (by decide) (L' := [some (.ref 68), some (.int x1), some (.int x2), some (.int x3), some (.int (x4 + 1))]) rfl ?_
    refine v_goto (tgt := 24) dX12_likely_85 (by decide) ?_
    exact (q_1 c0)
theorem c_X12_likely_81 {X : CX} {R : Room} {Z : ZX} {A : AX} {h : AH} {x1 x3 x4 s0 : Int32} (q : V X m_X12_likely R Z A 24 [some (.ref 68), some (.int x1), some (.int s0), some (.int x3), some (.int (x4 + 1))] [] h) : V X m_X12_likely R Z A 81 [some (.ref 68), some (.int x1), none, some (.int x3), some (.int x4)] [.int s0] h := by
  refine v_istore_n dX12_likely_81 (by decide) (L' := [some (.ref 68), some (.int x1), some (.int s0), some (.int x3), some (.int x4)]) rfl ?_
  refine v_iinc (y := (x4 + 1)) dX12_likely_82 rfl rfl (by decide) (L' := [some (.ref 68), some (.int x1), some (.int s0), some (.int x3), some (.int (x4 + 1))]) rfl ?_
  refine v_goto (tgt := 24) dX12_likely_85 (by decide) ?_
  exact q
theorem e_X12_threesOf {X : CX} {d nx sz : Nat} {Q : Option Value → AH → Prop} {h : AH} {x1 : Int32} (q : V X m_X12_threesOf (rm d 0 0) (ZM X Q nx sz 0 0) (nx, sz, 0, 0) 0 [some (.ref 68), some (.int x1), none, none, none, none] [] h) : Mk X d m_X12_threesOf [.ref 68, .int x1] h nx sz Q := by
  refine Mok.ofV mo_X12_threesOf (Nat.le_of_ble_eq_true rfl) (L := [some (.ref 68), some (.int x1)]) (lvLe_s (lvLe_s lvLe_e)) (v_grow (n := 4) ?_)
  exact q
theorem c_X12_threesOf_0 {X : CX} {R : Room} {Z : ZX} {A : AX} {h : AH} {x1 : Int32} (q : V X m_X12_threesOf R Z A 4 [some (.ref 68), some (.int x1), some (.int 0), some (.int 0), none, none] [] h) : V X m_X12_threesOf R Z A 0 [some (.ref 68), some (.int x1), none, none, none, none] [] h := by
  refine v_iconst dX12_threesOf_0 ci_0 ?_
  refine v_istore_n dX12_threesOf_1 (by decide) (L' := [some (.ref 68), some (.int x1), some (.int 0), none, none, none]) rfl ?_
  refine v_iconst dX12_threesOf_2 ci_0 ?_
  refine v_istore_n dX12_threesOf_3 (by decide) (L' := [some (.ref 68), some (.int x1), some (.int 0), some (.int 0), none, none]) rfl ?_
  exact q
theorem c_X12_threesOf_4 {X : CX} {R : Room} {Q : Option Value → AH → Prop} {nx sz mc ms : Nat} {h : AH} {x1 x2 x3 : Int32} (hA0 : 91 ≤ nx) (hq : (h.1 68 1) ≤ x3 → Q (some (.int x2)) h) (q : ¬ (h.1 68 1) ≤ x3 → V X m_X12_threesOf R (ZM X Q nx sz mc ms) (nx, sz, mc, ms) 15 [some (.ref 68), some (.int x1), some (.int x2), some (.int x3), some (.int 0), none] [] h) : V X m_X12_threesOf R (ZM X Q nx sz mc ms) (nx, sz, mc, ms) 4 [some (.ref 68), some (.int x1), some (.int x2), some (.int x3), none, none] [] h := by
  refine v_iload_n dX12_threesOf_4 rfl ?_
  refine v_aload_n dX12_threesOf_5 rfl ?_
  refine v_getI dX12_threesOf_6 fl_RX12_99 kd_68 (ltA hA0 rfl) rfl ?_
  refine v_icmp_ge (tgt := 121) dX12_threesOf_9 (by decide) (fun c0 => ?_) (fun c0 => ?_)
  · refine v_iload_n dX12_threesOf_121 rfl ?_
    exact v_iret dX12_threesOf_122 rfl (hq c0)
  · refine v_iconst dX12_threesOf_12 ci_0 ?_
    refine v_istore dX12_threesOf_13 (by decide) (L' := [some (.ref 68), some (.int x1), some (.int x2), some (.int x3), some (.int 0), none]) rfl ?_
    exact (q c0)
theorem c_X12_threesOf_15 {X : CX} {R : Room} {Z : ZX} {A : AX} {h : AH} {x1 x2 x3 x4 : Int32} (q : x3 ≤ x4 → V X m_X12_threesOf R Z A 4 [some (.ref 68), some (.int x1), some (.int x2), some (.int (x3 + 1)), none, none] [] h) (q_1 : ¬ x3 ≤ x4 → V X m_X12_threesOf R Z A 24 [some (.ref 68), some (.int x1), some (.int x2), some (.int x3), some (.int x4), some (.int 0)] [] h) : V X m_X12_threesOf R Z A 15 [some (.ref 68), some (.int x1), some (.int x2), some (.int x3), some (.int x4), none] [] h := by
  refine v_iload dX12_threesOf_15 rfl ?_
  refine v_iload_n dX12_threesOf_17 rfl ?_
  refine v_icmp_ge (tgt := 115) dX12_threesOf_18 (by decide) (fun c0 => ?_) (fun c0 => ?_)
  · refine v_iinc (y := (x3 + 1)) dX12_threesOf_115 rfl rfl (by decide) (L' := [some (.ref 68), some (.int x1), some (.int x2), some (.int (x3 + 1)), some (.int x4), none]) rfl ?_
    refine v_goto (tgt := 4) dX12_threesOf_118 (by decide) ?_
    exact (v_drop (lvLe_s (lvLe_s (lvLe_s (lvLe_s (lvLe_n (lvLe_n lvLe_e)))))) (q c0))
  · refine v_iconst dX12_threesOf_21 ci_0 ?_
    refine v_istore dX12_threesOf_22 (by decide) (L' := [some (.ref 68), some (.int x1), some (.int x2), some (.int x3), some (.int x4), some (.int 0)]) rfl ?_
    exact (q_1 c0)
theorem c_X12_threesOf_24 {X : CX} {R : Room} {Z : ZX} {A : AX} {h : AH} {x1 x2 x3 x4 x5 : Int32} {d : Nat} {P40 : Int32 → AH → Prop} (hA0 : 91 ≤ A.1) (hF : Fx h) (hR : RO R (d + 1)) (hcs : A.2.2.1 ≤ R.cells ∧ A.2.2.2 ≤ R.slots) (q : x4 ≤ x5 → V X m_X12_threesOf R Z A 15 [some (.ref 68), some (.int x1), some (.int x2), some (.int x3), some (.int (x4 + 1)), none] [] h) (hi_37 : ¬ x4 ≤ x5 → vp_in x3 20) (hM : ¬ x4 ≤ x5 → Mk X d m_X12_has [.int (h.1 73 x3.toNatClampNeg), .int x4] h A.1 A.2.1 (RI P40)) (q_1 : ¬ x4 ≤ x5 → ∀ (y : Int32) (g : AH), P40 y g → V X m_X12_threesOf R Z A 43 [some (.ref 68), some (.int x1), none, some (.int x3), some (.int x4), some (.int x5)] [.int y, .int x2] g) : V X m_X12_threesOf R Z A 24 [some (.ref 68), some (.int x1), some (.int x2), some (.int x3), some (.int x4), some (.int x5)] [] h := by
  refine v_iload dX12_threesOf_24 rfl ?_
  refine v_iload dX12_threesOf_26 rfl ?_
  refine v_icmp_ge (tgt := 109) dX12_threesOf_28 (by decide) (fun c0 => ?_) (fun c0 => ?_)
  · refine v_iinc (y := (x4 + 1)) dX12_threesOf_109 rfl rfl (by decide) (L' := [some (.ref 68), some (.int x1), some (.int x2), some (.int x3), some (.int (x4 + 1)), some (.int x5)]) rfl ?_
    refine v_goto (tgt := 15) dX12_threesOf_112 (by decide) ?_
    exact (v_drop (lvLe_s (lvLe_s (lvLe_s (lvLe_s (lvLe_s (lvLe_n lvLe_e)))))) (q c0))
  · refine v_iload_n dX12_threesOf_31 rfl ?_
    refine v_aload_n dX12_threesOf_32 rfl ?_
    refine v_getR dX12_threesOf_33 fl_RX12_37 kd_68 (ltA hA0 rfl) rfl (hF 68 19 73 rfl) ?_
    refine v_iload_n dX12_threesOf_36 rfl ?_
    refine v_iald dX12_threesOf_37 kd_73 (ltA hA0 rfl) (hi_37 c0) ?_
    refine v_iload dX12_threesOf_38 rfl ?_
    exact v_cSI (mt := m_X12_threesOf) mo_X12_has ml_RX12_220 mz_X12_has rfl hR hcs (Nat.le_of_ble_eq_true rfl) dX12_threesOf_40 rfl (hM c0) (fun y g hp => (v_drop (lvLe_s (lvLe_s (lvLe_n (lvLe_s (lvLe_s (lvLe_s lvLe_e)))))) ((q_1 c0) y g hp)))
theorem c_X12_threesOf_43 {X : CX} {R : Room} {Z : ZX} {A : AX} {h : AH} {x1 x3 x4 x5 s0 s1 : Int32} {d : Nat} {P59 P59_1 : Int32 → AH → Prop} (hA0 : 91 ≤ A.1) (hF : Fx h) (hR : RO R (d + 1)) (hcs : A.2.2.1 ≤ R.cells ∧ A.2.2.2 ≤ R.slots) (hi_56 : s1 = 0 → vp_in x3 20) (hM : s1 = 0 → Mk X d m_X12_has [.int (h.1 73 x3.toNatClampNeg), .int x5] h A.1 A.2.1 (RI P59)) (q : s1 = 0 → ∀ (y : Int32) (g : AH), P59 y g → V X m_X12_threesOf R Z A 62 [some (.ref 68), some (.int x1), none, some (.int x3), some (.int x4), some (.int x5)] [.int y, .int 0, .int s0] g) (hi_56_1 : ¬ s1 = 0 → vp_in x3 20) (hM_1 : ¬ s1 = 0 → Mk X d m_X12_has [.int (h.1 73 x3.toNatClampNeg), .int x5] h A.1 A.2.1 (RI P59_1)) (q_1 : ¬ s1 = 0 → ∀ (y : Int32) (g : AH), P59_1 y g → V X m_X12_threesOf R Z A 62 [some (.ref 68), some (.int x1), none, some (.int x3), some (.int x4), some (.int x5)] [.int y, .int 1, .int s0] g) : V X m_X12_threesOf R Z A 43 [some (.ref 68), some (.int x1), none, some (.int x3), some (.int x4), some (.int x5)] [.int s1, .int s0] h := by
  refine v_if_eq (tgt := 50) dX12_threesOf_43 (by decide) (fun c0 => ?_) (fun c0 => ?_)
  · refine v_iconst dX12_threesOf_50 ci_0 ?_
    refine v_aload_n dX12_threesOf_51 rfl ?_
    refine v_getR dX12_threesOf_52 fl_RX12_37 kd_68 (ltA hA0 rfl) rfl (hF 68 19 73 rfl) ?_
    refine v_iload_n dX12_threesOf_55 rfl ?_
    refine v_iald dX12_threesOf_56 kd_73 (ltA hA0 rfl) (hi_56 c0) ?_
    refine v_iload dX12_threesOf_57 rfl ?_
    exact v_cSI (mt := m_X12_threesOf) mo_X12_has ml_RX12_220 mz_X12_has rfl hR hcs (Nat.le_of_ble_eq_true rfl) dX12_threesOf_59 rfl (hM c0) (fun y g hp => ((q c0) y g hp))
  · refine v_iconst dX12_threesOf_46 ci_1 ?_
    refine v_goto (tgt := 51) dX12_threesOf_47 (by decide) ?_
    refine v_aload_n dX12_threesOf_51 rfl ?_
    refine v_getR dX12_threesOf_52 fl_RX12_37 kd_68 (ltA hA0 rfl) rfl (hF 68 19 73 rfl) ?_
    refine v_iload_n dX12_threesOf_55 rfl ?_
    refine v_iald dX12_threesOf_56 kd_73 (ltA hA0 rfl) (hi_56_1 c0) ?_
    refine v_iload dX12_threesOf_57 rfl ?_
    exact v_cSI (mt := m_X12_threesOf) mo_X12_has ml_RX12_220 mz_X12_has rfl hR hcs (Nat.le_of_ble_eq_true rfl) dX12_threesOf_59 rfl (hM_1 c0) (fun y g hp => ((q_1 c0) y g hp))
theorem c_X12_threesOf_62 {X : CX} {R : Room} {Z : ZX} {A : AX} {h : AH} {x1 x3 x4 x5 s0 s1 s2 : Int32} {d : Nat} {P80 P80_1 : Int32 → AH → Prop} (hA0 : 91 ≤ A.1) (hF : Fx h) (hR : RO R (d + 1)) (hcs : A.2.2.1 ≤ R.cells ∧ A.2.2.2 ≤ R.slots) (hi_77 : s2 = 0 → vp_in x4 20) (hM : s2 = 0 → Mk X d m_X12_has [.int (h.1 73 x4.toNatClampNeg), .int x5] h A.1 A.2.1 (RI P80)) (q : s2 = 0 → ∀ (y : Int32) (g : AH), P80 y g → V X m_X12_threesOf R Z A 83 [some (.ref 68), some (.int x1), none, some (.int x3), some (.int x4), some (.int x5)] [.int y, .int (s1 + 0), .int s0] g) (hi_77_1 : ¬ s2 = 0 → vp_in x4 20) (hM_1 : ¬ s2 = 0 → Mk X d m_X12_has [.int (h.1 73 x4.toNatClampNeg), .int x5] h A.1 A.2.1 (RI P80_1)) (q_1 : ¬ s2 = 0 → ∀ (y : Int32) (g : AH), P80_1 y g → V X m_X12_threesOf R Z A 83 [some (.ref 68), some (.int x1), none, some (.int x3), some (.int x4), some (.int x5)] [.int y, .int (s1 + 1), .int s0] g) : V X m_X12_threesOf R Z A 62 [some (.ref 68), some (.int x1), none, some (.int x3), some (.int x4), some (.int x5)] [.int s2, .int s1, .int s0] h := by
  refine v_if_eq (tgt := 69) dX12_threesOf_62 (by decide) (fun c0 => ?_) (fun c0 => ?_)
  · refine v_iconst dX12_threesOf_69 ci_0 ?_
    refine v_iadd dX12_threesOf_70 ?_
    refine v_aload_n dX12_threesOf_71 rfl ?_
    refine v_getR dX12_threesOf_72 fl_RX12_37 kd_68 (ltA hA0 rfl) rfl (hF 68 19 73 rfl) ?_
    refine v_iload dX12_threesOf_75 rfl ?_
    refine v_iald dX12_threesOf_77 kd_73 (ltA hA0 rfl) (hi_77 c0) ?_
    refine v_iload dX12_threesOf_78 rfl ?_
    exact v_cSI (mt := m_X12_threesOf) mo_X12_has ml_RX12_220 mz_X12_has rfl hR hcs (Nat.le_of_ble_eq_true rfl) dX12_threesOf_80 rfl (hM c0) (fun y g hp => ((q c0) y g hp))
  · refine v_iconst dX12_threesOf_65 ci_1 ?_
    refine v_goto (tgt := 70) dX12_threesOf_66 (by decide) ?_
    refine v_iadd dX12_threesOf_70 ?_
    refine v_aload_n dX12_threesOf_71 rfl ?_
    refine v_getR dX12_threesOf_72 fl_RX12_37 kd_68 (ltA hA0 rfl) rfl (hF 68 19 73 rfl) ?_
    refine v_iload dX12_threesOf_75 rfl ?_
    refine v_iald dX12_threesOf_77 kd_73 (ltA hA0 rfl) (hi_77_1 c0) ?_
    refine v_iload dX12_threesOf_78 rfl ?_
    exact v_cSI (mt := m_X12_threesOf) mo_X12_has ml_RX12_220 mz_X12_has rfl hR hcs (Nat.le_of_ble_eq_true rfl) dX12_threesOf_80 rfl (hM_1 c0) (fun y g hp => ((q_1 c0) y g hp))
theorem c_X12_threesOf_83 {X : CX} {R : Room} {Z : ZX} {A : AX} {h : AH} {x1 x3 x4 x5 s0 s1 s2 : Int32} (q : s2 = 0 → ¬ (s1 + 0) = x1 → V X m_X12_threesOf R Z A 24 [some (.ref 68), some (.int x1), some (.int (s0 + 0)), some (.int x3), some (.int x4), some (.int (x5 + 1))] [] h) (q_1 : s2 = 0 → (s1 + 0) = x1 → V X m_X12_threesOf R Z A 24 [some (.ref 68), some (.int x1), some (.int (s0 + 1)), some (.int x3), some (.int x4), some (.int (x5 + 1))] [] h) (q_2 : ¬ s2 = 0 → ¬ (s1 + 1) = x1 → V X m_X12_threesOf R Z A 24 [some (.ref 68), some (.int x1), some (.int (s0 + 0)), some (.int x3), some (.int x4), some (.int (x5 + 1))] [] h) (q_3 : ¬ s2 = 0 → (s1 + 1) = x1 → V X m_X12_threesOf R Z A 24 [some (.ref 68), some (.int x1), some (.int (s0 + 1)), some (.int x3), some (.int x4), some (.int (x5 + 1))] [] h) : V X m_X12_threesOf R Z A 83 [some (.ref 68), some (.int x1), none, some (.int x3), some (.int x4), some (.int x5)] [.int s2, .int s1, .int s0] h := by
  refine v_if_eq (tgt := 90) dX12_threesOf_83 (by decide) (fun c0 => ?_) (fun c0 => ?_)
  · refine v_iconst dX12_threesOf_90 ci_0 ?_
    refine v_iadd dX12_threesOf_91 ?_
    refine v_iload_n dX12_threesOf_92 rfl ?_
    refine v_icmp_ne (tgt := 100) dX12_threesOf_93 (by decide) (fun c1 => ?_) (fun c1 => ?_)
    · refine v_iconst dX12_threesOf_100 ci_0 ?_
      refine v_iadd dX12_threesOf_101 ?_
      refine v_istore_n dX12_threesOf_102 (by decide) (L' := [some (.ref 68), some (.int x1), some (.int (s0 + 0)), some (.int x3), some (.int x4), some (.int x5)]) rfl ?_
      refine v_iinc (y := (x5 + 1)) dX12_threesOf_103 rfl rfl (by decide) (L' := [some (.ref 68), some (.int x1), some (.int (s0 + 0)), some (.int x3), some (.int x4), some (.int (x5 + 1))]) rfl ?_
      refine v_goto (tgt := 24) dX12_threesOf_106 (by decide) ?_
      exact (q c0 c1)
    · refine v_iconst dX12_threesOf_96 ci_1 ?_
      refine v_goto (tgt := 101) dX12_threesOf_97 (by decide) ?_
      refine v_iadd dX12_threesOf_101 ?_
      refine v_istore_n dX12_threesOf_102 (by decide) (L' := [some (.ref 68), some (.int x1), some (.int (s0 + 1)), some (.int x3), some (.int x4), some (.int x5)]) rfl ?_
      refine v_iinc (y := (x5 + 1)) dX12_threesOf_103 rfl rfl (by decide) (L' := [some (.ref 68), some (.int x1), some (.int (s0 + 1)), some (.int x3), some (.int x4), some (.int (x5 + 1))]) rfl ?_
      refine v_goto (tgt := 24) dX12_threesOf_106 (by decide) ?_
      exact (q_1 c0 c1)
  · refine v_iconst dX12_threesOf_86 ci_1 ?_
    refine v_goto (tgt := 91) dX12_threesOf_87 (by decide) ?_
    refine v_iadd dX12_threesOf_91 ?_
    refine v_iload_n dX12_threesOf_92 rfl ?_
    refine v_icmp_ne (tgt := 100) dX12_threesOf_93 (by decide) (fun c1 => ?_) (fun c1 => ?_)
    · refine v_iconst dX12_threesOf_100 ci_0 ?_
      refine v_iadd dX12_threesOf_101 ?_
      refine v_istore_n dX12_threesOf_102 (by decide) (L' := [some (.ref 68), some (.int x1), some (.int (s0 + 0)), some (.int x3), some (.int x4), some (.int x5)]) rfl ?_
      refine v_iinc (y := (x5 + 1)) dX12_threesOf_103 rfl rfl (by decide) (L' := [some (.ref 68), some (.int x1), some (.int (s0 + 0)), some (.int x3), some (.int x4), some (.int (x5 + 1))]) rfl ?_
      refine v_goto (tgt := 24) dX12_threesOf_106 (by decide) ?_
      exact (q_2 c0 c1)
    · refine v_iconst dX12_threesOf_96 ci_1 ?_
      refine v_goto (tgt := 101) dX12_threesOf_97 (by decide) ?_
      refine v_iadd dX12_threesOf_101 ?_
      refine v_istore_n dX12_threesOf_102 (by decide) (L' := [some (.ref 68), some (.int x1), some (.int (s0 + 1)), some (.int x3), some (.int x4), some (.int x5)]) rfl ?_
      refine v_iinc (y := (x5 + 1)) dX12_threesOf_103 rfl rfl (by decide) (L' := [some (.ref 68), some (.int x1), some (.int (s0 + 1)), some (.int x3), some (.int x4), some (.int (x5 + 1))]) rfl ?_
      refine v_goto (tgt := 24) dX12_threesOf_106 (by decide) ?_
      exact (q_3 c0 c1)
theorem e_X12_threes {X : CX} {d nx sz : Nat} {Q : Option Value → AH → Prop} {h : AH} {x1 : Int32} (q : V X m_X12_threes (rm d 0 0) (ZM X Q nx sz 0 0) (nx, sz, 0, 0) 0 [some (.ref 68), some (.int x1), none, none] [] h) : Mk X d m_X12_threes [.ref 68, .int x1] h nx sz Q := by
  refine Mok.ofV mo_X12_threes (Nat.le_of_ble_eq_true rfl) (L := [some (.ref 68), some (.int x1)]) (lvLe_s (lvLe_s lvLe_e)) (v_grow (n := 2) ?_)
  exact q
theorem c_X12_threes_0 {X : CX} {R : Room} {Z : ZX} {A : AX} {h : AH} {x1 : Int32} {d : Nat} {P8 : Int32 → AH → Prop} (hA0 : 91 ≤ A.1) (hR : RO R (d + 1)) (hcs : A.2.2.1 ≤ R.cells ∧ A.2.2.2 ≤ R.slots) (hM : Mk X d m_X12_isIn [.int x1, .int 0, .int 2] (setI h 68 0 0) A.1 A.2.1 (RI P8)) (q : ∀ (y : Int32) (g : AH), P8 y g → V X m_X12_threes R Z A 11 [some (.ref 68), some (.int x1), none, none] [.int y] g) : V X m_X12_threes R Z A 0 [some (.ref 68), some (.int x1), none, none] [] h := by
  refine v_aload_n dX12_threes_0 rfl ?_
  refine v_iconst dX12_threes_1 ci_0 ?_
  refine v_putI rfl rfl rfl dX12_threes_2 fl_RX12_103 (Or.inl rfl) kd_68 (ltA hA0 rfl) ?_
  refine v_iload_n dX12_threes_5 rfl ?_
  refine v_iconst dX12_threes_6 ci_0 ?_
  refine v_iconst dX12_threes_7 ci_2 ?_
  exact v_cSI (mt := m_X12_threes) mo_X12_isIn ml_RX12_232 mz_X12_isIn rfl hR hcs (Nat.le_of_ble_eq_true rfl) dX12_threes_8 rfl hM (fun y g hp => (q y g hp))
theorem c_X12_threes_11 {X : CX} {R : Room} {Q : Option Value → AH → Prop} {nx sz mc ms : Nat} {h : AH} {x1 s0 : Int32} {d : Nat} {P18 : Int32 → AH → Prop} (hA0 : 91 ≤ nx) (hR : RO R (d + 1)) (hcs : mc ≤ R.cells ∧ ms ≤ R.slots) (hM : ¬ s0 = 0 → Mk X d m_X12_threesOf [.ref 68, .int 3] h nx sz (RI P18)) (q : ¬ s0 = 0 → ∀ (y : Int32) (g : AH), P18 y g → V X m_X12_threes R (ZM X Q nx sz mc ms) (nx, sz, mc, ms) 21 [some (.ref 68), some (.int x1), none, none] [.int y] g) (hq : s0 = 0 → Q (some (.int (-1))) h) : V X m_X12_threes R (ZM X Q nx sz mc ms) (nx, sz, mc, ms) 11 [some (.ref 68), some (.int x1), none, none] [.int s0] h := by
  refine v_if_ne (tgt := 16) dX12_threes_11 (by decide) (fun c0 => ?_) (fun c0 => ?_)
  · refine v_aload_n dX12_threes_16 rfl ?_
    refine v_iconst dX12_threes_17 ci_3 ?_
    exact v_cVI (mt := m_X12_threes) mo_X12_threesOf ml_RX12_442 mi_X12_threesOf mv_X12_threesOf rfl kd_68 cl_12 rfl (ltA hA0 rfl) hR hcs (Nat.le_of_ble_eq_true rfl) dX12_threes_18 rfl (hM c0) (fun y g hp => ((q c0) y g hp))
  · refine v_iconst dX12_threes_14 ci_m1 ?_
    exact v_iret dX12_threes_15 rfl (hq c0)
theorem c_X12_threes_21 {X : CX} {R : Room} {Z : ZX} {A : AX} {h : AH} {x1 s0 : Int32} {d : Nat} {P24 : Int32 → AH → Prop} (hA0 : 91 ≤ A.1) (hR : RO R (d + 1)) (hcs : A.2.2.1 ≤ R.cells ∧ A.2.2.2 ≤ R.slots) (hM : Mk X d m_X12_threesOf [.ref 68, .int 2] h A.1 A.2.1 (RI P24)) (q : ∀ (y : Int32) (g : AH), P24 y g → V X m_X12_threes R Z A 27 [none, some (.int x1), some (.int s0), none] [.int y] g) : V X m_X12_threes R Z A 21 [some (.ref 68), some (.int x1), none, none] [.int s0] h := by
  refine v_istore_n dX12_threes_21 (by decide) (L' := [some (.ref 68), some (.int x1), some (.int s0), none]) rfl ?_
  refine v_aload_n dX12_threes_22 rfl ?_
  refine v_iconst dX12_threes_23 ci_2 ?_
  exact v_cVI (mt := m_X12_threes) mo_X12_threesOf ml_RX12_442 mi_X12_threesOf mv_X12_threesOf rfl kd_68 cl_12 rfl (ltA hA0 rfl) hR hcs (Nat.le_of_ble_eq_true rfl) dX12_threes_24 rfl hM (fun y g hp => (v_drop (lvLe_n (lvLe_s (lvLe_s (lvLe_n lvLe_e)))) (q y g hp)))
theorem c_X12_threes_27 {X : CX} {R : Room} {Q : Option Value → AH → Prop} {nx sz mc ms : Nat} {h : AH} {x1 x2 s0 : Int32} (hz_63 : 2 ≤ x1 → ¬ (x2 + s0) = 0 → ¬ ((3 * x2) + s0) = 0) (hq : 2 ≤ x1 → ¬ (x2 + s0) = 0 → Q (some (.int ((3000 * x2) / ((3 * x2) + s0)))) h) (hq_1 : 2 ≤ x1 → (x2 + s0) = 0 → Q (some (.int 0)) h) (hq_2 : ¬ 2 ≤ x1 → ¬ x1 = 0 → Q (some (.int s0)) h) (hq_3 : ¬ 2 ≤ x1 → x1 = 0 → Q (some (.int x2)) h) : V X m_X12_threes R (ZM X Q nx sz mc ms) (nx, sz, mc, ms) 27 [none, some (.int x1), some (.int x2), none] [.int s0] h := by
  refine v_istore_n dX12_threes_27 (by decide) (L' := [none, some (.int x1), some (.int x2), some (.int s0)]) rfl ?_
  refine v_iload_n dX12_threes_28 rfl ?_
  refine v_iconst dX12_threes_29 ci_2 ?_
  refine v_icmp_ge (tgt := 43) dX12_threes_30 (by decide) (fun c0 => ?_) (fun c0 => ?_)
  · refine v_iload_n dX12_threes_43 rfl ?_
    refine v_iload_n dX12_threes_44 rfl ?_
    refine v_iadd dX12_threes_45 ?_
    refine v_if_ne (tgt := 53) dX12_threes_46 (by decide) (fun c1 => ?_) (fun c1 => ?_)
    · refine v_sipush dX12_threes_53 cs_3000 ?_
      refine v_iload_n dX12_threes_56 rfl ?_
      refine v_imul dX12_threes_57 ?_
      refine v_iconst dX12_threes_58 ci_3 ?_
      refine v_iload_n dX12_threes_59 rfl ?_
      refine v_imul dX12_threes_60 ?_
      refine v_iload_n dX12_threes_61 rfl ?_
      refine v_iadd dX12_threes_62 ?_
      refine v_idiv dX12_threes_63 (hz_63 c0 c1) ?_
      exact v_iret dX12_threes_64 rfl (hq c0 c1)
    · refine v_iconst dX12_threes_49 ci_0 ?_
      refine v_goto (tgt := 64) dX12_threes_50 (by decide) ?_
      exact v_iret dX12_threes_64 rfl (hq_1 c0 c1)
  · refine v_iload_n dX12_threes_33 rfl ?_
    refine v_if_ne (tgt := 41) dX12_threes_34 (by decide) (fun c1 => ?_) (fun c1 => ?_)
    · refine v_iload_n dX12_threes_41 rfl ?_
      exact v_iret dX12_threes_42 rfl (hq_2 c0 c1)
    · refine v_iload_n dX12_threes_37 rfl ?_
      refine v_goto (tgt := 42) dX12_threes_38 (by decide) ?_
      exact v_iret dX12_threes_42 rfl (hq_3 c0 c1)
theorem e_X12_farsOfOthers {X : CX} {d nx sz : Nat} {Q : Option Value → AH → Prop} {h : AH} {x1 x2 : Int32} (q : V X m_X12_farsOfOthers (rm d 0 0) (ZM X Q nx sz 0 0) (nx, sz, 0, 0) 0 [some (.ref 68), some (.int x1), some (.int x2), none, none, none, none, none] [] h) : Mk X d m_X12_farsOfOthers [.ref 68, .int x1, .int x2] h nx sz Q := by
  refine Mok.ofV mo_X12_farsOfOthers (Nat.le_of_ble_eq_true rfl) (L := [some (.ref 68), some (.int x1), some (.int x2)]) (lvLe_s (lvLe_s (lvLe_s lvLe_e))) (v_grow (n := 5) ?_)
  exact q
theorem c_X12_farsOfOthers_0 {X : CX} {R : Room} {Z : ZX} {A : AX} {h : AH} {x1 x2 : Int32} (hA0 : 91 ≤ A.1) (hF : Fx h) (hi_7 : vp_in x1 20) (q : V X m_X12_farsOfOthers R Z A 13 [some (.ref 68), some (.int x1), some (.int x2), some (.int 0), some (.int (h.1 73 x1.toNatClampNeg)), some (.int 0), none, none] [] h) : V X m_X12_farsOfOthers R Z A 0 [some (.ref 68), some (.int x1), some (.int x2), none, none, none, none, none] [] h := by
  refine v_iconst dX12_farsOfOthers_0 ci_0 ?_
  refine v_istore_n dX12_farsOfOthers_1 (by decide) (L' := [some (.ref 68), some (.int x1), some (.int x2), some (.int 0), none, none, none, none]) rfl ?_
  refine v_aload_n dX12_farsOfOthers_2 rfl ?_
  refine v_getR dX12_farsOfOthers_3 fl_RX12_37 kd_68 (ltA hA0 rfl) rfl (hF 68 19 73 rfl) ?_
  refine v_iload_n dX12_farsOfOthers_6 rfl ?_
  refine v_iald dX12_farsOfOthers_7 kd_73 (ltA hA0 rfl) hi_7 ?_
  refine v_istore dX12_farsOfOthers_8 (by decide) (L' := [some (.ref 68), some (.int x1), some (.int x2), some (.int 0), some (.int (h.1 73 x1.toNatClampNeg)), none, none, none]) rfl ?_
  refine v_iconst dX12_farsOfOthers_10 ci_0 ?_
  refine v_istore dX12_farsOfOthers_11 (by decide) (L' := [some (.ref 68), some (.int x1), some (.int x2), some (.int 0), some (.int (h.1 73 x1.toNatClampNeg)), some (.int 0), none, none]) rfl ?_
  exact q
theorem c_X12_farsOfOthers_13 {X : CX} {R : Room} {Z : ZX} {A : AX} {h : AH} {x1 x2 x3 x4 x5 : Int32} {d : Nat} {P30 : Int32 → AH → Prop} (hA0 : 91 ≤ A.1) (hR : RO R (d + 1)) (hcs : A.2.2.1 ≤ R.cells ∧ A.2.2.2 ≤ R.slots) (q : (h.1 68 1) ≤ x5 → V X m_X12_farsOfOthers R Z A 52 [some (.ref 68), some (.int x1), some (.int x2), some (.int x3), some (.int x4), some (.int 0), none, none] [] h) (q_1 : ¬ (h.1 68 1) ≤ x5 → x2 = 0 → V X m_X12_farsOfOthers R Z A 52 [some (.ref 68), some (.int x1), some (.int x2), some (.int x3), some (.int x4), some (.int 0), none, none] [] h) (hM : ¬ (h.1 68 1) ≤ x5 → ¬ x2 = 0 → Mk X d m_X12_has [.int x4, .int x5] h A.1 A.2.1 (RI P30)) (q_2 : ¬ (h.1 68 1) ≤ x5 → ¬ x2 = 0 → ∀ (y : Int32) (g : AH), P30 y g → V X m_X12_farsOfOthers R Z A 33 [some (.ref 68), some (.int x1), some (.int x2), some (.int x3), some (.int x4), some (.int x5), none, none] [.int y] g) : V X m_X12_farsOfOthers R Z A 13 [some (.ref 68), some (.int x1), some (.int x2), some (.int x3), some (.int x4), some (.int x5), none, none] [] h := by
  refine v_iload dX12_farsOfOthers_13 rfl ?_
  refine v_aload_n dX12_farsOfOthers_15 rfl ?_
  refine v_getI dX12_farsOfOthers_16 fl_RX12_99 kd_68 (ltA hA0 rfl) rfl ?_
  refine v_icmp_ge (tgt := 49) dX12_farsOfOthers_19 (by decide) (fun c0 => ?_) (fun c0 => ?_)
  · refine v_iconst dX12_farsOfOthers_49 ci_0 ?_
    refine v_istore dX12_farsOfOthers_50 (by decide) (L' := [some (.ref 68), some (.int x1), some (.int x2), some (.int x3), some (.int x4), some (.int 0), none, none]) rfl ?_
    exact (q c0)
  · refine v_iload_n dX12_farsOfOthers_22 rfl ?_
    refine v_if_eq (tgt := 49) dX12_farsOfOthers_23 (by decide) (fun c1 => ?_) (fun c1 => ?_)
    · refine v_iconst dX12_farsOfOthers_49 ci_0 ?_
      refine v_istore dX12_farsOfOthers_50 (by decide) (L' := [some (.ref 68), some (.int x1), some (.int x2), some (.int x3), some (.int x4), some (.int 0), none, none]) rfl ?_
      exact (q_1 c0 c1)
    · refine v_iload dX12_farsOfOthers_26 rfl ?_
      refine v_iload dX12_farsOfOthers_28 rfl ?_
      exact v_cSI (mt := m_X12_farsOfOthers) mo_X12_has ml_RX12_220 mz_X12_has rfl hR hcs (Nat.le_of_ble_eq_true rfl) dX12_farsOfOthers_30 rfl (hM c0 c1) (fun y g hp => ((q_2 c0 c1) y g hp))
theorem c_X12_farsOfOthers_33 {X : CX} {R : Room} {Z : ZX} {A : AX} {h : AH} {x1 x2 x3 x4 x5 s0 : Int32} {d : Nat} {P40 : AH → Prop} (hA0 : 91 ≤ A.1) (hR : RO R (d + 1)) (hcs : A.2.2.1 ≤ R.cells ∧ A.2.2.2 ≤ R.slots) (q : s0 = 0 → V X m_X12_farsOfOthers R Z A 43 [some (.ref 68), some (.int x1), some (.int x2), some (.int x3), some (.int x4), some (.int x5), none, none] [] h) (hM : ¬ s0 = 0 → Mk X d m_X12_part_ [.ref 68, .int x1, .int x5] h A.1 A.2.1 (RV P40)) (q_1 : ¬ s0 = 0 → ∀ (g : AH), P40 g → V X m_X12_farsOfOthers R Z A 43 [some (.ref 68), some (.int x1), some (.int x2), some (.int x3), some (.int x4), some (.int x5), none, none] [] g) : V X m_X12_farsOfOthers R Z A 33 [some (.ref 68), some (.int x1), some (.int x2), some (.int x3), some (.int x4), some (.int x5), none, none] [.int s0] h := by
  refine v_if_eq (tgt := 43) dX12_farsOfOthers_33 (by decide) (fun c0 => ?_) (fun c0 => ?_)
  · exact (q c0)
  · refine v_aload_n dX12_farsOfOthers_36 rfl ?_
    refine v_iload_n dX12_farsOfOthers_37 rfl ?_
    refine v_iload dX12_farsOfOthers_38 rfl ?_
    exact v_cVV (mt := m_X12_farsOfOthers) mo_X12_part_ ml_RX12_263 mi_X12_part_ mv_X12_part_ rfl kd_68 cl_12 rfl (ltA hA0 rfl) hR hcs (Nat.le_of_ble_eq_true rfl) dX12_farsOfOthers_40 rfl (hM c0) (fun g hp => ((q_1 c0) g hp))
theorem c_X12_farsOfOthers_43 {X : CX} {R : Room} {Z : ZX} {A : AX} {h : AH} {x1 x2 x3 x4 x5 : Int32} (q : V X m_X12_farsOfOthers R Z A 13 [some (.ref 68), some (.int x1), some (.int x2), some (.int x3), some (.int x4), some (.int (x5 + 1)), none, none] [] h) : V X m_X12_farsOfOthers R Z A 43 [some (.ref 68), some (.int x1), some (.int x2), some (.int x3), some (.int x4), some (.int x5), none, none] [] h := by
  refine v_iinc (y := (x5 + 1)) dX12_farsOfOthers_43 rfl rfl (by decide) (L' := [some (.ref 68), some (.int x1), some (.int x2), some (.int x3), some (.int x4), some (.int (x5 + 1)), none, none]) rfl ?_
  refine v_goto (tgt := 13) dX12_farsOfOthers_46 (by decide) ?_
  exact q
theorem c_X12_farsOfOthers_52 {X : CX} {R : Room} {Z : ZX} {A : AX} {h : AH} {x1 x2 x3 x4 x5 : Int32} (hA0 : 91 ≤ A.1) (q : (h.1 68 1) ≤ x5 → V X m_X12_farsOfOthers R Z A 138 [some (.ref 68), some (.int x1), some (.int x2), some (.int x3), some (.int x4), some (.int 0), none, none] [] h) (q_1 : ¬ (h.1 68 1) ≤ x5 → V X m_X12_farsOfOthers R Z A 64 [some (.ref 68), some (.int x1), some (.int x2), some (.int x3), some (.int x4), some (.int x5), some (.int 0), none] [] h) : V X m_X12_farsOfOthers R Z A 52 [some (.ref 68), some (.int x1), some (.int x2), some (.int x3), some (.int x4), some (.int x5), none, none] [] h := by
  refine v_iload dX12_farsOfOthers_52 rfl ?_
  refine v_aload_n dX12_farsOfOthers_54 rfl ?_
  refine v_getI dX12_farsOfOthers_55 fl_RX12_99 kd_68 (ltA hA0 rfl) rfl ?_
  refine v_icmp_ge (tgt := 135) dX12_farsOfOthers_58 (by decide) (fun c0 => ?_) (fun c0 => ?_)
  · refine v_iconst dX12_farsOfOthers_135 ci_0 ?_
    refine v_istore dX12_farsOfOthers_136 (by decide) (L' := [some (.ref 68), some (.int x1), some (.int x2), some (.int x3), some (.int x4), some (.int 0), none, none]) rfl ?_
    exact (q c0)
  · refine v_iconst dX12_farsOfOthers_61 ci_0 ?_
    refine v_istore dX12_farsOfOthers_62 (by decide) (L' := [some (.ref 68), some (.int x1), some (.int x2), some (.int x3), some (.int x4), some (.int x5), some (.int 0), none]) rfl ?_
    exact (q_1 c0)
theorem c_X12_farsOfOthers_64 {X : CX} {R : Room} {Z : ZX} {A : AX} {h : AH} {x1 x2 x3 x4 x5 x6 : Int32} {d : Nat} {P100 : Int32 → AH → Prop} (hA0 : 91 ≤ A.1) (hR : RO R (d + 1)) (hcs : A.2.2.1 ≤ R.cells ∧ A.2.2.2 ≤ R.slots) (q : (h.1 68 1) ≤ x6 → V X m_X12_farsOfOthers R Z A 52 [some (.ref 68), some (.int x1), some (.int x2), some (.int x3), some (.int x4), some (.int (x5 + 1)), none, none] [] h) (q_1 : ¬ (h.1 68 1) ≤ x6 → x5 = x1 → V X m_X12_farsOfOthers R Z A 64 [some (.ref 68), some (.int x1), some (.int x2), some (.int x3), some (.int x4), some (.int x5), some (.int (x6 + 1)), none] [] h) (q_2 : ¬ (h.1 68 1) ≤ x6 → ¬ x5 = x1 → x6 = x1 → V X m_X12_farsOfOthers R Z A 64 [some (.ref 68), some (.int x1), some (.int x2), some (.int x3), some (.int x4), some (.int x5), some (.int (x6 + 1)), none] [] h) (hM : ¬ (h.1 68 1) ≤ x6 → ¬ x5 = x1 → ¬ x6 = x1 → ¬ x5 = x6 → Mk X d m_X12_farOf [.ref 68, .int x5, .int x6] h A.1 A.2.1 (RI P100)) (q_3 : ¬ (h.1 68 1) ≤ x6 → ¬ x5 = x1 → ¬ x6 = x1 → ¬ x5 = x6 → ∀ (y : Int32) (g : AH), P100 y g → V X m_X12_farsOfOthers R Z A 103 [some (.ref 68), some (.int x1), some (.int x2), some (.int x3), some (.int x4), some (.int x5), some (.int x6), none] [.int y] g) (q_4 : ¬ (h.1 68 1) ≤ x6 → ¬ x5 = x1 → ¬ x6 = x1 → x5 = x6 → V X m_X12_farsOfOthers R Z A 64 [some (.ref 68), some (.int x1), some (.int x2), some (.int x3), some (.int x4), some (.int x5), some (.int (x6 + 1)), none] [] h) : V X m_X12_farsOfOthers R Z A 64 [some (.ref 68), some (.int x1), some (.int x2), some (.int x3), some (.int x4), some (.int x5), some (.int x6), none] [] h := by
  refine v_iload dX12_farsOfOthers_64 rfl ?_
  refine v_aload_n dX12_farsOfOthers_66 rfl ?_
  refine v_getI dX12_farsOfOthers_67 fl_RX12_99 kd_68 (ltA hA0 rfl) rfl ?_
  refine v_icmp_ge (tgt := 129) dX12_farsOfOthers_70 (by decide) (fun c0 => ?_) (fun c0 => ?_)
  · refine v_iinc (y := (x5 + 1)) dX12_farsOfOthers_129 rfl rfl (by decide) (L' := [some (.ref 68), some (.int x1), some (.int x2), some (.int x3), some (.int x4), some (.int (x5 + 1)), some (.int x6), none]) rfl ?_
    refine v_goto (tgt := 52) dX12_farsOfOthers_132 (by decide) ?_
    exact (v_drop (lvLe_s (lvLe_s (lvLe_s (lvLe_s (lvLe_s (lvLe_s (lvLe_n (lvLe_n lvLe_e)))))))) (q c0))
  · refine v_iload dX12_farsOfOthers_73 rfl ?_
    refine v_iload_n dX12_farsOfOthers_75 rfl ?_
    refine v_icmp_eq (tgt := 123) dX12_farsOfOthers_76 (by decide) (fun c1 => ?_) (fun c1 => ?_)
    · refine v_iinc (y := (x6 + 1)) dX12_farsOfOthers_123 rfl rfl (by decide) (L' := [some (.ref 68), some (.int x1), some (.int x2), some (.int x3), some (.int x4), some (.int x5), some (.int (x6 + 1)), none]) rfl ?_
      refine v_goto (tgt := 64) dX12_farsOfOthers_126 (by decide) ?_
      exact (q_1 c0 c1)
    · refine v_iload dX12_farsOfOthers_79 rfl ?_
      refine v_iload_n dX12_farsOfOthers_81 rfl ?_
      refine v_icmp_eq (tgt := 123) dX12_farsOfOthers_82 (by decide) (fun c2 => ?_) (fun c2 => ?_)
      · refine v_iinc (y := (x6 + 1)) dX12_farsOfOthers_123 rfl rfl (by decide) (L' := [some (.ref 68), some (.int x1), some (.int x2), some (.int x3), some (.int x4), some (.int x5), some (.int (x6 + 1)), none]) rfl ?_
        refine v_goto (tgt := 64) dX12_farsOfOthers_126 (by decide) ?_
        exact (q_2 c0 c1 c2)
      · refine v_iload dX12_farsOfOthers_85 rfl ?_
        refine v_iload dX12_farsOfOthers_87 rfl ?_
        refine v_icmp_ne (tgt := 95) dX12_farsOfOthers_89 (by decide) (fun c3 => ?_) (fun c3 => ?_)
        · refine v_aload_n dX12_farsOfOthers_95 rfl ?_
          refine v_iload dX12_farsOfOthers_96 rfl ?_
          refine v_iload dX12_farsOfOthers_98 rfl ?_
          exact v_cVI (mt := m_X12_farsOfOthers) mo_X12_farOf ml_RX12_268 mi_X12_farOf mv_X12_farOf rfl kd_68 cl_12 rfl (ltA hA0 rfl) hR hcs (Nat.le_of_ble_eq_true rfl) dX12_farsOfOthers_100 rfl (hM c0 c1 c2 c3) (fun y g hp => ((q_3 c0 c1 c2 c3) y g hp))
        · refine v_goto (tgt := 123) dX12_farsOfOthers_92 (by decide) ?_
          refine v_iinc (y := (x6 + 1)) dX12_farsOfOthers_123 rfl rfl (by decide) (L' := [some (.ref 68), some (.int x1), some (.int x2), some (.int x3), some (.int x4), some (.int x5), some (.int (x6 + 1)), none]) rfl ?_
          refine v_goto (tgt := 64) dX12_farsOfOthers_126 (by decide) ?_
          exact (q_4 c0 c1 c2 c3)
theorem c_X12_farsOfOthers_103 {X : CX} {R : Room} {Z : ZX} {A : AX} {h : AH} {x1 x2 x3 x4 x5 x6 s0 : Int32} (hA0 : 91 ≤ A.1) (q : ¬ s0 = (-1) → V X m_X12_farsOfOthers R Z A 64 [some (.ref 68), some (.int x1), some (.int x2), some (.int (x3 + s0)), some (.int x4), some (.int x5), some (.int (x6 + 1)), none] [] h) (q_1 : s0 = (-1) → V X m_X12_farsOfOthers R Z A 64 [some (.ref 68), some (.int x1), some (.int x2), some (.int (x3 + (h.1 68 1))), some (.int x4), some (.int x5), some (.int (x6 + 1)), none] [] h) : V X m_X12_farsOfOthers R Z A 103 [some (.ref 68), some (.int x1), some (.int x2), some (.int x3), some (.int x4), some (.int x5), some (.int x6), none] [.int s0] h := by
  refine v_istore dX12_farsOfOthers_103 (by decide) (L' := [some (.ref 68), some (.int x1), some (.int x2), some (.int x3), some (.int x4), some (.int x5), some (.int x6), some (.int s0)]) rfl ?_
  refine v_iload_n dX12_farsOfOthers_105 rfl ?_
  refine v_iload dX12_farsOfOthers_106 rfl ?_
  refine v_iconst dX12_farsOfOthers_108 ci_m1 ?_
  refine v_icmp_ne (tgt := 119) dX12_farsOfOthers_109 (by decide) (fun c0 => ?_) (fun c0 => ?_)
  · refine v_iload dX12_farsOfOthers_119 rfl ?_
    refine v_iadd dX12_farsOfOthers_121 ?_
    refine v_istore_n dX12_farsOfOthers_122 (by decide) (L' := [some (.ref 68), some (.int x1), some (.int x2), some (.int (x3 + s0)), some (.int x4), some (.int x5), some (.int x6), some (.int s0)]) rfl ?_
    refine v_iinc (y := (x6 + 1)) dX12_farsOfOthers_123 rfl rfl (by decide) (L' := [some (.ref 68), some (.int x1), some (.int x2), some (.int (x3 + s0)), some (.int x4), some (.int x5), some (.int (x6 + 1)), some (.int s0)]) rfl ?_
    refine v_goto (tgt := 64) dX12_farsOfOthers_126 (by decide) ?_
    exact (v_drop (lvLe_s (lvLe_s (lvLe_s (lvLe_s (lvLe_s (lvLe_s (lvLe_s (lvLe_n lvLe_e)))))))) (q c0))
  · refine v_aload_n dX12_farsOfOthers_112 rfl ?_
    refine v_getI dX12_farsOfOthers_113 fl_RX12_99 kd_68 (ltA hA0 rfl) rfl ?_
    refine v_goto (tgt := 121) dX12_farsOfOthers_116 (by decide) ?_
    refine v_iadd dX12_farsOfOthers_121 ?_
    refine v_istore_n dX12_farsOfOthers_122 (by decide) (L' := [some (.ref 68), some (.int x1), some (.int x2), some (.int (x3 + (h.1 68 1))), some (.int x4), some (.int x5), some (.int x6), some (.int s0)]) rfl ?_
    refine v_iinc (y := (x6 + 1)) dX12_farsOfOthers_123 rfl rfl (by decide) (L' := [some (.ref 68), some (.int x1), some (.int x2), some (.int (x3 + (h.1 68 1))), some (.int x4), some (.int x5), some (.int (x6 + 1)), some (.int s0)]) rfl ?_
    refine v_goto (tgt := 64) dX12_farsOfOthers_126 (by decide) ?_
    exact (v_drop (lvLe_s (lvLe_s (lvLe_s (lvLe_s (lvLe_s (lvLe_s (lvLe_s (lvLe_n lvLe_e)))))))) (q_1 c0))
theorem c_X12_farsOfOthers_138 {X : CX} {R : Room} {Q : Option Value → AH → Prop} {nx sz mc ms : Nat} {h : AH} {x1 x2 x3 x4 x5 : Int32} {d : Nat} {P155 : Int32 → AH → Prop} (hA0 : 91 ≤ nx) (hR : RO R (d + 1)) (hcs : mc ≤ R.cells ∧ ms ≤ R.slots) (hq : (h.1 68 1) ≤ x5 → Q (some (.int x3)) h) (hq_1 : ¬ (h.1 68 1) ≤ x5 → x2 = 0 → Q (some (.int x3)) h) (hM : ¬ (h.1 68 1) ≤ x5 → ¬ x2 = 0 → Mk X d m_X12_has [.int x4, .int x5] h nx sz (RI P155)) (q : ¬ (h.1 68 1) ≤ x5 → ¬ x2 = 0 → ∀ (y : Int32) (g : AH), P155 y g → V X m_X12_farsOfOthers R (ZM X Q nx sz mc ms) (nx, sz, mc, ms) 158 [some (.ref 68), some (.int x1), some (.int x2), some (.int x3), some (.int x4), some (.int x5), none, none] [.int y] g) : V X m_X12_farsOfOthers R (ZM X Q nx sz mc ms) (nx, sz, mc, ms) 138 [some (.ref 68), some (.int x1), some (.int x2), some (.int x3), some (.int x4), some (.int x5), none, none] [] h := by
  refine v_iload dX12_farsOfOthers_138 rfl ?_
  refine v_aload_n dX12_farsOfOthers_140 rfl ?_
  refine v_getI dX12_farsOfOthers_141 fl_RX12_99 kd_68 (ltA hA0 rfl) rfl ?_
  refine v_icmp_ge (tgt := 174) dX12_farsOfOthers_144 (by decide) (fun c0 => ?_) (fun c0 => ?_)
  · refine v_iload_n dX12_farsOfOthers_174 rfl ?_
    exact v_iret dX12_farsOfOthers_175 rfl (hq c0)
  · refine v_iload_n dX12_farsOfOthers_147 rfl ?_
    refine v_if_eq (tgt := 174) dX12_farsOfOthers_148 (by decide) (fun c1 => ?_) (fun c1 => ?_)
    · refine v_iload_n dX12_farsOfOthers_174 rfl ?_
      exact v_iret dX12_farsOfOthers_175 rfl (hq_1 c0 c1)
    · refine v_iload dX12_farsOfOthers_151 rfl ?_
      refine v_iload dX12_farsOfOthers_153 rfl ?_
      exact v_cSI (mt := m_X12_farsOfOthers) mo_X12_has ml_RX12_220 mz_X12_has rfl hR hcs (Nat.le_of_ble_eq_true rfl) dX12_farsOfOthers_155 rfl (hM c0 c1) (fun y g hp => ((q c0 c1) y g hp))
theorem c_X12_farsOfOthers_158 {X : CX} {R : Room} {Z : ZX} {A : AX} {h : AH} {x1 x2 x3 x4 x5 s0 : Int32} {d : Nat} {P165 : AH → Prop} (hA0 : 91 ≤ A.1) (hR : RO R (d + 1)) (hcs : A.2.2.1 ≤ R.cells ∧ A.2.2.2 ≤ R.slots) (q : s0 = 0 → V X m_X12_farsOfOthers R Z A 168 [some (.ref 68), some (.int x1), some (.int x2), some (.int x3), some (.int x4), some (.int x5), none, none] [] h) (hM : ¬ s0 = 0 → Mk X d m_X12_join [.ref 68, .int x1, .int x5] h A.1 A.2.1 (RV P165)) (q_1 : ¬ s0 = 0 → ∀ (g : AH), P165 g → V X m_X12_farsOfOthers R Z A 168 [some (.ref 68), some (.int x1), some (.int x2), some (.int x3), some (.int x4), some (.int x5), none, none] [] g) : V X m_X12_farsOfOthers R Z A 158 [some (.ref 68), some (.int x1), some (.int x2), some (.int x3), some (.int x4), some (.int x5), none, none] [.int s0] h := by
  refine v_if_eq (tgt := 168) dX12_farsOfOthers_158 (by decide) (fun c0 => ?_) (fun c0 => ?_)
  · exact (q c0)
  · refine v_aload_n dX12_farsOfOthers_161 rfl ?_
    refine v_iload_n dX12_farsOfOthers_162 rfl ?_
    refine v_iload dX12_farsOfOthers_163 rfl ?_
    exact v_cVV (mt := m_X12_farsOfOthers) mo_X12_join ml_RX12_259 mi_X12_join mv_X12_join rfl kd_68 cl_12 rfl (ltA hA0 rfl) hR hcs (Nat.le_of_ble_eq_true rfl) dX12_farsOfOthers_165 rfl (hM c0) (fun g hp => ((q_1 c0) g hp))
theorem c_X12_farsOfOthers_168 {X : CX} {R : Room} {Z : ZX} {A : AX} {h : AH} {x1 x2 x3 x4 x5 : Int32} (q : V X m_X12_farsOfOthers R Z A 138 [some (.ref 68), some (.int x1), some (.int x2), some (.int x3), some (.int x4), some (.int (x5 + 1)), none, none] [] h) : V X m_X12_farsOfOthers R Z A 168 [some (.ref 68), some (.int x1), some (.int x2), some (.int x3), some (.int x4), some (.int x5), none, none] [] h := by
  refine v_iinc (y := (x5 + 1)) dX12_farsOfOthers_168 rfl rfl (by decide) (L' := [some (.ref 68), some (.int x1), some (.int x2), some (.int x3), some (.int x4), some (.int (x5 + 1)), none, none]) rfl ?_
  refine v_goto (tgt := 138) dX12_farsOfOthers_171 (by decide) ?_
  exact q
theorem e_X12_courier {X : CX} {d nx sz : Nat} {Q : Option Value → AH → Prop} {h : AH} {x1 : Int32} (q : V X m_X12_courier (rm d 0 0) (ZM X Q nx sz 0 0) (nx, sz, 0, 0) 0 [some (.ref 68), some (.int x1), none, none, none, none] [] h) : Mk X d m_X12_courier [.ref 68, .int x1] h nx sz Q := by
  refine Mok.ofV mo_X12_courier (Nat.le_of_ble_eq_true rfl) (L := [some (.ref 68), some (.int x1)]) (lvLe_s (lvLe_s lvLe_e)) (v_grow (n := 4) ?_)
  exact q
theorem c_X12_courier_0 {X : CX} {R : Room} {Z : ZX} {A : AX} {h : AH} {x1 : Int32} {d : Nat} {P8 : Int32 → AH → Prop} (hA0 : 91 ≤ A.1) (hR : RO R (d + 1)) (hcs : A.2.2.1 ≤ R.cells ∧ A.2.2.2 ≤ R.slots) (hM : Mk X d m_X12_isIn [.int x1, .int 0, .int 1] (setI h 68 0 0) A.1 A.2.1 (RI P8)) (q : ∀ (y : Int32) (g : AH), P8 y g → V X m_X12_courier R Z A 11 [some (.ref 68), some (.int x1), none, none, none, none] [.int y] g) : V X m_X12_courier R Z A 0 [some (.ref 68), some (.int x1), none, none, none, none] [] h := by
  refine v_aload_n dX12_courier_0 rfl ?_
  refine v_iconst dX12_courier_1 ci_0 ?_
  refine v_putI rfl rfl rfl dX12_courier_2 fl_RX12_103 (Or.inl rfl) kd_68 (ltA hA0 rfl) ?_
  refine v_iload_n dX12_courier_5 rfl ?_
  refine v_iconst dX12_courier_6 ci_0 ?_
  refine v_iconst dX12_courier_7 ci_1 ?_
  exact v_cSI (mt := m_X12_courier) mo_X12_isIn ml_RX12_232 mz_X12_isIn rfl hR hcs (Nat.le_of_ble_eq_true rfl) dX12_courier_8 rfl hM (fun y g hp => (q y g hp))
theorem c_X12_courier_11 {X : CX} {R : Room} {Q : Option Value → AH → Prop} {nx sz mc ms : Nat} {h : AH} {x1 s0 : Int32} (q : ¬ s0 = 0 → V X m_X12_courier R (ZM X Q nx sz mc ms) (nx, sz, mc, ms) 23 [some (.ref 68), some (.int x1), some (.int (-1)), some (.int 0), some (.int 0), none] [] h) (hq : s0 = 0 → Q (some (.int (-1))) h) : V X m_X12_courier R (ZM X Q nx sz mc ms) (nx, sz, mc, ms) 11 [some (.ref 68), some (.int x1), none, none, none, none] [.int s0] h := by
  refine v_if_ne (tgt := 16) dX12_courier_11 (by decide) (fun c0 => ?_) (fun c0 => ?_)
  · refine v_iconst dX12_courier_16 ci_m1 ?_
    refine v_istore_n dX12_courier_17 (by decide) (L' := [some (.ref 68), some (.int x1), some (.int (-1)), none, none, none]) rfl ?_
    refine v_iconst dX12_courier_18 ci_0 ?_
    refine v_istore_n dX12_courier_19 (by decide) (L' := [some (.ref 68), some (.int x1), some (.int (-1)), some (.int 0), none, none]) rfl ?_
    refine v_iconst dX12_courier_20 ci_0 ?_
    refine v_istore dX12_courier_21 (by decide) (L' := [some (.ref 68), some (.int x1), some (.int (-1)), some (.int 0), some (.int 0), none]) rfl ?_
    exact (q c0)
  · refine v_iconst dX12_courier_14 ci_m1 ?_
    exact v_iret dX12_courier_15 rfl (hq c0)
theorem c_X12_courier_23 {X : CX} {R : Room} {Q : Option Value → AH → Prop} {nx sz mc ms : Nat} {h : AH} {x1 x2 x3 x4 : Int32} {d : Nat} {P36 : Int32 → AH → Prop} (hA0 : 91 ≤ nx) (hR : RO R (d + 1)) (hcs : mc ≤ R.cells ∧ ms ≤ R.slots) (hq : (h.1 68 1) ≤ x4 → ¬ x1 = 0 → Q (some (.int x3)) h) (hq_1 : (h.1 68 1) ≤ x4 → x1 = 0 → Q (some (.int x2)) h) (hM : ¬ (h.1 68 1) ≤ x4 → Mk X d m_X12_farsOfOthers [.ref 68, .int x4, .int 1] h nx sz (RI P36)) (q : ¬ (h.1 68 1) ≤ x4 → ∀ (y : Int32) (g : AH), P36 y g → V X m_X12_courier R (ZM X Q nx sz mc ms) (nx, sz, mc, ms) 39 [some (.ref 68), some (.int x1), some (.int x2), some (.int x3), some (.int x4), none] [.int y] g) : V X m_X12_courier R (ZM X Q nx sz mc ms) (nx, sz, mc, ms) 23 [some (.ref 68), some (.int x1), some (.int x2), some (.int x3), some (.int x4), none] [] h := by
  refine v_iload dX12_courier_23 rfl ?_
  refine v_aload_n dX12_courier_25 rfl ?_
  refine v_getI dX12_courier_26 fl_RX12_99 kd_68 (ltA hA0 rfl) rfl ?_
  refine v_icmp_ge (tgt := 75) dX12_courier_29 (by decide) (fun c0 => ?_) (fun c0 => ?_)
  · refine v_iload_n dX12_courier_75 rfl ?_
    refine v_if_ne (tgt := 83) dX12_courier_76 (by decide) (fun c1 => ?_) (fun c1 => ?_)
    · refine v_iload_n dX12_courier_83 rfl ?_
      exact v_iret dX12_courier_84 rfl (hq c0 c1)
    · refine v_iload_n dX12_courier_79 rfl ?_
      refine v_goto (tgt := 84) dX12_courier_80 (by decide) ?_
      exact v_iret dX12_courier_84 rfl (hq_1 c0 c1)
  · refine v_aload_n dX12_courier_32 rfl ?_
    refine v_iload dX12_courier_33 rfl ?_
    refine v_iconst dX12_courier_35 ci_1 ?_
    exact v_cVI (mt := m_X12_courier) mo_X12_farsOfOthers ml_RX12_445 mi_X12_farsOfOthers mv_X12_farsOfOthers rfl kd_68 cl_12 rfl (ltA hA0 rfl) hR hcs (Nat.le_of_ble_eq_true rfl) dX12_courier_36 rfl (hM c0) (fun y g hp => ((q c0) y g hp))
theorem c_X12_courier_39 {X : CX} {R : Room} {Z : ZX} {A : AX} {h : AH} {x1 x2 x3 x4 s0 : Int32} {d : Nat} {P43 : Int32 → AH → Prop} (hA0 : 91 ≤ A.1) (hR : RO R (d + 1)) (hcs : A.2.2.1 ≤ R.cells ∧ A.2.2.2 ≤ R.slots) (hM : Mk X d m_X12_farsOfOthers [.ref 68, .int x4, .int 0] h A.1 A.2.1 (RI P43)) (q : ∀ (y : Int32) (g : AH), P43 y g → V X m_X12_courier R Z A 46 [some (.ref 68), some (.int x1), some (.int x2), some (.int x3), some (.int x4), none] [.int y, .int s0] g) : V X m_X12_courier R Z A 39 [some (.ref 68), some (.int x1), some (.int x2), some (.int x3), some (.int x4), none] [.int s0] h := by
  refine v_aload_n dX12_courier_39 rfl ?_
  refine v_iload dX12_courier_40 rfl ?_
  refine v_iconst dX12_courier_42 ci_0 ?_
  exact v_cVI (mt := m_X12_courier) mo_X12_farsOfOthers ml_RX12_445 mi_X12_farsOfOthers mv_X12_farsOfOthers rfl kd_68 cl_12 rfl (ltA hA0 rfl) hR hcs (Nat.le_of_ble_eq_true rfl) dX12_courier_43 rfl hM (fun y g hp => (q y g hp))
theorem c_X12_courier_46 {X : CX} {R : Room} {Z : ZX} {A : AX} {h : AH} {x1 x2 x3 x4 s0 s1 : Int32} (q : x2 = (-1) → V X m_X12_courier R Z A 23 [some (.ref 68), some (.int x1), some (.int x4), some (.int (s0 - s1)), some (.int (x4 + 1)), none] [] h) (q_1 : ¬ x2 = (-1) → x3 < (s0 - s1) → V X m_X12_courier R Z A 23 [some (.ref 68), some (.int x1), some (.int x4), some (.int (s0 - s1)), some (.int (x4 + 1)), none] [] h) (q_2 : ¬ x2 = (-1) → ¬ x3 < (s0 - s1) → V X m_X12_courier R Z A 23 [some (.ref 68), some (.int x1), some (.int x2), some (.int x3), some (.int (x4 + 1)), none] [] h) : V X m_X12_courier R Z A 46 [some (.ref 68), some (.int x1), some (.int x2), some (.int x3), some (.int x4), none] [.int s1, .int s0] h := by
  refine v_isub dX12_courier_46 ?_
  refine v_istore dX12_courier_47 (by decide) (L' := [some (.ref 68), some (.int x1), some (.int x2), some (.int x3), some (.int x4), some (.int (s0 - s1))]) rfl ?_
  refine v_iload_n dX12_courier_49 rfl ?_
  refine v_iconst dX12_courier_50 ci_m1 ?_
  refine v_icmp_eq (tgt := 63) dX12_courier_51 (by decide) (fun c0 => ?_) (fun c0 => ?_)
  · refine v_iload dX12_courier_63 rfl ?_
    refine v_istore_n dX12_courier_65 (by decide) (L' := [some (.ref 68), some (.int x1), some (.int x4), some (.int x3), some (.int x4), some (.int (s0 - s1))]) rfl ?_
    refine v_iload dX12_courier_66 rfl ?_
    refine v_istore_n dX12_courier_68 (by decide) (L' := [some (.ref 68), some (.int x1), some (.int x4), some (.int (s0 - s1)), some (.int x4), some (.int (s0 - s1))]) rfl ?_
    refine v_iinc (y := (x4 + 1)) dX12_courier_69 rfl rfl (by decide) (L' := [some (.ref 68), some (.int x1), some (.int x4), some (.int (s0 - s1)), some (.int (x4 + 1)), some (.int (s0 - s1))]) rfl ?_
    refine v_goto (tgt := 23) dX12_courier_72 (by decide) ?_
    exact (v_drop (lvLe_s (lvLe_s (lvLe_s (lvLe_s (lvLe_s (lvLe_n lvLe_e)))))) (q c0))
  · refine v_iload dX12_courier_54 rfl ?_
    refine v_iload_n dX12_courier_56 rfl ?_
    refine v_icmp_gt (tgt := 63) dX12_courier_57 (by decide) (fun c1 => ?_) (fun c1 => ?_)
    · refine v_iload dX12_courier_63 rfl ?_
      refine v_istore_n dX12_courier_65 (by decide) (L' := [some (.ref 68), some (.int x1), some (.int x4), some (.int x3), some (.int x4), some (.int (s0 - s1))]) rfl ?_
      refine v_iload dX12_courier_66 rfl ?_
      refine v_istore_n dX12_courier_68 (by decide) (L' := [some (.ref 68), some (.int x1), some (.int x4), some (.int (s0 - s1)), some (.int x4), some (.int (s0 - s1))]) rfl ?_
      refine v_iinc (y := (x4 + 1)) dX12_courier_69 rfl rfl (by decide) (L' := [some (.ref 68), some (.int x1), some (.int x4), some (.int (s0 - s1)), some (.int (x4 + 1)), some (.int (s0 - s1))]) rfl ?_
      refine v_goto (tgt := 23) dX12_courier_72 (by decide) ?_
      exact (v_drop (lvLe_s (lvLe_s (lvLe_s (lvLe_s (lvLe_s (lvLe_n lvLe_e)))))) (q_1 c0 c1))
    · refine v_goto (tgt := 69) dX12_courier_60 (by decide) ?_
      refine v_iinc (y := (x4 + 1)) dX12_courier_69 rfl rfl (by decide) (L' := [some (.ref 68), some (.int x1), some (.int x2), some (.int x3), some (.int (x4 + 1)), some (.int (s0 - s1))]) rfl ?_
      refine v_goto (tgt := 23) dX12_courier_72 (by decide) ?_
      exact (v_drop (lvLe_s (lvLe_s (lvLe_s (lvLe_s (lvLe_s (lvLe_n lvLe_e)))))) (q_2 c0 c1))
theorem e_X12_sumOfAll {X : CX} {d nx sz : Nat} {Q : Option Value → AH → Prop} {h : AH} (q : V X m_X12_sumOfAll (rm d 0 0) (ZM X Q nx sz 0 0) (nx, sz, 0, 0) 0 [some (.ref 68), none, none] [] h) : Mk X d m_X12_sumOfAll [.ref 68] h nx sz Q := by
  refine Mok.ofV mo_X12_sumOfAll (Nat.le_of_ble_eq_true rfl) (L := [some (.ref 68)]) (lvLe_s lvLe_e) (v_grow (n := 2) ?_)
  exact q
theorem c_X12_sumOfAll_0 {X : CX} {R : Room} {Z : ZX} {A : AX} {h : AH} (q : V X m_X12_sumOfAll R Z A 4 [some (.ref 68), some (.int 0), some (.int 0)] [] h) : V X m_X12_sumOfAll R Z A 0 [some (.ref 68), none, none] [] h := by
  refine v_iconst dX12_sumOfAll_0 ci_0 ?_
  refine v_istore_n dX12_sumOfAll_1 (by decide) (L' := [some (.ref 68), some (.int 0), none]) rfl ?_
  refine v_iconst dX12_sumOfAll_2 ci_0 ?_
  refine v_istore_n dX12_sumOfAll_3 (by decide) (L' := [some (.ref 68), some (.int 0), some (.int 0)]) rfl ?_
  exact q
theorem c_X12_sumOfAll_4 {X : CX} {R : Room} {Q : Option Value → AH → Prop} {nx sz mc ms : Nat} {h : AH} {x1 x2 : Int32} {d : Nat} {P15 : Int32 → AH → Prop} (hA0 : 91 ≤ nx) (hR : RO R (d + 1)) (hcs : mc ≤ R.cells ∧ ms ≤ R.slots) (hq : (h.1 68 1) ≤ x2 → Q (some (.int x1)) h) (hM : ¬ (h.1 68 1) ≤ x2 → Mk X d m_X12_sumOf [.ref 68, .int x2] h nx sz (RI P15)) (q : ¬ (h.1 68 1) ≤ x2 → ∀ (y : Int32) (g : AH), P15 y g → V X m_X12_sumOfAll R (ZM X Q nx sz mc ms) (nx, sz, mc, ms) 18 [some (.ref 68), none, some (.int x2)] [.int y, .int x1] g) : V X m_X12_sumOfAll R (ZM X Q nx sz mc ms) (nx, sz, mc, ms) 4 [some (.ref 68), some (.int x1), some (.int x2)] [] h := by
  refine v_iload_n dX12_sumOfAll_4 rfl ?_
  refine v_aload_n dX12_sumOfAll_5 rfl ?_
  refine v_getI dX12_sumOfAll_6 fl_RX12_99 kd_68 (ltA hA0 rfl) rfl ?_
  refine v_icmp_ge (tgt := 26) dX12_sumOfAll_9 (by decide) (fun c0 => ?_) (fun c0 => ?_)
  · refine v_iload_n dX12_sumOfAll_26 rfl ?_
    exact v_iret dX12_sumOfAll_27 rfl (hq c0)
  · refine v_iload_n dX12_sumOfAll_12 rfl ?_
    refine v_aload_n dX12_sumOfAll_13 rfl ?_
    refine v_iload_n dX12_sumOfAll_14 rfl ?_
    exact v_cVI (mt := m_X12_sumOfAll) mo_X12_sumOf ml_RX12_286 mi_X12_sumOf mv_X12_sumOf rfl kd_68 cl_12 rfl (ltA hA0 rfl) hR hcs (Nat.le_of_ble_eq_true rfl) dX12_sumOfAll_15 rfl (hM c0) (fun y g hp => (v_drop (lvLe_s (lvLe_n (lvLe_s lvLe_e))) ((q c0) y g hp)))
theorem c_X12_sumOfAll_18 {X : CX} {R : Room} {Z : ZX} {A : AX} {h : AH} {x2 s0 s1 : Int32} (q : V X m_X12_sumOfAll R Z A 4 [some (.ref 68), some (.int (s0 + s1)), some (.int (x2 + 1))] [] h) : V X m_X12_sumOfAll R Z A 18 [some (.ref 68), none, some (.int x2)] [.int s1, .int s0] h := by
  refine v_iadd dX12_sumOfAll_18 ?_
  refine v_istore_n dX12_sumOfAll_19 (by decide) (L' := [some (.ref 68), some (.int (s0 + s1)), some (.int x2)]) rfl ?_
  refine v_iinc (y := (x2 + 1)) dX12_sumOfAll_20 rfl rfl (by decide) (L' := [some (.ref 68), some (.int (s0 + s1)), some (.int (x2 + 1))]) rfl ?_
  refine v_goto (tgt := 4) dX12_sumOfAll_23 (by decide) ?_
  exact q
theorem e_X12_lossOf {X : CX} {d nx sz : Nat} {Q : Option Value → AH → Prop} {h : AH} {x1 x2 : Int32} (q : V X m_X12_lossOf (rm d 0 0) (ZM X Q nx sz 0 0) (nx, sz, 0, 0) 0 [some (.ref 68), some (.int x1), some (.int x2), none, none] [] h) : Mk X d m_X12_lossOf [.ref 68, .int x1, .int x2] h nx sz Q := by
  refine Mok.ofV mo_X12_lossOf (Nat.le_of_ble_eq_true rfl) (L := [some (.ref 68), some (.int x1), some (.int x2)]) (lvLe_s (lvLe_s (lvLe_s lvLe_e))) (v_grow (n := 2) ?_)
  exact q
theorem c_X12_lossOf_0 {X : CX} {R : Room} {Z : ZX} {A : AX} {h : AH} {x1 x2 : Int32} {d : Nat} {P1 : Int32 → AH → Prop} (hA0 : 91 ≤ A.1) (hR : RO R (d + 1)) (hcs : A.2.2.1 ≤ R.cells ∧ A.2.2.2 ≤ R.slots) (hM : Mk X d m_X12_sumOfAll [.ref 68] h A.1 A.2.1 (RI P1)) (q : ∀ (y : Int32) (g : AH), P1 y g → V X m_X12_lossOf R Z A 4 [some (.ref 68), some (.int x1), some (.int x2), none, none] [.int y] g) : V X m_X12_lossOf R Z A 0 [some (.ref 68), some (.int x1), some (.int x2), none, none] [] h := by
  refine v_aload_n dX12_lossOf_0 rfl ?_
  exact v_cVI (mt := m_X12_lossOf) mo_X12_sumOfAll ml_RX12_449 mi_X12_sumOfAll mv_X12_sumOfAll rfl kd_68 cl_12 rfl (ltA hA0 rfl) hR hcs (Nat.le_of_ble_eq_true rfl) dX12_lossOf_1 rfl hM (fun y g hp => (q y g hp))
theorem c_X12_lossOf_4 {X : CX} {R : Room} {Z : ZX} {A : AX} {h : AH} {x1 x2 s0 : Int32} {d : Nat} {P8 : AH → Prop} (hA0 : 91 ≤ A.1) (hR : RO R (d + 1)) (hcs : A.2.2.1 ≤ R.cells ∧ A.2.2.2 ≤ R.slots) (hM : Mk X d m_X12_part_ [.ref 68, .int x1, .int x2] h A.1 A.2.1 (RV P8)) (q : ∀ (g : AH), P8 g → V X m_X12_lossOf R Z A 11 [some (.ref 68), some (.int x1), some (.int x2), some (.int s0), none] [] g) : V X m_X12_lossOf R Z A 4 [some (.ref 68), some (.int x1), some (.int x2), none, none] [.int s0] h := by
  refine v_istore_n dX12_lossOf_4 (by decide) (L' := [some (.ref 68), some (.int x1), some (.int x2), some (.int s0), none]) rfl ?_
  refine v_aload_n dX12_lossOf_5 rfl ?_
  refine v_iload_n dX12_lossOf_6 rfl ?_
  refine v_iload_n dX12_lossOf_7 rfl ?_
  exact v_cVV (mt := m_X12_lossOf) mo_X12_part_ ml_RX12_263 mi_X12_part_ mv_X12_part_ rfl kd_68 cl_12 rfl (ltA hA0 rfl) hR hcs (Nat.le_of_ble_eq_true rfl) dX12_lossOf_8 rfl hM (fun g hp => (q g hp))
theorem c_X12_lossOf_11 {X : CX} {R : Room} {Z : ZX} {A : AX} {h : AH} {x1 x2 x3 : Int32} {d : Nat} {P12 : Int32 → AH → Prop} (hA0 : 91 ≤ A.1) (hR : RO R (d + 1)) (hcs : A.2.2.1 ≤ R.cells ∧ A.2.2.2 ≤ R.slots) (hM : Mk X d m_X12_sumOfAll [.ref 68] h A.1 A.2.1 (RI P12)) (q : ∀ (y : Int32) (g : AH), P12 y g → V X m_X12_lossOf R Z A 15 [some (.ref 68), some (.int x1), some (.int x2), some (.int x3), none] [.int y] g) : V X m_X12_lossOf R Z A 11 [some (.ref 68), some (.int x1), some (.int x2), some (.int x3), none] [] h := by
  refine v_aload_n dX12_lossOf_11 rfl ?_
  exact v_cVI (mt := m_X12_lossOf) mo_X12_sumOfAll ml_RX12_449 mi_X12_sumOfAll mv_X12_sumOfAll rfl kd_68 cl_12 rfl (ltA hA0 rfl) hR hcs (Nat.le_of_ble_eq_true rfl) dX12_lossOf_12 rfl hM (fun y g hp => (q y g hp))
theorem c_X12_lossOf_15 {X : CX} {R : Room} {Z : ZX} {A : AX} {h : AH} {x1 x2 x3 s0 : Int32} {d : Nat} {P22 : AH → Prop} (hA0 : 91 ≤ A.1) (hR : RO R (d + 1)) (hcs : A.2.2.1 ≤ R.cells ∧ A.2.2.2 ≤ R.slots) (hM : Mk X d m_X12_join [.ref 68, .int x1, .int x2] h A.1 A.2.1 (RV P22)) (q : ∀ (g : AH), P22 g → V X m_X12_lossOf R Z A 25 [none, none, none, none, some (.int (s0 - x3))] [] g) : V X m_X12_lossOf R Z A 15 [some (.ref 68), some (.int x1), some (.int x2), some (.int x3), none] [.int s0] h := by
  refine v_iload_n dX12_lossOf_15 rfl ?_
  refine v_isub dX12_lossOf_16 ?_
  refine v_istore dX12_lossOf_17 (by decide) (L' := [some (.ref 68), some (.int x1), some (.int x2), some (.int x3), some (.int (s0 - x3))]) rfl ?_
  refine v_aload_n dX12_lossOf_19 rfl ?_
  refine v_iload_n dX12_lossOf_20 rfl ?_
  refine v_iload_n dX12_lossOf_21 rfl ?_
  exact v_cVV (mt := m_X12_lossOf) mo_X12_join ml_RX12_259 mi_X12_join mv_X12_join rfl kd_68 cl_12 rfl (ltA hA0 rfl) hR hcs (Nat.le_of_ble_eq_true rfl) dX12_lossOf_22 rfl hM (fun g hp => (v_drop (lvLe_n (lvLe_n (lvLe_n (lvLe_n (lvLe_s lvLe_e))))) (q g hp)))
theorem c_X12_lossOf_25 {X : CX} {R : Room} {Q : Option Value → AH → Prop} {nx sz mc ms : Nat} {h : AH} {x4 : Int32} (hq : Q (some (.int x4)) h) : V X m_X12_lossOf R (ZM X Q nx sz mc ms) (nx, sz, mc, ms) 25 [none, none, none, none, some (.int x4)] [] h := by
  refine v_iload dX12_lossOf_25 rfl ?_
  exact v_iret dX12_lossOf_27 rfl hq
theorem e_X12_loss {X : CX} {d nx sz : Nat} {Q : Option Value → AH → Prop} {h : AH} {x1 x2 : Int32} (q : V X m_X12_loss (rm d 0 0) (ZM X Q nx sz 0 0) (nx, sz, 0, 0) 0 [some (.ref 68), some (.int x1), some (.int x2)] [] h) : Mk X d m_X12_loss [.ref 68, .int x1, .int x2] h nx sz Q := by
  refine Mok.ofV mo_X12_loss (Nat.le_of_ble_eq_true rfl) (L := [some (.ref 68), some (.int x1), some (.int x2)]) (lvLe_s (lvLe_s (lvLe_s lvLe_e))) (v_grow (n := 0) ?_)
  exact q
theorem c_X12_loss_0 {X : CX} {R : Room} {Z : ZX} {A : AX} {h : AH} {x1 x2 : Int32} {d : Nat} {P8 : Int32 → AH → Prop} (hA0 : 91 ≤ A.1) (hR : RO R (d + 1)) (hcs : A.2.2.1 ≤ R.cells ∧ A.2.2.2 ≤ R.slots) (hM : Mk X d m_X12_areTwo [.ref 68, .int x1, .int x2] (setI h 68 0 0) A.1 A.2.1 (RI P8)) (q : ∀ (y : Int32) (g : AH), P8 y g → V X m_X12_loss R Z A 11 [some (.ref 68), some (.int x1), some (.int x2)] [.int y] g) : V X m_X12_loss R Z A 0 [some (.ref 68), some (.int x1), some (.int x2)] [] h := by
  refine v_aload_n dX12_loss_0 rfl ?_
  refine v_iconst dX12_loss_1 ci_0 ?_
  refine v_putI rfl rfl rfl dX12_loss_2 fl_RX12_103 (Or.inl rfl) kd_68 (ltA hA0 rfl) ?_
  refine v_aload_n dX12_loss_5 rfl ?_
  refine v_iload_n dX12_loss_6 rfl ?_
  refine v_iload_n dX12_loss_7 rfl ?_
  exact v_cVI (mt := m_X12_loss) mo_X12_areTwo ml_RX12_256 mi_X12_areTwo mv_X12_areTwo rfl kd_68 cl_12 rfl (ltA hA0 rfl) hR hcs (Nat.le_of_ble_eq_true rfl) dX12_loss_8 rfl hM (fun y g hp => (q y g hp))
theorem c_X12_loss_11 {X : CX} {R : Room} {Q : Option Value → AH → Prop} {nx sz mc ms : Nat} {h : AH} {x1 x2 s0 : Int32} {d : Nat} {P21 : Int32 → AH → Prop} (hA0 : 91 ≤ nx) (hF : Fx h) (hR : RO R (d + 1)) (hcs : mc ≤ R.cells ∧ ms ≤ R.slots) (hq : s0 = 0 → Q (some (.int (-1))) h) (hi_19 : ¬ s0 = 0 → vp_in x1 20) (hM : ¬ s0 = 0 → Mk X d m_X12_has [.int (h.1 73 x1.toNatClampNeg), .int x2] h nx sz (RI P21)) (q : ¬ s0 = 0 → ∀ (y : Int32) (g : AH), P21 y g → V X m_X12_loss R (ZM X Q nx sz mc ms) (nx, sz, mc, ms) 24 [some (.ref 68), some (.int x1), some (.int x2)] [.int y] g) : V X m_X12_loss R (ZM X Q nx sz mc ms) (nx, sz, mc, ms) 11 [some (.ref 68), some (.int x1), some (.int x2)] [.int s0] h := by
  refine v_if_eq (tgt := 36) dX12_loss_11 (by decide) (fun c0 => ?_) (fun c0 => ?_)
  · refine v_iconst dX12_loss_36 ci_m1 ?_
    exact v_iret dX12_loss_37 rfl (hq c0)
  · refine v_aload_n dX12_loss_14 rfl ?_
    refine v_getR dX12_loss_15 fl_RX12_37 kd_68 (ltA hA0 rfl) rfl (hF 68 19 73 rfl) ?_
    refine v_iload_n dX12_loss_18 rfl ?_
    refine v_iald dX12_loss_19 kd_73 (ltA hA0 rfl) (hi_19 c0) ?_
    refine v_iload_n dX12_loss_20 rfl ?_
    exact v_cSI (mt := m_X12_loss) mo_X12_has ml_RX12_220 mz_X12_has rfl hR hcs (Nat.le_of_ble_eq_true rfl) dX12_loss_21 rfl (hM c0) (fun y g hp => ((q c0) y g hp))
theorem c_X12_loss_24 {X : CX} {R : Room} {Q : Option Value → AH → Prop} {nx sz mc ms : Nat} {h : AH} {x1 x2 s0 : Int32} {d : Nat} {P30 : Int32 → AH → Prop} (hA0 : 91 ≤ nx) (hR : RO R (d + 1)) (hcs : mc ≤ R.cells ∧ ms ≤ R.slots) (hq : s0 = 0 → Q (some (.int (-1))) h) (hM : ¬ s0 = 0 → Mk X d m_X12_lossOf [.ref 68, .int x1, .int x2] h nx sz (RI P30)) (q : ¬ s0 = 0 → ∀ (y : Int32) (g : AH), P30 y g → V X m_X12_loss R (ZM X Q nx sz mc ms) (nx, sz, mc, ms) 33 [none, none, none] [.int y] g) : V X m_X12_loss R (ZM X Q nx sz mc ms) (nx, sz, mc, ms) 24 [some (.ref 68), some (.int x1), some (.int x2)] [.int s0] h := by
  refine v_if_eq (tgt := 36) dX12_loss_24 (by decide) (fun c0 => ?_) (fun c0 => ?_)
  · refine v_iconst dX12_loss_36 ci_m1 ?_
    exact v_iret dX12_loss_37 rfl (hq c0)
  · refine v_aload_n dX12_loss_27 rfl ?_
    refine v_iload_n dX12_loss_28 rfl ?_
    refine v_iload_n dX12_loss_29 rfl ?_
    exact v_cVI (mt := m_X12_loss) mo_X12_lossOf ml_RX12_452 mi_X12_lossOf mv_X12_lossOf rfl kd_68 cl_12 rfl (ltA hA0 rfl) hR hcs (Nat.le_of_ble_eq_true rfl) dX12_loss_30 rfl (hM c0) (fun y g hp => (v_drop (lvLe_n (lvLe_n (lvLe_n lvLe_e))) ((q c0) y g hp)))
theorem c_X12_loss_33 {X : CX} {R : Room} {Q : Option Value → AH → Prop} {nx sz mc ms : Nat} {h : AH} {s0 : Int32} (hq : Q (some (.int s0)) h) : V X m_X12_loss R (ZM X Q nx sz mc ms) (nx, sz, mc, ms) 33 [none, none, none] [.int s0] h := by
  refine v_goto (tgt := 37) dX12_loss_33 (by decide) ?_
  exact v_iret dX12_loss_37 rfl hq
theorem e_X12_giftOf {X : CX} {d nx sz : Nat} {Q : Option Value → AH → Prop} {h : AH} {x1 x2 : Int32} (q : V X m_X12_giftOf (rm d 0 0) (ZM X Q nx sz 0 0) (nx, sz, 0, 0) 0 [some (.ref 68), some (.int x1), some (.int x2), none, none] [] h) : Mk X d m_X12_giftOf [.ref 68, .int x1, .int x2] h nx sz Q := by
  refine Mok.ofV mo_X12_giftOf (Nat.le_of_ble_eq_true rfl) (L := [some (.ref 68), some (.int x1), some (.int x2)]) (lvLe_s (lvLe_s (lvLe_s lvLe_e))) (v_grow (n := 2) ?_)
  exact q
theorem c_X12_giftOf_0 {X : CX} {R : Room} {Z : ZX} {A : AX} {h : AH} {x1 x2 : Int32} {d : Nat} {P1 : Int32 → AH → Prop} (hA0 : 91 ≤ A.1) (hR : RO R (d + 1)) (hcs : A.2.2.1 ≤ R.cells ∧ A.2.2.2 ≤ R.slots) (hM : Mk X d m_X12_sumOfAll [.ref 68] h A.1 A.2.1 (RI P1)) (q : ∀ (y : Int32) (g : AH), P1 y g → V X m_X12_giftOf R Z A 4 [some (.ref 68), some (.int x1), some (.int x2), none, none] [.int y] g) : V X m_X12_giftOf R Z A 0 [some (.ref 68), some (.int x1), some (.int x2), none, none] [] h := by
  refine v_aload_n dX12_giftOf_0 rfl ?_
  exact v_cVI (mt := m_X12_giftOf) mo_X12_sumOfAll ml_RX12_449 mi_X12_sumOfAll mv_X12_sumOfAll rfl kd_68 cl_12 rfl (ltA hA0 rfl) hR hcs (Nat.le_of_ble_eq_true rfl) dX12_giftOf_1 rfl hM (fun y g hp => (q y g hp))
theorem c_X12_giftOf_4 {X : CX} {R : Room} {Z : ZX} {A : AX} {h : AH} {x1 x2 s0 : Int32} {d : Nat} {P8 : AH → Prop} (hA0 : 91 ≤ A.1) (hR : RO R (d + 1)) (hcs : A.2.2.1 ≤ R.cells ∧ A.2.2.2 ≤ R.slots) (hM : Mk X d m_X12_join [.ref 68, .int x1, .int x2] h A.1 A.2.1 (RV P8)) (q : ∀ (g : AH), P8 g → V X m_X12_giftOf R Z A 11 [some (.ref 68), some (.int x1), some (.int x2), some (.int s0), none] [] g) : V X m_X12_giftOf R Z A 4 [some (.ref 68), some (.int x1), some (.int x2), none, none] [.int s0] h := by
  refine v_istore_n dX12_giftOf_4 (by decide) (L' := [some (.ref 68), some (.int x1), some (.int x2), some (.int s0), none]) rfl ?_
  refine v_aload_n dX12_giftOf_5 rfl ?_
  refine v_iload_n dX12_giftOf_6 rfl ?_
  refine v_iload_n dX12_giftOf_7 rfl ?_
  exact v_cVV (mt := m_X12_giftOf) mo_X12_join ml_RX12_259 mi_X12_join mv_X12_join rfl kd_68 cl_12 rfl (ltA hA0 rfl) hR hcs (Nat.le_of_ble_eq_true rfl) dX12_giftOf_8 rfl hM (fun g hp => (q g hp))
theorem c_X12_giftOf_11 {X : CX} {R : Room} {Z : ZX} {A : AX} {h : AH} {x1 x2 x3 : Int32} {d : Nat} {P13 : Int32 → AH → Prop} (hA0 : 91 ≤ A.1) (hR : RO R (d + 1)) (hcs : A.2.2.1 ≤ R.cells ∧ A.2.2.2 ≤ R.slots) (hM : Mk X d m_X12_sumOfAll [.ref 68] h A.1 A.2.1 (RI P13)) (q : ∀ (y : Int32) (g : AH), P13 y g → V X m_X12_giftOf R Z A 16 [some (.ref 68), some (.int x1), some (.int x2), none, none] [.int y, .int x3] g) : V X m_X12_giftOf R Z A 11 [some (.ref 68), some (.int x1), some (.int x2), some (.int x3), none] [] h := by
  refine v_iload_n dX12_giftOf_11 rfl ?_
  refine v_aload_n dX12_giftOf_12 rfl ?_
  exact v_cVI (mt := m_X12_giftOf) mo_X12_sumOfAll ml_RX12_449 mi_X12_sumOfAll mv_X12_sumOfAll rfl kd_68 cl_12 rfl (ltA hA0 rfl) hR hcs (Nat.le_of_ble_eq_true rfl) dX12_giftOf_13 rfl hM (fun y g hp => (v_drop (lvLe_s (lvLe_s (lvLe_s (lvLe_n (lvLe_n lvLe_e))))) (q y g hp)))
theorem c_X12_giftOf_16 {X : CX} {R : Room} {Z : ZX} {A : AX} {h : AH} {x1 x2 s0 s1 : Int32} {d : Nat} {P22 : AH → Prop} (hA0 : 91 ≤ A.1) (hR : RO R (d + 1)) (hcs : A.2.2.1 ≤ R.cells ∧ A.2.2.2 ≤ R.slots) (hM : Mk X d m_X12_part_ [.ref 68, .int x1, .int x2] h A.1 A.2.1 (RV P22)) (q : ∀ (g : AH), P22 g → V X m_X12_giftOf R Z A 25 [none, none, none, none, some (.int (s0 - s1))] [] g) : V X m_X12_giftOf R Z A 16 [some (.ref 68), some (.int x1), some (.int x2), none, none] [.int s1, .int s0] h := by
  refine v_isub dX12_giftOf_16 ?_
  refine v_istore dX12_giftOf_17 (by decide) (L' := [some (.ref 68), some (.int x1), some (.int x2), none, some (.int (s0 - s1))]) rfl ?_
  refine v_aload_n dX12_giftOf_19 rfl ?_
  refine v_iload_n dX12_giftOf_20 rfl ?_
  refine v_iload_n dX12_giftOf_21 rfl ?_
  exact v_cVV (mt := m_X12_giftOf) mo_X12_part_ ml_RX12_263 mi_X12_part_ mv_X12_part_ rfl kd_68 cl_12 rfl (ltA hA0 rfl) hR hcs (Nat.le_of_ble_eq_true rfl) dX12_giftOf_22 rfl hM (fun g hp => (v_drop (lvLe_n (lvLe_n (lvLe_n (lvLe_n (lvLe_s lvLe_e))))) (q g hp)))
theorem c_X12_giftOf_25 {X : CX} {R : Room} {Q : Option Value → AH → Prop} {nx sz mc ms : Nat} {h : AH} {x4 : Int32} (hq : Q (some (.int x4)) h) : V X m_X12_giftOf R (ZM X Q nx sz mc ms) (nx, sz, mc, ms) 25 [none, none, none, none, some (.int x4)] [] h := by
  refine v_iload dX12_giftOf_25 rfl ?_
  exact v_iret dX12_giftOf_27 rfl hq
theorem e_X12_dear {X : CX} {d nx sz : Nat} {Q : Option Value → AH → Prop} {h : AH} {x1 : Int32} (q : V X m_X12_dear (rm d 0 0) (ZM X Q nx sz 0 0) (nx, sz, 0, 0) 0 [some (.ref 68), some (.int x1), none, none, none, none, none, none] [] h) : Mk X d m_X12_dear [.ref 68, .int x1] h nx sz Q := by
  refine Mok.ofV mo_X12_dear (Nat.le_of_ble_eq_true rfl) (L := [some (.ref 68), some (.int x1)]) (lvLe_s (lvLe_s lvLe_e)) (v_grow (n := 6) ?_)
  exact q
theorem c_X12_dear_0 {X : CX} {R : Room} {Z : ZX} {A : AX} {h : AH} {x1 : Int32} {d : Nat} {P8 : Int32 → AH → Prop} (hA0 : 91 ≤ A.1) (hR : RO R (d + 1)) (hcs : A.2.2.1 ≤ R.cells ∧ A.2.2.2 ≤ R.slots) (hM : Mk X d m_X12_isIn [.int x1, .int 0, .int 1] (setI h 68 0 0) A.1 A.2.1 (RI P8)) (q : ∀ (y : Int32) (g : AH), P8 y g → V X m_X12_dear R Z A 11 [some (.ref 68), some (.int x1), none, none, none, none, none, none] [.int y] g) : V X m_X12_dear R Z A 0 [some (.ref 68), some (.int x1), none, none, none, none, none, none] [] h := by
  refine v_aload_n dX12_dear_0 rfl ?_
  refine v_iconst dX12_dear_1 ci_0 ?_
  refine v_putI rfl rfl rfl dX12_dear_2 fl_RX12_103 (Or.inl rfl) kd_68 (ltA hA0 rfl) ?_
  refine v_iload_n dX12_dear_5 rfl ?_
  refine v_iconst dX12_dear_6 ci_0 ?_
  refine v_iconst dX12_dear_7 ci_1 ?_
  exact v_cSI (mt := m_X12_dear) mo_X12_isIn ml_RX12_232 mz_X12_isIn rfl hR hcs (Nat.le_of_ble_eq_true rfl) dX12_dear_8 rfl hM (fun y g hp => (q y g hp))
theorem c_X12_dear_11 {X : CX} {R : Room} {Q : Option Value → AH → Prop} {nx sz mc ms : Nat} {h : AH} {x1 s0 : Int32} (q : ¬ s0 = 0 → V X m_X12_dear R (ZM X Q nx sz mc ms) (nx, sz, mc, ms) 23 [some (.ref 68), some (.int x1), some (.int (-1)), some (.int 0), some (.int 0), none, none, none] [] h) (hq : s0 = 0 → Q (some (.int (-1))) h) : V X m_X12_dear R (ZM X Q nx sz mc ms) (nx, sz, mc, ms) 11 [some (.ref 68), some (.int x1), none, none, none, none, none, none] [.int s0] h := by
  refine v_if_ne (tgt := 16) dX12_dear_11 (by decide) (fun c0 => ?_) (fun c0 => ?_)
  · refine v_iconst dX12_dear_16 ci_m1 ?_
    refine v_istore_n dX12_dear_17 (by decide) (L' := [some (.ref 68), some (.int x1), some (.int (-1)), none, none, none, none, none]) rfl ?_
    refine v_iconst dX12_dear_18 ci_0 ?_
    refine v_istore_n dX12_dear_19 (by decide) (L' := [some (.ref 68), some (.int x1), some (.int (-1)), some (.int 0), none, none, none, none]) rfl ?_
    refine v_iconst dX12_dear_20 ci_0 ?_
    refine v_istore dX12_dear_21 (by decide) (L' := [some (.ref 68), some (.int x1), some (.int (-1)), some (.int 0), some (.int 0), none, none, none]) rfl ?_
    exact (q c0)
  · refine v_iconst dX12_dear_14 ci_m1 ?_
    exact v_iret dX12_dear_15 rfl (hq c0)
theorem c_X12_dear_23 {X : CX} {R : Room} {Q : Option Value → AH → Prop} {nx sz mc ms : Nat} {h : AH} {x1 x2 x3 x4 : Int32} (hA0 : 91 ≤ nx) (hq : (h.1 68 1) ≤ x4 → Q (some (.int x2)) h) (q : ¬ (h.1 68 1) ≤ x4 → V X m_X12_dear R (ZM X Q nx sz mc ms) (nx, sz, mc, ms) 38 [some (.ref 68), some (.int x1), some (.int x2), some (.int x3), some (.int x4), some (.int (x4 + 1)), none, none] [] h) : V X m_X12_dear R (ZM X Q nx sz mc ms) (nx, sz, mc, ms) 23 [some (.ref 68), some (.int x1), some (.int x2), some (.int x3), some (.int x4), none, none, none] [] h := by
  refine v_iload dX12_dear_23 rfl ?_
  refine v_aload_n dX12_dear_25 rfl ?_
  refine v_getI dX12_dear_26 fl_RX12_99 kd_68 (ltA hA0 rfl) rfl ?_
  refine v_icmp_ge (tgt := 186) dX12_dear_29 (by decide) (fun c0 => ?_) (fun c0 => ?_)
  · refine v_iload_n dX12_dear_186 rfl ?_
    exact v_iret dX12_dear_187 rfl (hq c0)
  · refine v_iload dX12_dear_32 rfl ?_
    refine v_iconst dX12_dear_34 ci_1 ?_
    refine v_iadd dX12_dear_35 ?_
    refine v_istore dX12_dear_36 (by decide) (L' := [some (.ref 68), some (.int x1), some (.int x2), some (.int x3), some (.int x4), some (.int (x4 + 1)), none, none]) rfl ?_
    exact (q c0)
theorem c_X12_dear_38 {X : CX} {R : Room} {Z : ZX} {A : AX} {h : AH} {x1 x2 x3 x4 x5 : Int32} {d : Nat} {P56 : Int32 → AH → Prop} (hA0 : 91 ≤ A.1) (hF : Fx h) (hR : RO R (d + 1)) (hcs : A.2.2.1 ≤ R.cells ∧ A.2.2.2 ≤ R.slots) (q : (h.1 68 1) ≤ x5 → V X m_X12_dear R Z A 23 [some (.ref 68), some (.int x1), some (.int x2), some (.int x3), some (.int (x4 + 1)), none, none, none] [] h) (hi_53 : ¬ (h.1 68 1) ≤ x5 → vp_in x4 20) (hM : ¬ (h.1 68 1) ≤ x5 → Mk X d m_X12_has [.int (h.1 73 x4.toNatClampNeg), .int x5] h A.1 A.2.1 (RI P56)) (q_1 : ¬ (h.1 68 1) ≤ x5 → ∀ (y : Int32) (g : AH), P56 y g → V X m_X12_dear R Z A 59 [some (.ref 68), some (.int x1), some (.int x2), some (.int x3), some (.int x4), some (.int x5), none, none] [.int y] g) : V X m_X12_dear R Z A 38 [some (.ref 68), some (.int x1), some (.int x2), some (.int x3), some (.int x4), some (.int x5), none, none] [] h := by
  refine v_iload dX12_dear_38 rfl ?_
  refine v_aload_n dX12_dear_40 rfl ?_
  refine v_getI dX12_dear_41 fl_RX12_99 kd_68 (ltA hA0 rfl) rfl ?_
  refine v_icmp_ge (tgt := 180) dX12_dear_44 (by decide) (fun c0 => ?_) (fun c0 => ?_)
  · refine v_iinc (y := (x4 + 1)) dX12_dear_180 rfl rfl (by decide) (L' := [some (.ref 68), some (.int x1), some (.int x2), some (.int x3), some (.int (x4 + 1)), some (.int x5), none, none]) rfl ?_
    refine v_goto (tgt := 23) dX12_dear_183 (by decide) ?_
    exact (v_drop (lvLe_s (lvLe_s (lvLe_s (lvLe_s (lvLe_s (lvLe_n (lvLe_n (lvLe_n lvLe_e)))))))) (q c0))
  · refine v_aload_n dX12_dear_47 rfl ?_
    refine v_getR dX12_dear_48 fl_RX12_37 kd_68 (ltA hA0 rfl) rfl (hF 68 19 73 rfl) ?_
    refine v_iload dX12_dear_51 rfl ?_
    refine v_iald dX12_dear_53 kd_73 (ltA hA0 rfl) (hi_53 c0) ?_
    refine v_iload dX12_dear_54 rfl ?_
    exact v_cSI (mt := m_X12_dear) mo_X12_has ml_RX12_220 mz_X12_has rfl hR hcs (Nat.le_of_ble_eq_true rfl) dX12_dear_56 rfl (hM c0) (fun y g hp => ((q_1 c0) y g hp))
theorem c_X12_dear_59 {X : CX} {R : Room} {Z : ZX} {A : AX} {h : AH} {x1 x2 x3 x4 x5 s0 : Int32} {d : Nat} {P81 P133 P122 : Int32 → AH → Prop} (hA0 : 91 ≤ A.1) (hR : RO R (d + 1)) (hcs : A.2.2.1 ≤ R.cells ∧ A.2.2.2 ≤ R.slots) (q : ¬ x1 = 0 → ¬ s0 = 0 → V X m_X12_dear R Z A 38 [some (.ref 68), some (.int x1), some (.int x2), some (.int x3), some (.int x4), some (.int (x5 + 1)), none, none] [] h) (hM : ¬ x1 = 0 → s0 = 0 → Mk X d m_X12_many [.ref 68, .int x4] h A.1 A.2.1 (RI P81)) (q_1 : ¬ x1 = 0 → s0 = 0 → ∀ (y : Int32) (g : AH), P81 y g → V X m_X12_dear R Z A 84 [some (.ref 68), some (.int x1), some (.int x2), some (.int x3), some (.int x4), some (.int x5), none, none] [.int y] g) (hM_1 : x1 = 0 → ¬ s0 = 0 → ¬ x1 = 0 → Mk X d m_X12_giftOf [.ref 68, .int x4, .int x5] h A.1 A.2.1 (RI P133)) (q_2 : x1 = 0 → ¬ s0 = 0 → ¬ x1 = 0 → ∀ (y : Int32) (g : AH), P133 y g → V X m_X12_dear R Z A 136 [some (.ref 68), some (.int x1), some (.int x2), some (.int x3), some (.int x4), some (.int x5), none, none] [.int y] g) (hM_2 : x1 = 0 → ¬ s0 = 0 → x1 = 0 → Mk X d m_X12_lossOf [.ref 68, .int x4, .int x5] h A.1 A.2.1 (RI P122)) (q_3 : x1 = 0 → ¬ s0 = 0 → x1 = 0 → ∀ (y : Int32) (g : AH), P122 y g → V X m_X12_dear R Z A 125 [some (.ref 68), some (.int x1), some (.int x2), some (.int x3), some (.int x4), some (.int x5), none, none] [.int y] g) (q_4 : x1 = 0 → s0 = 0 → V X m_X12_dear R Z A 38 [some (.ref 68), some (.int x1), some (.int x2), some (.int x3), some (.int x4), some (.int (x5 + 1)), none, none] [] h) : V X m_X12_dear R Z A 59 [some (.ref 68), some (.int x1), some (.int x2), some (.int x3), some (.int x4), some (.int x5), none, none] [.int s0] h := by
  refine v_istore dX12_dear_59 (by decide) (L' := [some (.ref 68), some (.int x1), some (.int x2), some (.int x3), some (.int x4), some (.int x5), some (.int s0), none]) rfl ?_
  refine v_iload_n dX12_dear_61 rfl ?_
  refine v_if_ne (tgt := 73) dX12_dear_62 (by decide) (fun c0 => ?_) (fun c0 => ?_)
  · refine v_iload dX12_dear_73 rfl ?_
    refine v_if_ne (tgt := 174) dX12_dear_75 (by decide) (fun c1 => ?_) (fun c1 => ?_)
    · refine v_iinc (y := (x5 + 1)) dX12_dear_174 rfl rfl (by decide) (L' := [some (.ref 68), some (.int x1), some (.int x2), some (.int x3), some (.int x4), some (.int (x5 + 1)), some (.int s0), none]) rfl ?_
      refine v_goto (tgt := 38) dX12_dear_177 (by decide) ?_
      exact (v_drop (lvLe_s (lvLe_s (lvLe_s (lvLe_s (lvLe_s (lvLe_s (lvLe_n (lvLe_n lvLe_e)))))))) (q c0 c1))
    · refine v_aload_n dX12_dear_78 rfl ?_
      refine v_iload dX12_dear_79 rfl ?_
      exact v_cVI (mt := m_X12_dear) mo_X12_many ml_RX12_253 mi_X12_many mv_X12_many rfl kd_68 cl_12 rfl (ltA hA0 rfl) hR hcs (Nat.le_of_ble_eq_true rfl) dX12_dear_81 rfl (hM c0 c1) (fun y g hp => (v_drop (lvLe_s (lvLe_s (lvLe_s (lvLe_s (lvLe_s (lvLe_s (lvLe_n (lvLe_n lvLe_e)))))))) ((q_1 c0 c1) y g hp)))
  · refine v_iload dX12_dear_65 rfl ?_
    refine v_if_ne (tgt := 113) dX12_dear_67 (by decide) (fun c1 => ?_) (fun c1 => ?_)
    · refine v_iload_n dX12_dear_113 rfl ?_
      refine v_if_ne (tgt := 128) dX12_dear_114 (by decide) (fun c2 => ?_) (fun c2 => ?_)
      · refine v_aload_n dX12_dear_128 rfl ?_
        refine v_iload dX12_dear_129 rfl ?_
        refine v_iload dX12_dear_131 rfl ?_
        exact v_cVI (mt := m_X12_dear) mo_X12_giftOf ml_RX12_455 mi_X12_giftOf mv_X12_giftOf rfl kd_68 cl_12 rfl (ltA hA0 rfl) hR hcs (Nat.le_of_ble_eq_true rfl) dX12_dear_133 rfl (hM_1 c0 c1 c2) (fun y g hp => (v_drop (lvLe_s (lvLe_s (lvLe_s (lvLe_s (lvLe_s (lvLe_s (lvLe_n (lvLe_n lvLe_e)))))))) ((q_2 c0 c1 c2) y g hp)))
      · refine v_aload_n dX12_dear_117 rfl ?_
        refine v_iload dX12_dear_118 rfl ?_
        refine v_iload dX12_dear_120 rfl ?_
        exact v_cVI (mt := m_X12_dear) mo_X12_lossOf ml_RX12_452 mi_X12_lossOf mv_X12_lossOf rfl kd_68 cl_12 rfl (ltA hA0 rfl) hR hcs (Nat.le_of_ble_eq_true rfl) dX12_dear_122 rfl (hM_2 c0 c1 c2) (fun y g hp => (v_drop (lvLe_s (lvLe_s (lvLe_s (lvLe_s (lvLe_s (lvLe_s (lvLe_n (lvLe_n lvLe_e)))))))) ((q_3 c0 c1 c2) y g hp)))
    · refine v_goto (tgt := 174) dX12_dear_70 (by decide) ?_
      refine v_iinc (y := (x5 + 1)) dX12_dear_174 rfl rfl (by decide) (L' := [some (.ref 68), some (.int x1), some (.int x2), some (.int x3), some (.int x4), some (.int (x5 + 1)), some (.int s0), none]) rfl ?_
      refine v_goto (tgt := 38) dX12_dear_177 (by decide) ?_
      exact (v_drop (lvLe_s (lvLe_s (lvLe_s (lvLe_s (lvLe_s (lvLe_s (lvLe_n (lvLe_n lvLe_e)))))))) (q_4 c0 c1))
theorem c_X12_dear_84 {X : CX} {R : Room} {Z : ZX} {A : AX} {h : AH} {x1 x2 x3 x4 x5 s0 : Int32} {d : Nat} {P97 : Int32 → AH → Prop} (hA0 : 91 ≤ A.1) (hF : Fx h) (hR : RO R (d + 1)) (hcs : A.2.2.1 ≤ R.cells ∧ A.2.2.2 ≤ R.slots) (hi_90 : vp_in x4 20) (q : (h.1 75 x4.toNatClampNeg) ≤ s0 → V X m_X12_dear R Z A 38 [some (.ref 68), some (.int x1), some (.int x2), some (.int x3), some (.int x4), some (.int (x5 + 1)), none, none] [] h) (hM : ¬ (h.1 75 x4.toNatClampNeg) ≤ s0 → Mk X d m_X12_many [.ref 68, .int x5] h A.1 A.2.1 (RI P97)) (q_1 : ¬ (h.1 75 x4.toNatClampNeg) ≤ s0 → ∀ (y : Int32) (g : AH), P97 y g → V X m_X12_dear R Z A 100 [some (.ref 68), some (.int x1), some (.int x2), some (.int x3), some (.int x4), some (.int x5), none, none] [.int y] g) : V X m_X12_dear R Z A 84 [some (.ref 68), some (.int x1), some (.int x2), some (.int x3), some (.int x4), some (.int x5), none, none] [.int s0] h := by
  refine v_aload_n dX12_dear_84 rfl ?_
  refine v_getR dX12_dear_85 fl_RX12_43 kd_68 (ltA hA0 rfl) rfl (hF 68 21 75 rfl) ?_
  refine v_iload dX12_dear_88 rfl ?_
  refine v_iald dX12_dear_90 kd_75 (ltA hA0 rfl) hi_90 ?_
  refine v_icmp_ge (tgt := 174) dX12_dear_91 (by decide) (fun c0 => ?_) (fun c0 => ?_)
  · refine v_iinc (y := (x5 + 1)) dX12_dear_174 rfl rfl (by decide) (L' := [some (.ref 68), some (.int x1), some (.int x2), some (.int x3), some (.int x4), some (.int (x5 + 1)), none, none]) rfl ?_
    refine v_goto (tgt := 38) dX12_dear_177 (by decide) ?_
    exact (q c0)
  · refine v_aload_n dX12_dear_94 rfl ?_
    refine v_iload dX12_dear_95 rfl ?_
    exact v_cVI (mt := m_X12_dear) mo_X12_many ml_RX12_253 mi_X12_many mv_X12_many rfl kd_68 cl_12 rfl (ltA hA0 rfl) hR hcs (Nat.le_of_ble_eq_true rfl) dX12_dear_97 rfl (hM c0) (fun y g hp => ((q_1 c0) y g hp))
theorem c_X12_dear_100 {X : CX} {R : Room} {Z : ZX} {A : AX} {h : AH} {x1 x2 x3 x4 x5 s0 : Int32} {d : Nat} {P133 P122 : Int32 → AH → Prop} (hA0 : 91 ≤ A.1) (hF : Fx h) (hR : RO R (d + 1)) (hcs : A.2.2.1 ≤ R.cells ∧ A.2.2.2 ≤ R.slots) (hi_106 : vp_in x5 20) (hM : s0 < (h.1 75 x5.toNatClampNeg) → ¬ x1 = 0 → Mk X d m_X12_giftOf [.ref 68, .int x4, .int x5] h A.1 A.2.1 (RI P133)) (q : s0 < (h.1 75 x5.toNatClampNeg) → ¬ x1 = 0 → ∀ (y : Int32) (g : AH), P133 y g → V X m_X12_dear R Z A 136 [some (.ref 68), some (.int x1), some (.int x2), some (.int x3), some (.int x4), some (.int x5), none, none] [.int y] g) (hM_1 : s0 < (h.1 75 x5.toNatClampNeg) → x1 = 0 → Mk X d m_X12_lossOf [.ref 68, .int x4, .int x5] h A.1 A.2.1 (RI P122)) (q_1 : s0 < (h.1 75 x5.toNatClampNeg) → x1 = 0 → ∀ (y : Int32) (g : AH), P122 y g → V X m_X12_dear R Z A 125 [some (.ref 68), some (.int x1), some (.int x2), some (.int x3), some (.int x4), some (.int x5), none, none] [.int y] g) (q_2 : ¬ s0 < (h.1 75 x5.toNatClampNeg) → V X m_X12_dear R Z A 38 [some (.ref 68), some (.int x1), some (.int x2), some (.int x3), some (.int x4), some (.int (x5 + 1)), none, none] [] h) : V X m_X12_dear R Z A 100 [some (.ref 68), some (.int x1), some (.int x2), some (.int x3), some (.int x4), some (.int x5), none, none] [.int s0] h := by
  refine v_aload_n dX12_dear_100 rfl ?_
  refine v_getR dX12_dear_101 fl_RX12_43 kd_68 (ltA hA0 rfl) rfl (hF 68 21 75 rfl) ?_
  refine v_iload dX12_dear_104 rfl ?_
  refine v_iald dX12_dear_106 kd_75 (ltA hA0 rfl) hi_106 ?_
  refine v_icmp_lt (tgt := 113) dX12_dear_107 (by decide) (fun c0 => ?_) (fun c0 => ?_)
  · refine v_iload_n dX12_dear_113 rfl ?_
    refine v_if_ne (tgt := 128) dX12_dear_114 (by decide) (fun c1 => ?_) (fun c1 => ?_)
    · refine v_aload_n dX12_dear_128 rfl ?_
      refine v_iload dX12_dear_129 rfl ?_
      refine v_iload dX12_dear_131 rfl ?_
      exact v_cVI (mt := m_X12_dear) mo_X12_giftOf ml_RX12_455 mi_X12_giftOf mv_X12_giftOf rfl kd_68 cl_12 rfl (ltA hA0 rfl) hR hcs (Nat.le_of_ble_eq_true rfl) dX12_dear_133 rfl (hM c0 c1) (fun y g hp => ((q c0 c1) y g hp))
    · refine v_aload_n dX12_dear_117 rfl ?_
      refine v_iload dX12_dear_118 rfl ?_
      refine v_iload dX12_dear_120 rfl ?_
      exact v_cVI (mt := m_X12_dear) mo_X12_lossOf ml_RX12_452 mi_X12_lossOf mv_X12_lossOf rfl kd_68 cl_12 rfl (ltA hA0 rfl) hR hcs (Nat.le_of_ble_eq_true rfl) dX12_dear_122 rfl (hM_1 c0 c1) (fun y g hp => ((q_1 c0 c1) y g hp))
  · refine v_goto (tgt := 174) dX12_dear_110 (by decide) ?_
    refine v_iinc (y := (x5 + 1)) dX12_dear_174 rfl rfl (by decide) (L' := [some (.ref 68), some (.int x1), some (.int x2), some (.int x3), some (.int x4), some (.int (x5 + 1)), none, none]) rfl ?_
    refine v_goto (tgt := 38) dX12_dear_177 (by decide) ?_
    exact (q_2 c0)
theorem c_X12_dear_125 {X : CX} {R : Room} {Z : ZX} {A : AX} {h : AH} {x1 x2 x3 x4 x5 s0 : Int32} (q : V X m_X12_dear R Z A 136 [some (.ref 68), some (.int x1), some (.int x2), some (.int x3), some (.int x4), some (.int x5), none, none] [.int s0] h) : V X m_X12_dear R Z A 125 [some (.ref 68), some (.int x1), some (.int x2), some (.int x3), some (.int x4), some (.int x5), none, none] [.int s0] h := by
  refine v_goto (tgt := 136) dX12_dear_125 (by decide) ?_
  exact q
theorem c_X12_dear_136 {X : CX} {R : Room} {Z : ZX} {A : AX} {h : AH} {x1 x2 x3 x4 x5 s0 : Int32} (q : ¬ x1 = 1 → x2 = (-1) → V X m_X12_dear R Z A 38 [some (.ref 68), some (.int x1), some (.int ((20 * x4) + x5)), some (.int s0), some (.int x4), some (.int (x5 + 1)), none, none] [] h) (q_1 : ¬ x1 = 1 → ¬ x2 = (-1) → x3 < s0 → V X m_X12_dear R Z A 38 [some (.ref 68), some (.int x1), some (.int ((20 * x4) + x5)), some (.int s0), some (.int x4), some (.int (x5 + 1)), none, none] [] h) (q_2 : ¬ x1 = 1 → ¬ x2 = (-1) → ¬ x3 < s0 → V X m_X12_dear R Z A 38 [some (.ref 68), some (.int x1), some (.int x2), some (.int x3), some (.int x4), some (.int (x5 + 1)), none, none] [] h) (q_3 : x1 = 1 → s0 ≤ 0 → V X m_X12_dear R Z A 38 [some (.ref 68), some (.int x1), some (.int x2), some (.int x3), some (.int x4), some (.int (x5 + 1)), none, none] [] h) (q_4 : x1 = 1 → ¬ s0 ≤ 0 → x2 = (-1) → V X m_X12_dear R Z A 38 [some (.ref 68), some (.int x1), some (.int ((20 * x4) + x5)), some (.int s0), some (.int x4), some (.int (x5 + 1)), none, none] [] h) (q_5 : x1 = 1 → ¬ s0 ≤ 0 → ¬ x2 = (-1) → x3 < s0 → V X m_X12_dear R Z A 38 [some (.ref 68), some (.int x1), some (.int ((20 * x4) + x5)), some (.int s0), some (.int x4), some (.int (x5 + 1)), none, none] [] h) (q_6 : x1 = 1 → ¬ s0 ≤ 0 → ¬ x2 = (-1) → ¬ x3 < s0 → V X m_X12_dear R Z A 38 [some (.ref 68), some (.int x1), some (.int x2), some (.int x3), some (.int x4), some (.int (x5 + 1)), none, none] [] h) : V X m_X12_dear R Z A 136 [some (.ref 68), some (.int x1), some (.int x2), some (.int x3), some (.int x4), some (.int x5), none, none] [.int s0] h := by
  refine v_istore dX12_dear_136 (by decide) (L' := [some (.ref 68), some (.int x1), some (.int x2), some (.int x3), some (.int x4), some (.int x5), none, some (.int s0)]) rfl ?_
  refine v_iload_n dX12_dear_138 rfl ?_
  refine v_iconst dX12_dear_139 ci_1 ?_
  refine v_icmp_ne (tgt := 148) dX12_dear_140 (by decide) (fun c0 => ?_) (fun c0 => ?_)
  · refine v_iload_n dX12_dear_148 rfl ?_
    refine v_iconst dX12_dear_149 ci_m1 ?_
    refine v_icmp_eq (tgt := 162) dX12_dear_150 (by decide) (fun c1 => ?_) (fun c1 => ?_)
    · refine v_bipush dX12_dear_162 cb_20 ?_
      refine v_iload dX12_dear_164 rfl ?_
      refine v_imul dX12_dear_166 ?_
      refine v_iload dX12_dear_167 rfl ?_
      refine v_iadd dX12_dear_169 ?_
      refine v_istore_n dX12_dear_170 (by decide) (L' := [some (.ref 68), some (.int x1), some (.int ((20 * x4) + x5)), some (.int x3), some (.int x4), some (.int x5), none, some (.int s0)]) rfl ?_
      refine v_iload dX12_dear_171 rfl ?_
      refine v_istore_n dX12_dear_173 (by decide) (L' := [some (.ref 68), some (.int x1), some (.int ((20 * x4) + x5)), some (.int s0), some (.int x4), some (.int x5), none, some (.int s0)]) rfl ?_
      refine v_iinc (y := (x5 + 1)) dX12_dear_174 rfl rfl (by decide) (L' := [some (.ref 68), some (.int x1), some (.int ((20 * x4) + x5)), some (.int s0), some (.int x4), some (.int (x5 + 1)), none, some (.int s0)]) rfl ?_
      refine v_goto (tgt := 38) dX12_dear_177 (by decide) ?_
      exact (v_drop (lvLe_s (lvLe_s (lvLe_s (lvLe_s (lvLe_s (lvLe_s (lvLe_n (lvLe_n lvLe_e)))))))) (q c0 c1))
    · refine v_iload dX12_dear_153 rfl ?_
      refine v_iload_n dX12_dear_155 rfl ?_
      refine v_icmp_gt (tgt := 162) dX12_dear_156 (by decide) (fun c2 => ?_) (fun c2 => ?_)
      · refine v_bipush dX12_dear_162 cb_20 ?_
        refine v_iload dX12_dear_164 rfl ?_
        refine v_imul dX12_dear_166 ?_
        refine v_iload dX12_dear_167 rfl ?_
        refine v_iadd dX12_dear_169 ?_
        refine v_istore_n dX12_dear_170 (by decide) (L' := [some (.ref 68), some (.int x1), some (.int ((20 * x4) + x5)), some (.int x3), some (.int x4), some (.int x5), none, some (.int s0)]) rfl ?_
        refine v_iload dX12_dear_171 rfl ?_
        refine v_istore_n dX12_dear_173 (by decide) (L' := [some (.ref 68), some (.int x1), some (.int ((20 * x4) + x5)), some (.int s0), some (.int x4), some (.int x5), none, some (.int s0)]) rfl ?_
        refine v_iinc (y := (x5 + 1)) dX12_dear_174 rfl rfl (by decide) (L' := [some (.ref 68), some (.int x1), some (.int ((20 * x4) + x5)), some (.int s0), some (.int x4), some (.int (x5 + 1)), none, some (.int s0)]) rfl ?_
        refine v_goto (tgt := 38) dX12_dear_177 (by decide) ?_
        exact (v_drop (lvLe_s (lvLe_s (lvLe_s (lvLe_s (lvLe_s (lvLe_s (lvLe_n (lvLe_n lvLe_e)))))))) (q_1 c0 c1 c2))
      · refine v_goto (tgt := 174) dX12_dear_159 (by decide) ?_
        refine v_iinc (y := (x5 + 1)) dX12_dear_174 rfl rfl (by decide) (L' := [some (.ref 68), some (.int x1), some (.int x2), some (.int x3), some (.int x4), some (.int (x5 + 1)), none, some (.int s0)]) rfl ?_
        refine v_goto (tgt := 38) dX12_dear_177 (by decide) ?_
        exact (v_drop (lvLe_s (lvLe_s (lvLe_s (lvLe_s (lvLe_s (lvLe_s (lvLe_n (lvLe_n lvLe_e)))))))) (q_2 c0 c1 c2))
  · refine v_iload dX12_dear_143 rfl ?_
    refine v_if_le (tgt := 174) dX12_dear_145 (by decide) (fun c1 => ?_) (fun c1 => ?_)
    · refine v_iinc (y := (x5 + 1)) dX12_dear_174 rfl rfl (by decide) (L' := [some (.ref 68), some (.int x1), some (.int x2), some (.int x3), some (.int x4), some (.int (x5 + 1)), none, some (.int s0)]) rfl ?_
      refine v_goto (tgt := 38) dX12_dear_177 (by decide) ?_
      exact (v_drop (lvLe_s (lvLe_s (lvLe_s (lvLe_s (lvLe_s (lvLe_s (lvLe_n (lvLe_n lvLe_e)))))))) (q_3 c0 c1))
    · refine v_iload_n dX12_dear_148 rfl ?_
      refine v_iconst dX12_dear_149 ci_m1 ?_
      refine v_icmp_eq (tgt := 162) dX12_dear_150 (by decide) (fun c2 => ?_) (fun c2 => ?_)
      · refine v_bipush dX12_dear_162 cb_20 ?_
        refine v_iload dX12_dear_164 rfl ?_
        refine v_imul dX12_dear_166 ?_
        refine v_iload dX12_dear_167 rfl ?_
        refine v_iadd dX12_dear_169 ?_
        refine v_istore_n dX12_dear_170 (by decide) (L' := [some (.ref 68), some (.int x1), some (.int ((20 * x4) + x5)), some (.int x3), some (.int x4), some (.int x5), none, some (.int s0)]) rfl ?_
        refine v_iload dX12_dear_171 rfl ?_
        refine v_istore_n dX12_dear_173 (by decide) (L' := [some (.ref 68), some (.int x1), some (.int ((20 * x4) + x5)), some (.int s0), some (.int x4), some (.int x5), none, some (.int s0)]) rfl ?_
        refine v_iinc (y := (x5 + 1)) dX12_dear_174 rfl rfl (by decide) (L' := [some (.ref 68), some (.int x1), some (.int ((20 * x4) + x5)), some (.int s0), some (.int x4), some (.int (x5 + 1)), none, some (.int s0)]) rfl ?_
        refine v_goto (tgt := 38) dX12_dear_177 (by decide) ?_
        exact (v_drop (lvLe_s (lvLe_s (lvLe_s (lvLe_s (lvLe_s (lvLe_s (lvLe_n (lvLe_n lvLe_e)))))))) (q_4 c0 c1 c2))
      · refine v_iload dX12_dear_153 rfl ?_
        refine v_iload_n dX12_dear_155 rfl ?_
        refine v_icmp_gt (tgt := 162) dX12_dear_156 (by decide) (fun c3 => ?_) (fun c3 => ?_)
        · refine v_bipush dX12_dear_162 cb_20 ?_
          refine v_iload dX12_dear_164 rfl ?_
          refine v_imul dX12_dear_166 ?_
          refine v_iload dX12_dear_167 rfl ?_
          refine v_iadd dX12_dear_169 ?_
          refine v_istore_n dX12_dear_170 (by decide) (L' := [some (.ref 68), some (.int x1), some (.int ((20 * x4) + x5)), some (.int x3), some (.int x4), some (.int x5), none, some (.int s0)]) rfl ?_
          refine v_iload dX12_dear_171 rfl ?_
          refine v_istore_n dX12_dear_173 (by decide) (L' := [some (.ref 68), some (.int x1), some (.int ((20 * x4) + x5)), some (.int s0), some (.int x4), some (.int x5), none, some (.int s0)]) rfl ?_
          refine v_iinc (y := (x5 + 1)) dX12_dear_174 rfl rfl (by decide) (L' := [some (.ref 68), some (.int x1), some (.int ((20 * x4) + x5)), some (.int s0), some (.int x4), some (.int (x5 + 1)), none, some (.int s0)]) rfl ?_
          refine v_goto (tgt := 38) dX12_dear_177 (by decide) ?_
          exact (v_drop (lvLe_s (lvLe_s (lvLe_s (lvLe_s (lvLe_s (lvLe_s (lvLe_n (lvLe_n lvLe_e)))))))) (q_5 c0 c1 c2 c3))
        · refine v_goto (tgt := 174) dX12_dear_159 (by decide) ?_
          refine v_iinc (y := (x5 + 1)) dX12_dear_174 rfl rfl (by decide) (L' := [some (.ref 68), some (.int x1), some (.int x2), some (.int x3), some (.int x4), some (.int (x5 + 1)), none, some (.int s0)]) rfl ?_
          refine v_goto (tgt := 38) dX12_dear_177 (by decide) ?_
          exact (v_drop (lvLe_s (lvLe_s (lvLe_s (lvLe_s (lvLe_s (lvLe_s (lvLe_n (lvLe_n lvLe_e)))))))) (q_6 c0 c1 c2 c3))
theorem e_X12_count {X : CX} {d nx sz : Nat} {Q : Option Value → AH → Prop} {h : AH} {x1 : Int32} (q : V X m_X12_count (rm d 0 0) (ZM X Q nx sz 0 0) (nx, sz, 0, 0) 0 [some (.ref 68), some (.int x1)] [] h) : Mk X d m_X12_count [.ref 68, .int x1] h nx sz Q := by
  refine Mok.ofV mo_X12_count (Nat.le_of_ble_eq_true rfl) (L := [some (.ref 68), some (.int x1)]) (lvLe_s (lvLe_s lvLe_e)) (v_grow (n := 0) ?_)
  exact q
theorem c_X12_count_0 {X : CX} {R : Room} {Q : Option Value → AH → Prop} {nx sz mc ms : Nat} {h : AH} {x1 : Int32} (hA0 : 91 ≤ nx) (hq : ((x1 : Int32).toInt < 0 ∨ 4 < (x1 : Int32).toInt) → Q (some (.int (-1000000))) (setI h 68 0 0)) (hq_1 : (x1 : Int32).toInt = 0 → Q (some (.int (h.1 68 1))) (setI h 68 0 0)) (hq_2 : (x1 : Int32).toInt = 1 → Q (some (.int (h.1 68 8))) (setI h 68 0 0)) (hq_3 : (x1 : Int32).toInt = 2 → Q (some (.int (h.1 68 7))) (setI h 68 0 0)) (hq_4 : (x1 : Int32).toInt = 3 → Q (some (.int (h.1 68 30))) (setI h 68 0 0)) (hq_5 : (x1 : Int32).toInt = 4 → Q (some (.int (h.1 68 31))) (setI h 68 0 0)) : V X m_X12_count R (ZM X Q nx sz mc ms) (nx, sz, mc, ms) 0 [some (.ref 68), some (.int x1)] [] h := by
  refine v_aload_n dX12_count_0 rfl ?_
  refine v_iconst dX12_count_1 ci_0 ?_
  refine v_putI rfl rfl rfl dX12_count_2 fl_RX12_103 (Or.inl rfl) kd_68 (ltA hA0 rfl) ?_
  refine v_iload_n dX12_count_5 rfl ?_
  rcases (by omega : ((x1 : Int32).toInt < 0 ∨ 4 < (x1 : Int32).toInt) ∨ (x1 : Int32).toInt = 0 ∨ (x1 : Int32).toInt = 1 ∨ (x1 : Int32).toInt = 2 ∨ (x1 : Int32).toInt = 3 ∨ (x1 : Int32).toInt = 4) with c0 | c0 | c0 | c0 | c0 | c0
  · refine v_tableOut (tgt := 65) dX12_count_6 c0 (by decide) ?_
    refine v_ldc_w dX12_count_65 kc_RX12_346 ?_
    exact v_iret dX12_count_68 rfl (hq c0)
  · refine v_tableIn (tgt := 40) (off := 34) dX12_count_6 (by rw [c0]; decide) (by rw [c0]; decide) (by rw [c0]; rfl) (by decide) ?_
    refine v_aload_n dX12_count_40 rfl ?_
    refine v_getI dX12_count_41 fl_RX12_99 kd_68 (ltA hA0 rfl) rfl ?_
    exact v_iret dX12_count_44 rfl (hq_1 c0)
  · refine v_tableIn (tgt := 45) (off := 39) dX12_count_6 (by rw [c0]; decide) (by rw [c0]; decide) (by rw [c0]; rfl) (by decide) ?_
    refine v_aload_n dX12_count_45 rfl ?_
    refine v_getI dX12_count_46 fl_RX12_242 kd_68 (ltA hA0 rfl) rfl ?_
    exact v_iret dX12_count_49 rfl (hq_2 c0)
  · refine v_tableIn (tgt := 50) (off := 44) dX12_count_6 (by rw [c0]; decide) (by rw [c0]; decide) (by rw [c0]; rfl) (by decide) ?_
    refine v_aload_n dX12_count_50 rfl ?_
    refine v_getI dX12_count_51 fl_RX12_116 kd_68 (ltA hA0 rfl) rfl ?_
    exact v_iret dX12_count_54 rfl (hq_3 c0)
  · refine v_tableIn (tgt := 55) (off := 49) dX12_count_6 (by rw [c0]; decide) (by rw [c0]; decide) (by rw [c0]; rfl) (by decide) ?_
    refine v_aload_n dX12_count_55 rfl ?_
    refine v_getI dX12_count_56 fl_RX12_318 kd_68 (ltA hA0 rfl) rfl ?_
    exact v_iret dX12_count_59 rfl (hq_4 c0)
  · refine v_tableIn (tgt := 60) (off := 54) dX12_count_6 (by rw [c0]; decide) (by rw [c0]; decide) (by rw [c0]; rfl) (by decide) ?_
    refine v_aload_n dX12_count_60 rfl ?_
    refine v_getI dX12_count_61 fl_RX12_324 kd_68 (ltA hA0 rfl) rfl ?_
    exact v_iret dX12_count_64 rfl (hq_5 c0)
