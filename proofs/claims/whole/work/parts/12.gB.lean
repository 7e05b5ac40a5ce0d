/-! stretches of code, by program -/
theorem e_X1_cutBy {X : CX} {d nx sz : Nat} {Q : Option Value → AH → Prop} {h : AH} {x1 : Int32} (q : V X m_X1_cutBy (rm d 0 0) (ZM X Q nx sz 0 0) (nx, sz, 0, 0) 0 [some (.ref 20), some (.int x1), none, none, none, none, none] [] h) : Mk X d m_X1_cutBy [.ref 20, .int x1] h nx sz Q := by
  refine Mok.ofV mo_X1_cutBy (Nat.le_of_ble_eq_true rfl) (L := [some (.ref 20), some (.int x1)]) (lvLe_s (lvLe_s lvLe_e)) (v_grow (n := 5) ?_)
  exact q
theorem c_X1_cutBy_0 {X : CX} {R : Room} {Z : ZX} {A : AX} {h : AH} {x1 : Int32} {d : Nat} {P16 : Int32 → AH → Prop} (hA0 : 91 ≤ A.1) (hF : Fx h) (hR : RO R (d + 1)) (hcs : A.2.2.1 ≤ R.cells ∧ A.2.2.2 ≤ R.slots) (hM : Mk X d m_X3_reached [.ref 1, .int ((1 : Int32) <<< ((x1 : Int32) &&& 31)), .int (h.1 1 1)] h A.1 A.2.1 (RI P16)) (q : ∀ (y : Int32) (g : AH), P16 y g → V X m_X1_cutBy R Z A 19 [some (.ref 20), none, some (.int ((1 : Int32) <<< ((x1 : Int32) &&& 31))), none, none, none, none] [.int y] g) : V X m_X1_cutBy R Z A 0 [some (.ref 20), some (.int x1), none, none, none, none, none] [] h := by
  refine v_iconst dX1_cutBy_0 ci_1 ?_
  refine v_iload_n dX1_cutBy_1 rfl ?_
  refine v_ishl dX1_cutBy_2 ?_
  refine v_istore_n dX1_cutBy_3 (by decide) (L' := [some (.ref 20), some (.int x1), some (.int ((1 : Int32) <<< ((x1 : Int32) &&& 31))), none, none, none, none]) rfl ?_
  refine v_aload_n dX1_cutBy_4 rfl ?_
  refine v_getR dX1_cutBy_5 fl_RX1_9 kd_20 (ltA hA0 rfl) rfl (hF 20 0 1 rfl) ?_
  refine v_iload_n dX1_cutBy_8 rfl ?_
  refine v_aload_n dX1_cutBy_9 rfl ?_
  refine v_getR dX1_cutBy_10 fl_RX1_9 kd_20 (ltA hA0 rfl) rfl (hF 20 0 1 rfl) ?_
  refine v_getI dX1_cutBy_13 fl_RX1_15 kd_1 (ltA hA0 rfl) rfl ?_
  exact v_cVI (mt := m_X1_cutBy) mo_X3_reached ml_RX1_21 mi_X3_reached mv_X3_reached rfl kd_1 cl_3 rfl (ltA hA0 rfl) hR hcs (Nat.le_of_ble_eq_true rfl) dX1_cutBy_16 rfl hM (fun y g hp => (v_drop (lvLe_s (lvLe_n (lvLe_s (lvLe_n (lvLe_n (lvLe_n (lvLe_n lvLe_e))))))) (q y g hp)))
theorem c_X1_cutBy_19 {X : CX} {R : Room} {Z : ZX} {A : AX} {h : AH} {x2 s0 : Int32} (q : V X m_X1_cutBy R Z A 30 [some (.ref 20), none, some (.int x2), some (.int (s0 &&& (x2 ^^^ (-1)))), some (.int 0), some (.int 0), none] [] h) : V X m_X1_cutBy R Z A 19 [some (.ref 20), none, some (.int x2), none, none, none, none] [.int s0] h := by
  refine v_iload_n dX1_cutBy_19 rfl ?_
  refine v_iconst dX1_cutBy_20 ci_m1 ?_
  refine v_ixor dX1_cutBy_21 ?_
  refine v_iand dX1_cutBy_22 ?_
  refine v_istore_n dX1_cutBy_23 (by decide) (L' := [some (.ref 20), none, some (.int x2), some (.int (s0 &&& (x2 ^^^ (-1)))), none, none, none]) rfl ?_
  refine v_iconst dX1_cutBy_24 ci_0 ?_
  refine v_istore dX1_cutBy_25 (by decide) (L' := [some (.ref 20), none, some (.int x2), some (.int (s0 &&& (x2 ^^^ (-1)))), some (.int 0), none, none]) rfl ?_
  refine v_iconst dX1_cutBy_27 ci_0 ?_
  refine v_istore dX1_cutBy_28 (by decide) (L' := [some (.ref 20), none, some (.int x2), some (.int (s0 &&& (x2 ^^^ (-1)))), some (.int 0), some (.int 0), none]) rfl ?_
  exact q
theorem c_X1_cutBy_30 {X : CX} {R : Room} {Q : Option Value → AH → Prop} {nx sz mc ms : Nat} {h : AH} {x2 x3 x4 x5 : Int32} {d : Nat} {P70 : Int32 → AH → Prop} (hA0 : 91 ≤ nx) (hF : Fx h) (hR : RO R (d + 1)) (hcs : mc ≤ R.cells ∧ ms ≤ R.slots) (hq : (h.1 1 0) ≤ x5 → Q (some (.int (x4 / 2))) h) (q : ¬ (h.1 1 0) ≤ x5 → ((x3 >>> (x5 &&& 31)) &&& 1) = 0 → V X m_X1_cutBy R (ZM X Q nx sz mc ms) (nx, sz, mc, ms) 30 [some (.ref 20), none, some (.int x2), some (.int x3), some (.int x4), some (.int (x5 + 1)), none] [] h) (hM : ¬ (h.1 1 0) ≤ x5 → ¬ ((x3 >>> (x5 &&& 31)) &&& 1) = 0 → Mk X d m_X3_reached [.ref 1, .int ((1 : Int32) <<< ((x5 : Int32) &&& 31)), .int ((h.1 1 1) &&& (x2 ^^^ (-1)))] h nx sz (RI P70)) (q_1 : ¬ (h.1 1 0) ≤ x5 → ¬ ((x3 >>> (x5 &&& 31)) &&& 1) = 0 → ∀ (y : Int32) (g : AH), P70 y g → V X m_X1_cutBy R (ZM X Q nx sz mc ms) (nx, sz, mc, ms) 73 [some (.ref 20), none, some (.int x2), some (.int x3), some (.int x4), some (.int x5), none] [.int y] g) : V X m_X1_cutBy R (ZM X Q nx sz mc ms) (nx, sz, mc, ms) 30 [some (.ref 20), none, some (.int x2), some (.int x3), some (.int x4), some (.int x5), none] [] h := by
  refine v_iload dX1_cutBy_30 rfl ?_
  refine v_aload_n dX1_cutBy_32 rfl ?_
  refine v_getR dX1_cutBy_33 fl_RX1_9 kd_20 (ltA hA0 rfl) rfl (hF 20 0 1 rfl) ?_
  refine v_getI dX1_cutBy_36 fl_RX1_25 kd_1 (ltA hA0 rfl) rfl ?_
  refine v_icmp_ge (tgt := 95) dX1_cutBy_39 (by decide) (fun c0 => ?_) (fun c0 => ?_)
  · refine v_iload dX1_cutBy_95 rfl ?_
    refine v_iconst dX1_cutBy_97 ci_2 ?_
    refine v_idiv dX1_cutBy_98 (by decide) ?_
    exact v_iret dX1_cutBy_99 rfl (hq c0)
  · refine v_iload_n dX1_cutBy_42 rfl ?_
    refine v_iload dX1_cutBy_43 rfl ?_
    refine v_ishr dX1_cutBy_45 ?_
    refine v_iconst dX1_cutBy_46 ci_1 ?_
    refine v_iand dX1_cutBy_47 ?_
    refine v_if_eq (tgt := 89) dX1_cutBy_48 (by decide) (fun c1 => ?_) (fun c1 => ?_)
    · refine v_iinc (y := (x5 + 1)) dX1_cutBy_89 rfl rfl (by decide) (L' := [some (.ref 20), none, some (.int x2), some (.int x3), some (.int x4), some (.int (x5 + 1)), none]) rfl ?_
      refine v_goto (tgt := 30) dX1_cutBy_92 (by decide) ?_
      exact (q c0 c1)
    · refine v_aload_n dX1_cutBy_51 rfl ?_
      refine v_getR dX1_cutBy_52 fl_RX1_9 kd_20 (ltA hA0 rfl) rfl (hF 20 0 1 rfl) ?_
      refine v_iconst dX1_cutBy_55 ci_1 ?_
      refine v_iload dX1_cutBy_56 rfl ?_
      refine v_ishl dX1_cutBy_58 ?_
      refine v_aload_n dX1_cutBy_59 rfl ?_
      refine v_getR dX1_cutBy_60 fl_RX1_9 kd_20 (ltA hA0 rfl) rfl (hF 20 0 1 rfl) ?_
      refine v_getI dX1_cutBy_63 fl_RX1_15 kd_1 (ltA hA0 rfl) rfl ?_
      refine v_iload_n dX1_cutBy_66 rfl ?_
      refine v_iconst dX1_cutBy_67 ci_m1 ?_
      refine v_ixor dX1_cutBy_68 ?_
      refine v_iand dX1_cutBy_69 ?_
      exact v_cVI (mt := m_X1_cutBy) mo_X3_reached ml_RX1_21 mi_X3_reached mv_X3_reached rfl kd_1 cl_3 rfl (ltA hA0 rfl) hR hcs (Nat.le_of_ble_eq_true rfl) dX1_cutBy_70 rfl (hM c0 c1) (fun y g hp => ((q_1 c0 c1) y g hp))
theorem c_X1_cutBy_73 {X : CX} {R : Room} {Z : ZX} {A : AX} {h : AH} {x2 x3 x4 x5 s0 : Int32} {d : Nat} {P83 : Int32 → AH → Prop} (hR : RO R (d + 1)) (hcs : A.2.2.1 ≤ R.cells ∧ A.2.2.2 ≤ R.slots) (hM : Mk X d m_J6_bitCount_0f7a4 [.int (x3 &&& (s0 ^^^ (-1)))] h A.1 A.2.1 (RI P83)) (q : ∀ (y : Int32) (g : AH), P83 y g → V X m_X1_cutBy R Z A 86 [some (.ref 20), none, some (.int x2), some (.int x3), none, some (.int x5), none] [.int y, .int x4] g) : V X m_X1_cutBy R Z A 73 [some (.ref 20), none, some (.int x2), some (.int x3), some (.int x4), some (.int x5), none] [.int s0] h := by
  refine v_istore dX1_cutBy_73 (by decide) (L' := [some (.ref 20), none, some (.int x2), some (.int x3), some (.int x4), some (.int x5), some (.int s0)]) rfl ?_
  refine v_iload dX1_cutBy_75 rfl ?_
  refine v_iload_n dX1_cutBy_77 rfl ?_
  refine v_iload dX1_cutBy_78 rfl ?_
  refine v_iconst dX1_cutBy_80 ci_m1 ?_
  refine v_ixor dX1_cutBy_81 ?_
  refine v_iand dX1_cutBy_82 ?_
  exact v_cSI (mt := m_X1_cutBy) mo_J6_bitCount_0f7a4 ml_RX1_28 mz_J6_bitCount_0f7a4 rfl hR hcs (Nat.le_of_ble_eq_true rfl) dX1_cutBy_83 rfl hM (fun y g hp => (v_drop (lvLe_s (lvLe_n (lvLe_s (lvLe_s (lvLe_n (lvLe_s (lvLe_n lvLe_e))))))) (q y g hp)))
theorem c_X1_cutBy_86 {X : CX} {R : Room} {Z : ZX} {A : AX} {h : AH} {x2 x3 x5 s0 s1 : Int32} (q : V X m_X1_cutBy R Z A 30 [some (.ref 20), none, some (.int x2), some (.int x3), some (.int (s0 + s1)), some (.int (x5 + 1)), none] [] h) : V X m_X1_cutBy R Z A 86 [some (.ref 20), none, some (.int x2), some (.int x3), none, some (.int x5), none] [.int s1, .int s0] h := by
  refine v_iadd dX1_cutBy_86 ?_
  refine v_istore dX1_cutBy_87 (by decide) (L' := [some (.ref 20), none, some (.int x2), some (.int x3), some (.int (s0 + s1)), some (.int x5), none]) rfl ?_
  refine v_iinc (y := (x5 + 1)) dX1_cutBy_89 rfl rfl (by decide) (L' := [some (.ref 20), none, some (.int x2), some (.int x3), some (.int (s0 + s1)), some (.int (x5 + 1)), none]) rfl ?_
  refine v_goto (tgt := 30) dX1_cutBy_92 (by decide) ?_
  exact q
theorem e_X1_keyOnes {X : CX} {d nx sz : Nat} {Q : Option Value → AH → Prop} {h : AH} (q : V X m_X1_keyOnes (rm d 0 0) (ZM X Q nx sz 0 0) (nx, sz, 0, 0) 0 [some (.ref 20), none, none] [] h) : Mk X d m_X1_keyOnes [.ref 20] h nx sz Q := by
  refine Mok.ofV mo_X1_keyOnes (Nat.le_of_ble_eq_true rfl) (L := [some (.ref 20)]) (lvLe_s lvLe_e) (v_grow (n := 2) ?_)
  exact q
theorem c_X1_keyOnes_0 {X : CX} {R : Room} {Z : ZX} {A : AX} {h : AH} (q : V X m_X1_keyOnes R Z A 4 [some (.ref 20), some (.int 0), some (.int 0)] [] h) : V X m_X1_keyOnes R Z A 0 [some (.ref 20), none, none] [] h := by
  refine v_iconst dX1_keyOnes_0 ci_0 ?_
  refine v_istore_n dX1_keyOnes_1 (by decide) (L' := [some (.ref 20), some (.int 0), none]) rfl ?_
  refine v_iconst dX1_keyOnes_2 ci_0 ?_
  refine v_istore_n dX1_keyOnes_3 (by decide) (L' := [some (.ref 20), some (.int 0), some (.int 0)]) rfl ?_
  exact q
theorem c_X1_keyOnes_4 {X : CX} {R : Room} {Q : Option Value → AH → Prop} {nx sz mc ms : Nat} {h : AH} {x1 x2 : Int32} {d : Nat} {P17 : Int32 → AH → Prop} (hA0 : 91 ≤ nx) (hF : Fx h) (hR : RO R (d + 1)) (hcs : mc ≤ R.cells ∧ ms ≤ R.slots) (hq : (h.1 1 0) ≤ x2 → Q (some (.int x1)) h) (hM : ¬ (h.1 1 0) ≤ x2 → Mk X d m_X1_cutBy [.ref 20, .int x2] h nx sz (RI P17)) (q : ¬ (h.1 1 0) ≤ x2 → ∀ (y : Int32) (g : AH), P17 y g → V X m_X1_keyOnes R (ZM X Q nx sz mc ms) (nx, sz, mc, ms) 20 [some (.ref 20), some (.int x1), some (.int x2)] [.int y] g) : V X m_X1_keyOnes R (ZM X Q nx sz mc ms) (nx, sz, mc, ms) 4 [some (.ref 20), some (.int x1), some (.int x2)] [] h := by
  refine v_iload_n dX1_keyOnes_4 rfl ?_
  refine v_aload_n dX1_keyOnes_5 rfl ?_
  refine v_getR dX1_keyOnes_6 fl_RX1_9 kd_20 (ltA hA0 rfl) rfl (hF 20 0 1 rfl) ?_
  refine v_getI dX1_keyOnes_9 fl_RX1_25 kd_1 (ltA hA0 rfl) rfl ?_
  refine v_icmp_ge (tgt := 35) dX1_keyOnes_12 (by decide) (fun c0 => ?_) (fun c0 => ?_)
  · refine v_iload_n dX1_keyOnes_35 rfl ?_
    exact v_iret dX1_keyOnes_36 rfl (hq c0)
  · refine v_aload_n dX1_keyOnes_15 rfl ?_
    refine v_iload_n dX1_keyOnes_16 rfl ?_
    exact v_cVI (mt := m_X1_keyOnes) mo_X1_cutBy ml_RX1_34 mi_X1_cutBy mv_X1_cutBy rfl kd_20 cl_1 rfl (ltA hA0 rfl) hR hcs (Nat.le_of_ble_eq_true rfl) dX1_keyOnes_17 rfl (hM c0) (fun y g hp => ((q c0) y g hp))
theorem c_X1_keyOnes_20 {X : CX} {R : Room} {Z : ZX} {A : AX} {h : AH} {x1 x2 s0 : Int32} (q : s0 ≤ 0 → V X m_X1_keyOnes R Z A 4 [some (.ref 20), some (.int x1), some (.int (x2 + 1))] [] h) (q_1 : ¬ s0 ≤ 0 → V X m_X1_keyOnes R Z A 4 [some (.ref 20), some (.int (x1 ||| ((1 : Int32) <<< ((x2 : Int32) &&& 31)))), some (.int (x2 + 1))] [] h) : V X m_X1_keyOnes R Z A 20 [some (.ref 20), some (.int x1), some (.int x2)] [.int s0] h := by
  refine v_if_le (tgt := 29) dX1_keyOnes_20 (by decide) (fun c0 => ?_) (fun c0 => ?_)
  · refine v_iinc (y := (x2 + 1)) dX1_keyOnes_29 rfl rfl (by decide) (L' := [some (.ref 20), some (.int x1), some (.int (x2 + 1))]) rfl ?_
    refine v_goto (tgt := 4) dX1_keyOnes_32 (by decide) ?_
    exact (q c0)
  · refine v_iload_n dX1_keyOnes_23 rfl ?_
    refine v_iconst dX1_keyOnes_24 ci_1 ?_
    refine v_iload_n dX1_keyOnes_25 rfl ?_
    refine v_ishl dX1_keyOnes_26 ?_
    refine v_ior dX1_keyOnes_27 ?_
    refine v_istore_n dX1_keyOnes_28 (by decide) (L' := [some (.ref 20), some (.int (x1 ||| ((1 : Int32) <<< ((x2 : Int32) &&& 31)))), some (.int x2)]) rfl ?_
    refine v_iinc (y := (x2 + 1)) dX1_keyOnes_29 rfl rfl (by decide) (L' := [some (.ref 20), some (.int (x1 ||| ((1 : Int32) <<< ((x2 : Int32) &&& 31)))), some (.int (x2 + 1))]) rfl ?_
    refine v_goto (tgt := 4) dX1_keyOnes_32 (by decide) ?_
    exact (q_1 c0)
theorem e_X1_parts {X : CX} {d nx sz : Nat} {Q : Option Value → AH → Prop} {h : AH} (q : V X m_X1_parts (rm d 0 0) (ZM X Q nx sz 0 0) (nx, sz, 0, 0) 0 [some (.ref 20), none, none, none] [] h) : Mk X d m_X1_parts [.ref 20] h nx sz Q := by
  refine Mok.ofV mo_X1_parts (Nat.le_of_ble_eq_true rfl) (L := [some (.ref 20)]) (lvLe_s lvLe_e) (v_grow (n := 3) ?_)
  exact q
theorem c_X1_parts_0 {X : CX} {R : Room} {Z : ZX} {A : AX} {h : AH} (q : V X m_X1_parts R Z A 6 [some (.ref 20), some (.int 0), some (.int 0), some (.int 0)] [] h) : V X m_X1_parts R Z A 0 [some (.ref 20), none, none, none] [] h := by
  refine v_iconst dX1_parts_0 ci_0 ?_
  refine v_istore_n dX1_parts_1 (by decide) (L' := [some (.ref 20), some (.int 0), none, none]) rfl ?_
  refine v_iconst dX1_parts_2 ci_0 ?_
  refine v_istore_n dX1_parts_3 (by decide) (L' := [some (.ref 20), some (.int 0), some (.int 0), none]) rfl ?_
  refine v_iconst dX1_parts_4 ci_0 ?_
  refine v_istore_n dX1_parts_5 (by decide) (L' := [some (.ref 20), some (.int 0), some (.int 0), some (.int 0)]) rfl ?_
  exact q
theorem c_X1_parts_6 {X : CX} {R : Room} {Q : Option Value → AH → Prop} {nx sz mc ms : Nat} {h : AH} {x1 x2 x3 : Int32} {d : Nat} {P40 : Int32 → AH → Prop} (hA0 : 91 ≤ nx) (hF : Fx h) (hR : RO R (d + 1)) (hcs : mc ≤ R.cells ∧ ms ≤ R.slots) (hq : (h.1 1 0) ≤ x3 → Q (some (.int x2)) h) (q : ¬ (h.1 1 0) ≤ x3 → ¬ ((x1 >>> (x3 &&& 31)) &&& 1) = 0 → V X m_X1_parts R (ZM X Q nx sz mc ms) (nx, sz, mc, ms) 6 [some (.ref 20), some (.int x1), some (.int x2), some (.int (x3 + 1))] [] h) (hM : ¬ (h.1 1 0) ≤ x3 → ((x1 >>> (x3 &&& 31)) &&& 1) = 0 → Mk X d m_X3_reached [.ref 1, .int ((1 : Int32) <<< ((x3 : Int32) &&& 31)), .int (h.1 1 1)] h nx sz (RI P40)) (q_1 : ¬ (h.1 1 0) ≤ x3 → ((x1 >>> (x3 &&& 31)) &&& 1) = 0 → ∀ (y : Int32) (g : AH), P40 y g → V X m_X1_parts R (ZM X Q nx sz mc ms) (nx, sz, mc, ms) 43 [some (.ref 20), none, some (.int x2), some (.int x3)] [.int y, .int x1] g) : V X m_X1_parts R (ZM X Q nx sz mc ms) (nx, sz, mc, ms) 6 [some (.ref 20), some (.int x1), some (.int x2), some (.int x3)] [] h := by
  refine v_iload_n dX1_parts_6 rfl ?_
  refine v_aload_n dX1_parts_7 rfl ?_
  refine v_getR dX1_parts_8 fl_RX1_9 kd_20 (ltA hA0 rfl) rfl (hF 20 0 1 rfl) ?_
  refine v_getI dX1_parts_11 fl_RX1_25 kd_1 (ltA hA0 rfl) rfl ?_
  refine v_icmp_ge (tgt := 54) dX1_parts_14 (by decide) (fun c0 => ?_) (fun c0 => ?_)
  · refine v_iload_n dX1_parts_54 rfl ?_
    exact v_iret dX1_parts_55 rfl (hq c0)
  · refine v_iload_n dX1_parts_17 rfl ?_
    refine v_iload_n dX1_parts_18 rfl ?_
    refine v_ishr dX1_parts_19 ?_
    refine v_iconst dX1_parts_20 ci_1 ?_
    refine v_iand dX1_parts_21 ?_
    refine v_if_ne (tgt := 48) dX1_parts_22 (by decide) (fun c1 => ?_) (fun c1 => ?_)
    · refine v_iinc (y := (x3 + 1)) dX1_parts_48 rfl rfl (by decide) (L' := [some (.ref 20), some (.int x1), some (.int x2), some (.int (x3 + 1))]) rfl ?_
      refine v_goto (tgt := 6) dX1_parts_51 (by decide) ?_
      exact (q c0 c1)
    · refine v_iload_n dX1_parts_25 rfl ?_
      refine v_aload_n dX1_parts_26 rfl ?_
      refine v_getR dX1_parts_27 fl_RX1_9 kd_20 (ltA hA0 rfl) rfl (hF 20 0 1 rfl) ?_
      refine v_iconst dX1_parts_30 ci_1 ?_
      refine v_iload_n dX1_parts_31 rfl ?_
      refine v_ishl dX1_parts_32 ?_
      refine v_aload_n dX1_parts_33 rfl ?_
      refine v_getR dX1_parts_34 fl_RX1_9 kd_20 (ltA hA0 rfl) rfl (hF 20 0 1 rfl) ?_
      refine v_getI dX1_parts_37 fl_RX1_15 kd_1 (ltA hA0 rfl) rfl ?_
      exact v_cVI (mt := m_X1_parts) mo_X3_reached ml_RX1_21 mi_X3_reached mv_X3_reached rfl kd_1 cl_3 rfl (ltA hA0 rfl) hR hcs (Nat.le_of_ble_eq_true rfl) dX1_parts_40 rfl (hM c0 c1) (fun y g hp => (v_drop (lvLe_s (lvLe_n (lvLe_s (lvLe_s lvLe_e)))) ((q_1 c0 c1) y g hp)))
theorem c_X1_parts_43 {X : CX} {R : Room} {Z : ZX} {A : AX} {h : AH} {x2 x3 s0 s1 : Int32} (q : V X m_X1_parts R Z A 6 [some (.ref 20), some (.int (s0 ||| s1)), some (.int (x2 + 1)), some (.int (x3 + 1))] [] h) : V X m_X1_parts R Z A 43 [some (.ref 20), none, some (.int x2), some (.int x3)] [.int s1, .int s0] h := by
  refine v_ior dX1_parts_43 ?_
  refine v_istore_n dX1_parts_44 (by decide) (L' := [some (.ref 20), some (.int (s0 ||| s1)), some (.int x2), some (.int x3)]) rfl ?_
  refine v_iinc (y := (x2 + 1)) dX1_parts_45 rfl rfl (by decide) (L' := [some (.ref 20), some (.int (s0 ||| s1)), some (.int (x2 + 1)), some (.int x3)]) rfl ?_
  refine v_iinc (y := (x3 + 1)) dX1_parts_48 rfl rfl (by decide) (L' := [some (.ref 20), some (.int (s0 ||| s1)), some (.int (x2 + 1)), some (.int (x3 + 1))]) rfl ?_
  refine v_goto (tgt := 6) dX1_parts_51 (by decide) ?_
  exact q
theorem e_X1_mending {X : CX} {d nx sz : Nat} {Q : Option Value → AH → Prop} {h : AH} (q : V X m_X1_mending (rm d 0 0) (ZM X Q nx sz 0 0) (nx, sz, 0, 0) 0 [some (.ref 20), none, none] [] h) : Mk X d m_X1_mending [.ref 20] h nx sz Q := by
  refine Mok.ofV mo_X1_mending (Nat.le_of_ble_eq_true rfl) (L := [some (.ref 20)]) (lvLe_s lvLe_e) (v_grow (n := 2) ?_)
  exact q
theorem c_X1_mending_0 {X : CX} {R : Room} {Z : ZX} {A : AX} {h : AH} {d : Nat} {P1 : Int32 → AH → Prop} (hA0 : 91 ≤ A.1) (hR : RO R (d + 1)) (hcs : A.2.2.1 ≤ R.cells ∧ A.2.2.2 ≤ R.slots) (hM : Mk X d m_X1_parts [.ref 20] h A.1 A.2.1 (RI P1)) (q : ∀ (y : Int32) (g : AH), P1 y g → V X m_X1_mending R Z A 4 [some (.ref 20), none, none] [.int y] g) : V X m_X1_mending R Z A 0 [some (.ref 20), none, none] [] h := by
  refine v_aload_n dX1_mending_0 rfl ?_
  exact v_cVI (mt := m_X1_mending) mo_X1_parts ml_RX1_37 mi_X1_parts mv_X1_parts rfl kd_20 cl_1 rfl (ltA hA0 rfl) hR hcs (Nat.le_of_ble_eq_true rfl) dX1_mending_1 rfl hM (fun y g hp => (q y g hp))
theorem c_X1_mending_4 {X : CX} {R : Room} {Q : Option Value → AH → Prop} {nx sz mc ms : Nat} {h : AH} {s0 : Int32} (q : ¬ (s0 - 1) = 0 → V X m_X1_mending R (ZM X Q nx sz mc ms) (nx, sz, mc, ms) 15 [some (.ref 20), some (.int (s0 - 1)), some (.int 0)] [] h) (hq : (s0 - 1) = 0 → Q (some (.int 0)) h) : V X m_X1_mending R (ZM X Q nx sz mc ms) (nx, sz, mc, ms) 4 [some (.ref 20), none, none] [.int s0] h := by
  refine v_iconst dX1_mending_4 ci_1 ?_
  refine v_isub dX1_mending_5 ?_
  refine v_istore_n dX1_mending_6 (by decide) (L' := [some (.ref 20), some (.int (s0 - 1)), none]) rfl ?_
  refine v_iload_n dX1_mending_7 rfl ?_
  refine v_if_ne (tgt := 13) dX1_mending_8 (by decide) (fun c0 => ?_) (fun c0 => ?_)
  · refine v_iconst dX1_mending_13 ci_0 ?_
    refine v_istore_n dX1_mending_14 (by decide) (L' := [some (.ref 20), some (.int (s0 - 1)), some (.int 0)]) rfl ?_
    exact (q c0)
  · refine v_iconst dX1_mending_11 ci_0 ?_
    exact v_iret dX1_mending_12 rfl (hq c0)
theorem c_X1_mending_15 {X : CX} {R : Room} {Z : ZX} {A : AX} {h : AH} {x1 x2 : Int32} {d : Nat} {P66 P41 : Int32 → AH → Prop} (hA0 : 91 ≤ A.1) (hF : Fx h) (hR : RO R (d + 1)) (hcs : A.2.2.1 ≤ R.cells ∧ A.2.2.2 ≤ R.slots) (hM : (h.1 1 0) ≤ x2 → Mk X d m_X1_roomOf [.ref 20, .int (h.1 1 1)] h A.1 A.2.1 (RI P66)) (q : (h.1 1 0) ≤ x2 → ∀ (y : Int32) (g : AH), P66 y g → V X m_X1_mending R Z A 69 [none, some (.int x1), none] [.int y] g) (hM_1 : ¬ (h.1 1 0) ≤ x2 → Mk X d m_X3_reached [.ref 1, .int ((1 : Int32) <<< ((x2 : Int32) &&& 31)), .int (h.1 1 1)] h A.1 A.2.1 (RI P41)) (q_1 : ¬ (h.1 1 0) ≤ x2 → ∀ (y : Int32) (g : AH), P41 y g → V X m_X1_mending R Z A 44 [some (.ref 20), some (.int x1), some (.int x2)] [.int y, .ref 20] g) : V X m_X1_mending R Z A 15 [some (.ref 20), some (.int x1), some (.int x2)] [] h := by
  refine v_iload_n dX1_mending_15 rfl ?_
  refine v_aload_n dX1_mending_16 rfl ?_
  refine v_getR dX1_mending_17 fl_RX1_9 kd_20 (ltA hA0 rfl) rfl (hF 20 0 1 rfl) ?_
  refine v_getI dX1_mending_20 fl_RX1_25 kd_1 (ltA hA0 rfl) rfl ?_
  refine v_icmp_ge (tgt := 58) dX1_mending_23 (by decide) (fun c0 => ?_) (fun c0 => ?_)
  · refine v_aload_n dX1_mending_58 rfl ?_
    refine v_aload_n dX1_mending_59 rfl ?_
    refine v_getR dX1_mending_60 fl_RX1_9 kd_20 (ltA hA0 rfl) rfl (hF 20 0 1 rfl) ?_
    refine v_getI dX1_mending_63 fl_RX1_15 kd_1 (ltA hA0 rfl) rfl ?_
    exact v_cVI (mt := m_X1_mending) mo_X1_roomOf ml_RX1_41 mi_X1_roomOf mv_X1_roomOf rfl kd_20 cl_1 rfl (ltA hA0 rfl) hR hcs (Nat.le_of_ble_eq_true rfl) dX1_mending_66 rfl (hM c0) (fun y g hp => (v_drop (lvLe_n (lvLe_s (lvLe_n lvLe_e))) ((q c0) y g hp)))
  · refine v_aload_n dX1_mending_26 rfl ?_
    refine v_aload_n dX1_mending_27 rfl ?_
    refine v_getR dX1_mending_28 fl_RX1_9 kd_20 (ltA hA0 rfl) rfl (hF 20 0 1 rfl) ?_
    refine v_iconst dX1_mending_31 ci_1 ?_
    refine v_iload_n dX1_mending_32 rfl ?_
    refine v_ishl dX1_mending_33 ?_
    refine v_aload_n dX1_mending_34 rfl ?_
    refine v_getR dX1_mending_35 fl_RX1_9 kd_20 (ltA hA0 rfl) rfl (hF 20 0 1 rfl) ?_
    refine v_getI dX1_mending_38 fl_RX1_15 kd_1 (ltA hA0 rfl) rfl ?_
    exact v_cVI (mt := m_X1_mending) mo_X3_reached ml_RX1_21 mi_X3_reached mv_X3_reached rfl kd_1 cl_3 rfl (ltA hA0 rfl) hR hcs (Nat.le_of_ble_eq_true rfl) dX1_mending_41 rfl (hM_1 c0) (fun y g hp => ((q_1 c0) y g hp))
theorem c_X1_mending_44 {X : CX} {R : Room} {Z : ZX} {A : AX} {h : AH} {x1 x2 s1 : Int32} {d : Nat} {P44 : Int32 → AH → Prop} (hA0 : 91 ≤ A.1) (hR : RO R (d + 1)) (hcs : A.2.2.1 ≤ R.cells ∧ A.2.2.2 ≤ R.slots) (hM : Mk X d m_X1_roomOf [.ref 20, .int s1] h A.1 A.2.1 (RI P44)) (q : ∀ (y : Int32) (g : AH), P44 y g → V X m_X1_mending R Z A 47 [some (.ref 20), some (.int x1), some (.int x2)] [.int y] g) : V X m_X1_mending R Z A 44 [some (.ref 20), some (.int x1), some (.int x2)] [.int s1, .ref 20] h := by
  exact v_cVI (mt := m_X1_mending) mo_X1_roomOf ml_RX1_41 mi_X1_roomOf mv_X1_roomOf rfl kd_20 cl_1 rfl (ltA hA0 rfl) hR hcs (Nat.le_of_ble_eq_true rfl) dX1_mending_44 rfl hM (fun y g hp => (q y g hp))
theorem c_X1_mending_47 {X : CX} {R : Room} {Q : Option Value → AH → Prop} {nx sz mc ms : Nat} {h : AH} {x1 x2 s0 : Int32} (q : ¬ s0 = 0 → V X m_X1_mending R (ZM X Q nx sz mc ms) (nx, sz, mc, ms) 15 [some (.ref 20), some (.int x1), some (.int (x2 + 1))] [] h) (hq : s0 = 0 → Q (some (.int (-1))) h) : V X m_X1_mending R (ZM X Q nx sz mc ms) (nx, sz, mc, ms) 47 [some (.ref 20), some (.int x1), some (.int x2)] [.int s0] h := by
  refine v_if_ne (tgt := 52) dX1_mending_47 (by decide) (fun c0 => ?_) (fun c0 => ?_)
  · refine v_iinc (y := (x2 + 1)) dX1_mending_52 rfl rfl (by decide) (L' := [some (.ref 20), some (.int x1), some (.int (x2 + 1))]) rfl ?_
    refine v_goto (tgt := 15) dX1_mending_55 (by decide) ?_
    exact (q c0)
  · refine v_iconst dX1_mending_50 ci_m1 ?_
    exact v_iret dX1_mending_51 rfl (hq c0)
theorem c_X1_mending_69 {X : CX} {R : Room} {Q : Option Value → AH → Prop} {nx sz mc ms : Nat} {h : AH} {x1 s0 : Int32} (hq : (2 * x1) ≤ s0 → Q (some (.int x1)) h) (hq_1 : ¬ (2 * x1) ≤ s0 → Q (some (.int (-1))) h) : V X m_X1_mending R (ZM X Q nx sz mc ms) (nx, sz, mc, ms) 69 [none, some (.int x1), none] [.int s0] h := by
  refine v_iconst dX1_mending_69 ci_2 ?_
  refine v_iload_n dX1_mending_70 rfl ?_
  refine v_imul dX1_mending_71 ?_
  refine v_icmp_ge (tgt := 79) dX1_mending_72 (by decide) (fun c0 => ?_) (fun c0 => ?_)
  · refine v_iload_n dX1_mending_79 rfl ?_
    exact v_iret dX1_mending_80 rfl (hq c0)
  · refine v_iconst dX1_mending_75 ci_m1 ?_
    refine v_goto (tgt := 80) dX1_mending_76 (by decide) ?_
    exact v_iret dX1_mending_80 rfl (hq_1 c0)
theorem e_X1_roomOf {X : CX} {d nx sz : Nat} {Q : Option Value → AH → Prop} {h : AH} {x1 : Int32} (q : V X m_X1_roomOf (rm d 0 0) (ZM X Q nx sz 0 0) (nx, sz, 0, 0) 0 [some (.ref 20), some (.int x1), none, none] [] h) : Mk X d m_X1_roomOf [.ref 20, .int x1] h nx sz Q := by
  refine Mok.ofV mo_X1_roomOf (Nat.le_of_ble_eq_true rfl) (L := [some (.ref 20), some (.int x1)]) (lvLe_s (lvLe_s lvLe_e)) (v_grow (n := 2) ?_)
  exact q
theorem c_X1_roomOf_0 {X : CX} {R : Room} {Z : ZX} {A : AX} {h : AH} {x1 : Int32} (q : V X m_X1_roomOf R Z A 4 [some (.ref 20), some (.int x1), some (.int 0), some (.int 0)] [] h) : V X m_X1_roomOf R Z A 0 [some (.ref 20), some (.int x1), none, none] [] h := by
  refine v_iconst dX1_roomOf_0 ci_0 ?_
  refine v_istore_n dX1_roomOf_1 (by decide) (L' := [some (.ref 20), some (.int x1), some (.int 0), none]) rfl ?_
  refine v_iconst dX1_roomOf_2 ci_0 ?_
  refine v_istore_n dX1_roomOf_3 (by decide) (L' := [some (.ref 20), some (.int x1), some (.int 0), some (.int 0)]) rfl ?_
  exact q
theorem c_X1_roomOf_4 {X : CX} {R : Room} {Q : Option Value → AH → Prop} {nx sz mc ms : Nat} {h : AH} {x1 x2 x3 : Int32} {d : Nat} {P38 : Int32 → AH → Prop} (hA0 : 91 ≤ nx) (hF : Fx h) (hR : RO R (d + 1)) (hcs : mc ≤ R.cells ∧ ms ≤ R.slots) (hq : (h.1 1 0) ≤ x3 → Q (some (.int x2)) h) (q : ¬ (h.1 1 0) ≤ x3 → ((x1 >>> (x3 &&& 31)) &&& 1) = 0 → V X m_X1_roomOf R (ZM X Q nx sz mc ms) (nx, sz, mc, ms) 4 [some (.ref 20), some (.int x1), some (.int x2), some (.int (x3 + 1))] [] h) (hi_32 : ¬ (h.1 1 0) ≤ x3 → ¬ ((x1 >>> (x3 &&& 31)) &&& 1) = 0 → vp_in x3 20) (hM : ¬ (h.1 1 0) ≤ x3 → ¬ ((x1 >>> (x3 &&& 31)) &&& 1) = 0 → Mk X d m_X3_degree [.ref 1, .int x3] h nx sz (RI P38)) (q_1 : ¬ (h.1 1 0) ≤ x3 → ¬ ((x1 >>> (x3 &&& 31)) &&& 1) = 0 → ∀ (y : Int32) (g : AH), P38 y g → V X m_X1_roomOf R (ZM X Q nx sz mc ms) (nx, sz, mc, ms) 41 [some (.ref 20), some (.int x1), none, some (.int x3)] [.int y, .int (h.1 3 x3.toNatClampNeg), .int x2] g) : V X m_X1_roomOf R (ZM X Q nx sz mc ms) (nx, sz, mc, ms) 4 [some (.ref 20), some (.int x1), some (.int x2), some (.int x3)] [] h := by
  refine v_iload_n dX1_roomOf_4 rfl ?_
  refine v_aload_n dX1_roomOf_5 rfl ?_
  refine v_getR dX1_roomOf_6 fl_RX1_9 kd_20 (ltA hA0 rfl) rfl (hF 20 0 1 rfl) ?_
  refine v_getI dX1_roomOf_9 fl_RX1_25 kd_1 (ltA hA0 rfl) rfl ?_
  refine v_icmp_ge (tgt := 50) dX1_roomOf_12 (by decide) (fun c0 => ?_) (fun c0 => ?_)
  · refine v_iload_n dX1_roomOf_50 rfl ?_
    exact v_iret dX1_roomOf_51 rfl (hq c0)
  · refine v_iload_n dX1_roomOf_15 rfl ?_
    refine v_iload_n dX1_roomOf_16 rfl ?_
    refine v_ishr dX1_roomOf_17 ?_
    refine v_iconst dX1_roomOf_18 ci_1 ?_
    refine v_iand dX1_roomOf_19 ?_
    refine v_if_eq (tgt := 44) dX1_roomOf_20 (by decide) (fun c1 => ?_) (fun c1 => ?_)
    · refine v_iinc (y := (x3 + 1)) dX1_roomOf_44 rfl rfl (by decide) (L' := [some (.ref 20), some (.int x1), some (.int x2), some (.int (x3 + 1))]) rfl ?_
      refine v_goto (tgt := 4) dX1_roomOf_47 (by decide) ?_
      exact (q c0 c1)
    · refine v_iload_n dX1_roomOf_23 rfl ?_
      refine v_aload_n dX1_roomOf_24 rfl ?_
      refine v_getR dX1_roomOf_25 fl_RX1_9 kd_20 (ltA hA0 rfl) rfl (hF 20 0 1 rfl) ?_
      refine v_getR dX1_roomOf_28 fl_RX1_44 kd_1 (ltA hA0 rfl) rfl (hF 1 3 3 rfl) ?_
      refine v_iload_n dX1_roomOf_31 rfl ?_
      refine v_iald dX1_roomOf_32 kd_3 (ltA hA0 rfl) (hi_32 c0 c1) ?_
      refine v_aload_n dX1_roomOf_33 rfl ?_
      refine v_getR dX1_roomOf_34 fl_RX1_9 kd_20 (ltA hA0 rfl) rfl (hF 20 0 1 rfl) ?_
      refine v_iload_n dX1_roomOf_37 rfl ?_
      exact v_cVI (mt := m_X1_roomOf) mo_X3_degree ml_RX1_48 mi_X3_degree mv_X3_degree rfl kd_1 cl_3 rfl (ltA hA0 rfl) hR hcs (Nat.le_of_ble_eq_true rfl) dX1_roomOf_38 rfl (hM c0 c1) (fun y g hp => (v_drop (lvLe_s (lvLe_s (lvLe_n (lvLe_s lvLe_e)))) ((q_1 c0 c1) y g hp)))
theorem c_X1_roomOf_41 {X : CX} {R : Room} {Z : ZX} {A : AX} {h : AH} {x1 x3 s0 s1 s2 : Int32} (q : V X m_X1_roomOf R Z A 4 [some (.ref 20), some (.int x1), some (.int (s0 + (s1 - s2))), some (.int (x3 + 1))] [] h) : V X m_X1_roomOf R Z A 41 [some (.ref 20), some (.int x1), none, some (.int x3)] [.int s2, .int s1, .int s0] h := by
  refine v_isub dX1_roomOf_41 ?_
  refine v_iadd dX1_roomOf_42 ?_
  refine v_istore_n dX1_roomOf_43 (by decide) (L' := [some (.ref 20), some (.int x1), some (.int (s0 + (s1 - s2))), some (.int x3)]) rfl ?_
  refine v_iinc (y := (x3 + 1)) dX1_roomOf_44 rfl rfl (by decide) (L' := [some (.ref 20), some (.int x1), some (.int (s0 + (s1 - s2))), some (.int (x3 + 1))]) rfl ?_
  refine v_goto (tgt := 4) dX1_roomOf_47 (by decide) ?_
  exact q
theorem e_X1_breakingSet {X : CX} {d nx sz : Nat} {Q : Option Value → AH → Prop} {h : AH} {x1 : Int32} (q : V X m_X1_breakingSet (rm d 0 0) (ZM X Q nx sz 0 0) (nx, sz, 0, 0) 0 [some (.ref 20), some (.int x1), none, none] [] h) : Mk X d m_X1_breakingSet [.ref 20, .int x1] h nx sz Q := by
  refine Mok.ofV mo_X1_breakingSet (Nat.le_of_ble_eq_true rfl) (L := [some (.ref 20), some (.int x1)]) (lvLe_s (lvLe_s lvLe_e)) (v_grow (n := 2) ?_)
  exact q
theorem c_X1_breakingSet_0 {X : CX} {R : Room} {Z : ZX} {A : AX} {h : AH} {x1 : Int32} {d : Nat} {P8 : Int32 → AH → Prop} (hA0 : 91 ≤ A.1) (hF : Fx h) (hR : RO R (d + 1)) (hcs : A.2.2.1 ≤ R.cells ∧ A.2.2.2 ≤ R.slots) (hM : Mk X d m_X11_firstSet [.int x1, .int (h.1 1 0)] h A.1 A.2.1 (RI P8)) (q : ∀ (y : Int32) (g : AH), P8 y g → V X m_X1_breakingSet R Z A 11 [some (.ref 20), none, none, none] [.int y] g) : V X m_X1_breakingSet R Z A 0 [some (.ref 20), some (.int x1), none, none] [] h := by
  refine v_iload_n dX1_breakingSet_0 rfl ?_
  refine v_aload_n dX1_breakingSet_1 rfl ?_
  refine v_getR dX1_breakingSet_2 fl_RX1_9 kd_20 (ltA hA0 rfl) rfl (hF 20 0 1 rfl) ?_
  refine v_getI dX1_breakingSet_5 fl_RX1_25 kd_1 (ltA hA0 rfl) rfl ?_
  exact v_cNI (mt := m_X1_breakingSet) mo_X11_firstSet mn_RX1_51 mz_X11_firstSet rfl hR hcs (Nat.le_of_ble_eq_true rfl) dX1_breakingSet_8 rfl hM (fun y g hp => (v_drop (lvLe_s (lvLe_n (lvLe_n (lvLe_n lvLe_e)))) (q y g hp)))
theorem c_X1_breakingSet_11 {X : CX} {R : Room} {Z : ZX} {A : AX} {h : AH} {s0 : Int32} (q : V X m_X1_breakingSet R Z A 14 [some (.ref 20), none, some (.int s0), some (.int 0)] [] h) : V X m_X1_breakingSet R Z A 11 [some (.ref 20), none, none, none] [.int s0] h := by
  refine v_istore_n dX1_breakingSet_11 (by decide) (L' := [some (.ref 20), none, some (.int s0), none]) rfl ?_
  refine v_iconst dX1_breakingSet_12 ci_0 ?_
  refine v_istore_n dX1_breakingSet_13 (by decide) (L' := [some (.ref 20), none, some (.int s0), some (.int 0)]) rfl ?_
  exact q
theorem c_X1_breakingSet_14 {X : CX} {R : Room} {Q : Option Value → AH → Prop} {nx sz mc ms : Nat} {h : AH} {x2 x3 : Int32} {d : Nat} {P38 : Int32 → AH → Prop} (hA0 : 91 ≤ nx) (hF : Fx h) (hR : RO R (d + 1)) (hcs : mc ≤ R.cells ∧ ms ≤ R.slots) (hq : 1140 ≤ x3 → Q (some (.int (-1))) h) (hq_1 : ¬ 1140 ≤ x3 → x2 = (-1) → Q (some (.int (-1))) h) (hM : ¬ 1140 ≤ x3 → ¬ x2 = (-1) → Mk X d m_X1_joined [.ref 20, .int ((h.1 1 1) &&& (x2 ^^^ (-1)))] h nx sz (RI P38)) (q : ¬ 1140 ≤ x3 → ¬ x2 = (-1) → ∀ (y : Int32) (g : AH), P38 y g → V X m_X1_breakingSet R (ZM X Q nx sz mc ms) (nx, sz, mc, ms) 41 [some (.ref 20), none, some (.int x2), some (.int x3)] [.int y] g) : V X m_X1_breakingSet R (ZM X Q nx sz mc ms) (nx, sz, mc, ms) 14 [some (.ref 20), none, some (.int x2), some (.int x3)] [] h := by
  refine v_iload_n dX1_breakingSet_14 rfl ?_
  refine v_sipush dX1_breakingSet_15 cs_1140 ?_
  refine v_icmp_ge (tgt := 64) dX1_breakingSet_18 (by decide) (fun c0 => ?_) (fun c0 => ?_)
  · refine v_iconst dX1_breakingSet_64 ci_m1 ?_
    exact v_iret dX1_breakingSet_65 rfl (hq c0)
  · refine v_iload_n dX1_breakingSet_21 rfl ?_
    refine v_iconst dX1_breakingSet_22 ci_m1 ?_
    refine v_icmp_eq (tgt := 64) dX1_breakingSet_23 (by decide) (fun c1 => ?_) (fun c1 => ?_)
    · refine v_iconst dX1_breakingSet_64 ci_m1 ?_
      exact v_iret dX1_breakingSet_65 rfl (hq_1 c0 c1)
    · refine v_aload_n dX1_breakingSet_26 rfl ?_
      refine v_aload_n dX1_breakingSet_27 rfl ?_
      refine v_getR dX1_breakingSet_28 fl_RX1_9 kd_20 (ltA hA0 rfl) rfl (hF 20 0 1 rfl) ?_
      refine v_getI dX1_breakingSet_31 fl_RX1_15 kd_1 (ltA hA0 rfl) rfl ?_
      refine v_iload_n dX1_breakingSet_34 rfl ?_
      refine v_iconst dX1_breakingSet_35 ci_m1 ?_
      refine v_ixor dX1_breakingSet_36 ?_
      refine v_iand dX1_breakingSet_37 ?_
      exact v_cVI (mt := m_X1_breakingSet) mo_X1_joined ml_RX1_54 mi_X1_joined mv_X1_joined rfl kd_20 cl_1 rfl (ltA hA0 rfl) hR hcs (Nat.le_of_ble_eq_true rfl) dX1_breakingSet_38 rfl (hM c0 c1) (fun y g hp => ((q c0 c1) y g hp))
theorem c_X1_breakingSet_41 {X : CX} {R : Room} {Q : Option Value → AH → Prop} {nx sz mc ms : Nat} {h : AH} {x2 x3 s0 : Int32} {d : Nat} {P54 : Int32 → AH → Prop} (hA0 : 91 ≤ nx) (hF : Fx h) (hR : RO R (d + 1)) (hcs : mc ≤ R.cells ∧ ms ≤ R.slots) (hM : ¬ s0 = 0 → Mk X d m_X11_nextSet [.int x2, .int (h.1 1 0)] h nx sz (RI P54)) (q : ¬ s0 = 0 → ∀ (y : Int32) (g : AH), P54 y g → V X m_X1_breakingSet R (ZM X Q nx sz mc ms) (nx, sz, mc, ms) 57 [some (.ref 20), none, none, some (.int x3)] [.int y] g) (hq : s0 = 0 → Q (some (.int x2)) h) : V X m_X1_breakingSet R (ZM X Q nx sz mc ms) (nx, sz, mc, ms) 41 [some (.ref 20), none, some (.int x2), some (.int x3)] [.int s0] h := by
  refine v_if_ne (tgt := 46) dX1_breakingSet_41 (by decide) (fun c0 => ?_) (fun c0 => ?_)
  · refine v_iload_n dX1_breakingSet_46 rfl ?_
    refine v_aload_n dX1_breakingSet_47 rfl ?_
    refine v_getR dX1_breakingSet_48 fl_RX1_9 kd_20 (ltA hA0 rfl) rfl (hF 20 0 1 rfl) ?_
    refine v_getI dX1_breakingSet_51 fl_RX1_25 kd_1 (ltA hA0 rfl) rfl ?_
    exact v_cNI (mt := m_X1_breakingSet) mo_X11_nextSet mn_RX1_58 mz_X11_nextSet rfl hR hcs (Nat.le_of_ble_eq_true rfl) dX1_breakingSet_54 rfl (hM c0) (fun y g hp => (v_drop (lvLe_s (lvLe_n (lvLe_n (lvLe_s lvLe_e)))) ((q c0) y g hp)))
  · refine v_iload_n dX1_breakingSet_44 rfl ?_
    exact v_iret dX1_breakingSet_45 rfl (hq c0)
theorem c_X1_breakingSet_57 {X : CX} {R : Room} {Z : ZX} {A : AX} {h : AH} {x3 s0 : Int32} (q : V X m_X1_breakingSet R Z A 14 [some (.ref 20), none, some (.int s0), some (.int (x3 + 1))] [] h) : V X m_X1_breakingSet R Z A 57 [some (.ref 20), none, none, some (.int x3)] [.int s0] h := by
  refine v_istore_n dX1_breakingSet_57 (by decide) (L' := [some (.ref 20), none, some (.int s0), some (.int x3)]) rfl ?_
  refine v_iinc (y := (x3 + 1)) dX1_breakingSet_58 rfl rfl (by decide) (L' := [some (.ref 20), none, some (.int s0), some (.int (x3 + 1))]) rfl ?_
  refine v_goto (tgt := 14) dX1_breakingSet_61 (by decide) ?_
  exact q
theorem e_X1_joined {X : CX} {d nx sz : Nat} {Q : Option Value → AH → Prop} {h : AH} {x1 : Int32} (q : V X m_X1_joined (rm d 0 0) (ZM X Q nx sz 0 0) (nx, sz, 0, 0) 0 [some (.ref 20), some (.int x1)] [] h) : Mk X d m_X1_joined [.ref 20, .int x1] h nx sz Q := by
  refine Mok.ofV mo_X1_joined (Nat.le_of_ble_eq_true rfl) (L := [some (.ref 20), some (.int x1)]) (lvLe_s (lvLe_s lvLe_e)) (v_grow (n := 0) ?_)
  exact q
theorem c_X1_joined_0 {X : CX} {R : Room} {Z : ZX} {A : AX} {h : AH} {x1 : Int32} {d : Nat} {P9 : Int32 → AH → Prop} (hA0 : 91 ≤ A.1) (hF : Fx h) (hR : RO R (d + 1)) (hcs : A.2.2.1 ≤ R.cells ∧ A.2.2.2 ≤ R.slots) (hM : Mk X d m_X3_reached [.ref 1, .int (x1 &&& (-x1)), .int x1] h A.1 A.2.1 (RI P9)) (q : ∀ (y : Int32) (g : AH), P9 y g → V X m_X1_joined R Z A 12 [none, some (.int x1)] [.int y] g) : V X m_X1_joined R Z A 0 [some (.ref 20), some (.int x1)] [] h := by
  refine v_aload_n dX1_joined_0 rfl ?_
  refine v_getR dX1_joined_1 fl_RX1_9 kd_20 (ltA hA0 rfl) rfl (hF 20 0 1 rfl) ?_
  refine v_iload_n dX1_joined_4 rfl ?_
  refine v_iload_n dX1_joined_5 rfl ?_
  refine v_ineg dX1_joined_6 ?_
  refine v_iand dX1_joined_7 ?_
  refine v_iload_n dX1_joined_8 rfl ?_
  exact v_cVI (mt := m_X1_joined) mo_X3_reached ml_RX1_21 mi_X3_reached mv_X3_reached rfl kd_1 cl_3 rfl (ltA hA0 rfl) hR hcs (Nat.le_of_ble_eq_true rfl) dX1_joined_9 rfl hM (fun y g hp => (v_drop (lvLe_n (lvLe_s lvLe_e)) (q y g hp)))
theorem c_X1_joined_12 {X : CX} {R : Room} {Q : Option Value → AH → Prop} {nx sz mc ms : Nat} {h : AH} {x1 s0 : Int32} (hq : ¬ s0 = x1 → Q (some (.int 0)) h) (hq_1 : s0 = x1 → Q (some (.int 1)) h) : V X m_X1_joined R (ZM X Q nx sz mc ms) (nx, sz, mc, ms) 12 [none, some (.int x1)] [.int s0] h := by
  refine v_iload_n dX1_joined_12 rfl ?_
  refine v_icmp_ne (tgt := 20) dX1_joined_13 (by decide) (fun c0 => ?_) (fun c0 => ?_)
  · refine v_iconst dX1_joined_20 ci_0 ?_
    exact v_zret (ty := .boolean) dX1_joined_21 rfl rfl (hq c0)
  · refine v_iconst dX1_joined_16 ci_1 ?_
    refine v_goto (tgt := 21) dX1_joined_17 (by decide) ?_
    exact v_zret (ty := .boolean) dX1_joined_21 rfl rfl (hq_1 c0)
theorem e_X1_bestCourier {X : CX} {d nx sz : Nat} {Q : Option Value → AH → Prop} {h : AH} (q : V X m_X1_bestCourier (rm d 0 0) (ZM X Q nx sz 0 0) (nx, sz, 0, 0) 0 [some (.ref 20), none, none, none, none] [] h) : Mk X d m_X1_bestCourier [.ref 20] h nx sz Q := by
  refine Mok.ofV mo_X1_bestCourier (Nat.le_of_ble_eq_true rfl) (L := [some (.ref 20)]) (lvLe_s lvLe_e) (v_grow (n := 4) ?_)
  exact q
theorem c_X1_bestCourier_0 {X : CX} {R : Room} {Z : ZX} {A : AX} {h : AH} {d : Nat} {P4 : Int32 → AH → Prop} (hA0 : 91 ≤ A.1) (hR : RO R (d + 1)) (hcs : A.2.2.1 ≤ R.cells ∧ A.2.2.2 ≤ R.slots) (hM : Mk X d m_X1_moreWithout [.ref 20, .int 0] h A.1 A.2.1 (RI P4)) (q : ∀ (y : Int32) (g : AH), P4 y g → V X m_X1_bestCourier R Z A 7 [some (.ref 20), some (.int 0), none, none, none] [.int y] g) : V X m_X1_bestCourier R Z A 0 [some (.ref 20), none, none, none, none] [] h := by
  refine v_iconst dX1_bestCourier_0 ci_0 ?_
  refine v_istore_n dX1_bestCourier_1 (by decide) (L' := [some (.ref 20), some (.int 0), none, none, none]) rfl ?_
  refine v_aload_n dX1_bestCourier_2 rfl ?_
  refine v_iconst dX1_bestCourier_3 ci_0 ?_
  exact v_cVI (mt := m_X1_bestCourier) mo_X1_moreWithout ml_RX1_61 mi_X1_moreWithout mv_X1_moreWithout rfl kd_20 cl_1 rfl (ltA hA0 rfl) hR hcs (Nat.le_of_ble_eq_true rfl) dX1_bestCourier_4 rfl hM (fun y g hp => (q y g hp))
theorem c_X1_bestCourier_7 {X : CX} {R : Room} {Z : ZX} {A : AX} {h : AH} {x1 s0 : Int32} (q : V X m_X1_bestCourier R Z A 10 [some (.ref 20), some (.int x1), some (.int s0), some (.int 1), none] [] h) : V X m_X1_bestCourier R Z A 7 [some (.ref 20), some (.int x1), none, none, none] [.int s0] h := by
  refine v_istore_n dX1_bestCourier_7 (by decide) (L' := [some (.ref 20), some (.int x1), some (.int s0), none, none]) rfl ?_
  refine v_iconst dX1_bestCourier_8 ci_1 ?_
  refine v_istore_n dX1_bestCourier_9 (by decide) (L' := [some (.ref 20), some (.int x1), some (.int s0), some (.int 1), none]) rfl ?_
  exact q
theorem c_X1_bestCourier_10 {X : CX} {R : Room} {Q : Option Value → AH → Prop} {nx sz mc ms : Nat} {h : AH} {x1 x2 x3 : Int32} {d : Nat} {P23 : Int32 → AH → Prop} (hA0 : 91 ≤ nx) (hF : Fx h) (hR : RO R (d + 1)) (hcs : mc ≤ R.cells ∧ ms ≤ R.slots) (hq : (h.1 1 0) ≤ x3 → Q (some (.int x1)) h) (hM : ¬ (h.1 1 0) ≤ x3 → Mk X d m_X1_moreWithout [.ref 20, .int x3] h nx sz (RI P23)) (q : ¬ (h.1 1 0) ≤ x3 → ∀ (y : Int32) (g : AH), P23 y g → V X m_X1_bestCourier R (ZM X Q nx sz mc ms) (nx, sz, mc, ms) 26 [some (.ref 20), some (.int x1), some (.int x2), some (.int x3), none] [.int y] g) : V X m_X1_bestCourier R (ZM X Q nx sz mc ms) (nx, sz, mc, ms) 10 [some (.ref 20), some (.int x1), some (.int x2), some (.int x3), none] [] h := by
  refine v_iload_n dX1_bestCourier_10 rfl ?_
  refine v_aload_n dX1_bestCourier_11 rfl ?_
  refine v_getR dX1_bestCourier_12 fl_RX1_9 kd_20 (ltA hA0 rfl) rfl (hF 20 0 1 rfl) ?_
  refine v_getI dX1_bestCourier_15 fl_RX1_25 kd_1 (ltA hA0 rfl) rfl ?_
  refine v_icmp_ge (tgt := 45) dX1_bestCourier_18 (by decide) (fun c0 => ?_) (fun c0 => ?_)
  · refine v_iload_n dX1_bestCourier_45 rfl ?_
    exact v_iret dX1_bestCourier_46 rfl (hq c0)
  · refine v_aload_n dX1_bestCourier_21 rfl ?_
    refine v_iload_n dX1_bestCourier_22 rfl ?_
    exact v_cVI (mt := m_X1_bestCourier) mo_X1_moreWithout ml_RX1_61 mi_X1_moreWithout mv_X1_moreWithout rfl kd_20 cl_1 rfl (ltA hA0 rfl) hR hcs (Nat.le_of_ble_eq_true rfl) dX1_bestCourier_23 rfl (hM c0) (fun y g hp => ((q c0) y g hp))
theorem c_X1_bestCourier_26 {X : CX} {R : Room} {Z : ZX} {A : AX} {h : AH} {x1 x2 x3 s0 : Int32} (q : s0 ≤ x2 → V X m_X1_bestCourier R Z A 10 [some (.ref 20), some (.int x1), some (.int x2), some (.int (x3 + 1)), none] [] h) (q_1 : ¬ s0 ≤ x2 → V X m_X1_bestCourier R Z A 10 [some (.ref 20), some (.int x3), some (.int s0), some (.int (x3 + 1)), none] [] h) : V X m_X1_bestCourier R Z A 26 [some (.ref 20), some (.int x1), some (.int x2), some (.int x3), none] [.int s0] h := by
  refine v_istore dX1_bestCourier_26 (by decide) (L' := [some (.ref 20), some (.int x1), some (.int x2), some (.int x3), some (.int s0)]) rfl ?_
  refine v_iload dX1_bestCourier_28 rfl ?_
  refine v_iload_n dX1_bestCourier_30 rfl ?_
  refine v_icmp_le (tgt := 39) dX1_bestCourier_31 (by decide) (fun c0 => ?_) (fun c0 => ?_)
  · refine v_iinc (y := (x3 + 1)) dX1_bestCourier_39 rfl rfl (by decide) (L' := [some (.ref 20), some (.int x1), some (.int x2), some (.int (x3 + 1)), some (.int s0)]) rfl ?_
    refine v_goto (tgt := 10) dX1_bestCourier_42 (by decide) ?_
    exact (v_drop (lvLe_s (lvLe_s (lvLe_s (lvLe_s (lvLe_n lvLe_e))))) (q c0))
  · refine v_iload_n dX1_bestCourier_34 rfl ?_
    refine v_istore_n dX1_bestCourier_35 (by decide) (L' := [some (.ref 20), some (.int x3), some (.int x2), some (.int x3), some (.int s0)]) rfl ?_
    refine v_iload dX1_bestCourier_36 rfl ?_
    refine v_istore_n dX1_bestCourier_38 (by decide) (L' := [some (.ref 20), some (.int x3), some (.int s0), some (.int x3), some (.int s0)]) rfl ?_
    refine v_iinc (y := (x3 + 1)) dX1_bestCourier_39 rfl rfl (by decide) (L' := [some (.ref 20), some (.int x3), some (.int s0), some (.int (x3 + 1)), some (.int s0)]) rfl ?_
    refine v_goto (tgt := 10) dX1_bestCourier_42 (by decide) ?_
    exact (v_drop (lvLe_s (lvLe_s (lvLe_s (lvLe_s (lvLe_n lvLe_e))))) (q_1 c0))
theorem e_X1_moreWithout {X : CX} {d nx sz : Nat} {Q : Option Value → AH → Prop} {h : AH} {x1 : Int32} (q : V X m_X1_moreWithout (rm d 0 0) (ZM X Q nx sz 0 0) (nx, sz, 0, 0) 0 [some (.ref 20), some (.int x1), none, none, none] [] h) : Mk X d m_X1_moreWithout [.ref 20, .int x1] h nx sz Q := by
  refine Mok.ofV mo_X1_moreWithout (Nat.le_of_ble_eq_true rfl) (L := [some (.ref 20), some (.int x1)]) (lvLe_s (lvLe_s lvLe_e)) (v_grow (n := 3) ?_)
  exact q
theorem c_X1_moreWithout_0 {X : CX} {R : Room} {Z : ZX} {A : AX} {h : AH} {x1 : Int32} (hA0 : 91 ≤ A.1) (hF : Fx h) (q : V X m_X1_moreWithout R Z A 19 [some (.ref 20), some (.int x1), some (.int ((h.1 1 1) &&& (((1 : Int32) <<< ((x1 : Int32) &&& 31)) ^^^ (-1)))), some (.int 0), some (.int 0)] [] h) : V X m_X1_moreWithout R Z A 0 [some (.ref 20), some (.int x1), none, none, none] [] h := by
  refine v_aload_n dX1_moreWithout_0 rfl ?_
  refine v_getR dX1_moreWithout_1 fl_RX1_9 kd_20 (ltA hA0 rfl) rfl (hF 20 0 1 rfl) ?_
  refine v_getI dX1_moreWithout_4 fl_RX1_15 kd_1 (ltA hA0 rfl) rfl ?_
  refine v_iconst dX1_moreWithout_7 ci_1 ?_
  refine v_iload_n dX1_moreWithout_8 rfl ?_
  refine v_ishl dX1_moreWithout_9 ?_
  refine v_iconst dX1_moreWithout_10 ci_m1 ?_
  refine v_ixor dX1_moreWithout_11 ?_
  refine v_iand dX1_moreWithout_12 ?_
  refine v_istore_n dX1_moreWithout_13 (by decide) (L' := [some (.ref 20), some (.int x1), some (.int ((h.1 1 1) &&& (((1 : Int32) <<< ((x1 : Int32) &&& 31)) ^^^ (-1)))), none, none]) rfl ?_
  refine v_iconst dX1_moreWithout_14 ci_0 ?_
  refine v_istore_n dX1_moreWithout_15 (by decide) (L' := [some (.ref 20), some (.int x1), some (.int ((h.1 1 1) &&& (((1 : Int32) <<< ((x1 : Int32) &&& 31)) ^^^ (-1)))), some (.int 0), none]) rfl ?_
  refine v_iconst dX1_moreWithout_16 ci_0 ?_
  refine v_istore dX1_moreWithout_17 (by decide) (L' := [some (.ref 20), some (.int x1), some (.int ((h.1 1 1) &&& (((1 : Int32) <<< ((x1 : Int32) &&& 31)) ^^^ (-1)))), some (.int 0), some (.int 0)]) rfl ?_
  exact q
theorem c_X1_moreWithout_19 {X : CX} {R : Room} {Q : Option Value → AH → Prop} {nx sz mc ms : Nat} {h : AH} {x1 x2 x3 x4 : Int32} {d : Nat} {P46 : Int32 → AH → Prop} (hA0 : 91 ≤ nx) (hF : Fx h) (hR : RO R (d + 1)) (hcs : mc ≤ R.cells ∧ ms ≤ R.slots) (hq : (h.1 1 0) ≤ x4 → Q (some (.int x3)) h) (q : ¬ (h.1 1 0) ≤ x4 → x4 = x1 → V X m_X1_moreWithout R (ZM X Q nx sz mc ms) (nx, sz, mc, ms) 19 [some (.ref 20), some (.int x1), some (.int x2), some (.int x3), some (.int (x4 + 1))] [] h) (hM : ¬ (h.1 1 0) ≤ x4 → ¬ x4 = x1 → Mk X d m_X3_sumOver [.ref 1, .int x4, .int x2, .int x2] h nx sz (RI P46)) (q_1 : ¬ (h.1 1 0) ≤ x4 → ¬ x4 = x1 → ∀ (y : Int32) (g : AH), P46 y g → V X m_X1_moreWithout R (ZM X Q nx sz mc ms) (nx, sz, mc, ms) 49 [some (.ref 20), some (.int x1), some (.int x2), none, some (.int x4)] [.int y, .int x3] g) : V X m_X1_moreWithout R (ZM X Q nx sz mc ms) (nx, sz, mc, ms) 19 [some (.ref 20), some (.int x1), some (.int x2), some (.int x3), some (.int x4)] [] h := by
  refine v_iload dX1_moreWithout_19 rfl ?_
  refine v_aload_n dX1_moreWithout_21 rfl ?_
  refine v_getR dX1_moreWithout_22 fl_RX1_9 kd_20 (ltA hA0 rfl) rfl (hF 20 0 1 rfl) ?_
  refine v_getI dX1_moreWithout_25 fl_RX1_25 kd_1 (ltA hA0 rfl) rfl ?_
  refine v_icmp_ge (tgt := 75) dX1_moreWithout_28 (by decide) (fun c0 => ?_) (fun c0 => ?_)
  · refine v_iload_n dX1_moreWithout_75 rfl ?_
    exact v_iret dX1_moreWithout_76 rfl (hq c0)
  · refine v_iload dX1_moreWithout_31 rfl ?_
    refine v_iload_n dX1_moreWithout_33 rfl ?_
    refine v_icmp_eq (tgt := 69) dX1_moreWithout_34 (by decide) (fun c1 => ?_) (fun c1 => ?_)
    · refine v_iinc (y := (x4 + 1)) dX1_moreWithout_69 rfl rfl (by decide) (L' := [some (.ref 20), some (.int x1), some (.int x2), some (.int x3), some (.int (x4 + 1))]) rfl ?_
      refine v_goto (tgt := 19) dX1_moreWithout_72 (by decide) ?_
      exact (q c0 c1)
    · refine v_iload_n dX1_moreWithout_37 rfl ?_
      refine v_aload_n dX1_moreWithout_38 rfl ?_
      refine v_getR dX1_moreWithout_39 fl_RX1_9 kd_20 (ltA hA0 rfl) rfl (hF 20 0 1 rfl) ?_
      refine v_iload dX1_moreWithout_42 rfl ?_
      refine v_iload_n dX1_moreWithout_44 rfl ?_
      refine v_iload_n dX1_moreWithout_45 rfl ?_
      exact v_cVI (mt := m_X1_moreWithout) mo_X3_sumOver ml_RX1_64 mi_X3_sumOver mv_X3_sumOver rfl kd_1 cl_3 rfl (ltA hA0 rfl) hR hcs (Nat.le_of_ble_eq_true rfl) dX1_moreWithout_46 rfl (hM c0 c1) (fun y g hp => (v_drop (lvLe_s (lvLe_s (lvLe_s (lvLe_n (lvLe_s lvLe_e))))) ((q_1 c0 c1) y g hp)))
theorem c_X1_moreWithout_49 {X : CX} {R : Room} {Z : ZX} {A : AX} {h : AH} {x1 x2 x4 s0 s1 : Int32} {d : Nat} {P63 : Int32 → AH → Prop} (hA0 : 91 ≤ A.1) (hF : Fx h) (hR : RO R (d + 1)) (hcs : A.2.2.1 ≤ R.cells ∧ A.2.2.2 ≤ R.slots) (hM : Mk X d m_X3_sumOver [.ref 1, .int x4, .int (h.1 1 1), .int x2] h A.1 A.2.1 (RI P63)) (q : ∀ (y : Int32) (g : AH), P63 y g → V X m_X1_moreWithout R Z A 66 [some (.ref 20), some (.int x1), some (.int x2), none, some (.int x4)] [.int y, .int s1, .int s0] g) : V X m_X1_moreWithout R Z A 49 [some (.ref 20), some (.int x1), some (.int x2), none, some (.int x4)] [.int s1, .int s0] h := by
  refine v_aload_n dX1_moreWithout_49 rfl ?_
  refine v_getR dX1_moreWithout_50 fl_RX1_9 kd_20 (ltA hA0 rfl) rfl (hF 20 0 1 rfl) ?_
  refine v_iload dX1_moreWithout_53 rfl ?_
  refine v_aload_n dX1_moreWithout_55 rfl ?_
  refine v_getR dX1_moreWithout_56 fl_RX1_9 kd_20 (ltA hA0 rfl) rfl (hF 20 0 1 rfl) ?_
  refine v_getI dX1_moreWithout_59 fl_RX1_15 kd_1 (ltA hA0 rfl) rfl ?_
  refine v_iload_n dX1_moreWithout_62 rfl ?_
  exact v_cVI (mt := m_X1_moreWithout) mo_X3_sumOver ml_RX1_64 mi_X3_sumOver mv_X3_sumOver rfl kd_1 cl_3 rfl (ltA hA0 rfl) hR hcs (Nat.le_of_ble_eq_true rfl) dX1_moreWithout_63 rfl hM (fun y g hp => (q y g hp))
theorem c_X1_moreWithout_66 {X : CX} {R : Room} {Z : ZX} {A : AX} {h : AH} {x1 x2 x4 s0 s1 s2 : Int32} (q : V X m_X1_moreWithout R Z A 19 [some (.ref 20), some (.int x1), some (.int x2), some (.int (s0 + (s1 - s2))), some (.int (x4 + 1))] [] h) : V X m_X1_moreWithout R Z A 66 [some (.ref 20), some (.int x1), some (.int x2), none, some (.int x4)] [.int s2, .int s1, .int s0] h := by
  refine v_isub dX1_moreWithout_66 ?_
  refine v_iadd dX1_moreWithout_67 ?_
  refine v_istore_n dX1_moreWithout_68 (by decide) (L' := [some (.ref 20), some (.int x1), some (.int x2), some (.int (s0 + (s1 - s2))), some (.int x4)]) rfl ?_
  refine v_iinc (y := (x4 + 1)) dX1_moreWithout_69 rfl rfl (by decide) (L' := [some (.ref 20), some (.int x1), some (.int x2), some (.int (s0 + (s1 - s2))), some (.int (x4 + 1))]) rfl ?_
  refine v_goto (tgt := 19) dX1_moreWithout_72 (by decide) ?_
  exact q
theorem e_X1_lossOf {X : CX} {d nx sz : Nat} {Q : Option Value → AH → Prop} {h : AH} {x1 x2 : Int32} (q : V X m_X1_lossOf (rm d 0 0) (ZM X Q nx sz 0 0) (nx, sz, 0, 0) 0 [some (.ref 20), some (.int x1), some (.int x2), none, none] [] h) : Mk X d m_X1_lossOf [.ref 20, .int x1, .int x2] h nx sz Q := by
  refine Mok.ofV mo_X1_lossOf (Nat.le_of_ble_eq_true rfl) (L := [some (.ref 20), some (.int x1), some (.int x2)]) (lvLe_s (lvLe_s (lvLe_s lvLe_e))) (v_grow (n := 2) ?_)
  exact q
theorem c_X1_lossOf_0 {X : CX} {R : Room} {Z : ZX} {A : AX} {h : AH} {x1 x2 : Int32} {d : Nat} {P4 : Int32 → AH → Prop} (hA0 : 91 ≤ A.1) (hF : Fx h) (hR : RO R (d + 1)) (hcs : A.2.2.1 ≤ R.cells ∧ A.2.2.2 ≤ R.slots) (hM : Mk X d m_X3_sums [.ref 1] h A.1 A.2.1 (RI P4)) (q : ∀ (y : Int32) (g : AH), P4 y g → V X m_X1_lossOf R Z A 7 [some (.ref 20), some (.int x1), some (.int x2), none, none] [.int y] g) : V X m_X1_lossOf R Z A 0 [some (.ref 20), some (.int x1), some (.int x2), none, none] [] h := by
  refine v_aload_n dX1_lossOf_0 rfl ?_
  refine v_getR dX1_lossOf_1 fl_RX1_9 kd_20 (ltA hA0 rfl) rfl (hF 20 0 1 rfl) ?_
  exact v_cVI (mt := m_X1_lossOf) mo_X3_sums ml_RX1_68 mi_X3_sums mv_X3_sums rfl kd_1 cl_3 rfl (ltA hA0 rfl) hR hcs (Nat.le_of_ble_eq_true rfl) dX1_lossOf_4 rfl hM (fun y g hp => (q y g hp))
theorem c_X1_lossOf_7 {X : CX} {R : Room} {Z : ZX} {A : AX} {h : AH} {x1 x2 s0 : Int32} {d : Nat} {P14 : AH → Prop} (hA0 : 91 ≤ A.1) (hF : Fx h) (hR : RO R (d + 1)) (hcs : A.2.2.1 ≤ R.cells ∧ A.2.2.2 ≤ R.slots) (hM : Mk X d m_X3_part [.ref 1, .int x1, .int x2] h A.1 A.2.1 (RV P14)) (q : ∀ (g : AH), P14 g → V X m_X1_lossOf R Z A 17 [some (.ref 20), some (.int x1), some (.int x2), some (.int s0), none] [] g) : V X m_X1_lossOf R Z A 7 [some (.ref 20), some (.int x1), some (.int x2), none, none] [.int s0] h := by
  refine v_istore_n dX1_lossOf_7 (by decide) (L' := [some (.ref 20), some (.int x1), some (.int x2), some (.int s0), none]) rfl ?_
  refine v_aload_n dX1_lossOf_8 rfl ?_
  refine v_getR dX1_lossOf_9 fl_RX1_9 kd_20 (ltA hA0 rfl) rfl (hF 20 0 1 rfl) ?_
  refine v_iload_n dX1_lossOf_12 rfl ?_
  refine v_iload_n dX1_lossOf_13 rfl ?_
  exact v_cVV (mt := m_X1_lossOf) mo_X3_part ml_RX1_71 mi_X3_part mv_X3_part rfl kd_1 cl_3 rfl (ltA hA0 rfl) hR hcs (Nat.le_of_ble_eq_true rfl) dX1_lossOf_14 rfl hM (fun g hp => (q g hp))
theorem c_X1_lossOf_17 {X : CX} {R : Room} {Z : ZX} {A : AX} {h : AH} {x1 x2 x3 : Int32} {d : Nat} {P21 : Int32 → AH → Prop} (hA0 : 91 ≤ A.1) (hF : Fx h) (hR : RO R (d + 1)) (hcs : A.2.2.1 ≤ R.cells ∧ A.2.2.2 ≤ R.slots) (hM : Mk X d m_X3_sums [.ref 1] h A.1 A.2.1 (RI P21)) (q : ∀ (y : Int32) (g : AH), P21 y g → V X m_X1_lossOf R Z A 24 [some (.ref 20), some (.int x1), some (.int x2), some (.int x3), none] [.int y] g) : V X m_X1_lossOf R Z A 17 [some (.ref 20), some (.int x1), some (.int x2), some (.int x3), none] [] h := by
  refine v_aload_n dX1_lossOf_17 rfl ?_
  refine v_getR dX1_lossOf_18 fl_RX1_9 kd_20 (ltA hA0 rfl) rfl (hF 20 0 1 rfl) ?_
  exact v_cVI (mt := m_X1_lossOf) mo_X3_sums ml_RX1_68 mi_X3_sums mv_X3_sums rfl kd_1 cl_3 rfl (ltA hA0 rfl) hR hcs (Nat.le_of_ble_eq_true rfl) dX1_lossOf_21 rfl hM (fun y g hp => (q y g hp))
theorem c_X1_lossOf_24 {X : CX} {R : Room} {Z : ZX} {A : AX} {h : AH} {x1 x2 x3 s0 : Int32} {d : Nat} {P32 : AH → Prop} (hA0 : 91 ≤ A.1) (hF : Fx h) (hR : RO R (d + 1)) (hcs : A.2.2.1 ≤ R.cells ∧ A.2.2.2 ≤ R.slots) (hM : Mk X d m_X3_join [.ref 1, .int x1, .int x2] h A.1 A.2.1 (RV P32)) (q : ∀ (g : AH), P32 g → V X m_X1_lossOf R Z A 35 [none, none, none, some (.int x3), some (.int s0)] [] g) : V X m_X1_lossOf R Z A 24 [some (.ref 20), some (.int x1), some (.int x2), some (.int x3), none] [.int s0] h := by
  refine v_istore dX1_lossOf_24 (by decide) (L' := [some (.ref 20), some (.int x1), some (.int x2), some (.int x3), some (.int s0)]) rfl ?_
  refine v_aload_n dX1_lossOf_26 rfl ?_
  refine v_getR dX1_lossOf_27 fl_RX1_9 kd_20 (ltA hA0 rfl) rfl (hF 20 0 1 rfl) ?_
  refine v_iload_n dX1_lossOf_30 rfl ?_
  refine v_iload_n dX1_lossOf_31 rfl ?_
  exact v_cVV (mt := m_X1_lossOf) mo_X3_join ml_RX1_75 mi_X3_join mv_X3_join rfl kd_1 cl_3 rfl (ltA hA0 rfl) hR hcs (Nat.le_of_ble_eq_true rfl) dX1_lossOf_32 rfl hM (fun g hp => (v_drop (lvLe_n (lvLe_n (lvLe_n (lvLe_s (lvLe_s lvLe_e))))) (q g hp)))
theorem c_X1_lossOf_35 {X : CX} {R : Room} {Q : Option Value → AH → Prop} {nx sz mc ms : Nat} {h : AH} {x3 x4 : Int32} (hq : Q (some (.int (x4 - x3))) h) : V X m_X1_lossOf R (ZM X Q nx sz mc ms) (nx, sz, mc, ms) 35 [none, none, none, some (.int x3), some (.int x4)] [] h := by
  refine v_iload dX1_lossOf_35 rfl ?_
  refine v_iload_n dX1_lossOf_37 rfl ?_
  refine v_isub dX1_lossOf_38 ?_
  exact v_iret dX1_lossOf_39 rfl hq
theorem e_X1_dearest {X : CX} {d nx sz : Nat} {Q : Option Value → AH → Prop} {h : AH} (q : V X m_X1_dearest (rm d 0 0) (ZM X Q nx sz 0 0) (nx, sz, 0, 0) 0 [some (.ref 20), none, none, none, none, none] [] h) : Mk X d m_X1_dearest [.ref 20] h nx sz Q := by
  refine Mok.ofV mo_X1_dearest (Nat.le_of_ble_eq_true rfl) (L := [some (.ref 20)]) (lvLe_s lvLe_e) (v_grow (n := 5) ?_)
  exact q
theorem c_X1_dearest_0 {X : CX} {R : Room} {Z : ZX} {A : AX} {h : AH} (q : V X m_X1_dearest R Z A 6 [some (.ref 20), some (.int (-1)), some (.int 0), some (.int 0), none, none] [] h) : V X m_X1_dearest R Z A 0 [some (.ref 20), none, none, none, none, none] [] h := by
  refine v_iconst dX1_dearest_0 ci_m1 ?_
  refine v_istore_n dX1_dearest_1 (by decide) (L' := [some (.ref 20), some (.int (-1)), none, none, none, none]) rfl ?_
  refine v_iconst dX1_dearest_2 ci_0 ?_
  refine v_istore_n dX1_dearest_3 (by decide) (L' := [some (.ref 20), some (.int (-1)), some (.int 0), none, none, none]) rfl ?_
  refine v_iconst dX1_dearest_4 ci_0 ?_
  refine v_istore_n dX1_dearest_5 (by decide) (L' := [some (.ref 20), some (.int (-1)), some (.int 0), some (.int 0), none, none]) rfl ?_
  exact q
theorem c_X1_dearest_6 {X : CX} {R : Room} {Q : Option Value → AH → Prop} {nx sz mc ms : Nat} {h : AH} {x1 x2 x3 : Int32} (hA0 : 91 ≤ nx) (hF : Fx h) (hq : (h.1 1 0) ≤ x3 → Q (some (.int x1)) h) (q : ¬ (h.1 1 0) ≤ x3 → V X m_X1_dearest R (ZM X Q nx sz mc ms) (nx, sz, mc, ms) 22 [some (.ref 20), some (.int x1), some (.int x2), some (.int x3), some (.int (x3 + 1)), none] [] h) : V X m_X1_dearest R (ZM X Q nx sz mc ms) (nx, sz, mc, ms) 6 [some (.ref 20), some (.int x1), some (.int x2), some (.int x3), none, none] [] h := by
  refine v_iload_n dX1_dearest_6 rfl ?_
  refine v_aload_n dX1_dearest_7 rfl ?_
  refine v_getR dX1_dearest_8 fl_RX1_9 kd_20 (ltA hA0 rfl) rfl (hF 20 0 1 rfl) ?_
  refine v_getI dX1_dearest_11 fl_RX1_25 kd_1 (ltA hA0 rfl) rfl ?_
  refine v_icmp_ge (tgt := 89) dX1_dearest_14 (by decide) (fun c0 => ?_) (fun c0 => ?_)
  · refine v_iload_n dX1_dearest_89 rfl ?_
    exact v_iret dX1_dearest_90 rfl (hq c0)
  · refine v_iload_n dX1_dearest_17 rfl ?_
    refine v_iconst dX1_dearest_18 ci_1 ?_
    refine v_iadd dX1_dearest_19 ?_
    refine v_istore dX1_dearest_20 (by decide) (L' := [some (.ref 20), some (.int x1), some (.int x2), some (.int x3), some (.int (x3 + 1)), none]) rfl ?_
    exact (q c0)
theorem c_X1_dearest_22 {X : CX} {R : Room} {Z : ZX} {A : AX} {h : AH} {x1 x2 x3 x4 : Int32} {d : Nat} {P41 : Int32 → AH → Prop} (hA0 : 91 ≤ A.1) (hF : Fx h) (hR : RO R (d + 1)) (hcs : A.2.2.1 ≤ R.cells ∧ A.2.2.2 ≤ R.slots) (q : (h.1 1 0) ≤ x4 → V X m_X1_dearest R Z A 6 [some (.ref 20), some (.int x1), some (.int x2), some (.int (x3 + 1)), none, none] [] h) (hM : ¬ (h.1 1 0) ≤ x4 → Mk X d m_X3_tied [.ref 1, .int x3, .int x4] h A.1 A.2.1 (RI P41)) (q_1 : ¬ (h.1 1 0) ≤ x4 → ∀ (y : Int32) (g : AH), P41 y g → V X m_X1_dearest R Z A 44 [some (.ref 20), some (.int x1), some (.int x2), some (.int x3), some (.int x4), none] [.int y] g) : V X m_X1_dearest R Z A 22 [some (.ref 20), some (.int x1), some (.int x2), some (.int x3), some (.int x4), none] [] h := by
  refine v_iload dX1_dearest_22 rfl ?_
  refine v_aload_n dX1_dearest_24 rfl ?_
  refine v_getR dX1_dearest_25 fl_RX1_9 kd_20 (ltA hA0 rfl) rfl (hF 20 0 1 rfl) ?_
  refine v_getI dX1_dearest_28 fl_RX1_25 kd_1 (ltA hA0 rfl) rfl ?_
  refine v_icmp_ge (tgt := 83) dX1_dearest_31 (by decide) (fun c0 => ?_) (fun c0 => ?_)
  · refine v_iinc (y := (x3 + 1)) dX1_dearest_83 rfl rfl (by decide) (L' := [some (.ref 20), some (.int x1), some (.int x2), some (.int (x3 + 1)), some (.int x4), none]) rfl ?_
    refine v_goto (tgt := 6) dX1_dearest_86 (by decide) ?_
    exact (v_drop (lvLe_s (lvLe_s (lvLe_s (lvLe_s (lvLe_n (lvLe_n lvLe_e)))))) (q c0))
  · refine v_aload_n dX1_dearest_34 rfl ?_
    refine v_getR dX1_dearest_35 fl_RX1_9 kd_20 (ltA hA0 rfl) rfl (hF 20 0 1 rfl) ?_
    refine v_iload_n dX1_dearest_38 rfl ?_
    refine v_iload dX1_dearest_39 rfl ?_
    exact v_cVI (mt := m_X1_dearest) mo_X3_tied ml_RX1_78 mi_X3_tied mv_X3_tied rfl kd_1 cl_3 rfl (ltA hA0 rfl) hR hcs (Nat.le_of_ble_eq_true rfl) dX1_dearest_41 rfl (hM c0) (fun y g hp => ((q_1 c0) y g hp))
theorem c_X1_dearest_44 {X : CX} {R : Room} {Z : ZX} {A : AX} {h : AH} {x1 x2 x3 x4 s0 : Int32} {d : Nat} {P51 : Int32 → AH → Prop} (hA0 : 91 ≤ A.1) (hR : RO R (d + 1)) (hcs : A.2.2.1 ≤ R.cells ∧ A.2.2.2 ≤ R.slots) (q : s0 = 0 → 0 ≤ x2 → V X m_X1_dearest R Z A 22 [some (.ref 20), some (.int x1), some (.int x2), some (.int x3), some (.int (x4 + 1)), none] [] h) (q_1 : s0 = 0 → ¬ 0 ≤ x2 → V X m_X1_dearest R Z A 22 [some (.ref 20), some (.int ((20 * x3) + x4)), some (.int 0), some (.int x3), some (.int (x4 + 1)), none] [] h) (hM : ¬ s0 = 0 → Mk X d m_X1_lossOf [.ref 20, .int x3, .int x4] h A.1 A.2.1 (RI P51)) (q_2 : ¬ s0 = 0 → ∀ (y : Int32) (g : AH), P51 y g → V X m_X1_dearest R Z A 54 [some (.ref 20), some (.int x1), some (.int x2), some (.int x3), some (.int x4), none] [.int y] g) : V X m_X1_dearest R Z A 44 [some (.ref 20), some (.int x1), some (.int x2), some (.int x3), some (.int x4), none] [.int s0] h := by
  refine v_if_eq (tgt := 57) dX1_dearest_44 (by decide) (fun c0 => ?_) (fun c0 => ?_)
  · refine v_iconst dX1_dearest_57 ci_0 ?_
    refine v_istore dX1_dearest_58 (by decide) (L' := [some (.ref 20), some (.int x1), some (.int x2), some (.int x3), some (.int x4), some (.int 0)]) rfl ?_
    refine v_iload dX1_dearest_60 rfl ?_
    refine v_iload_n dX1_dearest_62 rfl ?_
    refine v_icmp_le (tgt := 77) dX1_dearest_63 (by decide) (fun c1 => ?_) (fun c1 => ?_)
    · refine v_iinc (y := (x4 + 1)) dX1_dearest_77 rfl rfl (by decide) (L' := [some (.ref 20), some (.int x1), some (.int x2), some (.int x3), some (.int (x4 + 1)), some (.int 0)]) rfl ?_
      refine v_goto (tgt := 22) dX1_dearest_80 (by decide) ?_
      exact (v_drop (lvLe_s (lvLe_s (lvLe_s (lvLe_s (lvLe_s (lvLe_n lvLe_e)))))) (q c0 c1))
    · refine v_bipush dX1_dearest_66 cb_20 ?_
      refine v_iload_n dX1_dearest_68 rfl ?_
      refine v_imul dX1_dearest_69 ?_
      refine v_iload dX1_dearest_70 rfl ?_
      refine v_iadd dX1_dearest_72 ?_
      refine v_istore_n dX1_dearest_73 (by decide) (L' := [some (.ref 20), some (.int ((20 * x3) + x4)), some (.int x2), some (.int x3), some (.int x4), some (.int 0)]) rfl ?_
      refine v_iload dX1_dearest_74 rfl ?_
      refine v_istore_n dX1_dearest_76 (by decide) (L' := [some (.ref 20), some (.int ((20 * x3) + x4)), some (.int 0), some (.int x3), some (.int x4), some (.int 0)]) rfl ?_
      refine v_iinc (y := (x4 + 1)) dX1_dearest_77 rfl rfl (by decide) (L' := [some (.ref 20), some (.int ((20 * x3) + x4)), some (.int 0), some (.int x3), some (.int (x4 + 1)), some (.int 0)]) rfl ?_
      refine v_goto (tgt := 22) dX1_dearest_80 (by decide) ?_
      exact (v_drop (lvLe_s (lvLe_s (lvLe_s (lvLe_s (lvLe_s (lvLe_n lvLe_e)))))) (q_1 c0 c1))
  · refine v_aload_n dX1_dearest_47 rfl ?_
    refine v_iload_n dX1_dearest_48 rfl ?_
    refine v_iload dX1_dearest_49 rfl ?_
    exact v_cVI (mt := m_X1_dearest) mo_X1_lossOf ml_RX1_82 mi_X1_lossOf mv_X1_lossOf rfl kd_20 cl_1 rfl (ltA hA0 rfl) hR hcs (Nat.le_of_ble_eq_true rfl) dX1_dearest_51 rfl (hM c0) (fun y g hp => ((q_2 c0) y g hp))
theorem c_X1_dearest_54 {X : CX} {R : Room} {Z : ZX} {A : AX} {h : AH} {x1 x2 x3 x4 s0 : Int32} (q : s0 ≤ x2 → V X m_X1_dearest R Z A 22 [some (.ref 20), some (.int x1), some (.int x2), some (.int x3), some (.int (x4 + 1)), none] [] h) (q_1 : ¬ s0 ≤ x2 → V X m_X1_dearest R Z A 22 [some (.ref 20), some (.int ((20 * x3) + x4)), some (.int s0), some (.int x3), some (.int (x4 + 1)), none] [] h) : V X m_X1_dearest R Z A 54 [some (.ref 20), some (.int x1), some (.int x2), some (.int x3), some (.int x4), none] [.int s0] h := by
  refine v_goto (tgt := 58) dX1_dearest_54 (by decide) ?_
  refine v_istore dX1_dearest_58 (by decide) (L' := [some (.ref 20), some (.int x1), some (.int x2), some (.int x3), some (.int x4), some (.int s0)]) rfl ?_
  refine v_iload dX1_dearest_60 rfl ?_
  refine v_iload_n dX1_dearest_62 rfl ?_
  refine v_icmp_le (tgt := 77) dX1_dearest_63 (by decide) (fun c0 => ?_) (fun c0 => ?_)
  · refine v_iinc (y := (x4 + 1)) dX1_dearest_77 rfl rfl (by decide) (L' := [some (.ref 20), some (.int x1), some (.int x2), some (.int x3), some (.int (x4 + 1)), some (.int s0)]) rfl ?_
    refine v_goto (tgt := 22) dX1_dearest_80 (by decide) ?_
    exact (v_drop (lvLe_s (lvLe_s (lvLe_s (lvLe_s (lvLe_s (lvLe_n lvLe_e)))))) (q c0))
  · refine v_bipush dX1_dearest_66 cb_20 ?_
    refine v_iload_n dX1_dearest_68 rfl ?_
    refine v_imul dX1_dearest_69 ?_
    refine v_iload dX1_dearest_70 rfl ?_
    refine v_iadd dX1_dearest_72 ?_
    refine v_istore_n dX1_dearest_73 (by decide) (L' := [some (.ref 20), some (.int ((20 * x3) + x4)), some (.int x2), some (.int x3), some (.int x4), some (.int s0)]) rfl ?_
    refine v_iload dX1_dearest_74 rfl ?_
    refine v_istore_n dX1_dearest_76 (by decide) (L' := [some (.ref 20), some (.int ((20 * x3) + x4)), some (.int s0), some (.int x3), some (.int x4), some (.int s0)]) rfl ?_
    refine v_iinc (y := (x4 + 1)) dX1_dearest_77 rfl rfl (by decide) (L' := [some (.ref 20), some (.int ((20 * x3) + x4)), some (.int s0), some (.int x3), some (.int (x4 + 1)), some (.int s0)]) rfl ?_
    refine v_goto (tgt := 22) dX1_dearest_80 (by decide) ?_
    exact (v_drop (lvLe_s (lvLe_s (lvLe_s (lvLe_s (lvLe_s (lvLe_n lvLe_e)))))) (q_1 c0))
theorem e_X1_bestGift {X : CX} {d nx sz : Nat} {Q : Option Value → AH → Prop} {h : AH} (q : V X m_X1_bestGift (rm d 0 0) (ZM X Q nx sz 0 0) (nx, sz, 0, 0) 0 [some (.ref 20), none, none, none, none, none, none] [] h) : Mk X d m_X1_bestGift [.ref 20] h nx sz Q := by
  refine Mok.ofV mo_X1_bestGift (Nat.le_of_ble_eq_true rfl) (L := [some (.ref 20)]) (lvLe_s lvLe_e) (v_grow (n := 6) ?_)
  exact q
theorem c_X1_bestGift_0 {X : CX} {R : Room} {Z : ZX} {A : AX} {h : AH} {d : Nat} {P4 : Int32 → AH → Prop} (hA0 : 91 ≤ A.1) (hF : Fx h) (hR : RO R (d + 1)) (hcs : A.2.2.1 ≤ R.cells ∧ A.2.2.2 ≤ R.slots) (hM : Mk X d m_X3_sums [.ref 1] h A.1 A.2.1 (RI P4)) (q : ∀ (y : Int32) (g : AH), P4 y g → V X m_X1_bestGift R Z A 7 [some (.ref 20), none, none, none, none, none, none] [.int y] g) : V X m_X1_bestGift R Z A 0 [some (.ref 20), none, none, none, none, none, none] [] h := by
  refine v_aload_n dX1_bestGift_0 rfl ?_
  refine v_getR dX1_bestGift_1 fl_RX1_9 kd_20 (ltA hA0 rfl) rfl (hF 20 0 1 rfl) ?_
  exact v_cVI (mt := m_X1_bestGift) mo_X3_sums ml_RX1_68 mi_X3_sums mv_X3_sums rfl kd_1 cl_3 rfl (ltA hA0 rfl) hR hcs (Nat.le_of_ble_eq_true rfl) dX1_bestGift_4 rfl hM (fun y g hp => (q y g hp))
theorem c_X1_bestGift_7 {X : CX} {R : Room} {Z : ZX} {A : AX} {h : AH} {s0 : Int32} (q : V X m_X1_bestGift R Z A 15 [some (.ref 20), some (.int s0), some (.int (-1)), some (.int s0), some (.int 0), none, none] [] h) : V X m_X1_bestGift R Z A 7 [some (.ref 20), none, none, none, none, none, none] [.int s0] h := by
  refine v_istore_n dX1_bestGift_7 (by decide) (L' := [some (.ref 20), some (.int s0), none, none, none, none, none]) rfl ?_
  refine v_iconst dX1_bestGift_8 ci_m1 ?_
  refine v_istore_n dX1_bestGift_9 (by decide) (L' := [some (.ref 20), some (.int s0), some (.int (-1)), none, none, none, none]) rfl ?_
  refine v_iload_n dX1_bestGift_10 rfl ?_
  refine v_istore_n dX1_bestGift_11 (by decide) (L' := [some (.ref 20), some (.int s0), some (.int (-1)), some (.int s0), none, none, none]) rfl ?_
  refine v_iconst dX1_bestGift_12 ci_0 ?_
  refine v_istore dX1_bestGift_13 (by decide) (L' := [some (.ref 20), some (.int s0), some (.int (-1)), some (.int s0), some (.int 0), none, none]) rfl ?_
  exact q
theorem c_X1_bestGift_15 {X : CX} {R : Room} {Q : Option Value → AH → Prop} {nx sz mc ms : Nat} {h : AH} {x1 x2 x3 x4 : Int32} (hA0 : 91 ≤ nx) (hF : Fx h) (hq : (h.1 1 0) ≤ x4 → Q (some (.int x2)) h) (q : ¬ (h.1 1 0) ≤ x4 → V X m_X1_bestGift R (ZM X Q nx sz mc ms) (nx, sz, mc, ms) 33 [some (.ref 20), some (.int x1), some (.int x2), some (.int x3), some (.int x4), some (.int (x4 + 1)), none] [] h) : V X m_X1_bestGift R (ZM X Q nx sz mc ms) (nx, sz, mc, ms) 15 [some (.ref 20), some (.int x1), some (.int x2), some (.int x3), some (.int x4), none, none] [] h := by
  refine v_iload dX1_bestGift_15 rfl ?_
  refine v_aload_n dX1_bestGift_17 rfl ?_
  refine v_getR dX1_bestGift_18 fl_RX1_9 kd_20 (ltA hA0 rfl) rfl (hF 20 0 1 rfl) ?_
  refine v_getI dX1_bestGift_21 fl_RX1_25 kd_1 (ltA hA0 rfl) rfl ?_
  refine v_icmp_ge (tgt := 100) dX1_bestGift_24 (by decide) (fun c0 => ?_) (fun c0 => ?_)
  · refine v_iload_n dX1_bestGift_100 rfl ?_
    exact v_iret dX1_bestGift_101 rfl (hq c0)
  · refine v_iload dX1_bestGift_27 rfl ?_
    refine v_iconst dX1_bestGift_29 ci_1 ?_
    refine v_iadd dX1_bestGift_30 ?_
    refine v_istore dX1_bestGift_31 (by decide) (L' := [some (.ref 20), some (.int x1), some (.int x2), some (.int x3), some (.int x4), some (.int (x4 + 1)), none]) rfl ?_
    exact (q c0)
theorem c_X1_bestGift_33 {X : CX} {R : Room} {Z : ZX} {A : AX} {h : AH} {x1 x2 x3 x4 x5 : Int32} {d : Nat} {P50 : Int32 → AH → Prop} (hA0 : 91 ≤ A.1) (hF : Fx h) (hR : RO R (d + 1)) (hcs : A.2.2.1 ≤ R.cells ∧ A.2.2.2 ≤ R.slots) (q : (h.1 1 0) ≤ x5 → V X m_X1_bestGift R Z A 15 [some (.ref 20), some (.int x1), some (.int x2), some (.int x3), some (.int (x4 + 1)), none, none] [] h) (hM : ¬ (h.1 1 0) ≤ x5 → Mk X d m_X1_mayJoin [.ref 20, .int x4, .int x5] h A.1 A.2.1 (RI P50)) (q_1 : ¬ (h.1 1 0) ≤ x5 → ∀ (y : Int32) (g : AH), P50 y g → V X m_X1_bestGift R Z A 53 [some (.ref 20), some (.int x1), some (.int x2), some (.int x3), some (.int x4), some (.int x5), none] [.int y] g) : V X m_X1_bestGift R Z A 33 [some (.ref 20), some (.int x1), some (.int x2), some (.int x3), some (.int x4), some (.int x5), none] [] h := by
  refine v_iload dX1_bestGift_33 rfl ?_
  refine v_aload_n dX1_bestGift_35 rfl ?_
  refine v_getR dX1_bestGift_36 fl_RX1_9 kd_20 (ltA hA0 rfl) rfl (hF 20 0 1 rfl) ?_
  refine v_getI dX1_bestGift_39 fl_RX1_25 kd_1 (ltA hA0 rfl) rfl ?_
  refine v_icmp_ge (tgt := 94) dX1_bestGift_42 (by decide) (fun c0 => ?_) (fun c0 => ?_)
  · refine v_iinc (y := (x4 + 1)) dX1_bestGift_94 rfl rfl (by decide) (L' := [some (.ref 20), some (.int x1), some (.int x2), some (.int x3), some (.int (x4 + 1)), some (.int x5), none]) rfl ?_
    refine v_goto (tgt := 15) dX1_bestGift_97 (by decide) ?_
    exact (v_drop (lvLe_s (lvLe_s (lvLe_s (lvLe_s (lvLe_s (lvLe_n (lvLe_n lvLe_e))))))) (q c0))
  · refine v_aload_n dX1_bestGift_45 rfl ?_
    refine v_iload dX1_bestGift_46 rfl ?_
    refine v_iload dX1_bestGift_48 rfl ?_
    exact v_cVI (mt := m_X1_bestGift) mo_X1_mayJoin ml_RX1_85 mi_X1_mayJoin mv_X1_mayJoin rfl kd_20 cl_1 rfl (ltA hA0 rfl) hR hcs (Nat.le_of_ble_eq_true rfl) dX1_bestGift_50 rfl (hM c0) (fun y g hp => ((q_1 c0) y g hp))
theorem c_X1_bestGift_53 {X : CX} {R : Room} {Z : ZX} {A : AX} {h : AH} {x1 x2 x3 x4 x5 s0 : Int32} {d : Nat} {P61 : Int32 → AH → Prop} (hA0 : 91 ≤ A.1) (hR : RO R (d + 1)) (hcs : A.2.2.1 ≤ R.cells ∧ A.2.2.2 ≤ R.slots) (q : s0 = 0 → x3 ≤ x1 → V X m_X1_bestGift R Z A 33 [some (.ref 20), some (.int x1), some (.int x2), some (.int x3), some (.int x4), some (.int (x5 + 1)), none] [] h) (q_1 : s0 = 0 → ¬ x3 ≤ x1 → V X m_X1_bestGift R Z A 33 [some (.ref 20), some (.int x1), some (.int ((20 * x4) + x5)), some (.int x1), some (.int x4), some (.int (x5 + 1)), none] [] h) (hM : ¬ s0 = 0 → Mk X d m_X1_sumsWith [.ref 20, .int x4, .int x5] h A.1 A.2.1 (RI P61)) (q_2 : ¬ s0 = 0 → ∀ (y : Int32) (g : AH), P61 y g → V X m_X1_bestGift R Z A 64 [some (.ref 20), some (.int x1), some (.int x2), some (.int x3), some (.int x4), some (.int x5), none] [.int y] g) : V X m_X1_bestGift R Z A 53 [some (.ref 20), some (.int x1), some (.int x2), some (.int x3), some (.int x4), some (.int x5), none] [.int s0] h := by
  refine v_if_eq (tgt := 67) dX1_bestGift_53 (by decide) (fun c0 => ?_) (fun c0 => ?_)
  · refine v_iload_n dX1_bestGift_67 rfl ?_
    refine v_istore dX1_bestGift_68 (by decide) (L' := [some (.ref 20), some (.int x1), some (.int x2), some (.int x3), some (.int x4), some (.int x5), some (.int x1)]) rfl ?_
    refine v_iload dX1_bestGift_70 rfl ?_
    refine v_iload_n dX1_bestGift_72 rfl ?_
    refine v_icmp_ge (tgt := 88) dX1_bestGift_73 (by decide) (fun c1 => ?_) (fun c1 => ?_)
    · refine v_iinc (y := (x5 + 1)) dX1_bestGift_88 rfl rfl (by decide) (L' := [some (.ref 20), some (.int x1), some (.int x2), some (.int x3), some (.int x4), some (.int (x5 + 1)), some (.int x1)]) rfl ?_
      refine v_goto (tgt := 33) dX1_bestGift_91 (by decide) ?_
      exact (v_drop (lvLe_s (lvLe_s (lvLe_s (lvLe_s (lvLe_s (lvLe_s (lvLe_n lvLe_e))))))) (q c0 c1))
    · refine v_bipush dX1_bestGift_76 cb_20 ?_
      refine v_iload dX1_bestGift_78 rfl ?_
      refine v_imul dX1_bestGift_80 ?_
      refine v_iload dX1_bestGift_81 rfl ?_
      refine v_iadd dX1_bestGift_83 ?_
      refine v_istore_n dX1_bestGift_84 (by decide) (L' := [some (.ref 20), some (.int x1), some (.int ((20 * x4) + x5)), some (.int x3), some (.int x4), some (.int x5), some (.int x1)]) rfl ?_
      refine v_iload dX1_bestGift_85 rfl ?_
      refine v_istore_n dX1_bestGift_87 (by decide) (L' := [some (.ref 20), some (.int x1), some (.int ((20 * x4) + x5)), some (.int x1), some (.int x4), some (.int x5), some (.int x1)]) rfl ?_
      refine v_iinc (y := (x5 + 1)) dX1_bestGift_88 rfl rfl (by decide) (L' := [some (.ref 20), some (.int x1), some (.int ((20 * x4) + x5)), some (.int x1), some (.int x4), some (.int (x5 + 1)), some (.int x1)]) rfl ?_
      refine v_goto (tgt := 33) dX1_bestGift_91 (by decide) ?_
      exact (v_drop (lvLe_s (lvLe_s (lvLe_s (lvLe_s (lvLe_s (lvLe_s (lvLe_n lvLe_e))))))) (q_1 c0 c1))
  · refine v_aload_n dX1_bestGift_56 rfl ?_
    refine v_iload dX1_bestGift_57 rfl ?_
    refine v_iload dX1_bestGift_59 rfl ?_
    exact v_cVI (mt := m_X1_bestGift) mo_X1_sumsWith ml_RX1_88 mi_X1_sumsWith mv_X1_sumsWith rfl kd_20 cl_1 rfl (ltA hA0 rfl) hR hcs (Nat.le_of_ble_eq_true rfl) dX1_bestGift_61 rfl (hM c0) (fun y g hp => ((q_2 c0) y g hp))
theorem c_X1_bestGift_64 {X : CX} {R : Room} {Z : ZX} {A : AX} {h : AH} {x1 x2 x3 x4 x5 s0 : Int32} (q : x3 ≤ s0 → V X m_X1_bestGift R Z A 33 [some (.ref 20), some (.int x1), some (.int x2), some (.int x3), some (.int x4), some (.int (x5 + 1)), none] [] h) (q_1 : ¬ x3 ≤ s0 → V X m_X1_bestGift R Z A 33 [some (.ref 20), some (.int x1), some (.int ((20 * x4) + x5)), some (.int s0), some (.int x4), some (.int (x5 + 1)), none] [] h) : V X m_X1_bestGift R Z A 64 [some (.ref 20), some (.int x1), some (.int x2), some (.int x3), some (.int x4), some (.int x5), none] [.int s0] h := by
  refine v_goto (tgt := 68) dX1_bestGift_64 (by decide) ?_
  refine v_istore dX1_bestGift_68 (by decide) (L' := [some (.ref 20), some (.int x1), some (.int x2), some (.int x3), some (.int x4), some (.int x5), some (.int s0)]) rfl ?_
  refine v_iload dX1_bestGift_70 rfl ?_
  refine v_iload_n dX1_bestGift_72 rfl ?_
  refine v_icmp_ge (tgt := 88) dX1_bestGift_73 (by decide) (fun c0 => ?_) (fun c0 => ?_)
  · refine v_iinc (y := (x5 + 1)) dX1_bestGift_88 rfl rfl (by decide) (L' := [some (.ref 20), some (.int x1), some (.int x2), some (.int x3), some (.int x4), some (.int (x5 + 1)), some (.int s0)]) rfl ?_
    refine v_goto (tgt := 33) dX1_bestGift_91 (by decide) ?_
    exact (v_drop (lvLe_s (lvLe_s (lvLe_s (lvLe_s (lvLe_s (lvLe_s (lvLe_n lvLe_e))))))) (q c0))
  · refine v_bipush dX1_bestGift_76 cb_20 ?_
    refine v_iload dX1_bestGift_78 rfl ?_
    refine v_imul dX1_bestGift_80 ?_
    refine v_iload dX1_bestGift_81 rfl ?_
    refine v_iadd dX1_bestGift_83 ?_
    refine v_istore_n dX1_bestGift_84 (by decide) (L' := [some (.ref 20), some (.int x1), some (.int ((20 * x4) + x5)), some (.int x3), some (.int x4), some (.int x5), some (.int s0)]) rfl ?_
    refine v_iload dX1_bestGift_85 rfl ?_
    refine v_istore_n dX1_bestGift_87 (by decide) (L' := [some (.ref 20), some (.int x1), some (.int ((20 * x4) + x5)), some (.int s0), some (.int x4), some (.int x5), some (.int s0)]) rfl ?_
    refine v_iinc (y := (x5 + 1)) dX1_bestGift_88 rfl rfl (by decide) (L' := [some (.ref 20), some (.int x1), some (.int ((20 * x4) + x5)), some (.int s0), some (.int x4), some (.int (x5 + 1)), some (.int s0)]) rfl ?_
    refine v_goto (tgt := 33) dX1_bestGift_91 (by decide) ?_
    exact (v_drop (lvLe_s (lvLe_s (lvLe_s (lvLe_s (lvLe_s (lvLe_s (lvLe_n lvLe_e))))))) (q_1 c0))
theorem e_X1_mayJoin {X : CX} {d nx sz : Nat} {Q : Option Value → AH → Prop} {h : AH} {x1 x2 : Int32} (q : V X m_X1_mayJoin (rm d 0 0) (ZM X Q nx sz 0 0) (nx, sz, 0, 0) 0 [some (.ref 20), some (.int x1), some (.int x2)] [] h) : Mk X d m_X1_mayJoin [.ref 20, .int x1, .int x2] h nx sz Q := by
  refine Mok.ofV mo_X1_mayJoin (Nat.le_of_ble_eq_true rfl) (L := [some (.ref 20), some (.int x1), some (.int x2)]) (lvLe_s (lvLe_s (lvLe_s lvLe_e))) (v_grow (n := 0) ?_)
  exact q
theorem c_X1_mayJoin_0 {X : CX} {R : Room} {Z : ZX} {A : AX} {h : AH} {x1 x2 : Int32} {d : Nat} {P6 : Int32 → AH → Prop} (hA0 : 91 ≤ A.1) (hF : Fx h) (hR : RO R (d + 1)) (hcs : A.2.2.1 ≤ R.cells ∧ A.2.2.2 ≤ R.slots) (hM : Mk X d m_X3_tied [.ref 1, .int x1, .int x2] h A.1 A.2.1 (RI P6)) (q : ∀ (y : Int32) (g : AH), P6 y g → V X m_X1_mayJoin R Z A 9 [some (.ref 20), some (.int x1), some (.int x2)] [.int y] g) : V X m_X1_mayJoin R Z A 0 [some (.ref 20), some (.int x1), some (.int x2)] [] h := by
  refine v_aload_n dX1_mayJoin_0 rfl ?_
  refine v_getR dX1_mayJoin_1 fl_RX1_9 kd_20 (ltA hA0 rfl) rfl (hF 20 0 1 rfl) ?_
  refine v_iload_n dX1_mayJoin_4 rfl ?_
  refine v_iload_n dX1_mayJoin_5 rfl ?_
  exact v_cVI (mt := m_X1_mayJoin) mo_X3_tied ml_RX1_78 mi_X3_tied mv_X3_tied rfl kd_1 cl_3 rfl (ltA hA0 rfl) hR hcs (Nat.le_of_ble_eq_true rfl) dX1_mayJoin_6 rfl hM (fun y g hp => (q y g hp))
theorem c_X1_mayJoin_9 {X : CX} {R : Room} {Q : Option Value → AH → Prop} {nx sz mc ms : Nat} {h : AH} {x1 x2 s0 : Int32} {d : Nat} {P17 : Int32 → AH → Prop} (hA0 : 91 ≤ nx) (hF : Fx h) (hR : RO R (d + 1)) (hcs : mc ≤ R.cells ∧ ms ≤ R.slots) (hq : ¬ s0 = 0 → Q (some (.int 0)) h) (hM : s0 = 0 → Mk X d m_X3_full [.ref 1, .int x1] h nx sz (RI P17)) (q : s0 = 0 → ∀ (y : Int32) (g : AH), P17 y g → V X m_X1_mayJoin R (ZM X Q nx sz mc ms) (nx, sz, mc, ms) 20 [some (.ref 20), none, some (.int x2)] [.int y] g) : V X m_X1_mayJoin R (ZM X Q nx sz mc ms) (nx, sz, mc, ms) 9 [some (.ref 20), some (.int x1), some (.int x2)] [.int s0] h := by
  refine v_if_ne (tgt := 38) dX1_mayJoin_9 (by decide) (fun c0 => ?_) (fun c0 => ?_)
  · refine v_iconst dX1_mayJoin_38 ci_0 ?_
    exact v_zret (ty := .boolean) dX1_mayJoin_39 rfl rfl (hq c0)
  · refine v_aload_n dX1_mayJoin_12 rfl ?_
    refine v_getR dX1_mayJoin_13 fl_RX1_9 kd_20 (ltA hA0 rfl) rfl (hF 20 0 1 rfl) ?_
    refine v_iload_n dX1_mayJoin_16 rfl ?_
    exact v_cVI (mt := m_X1_mayJoin) mo_X3_full ml_RX1_91 mi_X3_full mv_X3_full rfl kd_1 cl_3 rfl (ltA hA0 rfl) hR hcs (Nat.le_of_ble_eq_true rfl) dX1_mayJoin_17 rfl (hM c0) (fun y g hp => (v_drop (lvLe_s (lvLe_n (lvLe_s lvLe_e))) ((q c0) y g hp)))
theorem c_X1_mayJoin_20 {X : CX} {R : Room} {Q : Option Value → AH → Prop} {nx sz mc ms : Nat} {h : AH} {x2 s0 : Int32} {d : Nat} {P28 : Int32 → AH → Prop} (hA0 : 91 ≤ nx) (hF : Fx h) (hR : RO R (d + 1)) (hcs : mc ≤ R.cells ∧ ms ≤ R.slots) (hq : ¬ s0 = 0 → Q (some (.int 0)) h) (hM : s0 = 0 → Mk X d m_X3_full [.ref 1, .int x2] h nx sz (RI P28)) (q : s0 = 0 → ∀ (y : Int32) (g : AH), P28 y g → V X m_X1_mayJoin R (ZM X Q nx sz mc ms) (nx, sz, mc, ms) 31 [none, none, none] [.int y] g) : V X m_X1_mayJoin R (ZM X Q nx sz mc ms) (nx, sz, mc, ms) 20 [some (.ref 20), none, some (.int x2)] [.int s0] h := by
  refine v_if_ne (tgt := 38) dX1_mayJoin_20 (by decide) (fun c0 => ?_) (fun c0 => ?_)
  · refine v_iconst dX1_mayJoin_38 ci_0 ?_
    exact v_zret (ty := .boolean) dX1_mayJoin_39 rfl rfl (hq c0)
  · refine v_aload_n dX1_mayJoin_23 rfl ?_
    refine v_getR dX1_mayJoin_24 fl_RX1_9 kd_20 (ltA hA0 rfl) rfl (hF 20 0 1 rfl) ?_
    refine v_iload_n dX1_mayJoin_27 rfl ?_
    exact v_cVI (mt := m_X1_mayJoin) mo_X3_full ml_RX1_91 mi_X3_full mv_X3_full rfl kd_1 cl_3 rfl (ltA hA0 rfl) hR hcs (Nat.le_of_ble_eq_true rfl) dX1_mayJoin_28 rfl (hM c0) (fun y g hp => (v_drop (lvLe_n (lvLe_n (lvLe_n lvLe_e))) ((q c0) y g hp)))
theorem c_X1_mayJoin_31 {X : CX} {R : Room} {Q : Option Value → AH → Prop} {nx sz mc ms : Nat} {h : AH} {s0 : Int32} (hq : ¬ s0 = 0 → Q (some (.int 0)) h) (hq_1 : s0 = 0 → Q (some (.int 1)) h) : V X m_X1_mayJoin R (ZM X Q nx sz mc ms) (nx, sz, mc, ms) 31 [none, none, none] [.int s0] h := by
  refine v_if_ne (tgt := 38) dX1_mayJoin_31 (by decide) (fun c0 => ?_) (fun c0 => ?_)
  · refine v_iconst dX1_mayJoin_38 ci_0 ?_
    exact v_zret (ty := .boolean) dX1_mayJoin_39 rfl rfl (hq c0)
  · refine v_iconst dX1_mayJoin_34 ci_1 ?_
    refine v_goto (tgt := 39) dX1_mayJoin_35 (by decide) ?_
    exact v_zret (ty := .boolean) dX1_mayJoin_39 rfl rfl (hq_1 c0)
theorem e_X1_sumsWith {X : CX} {d nx sz : Nat} {Q : Option Value → AH → Prop} {h : AH} {x1 x2 : Int32} (q : V X m_X1_sumsWith (rm d 0 0) (ZM X Q nx sz 0 0) (nx, sz, 0, 0) 0 [some (.ref 20), some (.int x1), some (.int x2), none] [] h) : Mk X d m_X1_sumsWith [.ref 20, .int x1, .int x2] h nx sz Q := by
  refine Mok.ofV mo_X1_sumsWith (Nat.le_of_ble_eq_true rfl) (L := [some (.ref 20), some (.int x1), some (.int x2)]) (lvLe_s (lvLe_s (lvLe_s lvLe_e))) (v_grow (n := 1) ?_)
  exact q
theorem c_X1_sumsWith_0 {X : CX} {R : Room} {Z : ZX} {A : AX} {h : AH} {x1 x2 : Int32} {d : Nat} {P6 : AH → Prop} (hA0 : 91 ≤ A.1) (hF : Fx h) (hR : RO R (d + 1)) (hcs : A.2.2.1 ≤ R.cells ∧ A.2.2.2 ≤ R.slots) (hM : Mk X d m_X3_join [.ref 1, .int x1, .int x2] h A.1 A.2.1 (RV P6)) (q : ∀ (g : AH), P6 g → V X m_X1_sumsWith R Z A 9 [some (.ref 20), some (.int x1), some (.int x2), none] [] g) : V X m_X1_sumsWith R Z A 0 [some (.ref 20), some (.int x1), some (.int x2), none] [] h := by
  refine v_aload_n dX1_sumsWith_0 rfl ?_
  refine v_getR dX1_sumsWith_1 fl_RX1_9 kd_20 (ltA hA0 rfl) rfl (hF 20 0 1 rfl) ?_
  refine v_iload_n dX1_sumsWith_4 rfl ?_
  refine v_iload_n dX1_sumsWith_5 rfl ?_
  exact v_cVV (mt := m_X1_sumsWith) mo_X3_join ml_RX1_75 mi_X3_join mv_X3_join rfl kd_1 cl_3 rfl (ltA hA0 rfl) hR hcs (Nat.le_of_ble_eq_true rfl) dX1_sumsWith_6 rfl hM (fun g hp => (q g hp))
theorem c_X1_sumsWith_9 {X : CX} {R : Room} {Z : ZX} {A : AX} {h : AH} {x1 x2 : Int32} {d : Nat} {P13 : Int32 → AH → Prop} (hA0 : 91 ≤ A.1) (hF : Fx h) (hR : RO R (d + 1)) (hcs : A.2.2.1 ≤ R.cells ∧ A.2.2.2 ≤ R.slots) (hM : Mk X d m_X3_sums [.ref 1] h A.1 A.2.1 (RI P13)) (q : ∀ (y : Int32) (g : AH), P13 y g → V X m_X1_sumsWith R Z A 16 [some (.ref 20), some (.int x1), some (.int x2), none] [.int y] g) : V X m_X1_sumsWith R Z A 9 [some (.ref 20), some (.int x1), some (.int x2), none] [] h := by
  refine v_aload_n dX1_sumsWith_9 rfl ?_
  refine v_getR dX1_sumsWith_10 fl_RX1_9 kd_20 (ltA hA0 rfl) rfl (hF 20 0 1 rfl) ?_
  exact v_cVI (mt := m_X1_sumsWith) mo_X3_sums ml_RX1_68 mi_X3_sums mv_X3_sums rfl kd_1 cl_3 rfl (ltA hA0 rfl) hR hcs (Nat.le_of_ble_eq_true rfl) dX1_sumsWith_13 rfl hM (fun y g hp => (q y g hp))
theorem c_X1_sumsWith_16 {X : CX} {R : Room} {Z : ZX} {A : AX} {h : AH} {x1 x2 s0 : Int32} {d : Nat} {P23 : AH → Prop} (hA0 : 91 ≤ A.1) (hF : Fx h) (hR : RO R (d + 1)) (hcs : A.2.2.1 ≤ R.cells ∧ A.2.2.2 ≤ R.slots) (hM : Mk X d m_X3_part [.ref 1, .int x1, .int x2] h A.1 A.2.1 (RV P23)) (q : ∀ (g : AH), P23 g → V X m_X1_sumsWith R Z A 26 [none, none, none, some (.int s0)] [] g) : V X m_X1_sumsWith R Z A 16 [some (.ref 20), some (.int x1), some (.int x2), none] [.int s0] h := by
  refine v_istore_n dX1_sumsWith_16 (by decide) (L' := [some (.ref 20), some (.int x1), some (.int x2), some (.int s0)]) rfl ?_
  refine v_aload_n dX1_sumsWith_17 rfl ?_
  refine v_getR dX1_sumsWith_18 fl_RX1_9 kd_20 (ltA hA0 rfl) rfl (hF 20 0 1 rfl) ?_
  refine v_iload_n dX1_sumsWith_21 rfl ?_
  refine v_iload_n dX1_sumsWith_22 rfl ?_
  exact v_cVV (mt := m_X1_sumsWith) mo_X3_part ml_RX1_71 mi_X3_part mv_X3_part rfl kd_1 cl_3 rfl (ltA hA0 rfl) hR hcs (Nat.le_of_ble_eq_true rfl) dX1_sumsWith_23 rfl hM (fun g hp => (v_drop (lvLe_n (lvLe_n (lvLe_n (lvLe_s lvLe_e)))) (q g hp)))
theorem c_X1_sumsWith_26 {X : CX} {R : Room} {Q : Option Value → AH → Prop} {nx sz mc ms : Nat} {h : AH} {x3 : Int32} (hq : Q (some (.int x3)) h) : V X m_X1_sumsWith R (ZM X Q nx sz mc ms) (nx, sz, mc, ms) 26 [none, none, none, some (.int x3)] [] h := by
  refine v_iload_n dX1_sumsWith_26 rfl ?_
  exact v_iret dX1_sumsWith_27 rfl hq
theorem e_X5_waysBetween {X : CX} {d nx sz : Nat} {Q : Option Value → AH → Prop} {h : AH} {x1 x2 : Int32} (q : V X m_X5_waysBetween (rm d 0 0) (ZM X Q nx sz 0 0) (nx, sz, 0, 0) 0 [some (.ref 13), some (.int x1), some (.int x2), none, none, none, none, none] [] h) : Mk X d m_X5_waysBetween [.ref 13, .int x1, .int x2] h nx sz Q := by
  refine Mok.ofV mo_X5_waysBetween (Nat.le_of_ble_eq_true rfl) (L := [some (.ref 13), some (.int x1), some (.int x2)]) (lvLe_s (lvLe_s (lvLe_s lvLe_e))) (v_grow (n := 5) ?_)
  exact q
theorem c_X5_waysBetween_0 {X : CX} {R : Room} {Z : ZX} {A : AX} {h : AH} {x1 x2 : Int32} (hA0 : 91 ≤ A.1) (hF : Fx h) (hi_6 : vp_in x1 20) (q : V X m_X5_waysBetween R Z A 17 [some (.ref 13), none, some (.int x2), some (.int ((1 : Int32) <<< ((x1 : Int32) &&& 31))), some (.int ((1 : Int32) <<< ((x1 : Int32) &&& 31))), some (.int 1), none, none] [] (setL h 14 x1.toNatClampNeg 1)) : V X m_X5_waysBetween R Z A 0 [some (.ref 13), some (.int x1), some (.int x2), none, none, none, none, none] [] h := by
  refine v_aload_n dX5_waysBetween_0 rfl ?_
  refine v_getR dX5_waysBetween_1 fl_RX5_9 kd_13 (ltA hA0 rfl) rfl (hF 13 1 14 rfl) ?_
  refine v_iload_n dX5_waysBetween_4 rfl ?_
  refine v_lconst dX5_waysBetween_5 cl_l1 ?_
  refine v_last dX5_waysBetween_6 kd_14 (ltA hA0 rfl) hi_6 ?_
  refine v_iconst dX5_waysBetween_7 ci_1 ?_
  refine v_iload_n dX5_waysBetween_8 rfl ?_
  refine v_ishl dX5_waysBetween_9 ?_
  refine v_istore_n dX5_waysBetween_10 (by decide) (L' := [some (.ref 13), some (.int x1), some (.int x2), some (.int ((1 : Int32) <<< ((x1 : Int32) &&& 31))), none, none, none, none]) rfl ?_
  refine v_iload_n dX5_waysBetween_11 rfl ?_
  refine v_istore dX5_waysBetween_12 (by decide) (L' := [some (.ref 13), some (.int x1), some (.int x2), some (.int ((1 : Int32) <<< ((x1 : Int32) &&& 31))), some (.int ((1 : Int32) <<< ((x1 : Int32) &&& 31))), none, none, none]) rfl ?_
  refine v_iconst dX5_waysBetween_14 ci_1 ?_
  refine v_istore dX5_waysBetween_15 (by decide) (L' := [some (.ref 13), some (.int x1), some (.int x2), some (.int ((1 : Int32) <<< ((x1 : Int32) &&& 31))), some (.int ((1 : Int32) <<< ((x1 : Int32) &&& 31))), some (.int 1), none, none]) rfl ?_
  exact (v_drop (lvLe_s (lvLe_n (lvLe_s (lvLe_s (lvLe_s (lvLe_s (lvLe_n (lvLe_n lvLe_e)))))))) q)
theorem c_X5_waysBetween_17 {X : CX} {R : Room} {Q : Option Value → AH → Prop} {nx sz mc ms : Nat} {h : AH} {x2 x3 x4 x5 : Int32} {d : Nat} {P51 : Int32 → AH → Prop} (hA0 : 91 ≤ nx) (hF : Fx h) (hR : RO R (d + 1)) (hcs : mc ≤ R.cells ∧ ms ≤ R.slots) (hi_131 : (h.1 1 0) ≤ x5 → vp_in x2 20) (hq : (h.1 1 0) ≤ x5 → Q (some (.long (h.2.1 14 x2.toNatClampNeg))) h) (hi_131_1 : ¬ (h.1 1 0) ≤ x5 → x4 = 0 → vp_in x2 20) (hq_1 : ¬ (h.1 1 0) ≤ x5 → x4 = 0 → Q (some (.long (h.2.1 14 x2.toNatClampNeg))) h) (hM : ¬ (h.1 1 0) ≤ x5 → ¬ x4 = 0 → Mk X d m_X3_around [.ref 1, .int x4, .int ((h.1 1 1) &&& (x3 ^^^ (-1)))] h nx sz (RI P51)) (q : ¬ (h.1 1 0) ≤ x5 → ¬ x4 = 0 → ∀ (y : Int32) (g : AH), P51 y g → V X m_X5_waysBetween R (ZM X Q nx sz mc ms) (nx, sz, mc, ms) 54 [some (.ref 13), none, some (.int x2), some (.int x3), some (.int x4), some (.int x5), none, none] [.int y] g) : V X m_X5_waysBetween R (ZM X Q nx sz mc ms) (nx, sz, mc, ms) 17 [some (.ref 13), none, some (.int x2), some (.int x3), some (.int x4), some (.int x5), none, none] [] h := by
  refine v_iload dX5_waysBetween_17 rfl ?_
  refine v_aload_n dX5_waysBetween_19 rfl ?_
  refine v_getR dX5_waysBetween_20 fl_RX5_31 kd_13 (ltA hA0 rfl) rfl (hF 13 0 1 rfl) ?_
  refine v_getI dX5_waysBetween_23 fl_RX5_35 kd_1 (ltA hA0 rfl) rfl ?_
  refine v_icmp_ge (tgt := 126) dX5_waysBetween_26 (by decide) (fun c0 => ?_) (fun c0 => ?_)
  · refine v_aload_n dX5_waysBetween_126 rfl ?_
    refine v_getR dX5_waysBetween_127 fl_RX5_9 kd_13 (ltA hA0 rfl) rfl (hF 13 1 14 rfl) ?_
    refine v_iload_n dX5_waysBetween_130 rfl ?_
    refine v_lald dX5_waysBetween_131 kd_14 (ltA hA0 rfl) (hi_131 c0) ?_
    exact v_lret dX5_waysBetween_132 rfl (hq c0)
  · refine v_iload dX5_waysBetween_29 rfl ?_
    refine v_if_eq (tgt := 126) dX5_waysBetween_31 (by decide) (fun c1 => ?_) (fun c1 => ?_)
    · refine v_aload_n dX5_waysBetween_126 rfl ?_
      refine v_getR dX5_waysBetween_127 fl_RX5_9 kd_13 (ltA hA0 rfl) rfl (hF 13 1 14 rfl) ?_
      refine v_iload_n dX5_waysBetween_130 rfl ?_
      refine v_lald dX5_waysBetween_131 kd_14 (ltA hA0 rfl) (hi_131_1 c0 c1) ?_
      exact v_lret dX5_waysBetween_132 rfl (hq_1 c0 c1)
    · refine v_aload_n dX5_waysBetween_34 rfl ?_
      refine v_getR dX5_waysBetween_35 fl_RX5_31 kd_13 (ltA hA0 rfl) rfl (hF 13 0 1 rfl) ?_
      refine v_iload dX5_waysBetween_38 rfl ?_
      refine v_aload_n dX5_waysBetween_40 rfl ?_
      refine v_getR dX5_waysBetween_41 fl_RX5_31 kd_13 (ltA hA0 rfl) rfl (hF 13 0 1 rfl) ?_
      refine v_getI dX5_waysBetween_44 fl_RX5_41 kd_1 (ltA hA0 rfl) rfl ?_
      refine v_iload_n dX5_waysBetween_47 rfl ?_
      refine v_iconst dX5_waysBetween_48 ci_m1 ?_
      refine v_ixor dX5_waysBetween_49 ?_
      refine v_iand dX5_waysBetween_50 ?_
      exact v_cVI (mt := m_X5_waysBetween) mo_X3_around ml_RX5_44 mi_X3_around mv_X3_around rfl kd_1 cl_3 rfl (ltA hA0 rfl) hR hcs (Nat.le_of_ble_eq_true rfl) dX5_waysBetween_51 rfl (hM c0 c1) (fun y g hp => ((q c0 c1) y g hp))
theorem c_X5_waysBetween_54 {X : CX} {R : Room} {Z : ZX} {A : AX} {h : AH} {x2 x3 x4 x5 s0 : Int32} (q : V X m_X5_waysBetween R Z A 59 [some (.ref 13), none, some (.int x2), some (.int x3), some (.int x4), some (.int x5), some (.int s0), some (.int 0)] [] h) : V X m_X5_waysBetween R Z A 54 [some (.ref 13), none, some (.int x2), some (.int x3), some (.int x4), some (.int x5), none, none] [.int s0] h := by
  refine v_istore dX5_waysBetween_54 (by decide) (L' := [some (.ref 13), none, some (.int x2), some (.int x3), some (.int x4), some (.int x5), some (.int s0), none]) rfl ?_
  refine v_iconst dX5_waysBetween_56 ci_0 ?_
  refine v_istore dX5_waysBetween_57 (by decide) (L' := [some (.ref 13), none, some (.int x2), some (.int x3), some (.int x4), some (.int x5), some (.int s0), some (.int 0)]) rfl ?_
  exact q
theorem c_X5_waysBetween_59 {X : CX} {R : Room} {Z : ZX} {A : AX} {h : AH} {x2 x3 x4 x5 x6 x7 : Int32} {d : Nat} {P101 : Int64 → AH → Prop} (hA0 : 91 ≤ A.1) (hF : Fx h) (hR : RO R (d + 1)) (hcs : A.2.2.1 ≤ R.cells ∧ A.2.2.2 ≤ R.slots) (q : (h.1 1 0) ≤ x7 → V X m_X5_waysBetween R Z A 17 [some (.ref 13), none, some (.int x2), some (.int (x3 ||| x6)), some (.int x6), some (.int (x5 + 1)), none, none] [] h) (q_1 : ¬ (h.1 1 0) ≤ x7 → ((x6 >>> (x7 &&& 31)) &&& 1) = 0 → V X m_X5_waysBetween R Z A 59 [some (.ref 13), none, some (.int x2), some (.int x3), some (.int x4), some (.int x5), some (.int x6), some (.int (x7 + 1))] [] h) (hi_99 : ¬ (h.1 1 0) ≤ x7 → ¬ ((x6 >>> (x7 &&& 31)) &&& 1) = 0 → vp_in x7 20) (hM : ¬ (h.1 1 0) ≤ x7 → ¬ ((x6 >>> (x7 &&& 31)) &&& 1) = 0 → Mk X d m_X5_waysOver [.ref 13, .int (x4 &&& (h.1 2 x7.toNatClampNeg))] h A.1 A.2.1 (RJ P101)) (q_2 : ¬ (h.1 1 0) ≤ x7 → ¬ ((x6 >>> (x7 &&& 31)) &&& 1) = 0 → ∀ (y : Int64) (g : AH), P101 y g → V X m_X5_waysBetween R Z A 104 [some (.ref 13), none, some (.int x2), some (.int x3), some (.int x4), some (.int x5), some (.int x6), some (.int x7)] [.long y, .int x7, .ref 14] g) : V X m_X5_waysBetween R Z A 59 [some (.ref 13), none, some (.int x2), some (.int x3), some (.int x4), some (.int x5), some (.int x6), some (.int x7)] [] h := by
  refine v_iload dX5_waysBetween_59 rfl ?_
  refine v_aload_n dX5_waysBetween_61 rfl ?_
  refine v_getR dX5_waysBetween_62 fl_RX5_31 kd_13 (ltA hA0 rfl) rfl (hF 13 0 1 rfl) ?_
  refine v_getI dX5_waysBetween_65 fl_RX5_35 kd_1 (ltA hA0 rfl) rfl ?_
  refine v_icmp_ge (tgt := 111) dX5_waysBetween_68 (by decide) (fun c0 => ?_) (fun c0 => ?_)
  · refine v_iload_n dX5_waysBetween_111 rfl ?_
    refine v_iload dX5_waysBetween_112 rfl ?_
    refine v_ior dX5_waysBetween_114 ?_
    refine v_istore_n dX5_waysBetween_115 (by decide) (L' := [some (.ref 13), none, some (.int x2), some (.int (x3 ||| x6)), some (.int x4), some (.int x5), some (.int x6), some (.int x7)]) rfl ?_
    refine v_iload dX5_waysBetween_116 rfl ?_
    refine v_istore dX5_waysBetween_118 (by decide) (L' := [some (.ref 13), none, some (.int x2), some (.int (x3 ||| x6)), some (.int x6), some (.int x5), some (.int x6), some (.int x7)]) rfl ?_
    refine v_iinc (y := (x5 + 1)) dX5_waysBetween_120 rfl rfl (by decide) (L' := [some (.ref 13), none, some (.int x2), some (.int (x3 ||| x6)), some (.int x6), some (.int (x5 + 1)), some (.int x6), some (.int x7)]) rfl ?_
    refine v_goto (tgt := 17) dX5_waysBetween_123 (by decide) ?_
    exact (v_drop (lvLe_s (lvLe_n (lvLe_s (lvLe_s (lvLe_s (lvLe_s (lvLe_n (lvLe_n lvLe_e)))))))) (q c0))
  · refine v_iload dX5_waysBetween_71 rfl ?_
    refine v_iload dX5_waysBetween_73 rfl ?_
    refine v_ishr dX5_waysBetween_75 ?_
    refine v_iconst dX5_waysBetween_76 ci_1 ?_
    refine v_iand dX5_waysBetween_77 ?_
    refine v_if_eq (tgt := 105) dX5_waysBetween_78 (by decide) (fun c1 => ?_) (fun c1 => ?_)
    · refine v_iinc (y := (x7 + 1)) dX5_waysBetween_105 rfl rfl (by decide) (L' := [some (.ref 13), none, some (.int x2), some (.int x3), some (.int x4), some (.int x5), some (.int x6), some (.int (x7 + 1))]) rfl ?_
      refine v_goto (tgt := 59) dX5_waysBetween_108 (by decide) ?_
      exact (q_1 c0 c1)
    · refine v_aload_n dX5_waysBetween_81 rfl ?_
      refine v_getR dX5_waysBetween_82 fl_RX5_9 kd_13 (ltA hA0 rfl) rfl (hF 13 1 14 rfl) ?_
      refine v_iload dX5_waysBetween_85 rfl ?_
      refine v_aload_n dX5_waysBetween_87 rfl ?_
      refine v_iload dX5_waysBetween_88 rfl ?_
      refine v_aload_n dX5_waysBetween_90 rfl ?_
      refine v_getR dX5_waysBetween_91 fl_RX5_31 kd_13 (ltA hA0 rfl) rfl (hF 13 0 1 rfl) ?_
      refine v_getR dX5_waysBetween_94 fl_RX5_48 kd_1 (ltA hA0 rfl) rfl (hF 1 2 2 rfl) ?_
      refine v_iload dX5_waysBetween_97 rfl ?_
      refine v_iald dX5_waysBetween_99 kd_2 (ltA hA0 rfl) (hi_99 c0 c1) ?_
      refine v_iand dX5_waysBetween_100 ?_
      exact v_cVL (mt := m_X5_waysBetween) mo_X5_waysOver ml_RX5_51 mi_X5_waysOver mv_X5_waysOver rfl kd_13 cl_5 rfl (ltA hA0 rfl) hR hcs (Nat.le_of_ble_eq_true rfl) dX5_waysBetween_101 rfl (hM c0 c1) (fun y g hp => ((q_2 c0 c1) y g hp))
theorem c_X5_waysBetween_104 {X : CX} {R : Room} {Z : ZX} {A : AX} {h : AH} {x2 x3 x4 x5 x6 x7 s1 : Int32} {t2 : Int64} (hA0 : 91 ≤ A.1) (hi_104 : vp_in s1 20) (q : V X m_X5_waysBetween R Z A 59 [some (.ref 13), none, some (.int x2), some (.int x3), some (.int x4), some (.int x5), some (.int x6), some (.int (x7 + 1))] [] (setL h 14 s1.toNatClampNeg t2)) : V X m_X5_waysBetween R Z A 104 [some (.ref 13), none, some (.int x2), some (.int x3), some (.int x4), some (.int x5), some (.int x6), some (.int x7)] [.long t2, .int s1, .ref 14] h := by
  refine v_last dX5_waysBetween_104 kd_14 (ltA hA0 rfl) hi_104 ?_
  refine v_iinc (y := (x7 + 1)) dX5_waysBetween_105 rfl rfl (by decide) (L' := [some (.ref 13), none, some (.int x2), some (.int x3), some (.int x4), some (.int x5), some (.int x6), some (.int (x7 + 1))]) rfl ?_
  refine v_goto (tgt := 59) dX5_waysBetween_108 (by decide) ?_
  exact q
theorem e_X5_waysOver {X : CX} {d nx sz : Nat} {Q : Option Value → AH → Prop} {h : AH} {x1 : Int32} (q : V X m_X5_waysOver (rm d 0 0) (ZM X Q nx sz 0 0) (nx, sz, 0, 0) 0 [some (.ref 13), some (.int x1), none, none, none] [] h) : Mk X d m_X5_waysOver [.ref 13, .int x1] h nx sz Q := by
  refine Mok.ofV mo_X5_waysOver (Nat.le_of_ble_eq_true rfl) (L := [some (.ref 13), some (.int x1)]) (lvLe_s (lvLe_s lvLe_e)) (v_grow (n := 3) ?_)
  exact q
theorem c_X5_waysOver_0 {X : CX} {R : Room} {Z : ZX} {A : AX} {h : AH} {x1 : Int32} (q : V X m_X5_waysOver R Z A 5 [some (.ref 13), some (.int x1), some (.long 0), none, some (.int 0)] [] h) : V X m_X5_waysOver R Z A 0 [some (.ref 13), some (.int x1), none, none, none] [] h := by
  refine v_lconst dX5_waysOver_0 cl_l0 ?_
  refine v_lstore_n dX5_waysOver_1 (by decide) (L' := [some (.ref 13), some (.int x1), some (.long 0), none, none]) rfl ?_
  refine v_iconst dX5_waysOver_2 ci_0 ?_
  refine v_istore dX5_waysOver_3 (by decide) (L' := [some (.ref 13), some (.int x1), some (.long 0), none, some (.int 0)]) rfl ?_
  exact q
theorem c_X5_waysOver_5 {X : CX} {R : Room} {Q : Option Value → AH → Prop} {nx sz mc ms : Nat} {h : AH} {x1 x4 : Int32} {j2 : Int64} (hA0 : 91 ≤ nx) (hF : Fx h) (hq : (h.1 1 0) ≤ x4 → Q (some (.long j2)) h) (q : ¬ (h.1 1 0) ≤ x4 → ((x1 >>> (x4 &&& 31)) &&& 1) = 0 → V X m_X5_waysOver R (ZM X Q nx sz mc ms) (nx, sz, mc, ms) 5 [some (.ref 13), some (.int x1), some (.long j2), none, some (.int (x4 + 1))] [] h) (hi_33 : ¬ (h.1 1 0) ≤ x4 → ¬ ((x1 >>> (x4 &&& 31)) &&& 1) = 0 → vp_in x4 20) (q_1 : ¬ (h.1 1 0) ≤ x4 → ¬ ((x1 >>> (x4 &&& 31)) &&& 1) = 0 → V X m_X5_waysOver R (ZM X Q nx sz mc ms) (nx, sz, mc, ms) 5 [some (.ref 13), some (.int x1), some (.long (j2 + (h.2.1 14 x4.toNatClampNeg))), none, some (.int (x4 + 1))] [] h) : V X m_X5_waysOver R (ZM X Q nx sz mc ms) (nx, sz, mc, ms) 5 [some (.ref 13), some (.int x1), some (.long j2), none, some (.int x4)] [] h := by
  refine v_iload dX5_waysOver_5 rfl ?_
  refine v_aload_n dX5_waysOver_7 rfl ?_
  refine v_getR dX5_waysOver_8 fl_RX5_31 kd_13 (ltA hA0 rfl) rfl (hF 13 0 1 rfl) ?_
  refine v_getI dX5_waysOver_11 fl_RX5_35 kd_1 (ltA hA0 rfl) rfl ?_
  refine v_icmp_ge (tgt := 42) dX5_waysOver_14 (by decide) (fun c0 => ?_) (fun c0 => ?_)
  · refine v_lload_n dX5_waysOver_42 rfl ?_
    exact v_lret dX5_waysOver_43 rfl (hq c0)
  · refine v_iload_n dX5_waysOver_17 rfl ?_
    refine v_iload dX5_waysOver_18 rfl ?_
    refine v_ishr dX5_waysOver_20 ?_
    refine v_iconst dX5_waysOver_21 ci_1 ?_
    refine v_iand dX5_waysOver_22 ?_
    refine v_if_eq (tgt := 36) dX5_waysOver_23 (by decide) (fun c1 => ?_) (fun c1 => ?_)
    · refine v_iinc (y := (x4 + 1)) dX5_waysOver_36 rfl rfl (by decide) (L' := [some (.ref 13), some (.int x1), some (.long j2), none, some (.int (x4 + 1))]) rfl ?_
      refine v_goto (tgt := 5) dX5_waysOver_39 (by decide) ?_
      exact (q c0 c1)
    · refine v_lload_n dX5_waysOver_26 rfl ?_
      refine v_aload_n dX5_waysOver_27 rfl ?_
      refine v_getR dX5_waysOver_28 fl_RX5_9 kd_13 (ltA hA0 rfl) rfl (hF 13 1 14 rfl) ?_
      refine v_iload dX5_waysOver_31 rfl ?_
      refine v_lald dX5_waysOver_33 kd_14 (ltA hA0 rfl) (hi_33 c0 c1) ?_
      refine v_ladd dX5_waysOver_34 ?_
      refine v_lstore_n dX5_waysOver_35 (by decide) (L' := [some (.ref 13), some (.int x1), some (.long (j2 + (h.2.1 14 x4.toNatClampNeg))), none, some (.int x4)]) rfl ?_
      refine v_iinc (y := (x4 + 1)) dX5_waysOver_36 rfl rfl (by decide) (L' := [some (.ref 13), some (.int x1), some (.long (j2 + (h.2.1 14 x4.toNatClampNeg))), none, some (.int (x4 + 1))]) rfl ?_
      refine v_goto (tgt := 5) dX5_waysOver_39 (by decide) ?_
      exact (q_1 c0 c1)
theorem e_X5_onAll {X : CX} {d nx sz : Nat} {Q : Option Value → AH → Prop} {h : AH} {x1 x2 : Int32} (q : V X m_X5_onAll (rm d 0 0) (ZM X Q nx sz 0 0) (nx, sz, 0, 0) 0 [some (.ref 13), some (.int x1), some (.int x2), none, none, none] [] h) : Mk X d m_X5_onAll [.ref 13, .int x1, .int x2] h nx sz Q := by
  refine Mok.ofV mo_X5_onAll (Nat.le_of_ble_eq_true rfl) (L := [some (.ref 13), some (.int x1), some (.int x2)]) (lvLe_s (lvLe_s (lvLe_s lvLe_e))) (v_grow (n := 3) ?_)
  exact q
theorem c_X5_onAll_0 {X : CX} {R : Room} {Z : ZX} {A : AX} {h : AH} {x1 x2 : Int32} {d : Nat} {P13 : Int32 → AH → Prop} (hA0 : 91 ≤ A.1) (hF : Fx h) (hR : RO R (d + 1)) (hcs : A.2.2.1 ≤ R.cells ∧ A.2.2.2 ≤ R.slots) (hM : Mk X d m_X3_distance [.ref 1, .int x1, .int x2, .int (h.1 1 1)] h A.1 A.2.1 (RI P13)) (q : ∀ (y : Int32) (g : AH), P13 y g → V X m_X5_onAll R Z A 16 [some (.ref 13), some (.int x1), some (.int x2), none, none, none] [.int y] g) : V X m_X5_onAll R Z A 0 [some (.ref 13), some (.int x1), some (.int x2), none, none, none] [] h := by
  refine v_aload_n dX5_onAll_0 rfl ?_
  refine v_getR dX5_onAll_1 fl_RX5_31 kd_13 (ltA hA0 rfl) rfl (hF 13 0 1 rfl) ?_
  refine v_iload_n dX5_onAll_4 rfl ?_
  refine v_iload_n dX5_onAll_5 rfl ?_
  refine v_aload_n dX5_onAll_6 rfl ?_
  refine v_getR dX5_onAll_7 fl_RX5_31 kd_13 (ltA hA0 rfl) rfl (hF 13 0 1 rfl) ?_
  refine v_getI dX5_onAll_10 fl_RX5_41 kd_1 (ltA hA0 rfl) rfl ?_
  exact v_cVI (mt := m_X5_onAll) mo_X3_distance ml_RX5_55 mi_X3_distance mv_X3_distance rfl kd_1 cl_3 rfl (ltA hA0 rfl) hR hcs (Nat.le_of_ble_eq_true rfl) dX5_onAll_13 rfl hM (fun y g hp => (q y g hp))
theorem c_X5_onAll_16 {X : CX} {R : Room} {Z : ZX} {A : AX} {h : AH} {x1 x2 s0 : Int32} (q : V X m_X5_onAll R Z A 23 [some (.ref 13), some (.int x1), some (.int x2), some (.int s0), some (.int 0), some (.int 0)] [] h) : V X m_X5_onAll R Z A 16 [some (.ref 13), some (.int x1), some (.int x2), none, none, none] [.int s0] h := by
  refine v_istore_n dX5_onAll_16 (by decide) (L' := [some (.ref 13), some (.int x1), some (.int x2), some (.int s0), none, none]) rfl ?_
  refine v_iconst dX5_onAll_17 ci_0 ?_
  refine v_istore dX5_onAll_18 (by decide) (L' := [some (.ref 13), some (.int x1), some (.int x2), some (.int s0), some (.int 0), none]) rfl ?_
  refine v_iconst dX5_onAll_20 ci_0 ?_
  refine v_istore dX5_onAll_21 (by decide) (L' := [some (.ref 13), some (.int x1), some (.int x2), some (.int s0), some (.int 0), some (.int 0)]) rfl ?_
  exact q
theorem c_X5_onAll_23 {X : CX} {R : Room} {Q : Option Value → AH → Prop} {nx sz mc ms : Nat} {h : AH} {x1 x2 x3 x4 x5 : Int32} {d : Nat} {P67 : Int32 → AH → Prop} (hA0 : 91 ≤ nx) (hF : Fx h) (hR : RO R (d + 1)) (hcs : mc ≤ R.cells ∧ ms ≤ R.slots) (hq : (h.1 1 0) ≤ x5 → Q (some (.int x4)) h) (q : ¬ (h.1 1 0) ≤ x5 → x5 = x1 → V X m_X5_onAll R (ZM X Q nx sz mc ms) (nx, sz, mc, ms) 23 [some (.ref 13), some (.int x1), some (.int x2), some (.int x3), some (.int x4), some (.int (x5 + 1))] [] h) (q_1 : ¬ (h.1 1 0) ≤ x5 → ¬ x5 = x1 → x5 = x2 → V X m_X5_onAll R (ZM X Q nx sz mc ms) (nx, sz, mc, ms) 23 [some (.ref 13), some (.int x1), some (.int x2), some (.int x3), some (.int x4), some (.int (x5 + 1))] [] h) (hM : ¬ (h.1 1 0) ≤ x5 → ¬ x5 = x1 → ¬ x5 = x2 → Mk X d m_X3_distance [.ref 1, .int x1, .int x2, .int ((h.1 1 1) &&& (((1 : Int32) <<< ((x5 : Int32) &&& 31)) ^^^ (-1)))] h nx sz (RI P67)) (q_2 : ¬ (h.1 1 0) ≤ x5 → ¬ x5 = x1 → ¬ x5 = x2 → ∀ (y : Int32) (g : AH), P67 y g → V X m_X5_onAll R (ZM X Q nx sz mc ms) (nx, sz, mc, ms) 70 [some (.ref 13), some (.int x1), some (.int x2), some (.int x3), some (.int x4), some (.int x5)] [.int y] g) : V X m_X5_onAll R (ZM X Q nx sz mc ms) (nx, sz, mc, ms) 23 [some (.ref 13), some (.int x1), some (.int x2), some (.int x3), some (.int x4), some (.int x5)] [] h := by
  refine v_iload dX5_onAll_23 rfl ?_
  refine v_aload_n dX5_onAll_25 rfl ?_
  refine v_getR dX5_onAll_26 fl_RX5_31 kd_13 (ltA hA0 rfl) rfl (hF 13 0 1 rfl) ?_
  refine v_getI dX5_onAll_29 fl_RX5_35 kd_1 (ltA hA0 rfl) rfl ?_
  refine v_icmp_ge (tgt := 89) dX5_onAll_32 (by decide) (fun c0 => ?_) (fun c0 => ?_)
  · refine v_iload dX5_onAll_89 rfl ?_
    exact v_iret dX5_onAll_91 rfl (hq c0)
  · refine v_iload dX5_onAll_35 rfl ?_
    refine v_iload_n dX5_onAll_37 rfl ?_
    refine v_icmp_eq (tgt := 83) dX5_onAll_38 (by decide) (fun c1 => ?_) (fun c1 => ?_)
    · refine v_iinc (y := (x5 + 1)) dX5_onAll_83 rfl rfl (by decide) (L' := [some (.ref 13), some (.int x1), some (.int x2), some (.int x3), some (.int x4), some (.int (x5 + 1))]) rfl ?_
      refine v_goto (tgt := 23) dX5_onAll_86 (by decide) ?_
      exact (q c0 c1)
    · refine v_iload dX5_onAll_41 rfl ?_
      refine v_iload_n dX5_onAll_43 rfl ?_
      refine v_icmp_eq (tgt := 83) dX5_onAll_44 (by decide) (fun c2 => ?_) (fun c2 => ?_)
      · refine v_iinc (y := (x5 + 1)) dX5_onAll_83 rfl rfl (by decide) (L' := [some (.ref 13), some (.int x1), some (.int x2), some (.int x3), some (.int x4), some (.int (x5 + 1))]) rfl ?_
        refine v_goto (tgt := 23) dX5_onAll_86 (by decide) ?_
        exact (q_1 c0 c1 c2)
      · refine v_aload_n dX5_onAll_47 rfl ?_
        refine v_getR dX5_onAll_48 fl_RX5_31 kd_13 (ltA hA0 rfl) rfl (hF 13 0 1 rfl) ?_
        refine v_iload_n dX5_onAll_51 rfl ?_
        refine v_iload_n dX5_onAll_52 rfl ?_
        refine v_aload_n dX5_onAll_53 rfl ?_
        refine v_getR dX5_onAll_54 fl_RX5_31 kd_13 (ltA hA0 rfl) rfl (hF 13 0 1 rfl) ?_
        refine v_getI dX5_onAll_57 fl_RX5_41 kd_1 (ltA hA0 rfl) rfl ?_
        refine v_iconst dX5_onAll_60 ci_1 ?_
        refine v_iload dX5_onAll_61 rfl ?_
        refine v_ishl dX5_onAll_63 ?_
        refine v_iconst dX5_onAll_64 ci_m1 ?_
        refine v_ixor dX5_onAll_65 ?_
        refine v_iand dX5_onAll_66 ?_
        exact v_cVI (mt := m_X5_onAll) mo_X3_distance ml_RX5_55 mi_X3_distance mv_X3_distance rfl kd_1 cl_3 rfl (ltA hA0 rfl) hR hcs (Nat.le_of_ble_eq_true rfl) dX5_onAll_67 rfl (hM c0 c1 c2) (fun y g hp => ((q_2 c0 c1 c2) y g hp))
theorem c_X5_onAll_70 {X : CX} {R : Room} {Z : ZX} {A : AX} {h : AH} {x1 x2 x3 x4 x5 s0 : Int32} (q : s0 = x3 → V X m_X5_onAll R Z A 23 [some (.ref 13), some (.int x1), some (.int x2), some (.int x3), some (.int x4), some (.int (x5 + 1))] [] h) (q_1 : ¬ s0 = x3 → V X m_X5_onAll R Z A 23 [some (.ref 13), some (.int x1), some (.int x2), some (.int x3), some (.int (x4 ||| ((1 : Int32) <<< ((x5 : Int32) &&& 31)))), some (.int (x5 + 1))] [] h) : V X m_X5_onAll R Z A 70 [some (.ref 13), some (.int x1), some (.int x2), some (.int x3), some (.int x4), some (.int x5)] [.int s0] h := by
  refine v_iload_n dX5_onAll_70 rfl ?_
  refine v_icmp_eq (tgt := 83) dX5_onAll_71 (by decide) (fun c0 => ?_) (fun c0 => ?_)
  · refine v_iinc (y := (x5 + 1)) dX5_onAll_83 rfl rfl (by decide) (L' := [some (.ref 13), some (.int x1), some (.int x2), some (.int x3), some (.int x4), some (.int (x5 + 1))]) rfl ?_
    refine v_goto (tgt := 23) dX5_onAll_86 (by decide) ?_
    exact (q c0)
  · refine v_iload dX5_onAll_74 rfl ?_
    refine v_iconst dX5_onAll_76 ci_1 ?_
    refine v_iload dX5_onAll_77 rfl ?_
    refine v_ishl dX5_onAll_79 ?_
    refine v_ior dX5_onAll_80 ?_
    refine v_istore dX5_onAll_81 (by decide) (L' := [some (.ref 13), some (.int x1), some (.int x2), some (.int x3), some (.int (x4 ||| ((1 : Int32) <<< ((x5 : Int32) &&& 31)))), some (.int x5)]) rfl ?_
    refine v_iinc (y := (x5 + 1)) dX5_onAll_83 rfl rfl (by decide) (L' := [some (.ref 13), some (.int x1), some (.int x2), some (.int x3), some (.int (x4 ||| ((1 : Int32) <<< ((x5 : Int32) &&& 31)))), some (.int (x5 + 1))]) rfl ?_
    refine v_goto (tgt := 23) dX5_onAll_86 (by decide) ?_
    exact (q_1 c0)
theorem e_X5_onSome {X : CX} {d nx sz : Nat} {Q : Option Value → AH → Prop} {h : AH} {x1 x2 : Int32} (q : V X m_X5_onSome (rm d 0 0) (ZM X Q nx sz 0 0) (nx, sz, 0, 0) 0 [some (.ref 13), some (.int x1), some (.int x2), none, none, none] [] h) : Mk X d m_X5_onSome [.ref 13, .int x1, .int x2] h nx sz Q := by
  refine Mok.ofV mo_X5_onSome (Nat.le_of_ble_eq_true rfl) (L := [some (.ref 13), some (.int x1), some (.int x2)]) (lvLe_s (lvLe_s (lvLe_s lvLe_e))) (v_grow (n := 3) ?_)
  exact q
theorem c_X5_onSome_0 {X : CX} {R : Room} {Z : ZX} {A : AX} {h : AH} {x1 x2 : Int32} {d : Nat} {P9 : AH → Prop} (hA0 : 91 ≤ A.1) (hF : Fx h) (hR : RO R (d + 1)) (hcs : A.2.2.1 ≤ R.cells ∧ A.2.2.2 ≤ R.slots) (hM : Mk X d m_X3_measure [.ref 1, .int x1, .ref 15] h A.1 A.2.1 (RV P9)) (q : ∀ (g : AH), P9 g → V X m_X5_onSome R Z A 12 [some (.ref 13), some (.int x1), some (.int x2), none, none, none] [] g) : V X m_X5_onSome R Z A 0 [some (.ref 13), some (.int x1), some (.int x2), none, none, none] [] h := by
  refine v_aload_n dX5_onSome_0 rfl ?_
  refine v_getR dX5_onSome_1 fl_RX5_31 kd_13 (ltA hA0 rfl) rfl (hF 13 0 1 rfl) ?_
  refine v_iload_n dX5_onSome_4 rfl ?_
  refine v_aload_n dX5_onSome_5 rfl ?_
  refine v_getR dX5_onSome_6 fl_RX5_15 kd_13 (ltA hA0 rfl) rfl (hF 13 2 15 rfl) ?_
  exact v_cVV (mt := m_X5_onSome) mo_X3_measure ml_RX5_59 mi_X3_measure mv_X3_measure rfl kd_1 cl_3 rfl (ltA hA0 rfl) hR hcs (Nat.le_of_ble_eq_true rfl) dX5_onSome_9 rfl hM (fun g hp => (q g hp))
theorem c_X5_onSome_12 {X : CX} {R : Room} {Z : ZX} {A : AX} {h : AH} {x1 x2 : Int32} {d : Nat} {P21 : AH → Prop} (hA0 : 91 ≤ A.1) (hF : Fx h) (hR : RO R (d + 1)) (hcs : A.2.2.1 ≤ R.cells ∧ A.2.2.2 ≤ R.slots) (hM : Mk X d m_X3_measure [.ref 1, .int x2, .ref 16] h A.1 A.2.1 (RV P21)) (q : ∀ (g : AH), P21 g → V X m_X5_onSome R Z A 24 [some (.ref 13), some (.int x1), some (.int x2), none, none, none] [] g) : V X m_X5_onSome R Z A 12 [some (.ref 13), some (.int x1), some (.int x2), none, none, none] [] h := by
  refine v_aload_n dX5_onSome_12 rfl ?_
  refine v_getR dX5_onSome_13 fl_RX5_31 kd_13 (ltA hA0 rfl) rfl (hF 13 0 1 rfl) ?_
  refine v_iload_n dX5_onSome_16 rfl ?_
  refine v_aload_n dX5_onSome_17 rfl ?_
  refine v_getR dX5_onSome_18 fl_RX5_19 kd_13 (ltA hA0 rfl) rfl (hF 13 3 16 rfl) ?_
  exact v_cVV (mt := m_X5_onSome) mo_X3_measure ml_RX5_59 mi_X3_measure mv_X3_measure rfl kd_1 cl_3 rfl (ltA hA0 rfl) hR hcs (Nat.le_of_ble_eq_true rfl) dX5_onSome_21 rfl hM (fun g hp => (q g hp))
theorem c_X5_onSome_24 {X : CX} {R : Room} {Z : ZX} {A : AX} {h : AH} {x1 x2 : Int32} (q : V X m_X5_onSome R Z A 29 [some (.ref 13), some (.int x1), some (.int x2), some (.int 0), some (.int 0), none] [] h) : V X m_X5_onSome R Z A 24 [some (.ref 13), some (.int x1), some (.int x2), none, none, none] [] h := by
  refine v_iconst dX5_onSome_24 ci_0 ?_
  refine v_istore_n dX5_onSome_25 (by decide) (L' := [some (.ref 13), some (.int x1), some (.int x2), some (.int 0), none, none]) rfl ?_
  refine v_iconst dX5_onSome_26 ci_0 ?_
  refine v_istore dX5_onSome_27 (by decide) (L' := [some (.ref 13), some (.int x1), some (.int x2), some (.int 0), some (.int 0), none]) rfl ?_
  exact q
theorem c_X5_onSome_29 {X : CX} {R : Room} {Q : Option Value → AH → Prop} {nx sz mc ms : Nat} {h : AH} {x1 x2 x3 x4 : Int32} (hA0 : 91 ≤ nx) (hF : Fx h) (hq : (h.1 1 0) ≤ x4 → Q (some (.int x3)) h) (q : ¬ (h.1 1 0) ≤ x4 → x4 = x1 → V X m_X5_onSome R (ZM X Q nx sz mc ms) (nx, sz, mc, ms) 29 [some (.ref 13), some (.int x1), some (.int x2), some (.int x3), some (.int (x4 + 1)), none] [] h) (q_1 : ¬ (h.1 1 0) ≤ x4 → ¬ x4 = x1 → x4 = x2 → V X m_X5_onSome R (ZM X Q nx sz mc ms) (nx, sz, mc, ms) 29 [some (.ref 13), some (.int x1), some (.int x2), some (.int x3), some (.int (x4 + 1)), none] [] h) (hi_59 : ¬ (h.1 1 0) ≤ x4 → ¬ x4 = x1 → ¬ x4 = x2 → vp_in x4 20) (q_2 : ¬ (h.1 1 0) ≤ x4 → ¬ x4 = x1 → ¬ x4 = x2 → (h.1 15 x4.toNatClampNeg) = (-1) → V X m_X5_onSome R (ZM X Q nx sz mc ms) (nx, sz, mc, ms) 29 [some (.ref 13), some (.int x1), some (.int x2), some (.int x3), some (.int (x4 + 1)), none] [] h) (hi_82 : ¬ (h.1 1 0) ≤ x4 → ¬ x4 = x1 → ¬ x4 = x2 → ¬ (h.1 15 x4.toNatClampNeg) = (-1) → vp_in x4 20) (hi_89 : ¬ (h.1 1 0) ≤ x4 → ¬ x4 = x1 → ¬ x4 = x2 → ¬ (h.1 15 x4.toNatClampNeg) = (-1) → vp_in x4 20) (hi_96 : ¬ (h.1 1 0) ≤ x4 → ¬ x4 = x1 → ¬ x4 = x2 → ¬ (h.1 15 x4.toNatClampNeg) = (-1) → vp_in x2 20) (q_3 : ¬ (h.1 1 0) ≤ x4 → ¬ x4 = x1 → ¬ x4 = x2 → ¬ (h.1 15 x4.toNatClampNeg) = (-1) → ¬ ((h.1 15 x4.toNatClampNeg) + (h.1 16 x4.toNatClampNeg)) = (h.1 15 x2.toNatClampNeg) → V X m_X5_onSome R (ZM X Q nx sz mc ms) (nx, sz, mc, ms) 29 [some (.ref 13), some (.int x1), some (.int x2), some (.int x3), some (.int (x4 + 1)), none] [] h) (q_4 : ¬ (h.1 1 0) ≤ x4 → ¬ x4 = x1 → ¬ x4 = x2 → ¬ (h.1 15 x4.toNatClampNeg) = (-1) → ((h.1 15 x4.toNatClampNeg) + (h.1 16 x4.toNatClampNeg)) = (h.1 15 x2.toNatClampNeg) → V X m_X5_onSome R (ZM X Q nx sz mc ms) (nx, sz, mc, ms) 29 [some (.ref 13), some (.int x1), some (.int x2), some (.int (x3 ||| ((1 : Int32) <<< ((x4 : Int32) &&& 31)))), some (.int (x4 + 1)), none] [] h) : V X m_X5_onSome R (ZM X Q nx sz mc ms) (nx, sz, mc, ms) 29 [some (.ref 13), some (.int x1), some (.int x2), some (.int x3), some (.int x4), none] [] h := by
  refine v_iload dX5_onSome_29 rfl ?_
  refine v_aload_n dX5_onSome_31 rfl ?_
  refine v_getR dX5_onSome_32 fl_RX5_31 kd_13 (ltA hA0 rfl) rfl (hF 13 0 1 rfl) ?_
  refine v_getI dX5_onSome_35 fl_RX5_35 kd_1 (ltA hA0 rfl) rfl ?_
  refine v_icmp_ge (tgt := 113) dX5_onSome_38 (by decide) (fun c0 => ?_) (fun c0 => ?_)
  · refine v_iload_n dX5_onSome_113 rfl ?_
    exact v_iret dX5_onSome_114 rfl (hq c0)
  · refine v_iload dX5_onSome_41 rfl ?_
    refine v_iload_n dX5_onSome_43 rfl ?_
    refine v_icmp_eq (tgt := 68) dX5_onSome_44 (by decide) (fun c1 => ?_) (fun c1 => ?_)
    · refine v_iconst dX5_onSome_68 ci_0 ?_
      refine v_istore dX5_onSome_69 (by decide) (L' := [some (.ref 13), some (.int x1), some (.int x2), some (.int x3), some (.int x4), some (.int 0)]) rfl ?_
      refine v_iload dX5_onSome_71 rfl ?_
      refine v_if_eq (tgt := 107) dX5_onSome_73 (by decide) (fun _ => ?_) (fun z => absurd (show ¬ (0 : Int32) = 0 from z) (by decide))
      refine v_iinc (y := (x4 + 1)) dX5_onSome_107 rfl rfl (by decide) (L' := [some (.ref 13), some (.int x1), some (.int x2), some (.int x3), some (.int (x4 + 1)), some (.int 0)]) rfl ?_
      refine v_goto (tgt := 29) dX5_onSome_110 (by decide) ?_
      exact (v_drop (lvLe_s (lvLe_s (lvLe_s (lvLe_s (lvLe_s (lvLe_n lvLe_e)))))) (q c0 c1))
    · refine v_iload dX5_onSome_47 rfl ?_
      refine v_iload_n dX5_onSome_49 rfl ?_
      refine v_icmp_eq (tgt := 68) dX5_onSome_50 (by decide) (fun c2 => ?_) (fun c2 => ?_)
      · refine v_iconst dX5_onSome_68 ci_0 ?_
        refine v_istore dX5_onSome_69 (by decide) (L' := [some (.ref 13), some (.int x1), some (.int x2), some (.int x3), some (.int x4), some (.int 0)]) rfl ?_
        refine v_iload dX5_onSome_71 rfl ?_
        refine v_if_eq (tgt := 107) dX5_onSome_73 (by decide) (fun _ => ?_) (fun z => absurd (show ¬ (0 : Int32) = 0 from z) (by decide))
        refine v_iinc (y := (x4 + 1)) dX5_onSome_107 rfl rfl (by decide) (L' := [some (.ref 13), some (.int x1), some (.int x2), some (.int x3), some (.int (x4 + 1)), some (.int 0)]) rfl ?_
        refine v_goto (tgt := 29) dX5_onSome_110 (by decide) ?_
        exact (v_drop (lvLe_s (lvLe_s (lvLe_s (lvLe_s (lvLe_s (lvLe_n lvLe_e)))))) (q_1 c0 c1 c2))
      · refine v_aload_n dX5_onSome_53 rfl ?_
        refine v_getR dX5_onSome_54 fl_RX5_15 kd_13 (ltA hA0 rfl) rfl (hF 13 2 15 rfl) ?_
        refine v_iload dX5_onSome_57 rfl ?_
        refine v_iald dX5_onSome_59 kd_15 (ltA hA0 rfl) (hi_59 c0 c1 c2) ?_
        refine v_iconst dX5_onSome_60 ci_m1 ?_
        refine v_icmp_eq (tgt := 68) dX5_onSome_61 (by decide) (fun c3 => ?_) (fun c3 => ?_)
        · refine v_iconst dX5_onSome_68 ci_0 ?_
          refine v_istore dX5_onSome_69 (by decide) (L' := [some (.ref 13), some (.int x1), some (.int x2), some (.int x3), some (.int x4), some (.int 0)]) rfl ?_
          refine v_iload dX5_onSome_71 rfl ?_
          refine v_if_eq (tgt := 107) dX5_onSome_73 (by decide) (fun _ => ?_) (fun z => absurd (show ¬ (0 : Int32) = 0 from z) (by decide))
          refine v_iinc (y := (x4 + 1)) dX5_onSome_107 rfl rfl (by decide) (L' := [some (.ref 13), some (.int x1), some (.int x2), some (.int x3), some (.int (x4 + 1)), some (.int 0)]) rfl ?_
          refine v_goto (tgt := 29) dX5_onSome_110 (by decide) ?_
          exact (v_drop (lvLe_s (lvLe_s (lvLe_s (lvLe_s (lvLe_s (lvLe_n lvLe_e)))))) (q_2 c0 c1 c2 c3))
        · refine v_iconst dX5_onSome_64 ci_1 ?_
          refine v_goto (tgt := 69) dX5_onSome_65 (by decide) ?_
          refine v_istore dX5_onSome_69 (by decide) (L' := [some (.ref 13), some (.int x1), some (.int x2), some (.int x3), some (.int x4), some (.int 1)]) rfl ?_
          refine v_iload dX5_onSome_71 rfl ?_
          refine v_if_eq (tgt := 107) dX5_onSome_73 (by decide) (fun z => absurd (show (1 : Int32) = 0 from z) (by decide)) (fun _ => ?_)
          refine v_aload_n dX5_onSome_76 rfl ?_
          refine v_getR dX5_onSome_77 fl_RX5_15 kd_13 (ltA hA0 rfl) rfl (hF 13 2 15 rfl) ?_
          refine v_iload dX5_onSome_80 rfl ?_
          refine v_iald dX5_onSome_82 kd_15 (ltA hA0 rfl) (hi_82 c0 c1 c2 c3) ?_
          refine v_aload_n dX5_onSome_83 rfl ?_
          refine v_getR dX5_onSome_84 fl_RX5_19 kd_13 (ltA hA0 rfl) rfl (hF 13 3 16 rfl) ?_
          refine v_iload dX5_onSome_87 rfl ?_
          refine v_iald dX5_onSome_89 kd_16 (ltA hA0 rfl) (hi_89 c0 c1 c2 c3) ?_
          refine v_iadd dX5_onSome_90 ?_
          refine v_aload_n dX5_onSome_91 rfl ?_
          refine v_getR dX5_onSome_92 fl_RX5_15 kd_13 (ltA hA0 rfl) rfl (hF 13 2 15 rfl) ?_
          refine v_iload_n dX5_onSome_95 rfl ?_
          refine v_iald dX5_onSome_96 kd_15 (ltA hA0 rfl) (hi_96 c0 c1 c2 c3) ?_
          refine v_icmp_ne (tgt := 107) dX5_onSome_97 (by decide) (fun c4 => ?_) (fun c4 => ?_)
          · refine v_iinc (y := (x4 + 1)) dX5_onSome_107 rfl rfl (by decide) (L' := [some (.ref 13), some (.int x1), some (.int x2), some (.int x3), some (.int (x4 + 1)), some (.int 1)]) rfl ?_
            refine v_goto (tgt := 29) dX5_onSome_110 (by decide) ?_
            exact (v_drop (lvLe_s (lvLe_s (lvLe_s (lvLe_s (lvLe_s (lvLe_n lvLe_e)))))) (q_3 c0 c1 c2 c3 c4))
          · refine v_iload_n dX5_onSome_100 rfl ?_
            refine v_iconst dX5_onSome_101 ci_1 ?_
            refine v_iload dX5_onSome_102 rfl ?_
            refine v_ishl dX5_onSome_104 ?_
            refine v_ior dX5_onSome_105 ?_
            refine v_istore_n dX5_onSome_106 (by decide) (L' := [some (.ref 13), some (.int x1), some (.int x2), some (.int (x3 ||| ((1 : Int32) <<< ((x4 : Int32) &&& 31)))), some (.int x4), some (.int 1)]) rfl ?_
            refine v_iinc (y := (x4 + 1)) dX5_onSome_107 rfl rfl (by decide) (L' := [some (.ref 13), some (.int x1), some (.int x2), some (.int (x3 ||| ((1 : Int32) <<< ((x4 : Int32) &&& 31)))), some (.int (x4 + 1)), some (.int 1)]) rfl ?_
            refine v_goto (tgt := 29) dX5_onSome_110 (by decide) ?_
            exact (v_drop (lvLe_s (lvLe_s (lvLe_s (lvLe_s (lvLe_s (lvLe_n lvLe_e)))))) (q_4 c0 c1 c2 c3 c4))
theorem e_X5_loadOf {X : CX} {d nx sz : Nat} {Q : Option Value → AH → Prop} {h : AH} {x1 x2 : Int32} (q : V X m_X5_loadOf (rm d 0 0) (ZM X Q nx sz 0 0) (nx, sz, 0, 0) 0 [some (.ref 13), some (.int x1), some (.int x2), none, none, none] [] h) : Mk X d m_X5_loadOf [.ref 13, .int x1, .int x2] h nx sz Q := by
  refine Mok.ofV mo_X5_loadOf (Nat.le_of_ble_eq_true rfl) (L := [some (.ref 13), some (.int x1), some (.int x2)]) (lvLe_s (lvLe_s (lvLe_s lvLe_e))) (v_grow (n := 3) ?_)
  exact q
theorem c_X5_loadOf_0 {X : CX} {R : Room} {Z : ZX} {A : AX} {h : AH} {x1 x2 : Int32} (q : V X m_X5_loadOf R Z A 5 [some (.ref 13), some (.int x1), some (.int x2), some (.int 0), some (.int 0), none] [] h) : V X m_X5_loadOf R Z A 0 [some (.ref 13), some (.int x1), some (.int x2), none, none, none] [] h := by
  refine v_iconst dX5_loadOf_0 ci_0 ?_
  refine v_istore_n dX5_loadOf_1 (by decide) (L' := [some (.ref 13), some (.int x1), some (.int x2), some (.int 0), none, none]) rfl ?_
  refine v_iconst dX5_loadOf_2 ci_0 ?_
  refine v_istore dX5_loadOf_3 (by decide) (L' := [some (.ref 13), some (.int x1), some (.int x2), some (.int 0), some (.int 0), none]) rfl ?_
  exact q
theorem c_X5_loadOf_5 {X : CX} {R : Room} {Q : Option Value → AH → Prop} {nx sz mc ms : Nat} {h : AH} {x1 x2 x3 x4 : Int32} {d : Nat} {P27 : AH → Prop} (hA0 : 91 ≤ nx) (hF : Fx h) (hR : RO R (d + 1)) (hcs : mc ≤ R.cells ∧ ms ≤ R.slots) (hq : (h.1 1 0) ≤ x4 → Q (some (.int (x3 / 2))) h) (hM : ¬ (h.1 1 0) ≤ x4 → Mk X d m_X3_measure [.ref 1, .int x4, .ref 15] h nx sz (RV P27)) (q : ¬ (h.1 1 0) ≤ x4 → ∀ (g : AH), P27 g → V X m_X5_loadOf R (ZM X Q nx sz mc ms) (nx, sz, mc, ms) 30 [some (.ref 13), some (.int x1), some (.int x2), some (.int x3), some (.int x4), none] [] g) : V X m_X5_loadOf R (ZM X Q nx sz mc ms) (nx, sz, mc, ms) 5 [some (.ref 13), some (.int x1), some (.int x2), some (.int x3), some (.int x4), none] [] h := by
  refine v_iload dX5_loadOf_5 rfl ?_
  refine v_aload_n dX5_loadOf_7 rfl ?_
  refine v_getR dX5_loadOf_8 fl_RX5_31 kd_13 (ltA hA0 rfl) rfl (hF 13 0 1 rfl) ?_
  refine v_getI dX5_loadOf_11 fl_RX5_35 kd_1 (ltA hA0 rfl) rfl ?_
  refine v_icmp_ge (tgt := 113) dX5_loadOf_14 (by decide) (fun c0 => ?_) (fun c0 => ?_)
  · refine v_iload_n dX5_loadOf_113 rfl ?_
    refine v_iconst dX5_loadOf_114 ci_2 ?_
    refine v_idiv dX5_loadOf_115 (by decide) ?_
    exact v_iret dX5_loadOf_116 rfl (hq c0)
  · refine v_aload_n dX5_loadOf_17 rfl ?_
    refine v_getR dX5_loadOf_18 fl_RX5_31 kd_13 (ltA hA0 rfl) rfl (hF 13 0 1 rfl) ?_
    refine v_iload dX5_loadOf_21 rfl ?_
    refine v_aload_n dX5_loadOf_23 rfl ?_
    refine v_getR dX5_loadOf_24 fl_RX5_15 kd_13 (ltA hA0 rfl) rfl (hF 13 2 15 rfl) ?_
    exact v_cVV (mt := m_X5_loadOf) mo_X3_measure ml_RX5_59 mi_X3_measure mv_X3_measure rfl kd_1 cl_3 rfl (ltA hA0 rfl) hR hcs (Nat.le_of_ble_eq_true rfl) dX5_loadOf_27 rfl (hM c0) (fun g hp => ((q c0) g hp))
theorem c_X5_loadOf_30 {X : CX} {R : Room} {Z : ZX} {A : AX} {h : AH} {x1 x2 x3 x4 : Int32} {d : Nat} {P36 : AH → Prop} (hA0 : 91 ≤ A.1) (hF : Fx h) (hR : RO R (d + 1)) (hcs : A.2.2.1 ≤ R.cells ∧ A.2.2.2 ≤ R.slots) (hM : Mk X d m_X3_part [.ref 1, .int x1, .int x2] h A.1 A.2.1 (RV P36)) (q : ∀ (g : AH), P36 g → V X m_X5_loadOf R Z A 39 [some (.ref 13), some (.int x1), some (.int x2), some (.int x3), some (.int x4), none] [] g) : V X m_X5_loadOf R Z A 30 [some (.ref 13), some (.int x1), some (.int x2), some (.int x3), some (.int x4), none] [] h := by
  refine v_aload_n dX5_loadOf_30 rfl ?_
  refine v_getR dX5_loadOf_31 fl_RX5_31 kd_13 (ltA hA0 rfl) rfl (hF 13 0 1 rfl) ?_
  refine v_iload_n dX5_loadOf_34 rfl ?_
  refine v_iload_n dX5_loadOf_35 rfl ?_
  exact v_cVV (mt := m_X5_loadOf) mo_X3_part ml_RX5_63 mi_X3_part mv_X3_part rfl kd_1 cl_3 rfl (ltA hA0 rfl) hR hcs (Nat.le_of_ble_eq_true rfl) dX5_loadOf_36 rfl hM (fun g hp => (q g hp))
theorem c_X5_loadOf_39 {X : CX} {R : Room} {Z : ZX} {A : AX} {h : AH} {x1 x2 x3 x4 : Int32} {d : Nat} {P49 : AH → Prop} (hA0 : 91 ≤ A.1) (hF : Fx h) (hR : RO R (d + 1)) (hcs : A.2.2.1 ≤ R.cells ∧ A.2.2.2 ≤ R.slots) (hM : Mk X d m_X3_measure [.ref 1, .int x4, .ref 16] h A.1 A.2.1 (RV P49)) (q : ∀ (g : AH), P49 g → V X m_X5_loadOf R Z A 52 [some (.ref 13), some (.int x1), some (.int x2), some (.int x3), some (.int x4), none] [] g) : V X m_X5_loadOf R Z A 39 [some (.ref 13), some (.int x1), some (.int x2), some (.int x3), some (.int x4), none] [] h := by
  refine v_aload_n dX5_loadOf_39 rfl ?_
  refine v_getR dX5_loadOf_40 fl_RX5_31 kd_13 (ltA hA0 rfl) rfl (hF 13 0 1 rfl) ?_
  refine v_iload dX5_loadOf_43 rfl ?_
  refine v_aload_n dX5_loadOf_45 rfl ?_
  refine v_getR dX5_loadOf_46 fl_RX5_19 kd_13 (ltA hA0 rfl) rfl (hF 13 3 16 rfl) ?_
  exact v_cVV (mt := m_X5_loadOf) mo_X3_measure ml_RX5_59 mi_X3_measure mv_X3_measure rfl kd_1 cl_3 rfl (ltA hA0 rfl) hR hcs (Nat.le_of_ble_eq_true rfl) dX5_loadOf_49 rfl hM (fun g hp => (q g hp))
theorem c_X5_loadOf_52 {X : CX} {R : Room} {Z : ZX} {A : AX} {h : AH} {x1 x2 x3 x4 : Int32} {d : Nat} {P58 : AH → Prop} (hA0 : 91 ≤ A.1) (hF : Fx h) (hR : RO R (d + 1)) (hcs : A.2.2.1 ≤ R.cells ∧ A.2.2.2 ≤ R.slots) (hM : Mk X d m_X3_join [.ref 1, .int x1, .int x2] h A.1 A.2.1 (RV P58)) (q : ∀ (g : AH), P58 g → V X m_X5_loadOf R Z A 61 [some (.ref 13), some (.int x1), some (.int x2), some (.int x3), some (.int x4), none] [] g) : V X m_X5_loadOf R Z A 52 [some (.ref 13), some (.int x1), some (.int x2), some (.int x3), some (.int x4), none] [] h := by
  refine v_aload_n dX5_loadOf_52 rfl ?_
  refine v_getR dX5_loadOf_53 fl_RX5_31 kd_13 (ltA hA0 rfl) rfl (hF 13 0 1 rfl) ?_
  refine v_iload_n dX5_loadOf_56 rfl ?_
  refine v_iload_n dX5_loadOf_57 rfl ?_
  exact v_cVV (mt := m_X5_loadOf) mo_X3_join ml_RX5_67 mi_X3_join mv_X3_join rfl kd_1 cl_3 rfl (ltA hA0 rfl) hR hcs (Nat.le_of_ble_eq_true rfl) dX5_loadOf_58 rfl hM (fun g hp => (q g hp))
theorem c_X5_loadOf_61 {X : CX} {R : Room} {Z : ZX} {A : AX} {h : AH} {x1 x2 x3 x4 : Int32} (q : V X m_X5_loadOf R Z A 64 [some (.ref 13), some (.int x1), some (.int x2), some (.int x3), some (.int x4), some (.int 0)] [] h) : V X m_X5_loadOf R Z A 61 [some (.ref 13), some (.int x1), some (.int x2), some (.int x3), some (.int x4), none] [] h := by
  refine v_iconst dX5_loadOf_61 ci_0 ?_
  refine v_istore dX5_loadOf_62 (by decide) (L' := [some (.ref 13), some (.int x1), some (.int x2), some (.int x3), some (.int x4), some (.int 0)]) rfl ?_
  exact q
theorem c_X5_loadOf_64 {X : CX} {R : Room} {Z : ZX} {A : AX} {h : AH} {x1 x2 x3 x4 x5 : Int32} (hA0 : 91 ≤ A.1) (hF : Fx h) (q : (h.1 1 0) ≤ x5 → V X m_X5_loadOf R Z A 5 [some (.ref 13), some (.int x1), some (.int x2), some (.int x3), some (.int (x4 + 1)), none] [] h) (hi_83 : ¬ (h.1 1 0) ≤ x5 → vp_in x5 20) (hi_90 : ¬ (h.1 1 0) ≤ x5 → vp_in x5 20) (q_1 : ¬ (h.1 1 0) ≤ x5 → (h.1 15 x5.toNatClampNeg) = (h.1 16 x5.toNatClampNeg) → V X m_X5_loadOf R Z A 64 [some (.ref 13), some (.int x1), some (.int x2), some (.int (x3 + 0)), some (.int x4), some (.int (x5 + 1))] [] h) (q_2 : ¬ (h.1 1 0) ≤ x5 → ¬ (h.1 15 x5.toNatClampNeg) = (h.1 16 x5.toNatClampNeg) → V X m_X5_loadOf R Z A 64 [some (.ref 13), some (.int x1), some (.int x2), some (.int (x3 + 1)), some (.int x4), some (.int (x5 + 1))] [] h) : V X m_X5_loadOf R Z A 64 [some (.ref 13), some (.int x1), some (.int x2), some (.int x3), some (.int x4), some (.int x5)] [] h := by
  refine v_iload dX5_loadOf_64 rfl ?_
  refine v_aload_n dX5_loadOf_66 rfl ?_
  refine v_getR dX5_loadOf_67 fl_RX5_31 kd_13 (ltA hA0 rfl) rfl (hF 13 0 1 rfl) ?_
  refine v_getI dX5_loadOf_70 fl_RX5_35 kd_1 (ltA hA0 rfl) rfl ?_
  refine v_icmp_ge (tgt := 107) dX5_loadOf_73 (by decide) (fun c0 => ?_) (fun c0 => ?_)
  · refine v_iinc (y := (x4 + 1)) dX5_loadOf_107 rfl rfl (by decide) (L' := [some (.ref 13), some (.int x1), some (.int x2), some (.int x3), some (.int (x4 + 1)), some (.int x5)]) rfl ?_
    refine v_goto (tgt := 5) dX5_loadOf_110 (by decide) ?_
    exact (v_drop (lvLe_s (lvLe_s (lvLe_s (lvLe_s (lvLe_s (lvLe_n lvLe_e)))))) (q c0))
  · refine v_iload_n dX5_loadOf_76 rfl ?_
    refine v_aload_n dX5_loadOf_77 rfl ?_
    refine v_getR dX5_loadOf_78 fl_RX5_15 kd_13 (ltA hA0 rfl) rfl (hF 13 2 15 rfl) ?_
    refine v_iload dX5_loadOf_81 rfl ?_
    refine v_iald dX5_loadOf_83 kd_15 (ltA hA0 rfl) (hi_83 c0) ?_
    refine v_aload_n dX5_loadOf_84 rfl ?_
    refine v_getR dX5_loadOf_85 fl_RX5_19 kd_13 (ltA hA0 rfl) rfl (hF 13 3 16 rfl) ?_
    refine v_iload dX5_loadOf_88 rfl ?_
    refine v_iald dX5_loadOf_90 kd_16 (ltA hA0 rfl) (hi_90 c0) ?_
    refine v_icmp_eq (tgt := 98) dX5_loadOf_91 (by decide) (fun c1 => ?_) (fun c1 => ?_)
    · refine v_iconst dX5_loadOf_98 ci_0 ?_
      refine v_iadd dX5_loadOf_99 ?_
      refine v_istore_n dX5_loadOf_100 (by decide) (L' := [some (.ref 13), some (.int x1), some (.int x2), some (.int (x3 + 0)), some (.int x4), some (.int x5)]) rfl ?_
      refine v_iinc (y := (x5 + 1)) dX5_loadOf_101 rfl rfl (by decide) (L' := [some (.ref 13), some (.int x1), some (.int x2), some (.int (x3 + 0)), some (.int x4), some (.int (x5 + 1))]) rfl ?_
      refine v_goto (tgt := 64) dX5_loadOf_104 (by decide) ?_
      exact (q_1 c0 c1)
    · refine v_iconst dX5_loadOf_94 ci_1 ?_
      refine v_goto (tgt := 99) dX5_loadOf_95 (by decide) ?_
      refine v_iadd dX5_loadOf_99 ?_
      refine v_istore_n dX5_loadOf_100 (by decide) (L' := [some (.ref 13), some (.int x1), some (.int x2), some (.int (x3 + 1)), some (.int x4), some (.int x5)]) rfl ?_
      refine v_iinc (y := (x5 + 1)) dX5_loadOf_101 rfl rfl (by decide) (L' := [some (.ref 13), some (.int x1), some (.int x2), some (.int (x3 + 1)), some (.int x4), some (.int (x5 + 1))]) rfl ?_
      refine v_goto (tgt := 64) dX5_loadOf_104 (by decide) ?_
      exact (q_2 c0 c1)
theorem e_X5_rowsApart {X : CX} {d nx sz : Nat} {Q : Option Value → AH → Prop} {h : AH} {x1 x2 : Int32} (q : V X m_X5_rowsApart (rm d 0 0) (ZM X Q nx sz 0 0) (nx, sz, 0, 0) 0 [some (.ref 13), some (.int x1), some (.int x2), none] [] h) : Mk X d m_X5_rowsApart [.ref 13, .int x1, .int x2] h nx sz Q := by
  refine Mok.ofV mo_X5_rowsApart (Nat.le_of_ble_eq_true rfl) (L := [some (.ref 13), some (.int x1), some (.int x2)]) (lvLe_s (lvLe_s (lvLe_s lvLe_e))) (v_grow (n := 1) ?_)
  exact q
theorem c_X5_rowsApart_0 {X : CX} {R : Room} {Z : ZX} {A : AX} {h : AH} {x1 x2 : Int32} (q : V X m_X5_rowsApart R Z A 2 [some (.ref 13), some (.int x1), some (.int x2), some (.int 0)] [] h) : V X m_X5_rowsApart R Z A 0 [some (.ref 13), some (.int x1), some (.int x2), none] [] h := by
  refine v_iconst dX5_rowsApart_0 ci_0 ?_
  refine v_istore_n dX5_rowsApart_1 (by decide) (L' := [some (.ref 13), some (.int x1), some (.int x2), some (.int 0)]) rfl ?_
  exact q
theorem c_X5_rowsApart_2 {X : CX} {R : Room} {Z : ZX} {A : AX} {h : AH} {x1 x2 x3 : Int32} (hA0 : 91 ≤ A.1) (hF : Fx h) (q : (h.1 1 0) ≤ x3 → V X m_X5_rowsApart R Z A 52 [some (.ref 13), some (.int x1), some (.int x2), some (.int 0)] [] h) (hi_24 : ¬ (h.1 1 0) ≤ x3 → vp_in x3 40) (hi_41 : ¬ (h.1 1 0) ≤ x3 → vp_in x3 20) (hi_43 : ¬ (h.1 1 0) ≤ x3 → vp_in (20 + x3) 40) (q_1 : ¬ (h.1 1 0) ≤ x3 → V X m_X5_rowsApart R Z A 2 [some (.ref 13), some (.int x1), some (.int x2), some (.int (x3 + 1))] [] (setL (setL h 17 x3.toNatClampNeg ((1 : Int64) <<< (((20 + x3) : Int32).toInt64 &&& 63))) 17 (20 + x3).toNatClampNeg (((h.1 2 x3.toNatClampNeg) : Int32).toInt64))) : V X m_X5_rowsApart R Z A 2 [some (.ref 13), some (.int x1), some (.int x2), some (.int x3)] [] h := by
  refine v_iload_n dX5_rowsApart_2 rfl ?_
  refine v_aload_n dX5_rowsApart_3 rfl ?_
  refine v_getR dX5_rowsApart_4 fl_RX5_31 kd_13 (ltA hA0 rfl) rfl (hF 13 0 1 rfl) ?_
  refine v_getI dX5_rowsApart_7 fl_RX5_35 kd_1 (ltA hA0 rfl) rfl ?_
  refine v_icmp_ge (tgt := 50) dX5_rowsApart_10 (by decide) (fun c0 => ?_) (fun c0 => ?_)
  · refine v_iconst dX5_rowsApart_50 ci_0 ?_
    refine v_istore_n dX5_rowsApart_51 (by decide) (L' := [some (.ref 13), some (.int x1), some (.int x2), some (.int 0)]) rfl ?_
    exact (q c0)
  · refine v_aload_n dX5_rowsApart_13 rfl ?_
    refine v_getR dX5_rowsApart_14 fl_RX5_22 kd_13 (ltA hA0 rfl) rfl (hF 13 4 17 rfl) ?_
    refine v_iload_n dX5_rowsApart_17 rfl ?_
    refine v_lconst dX5_rowsApart_18 cl_l1 ?_
    refine v_bipush dX5_rowsApart_19 cb_20 ?_
    refine v_iload_n dX5_rowsApart_21 rfl ?_
    refine v_iadd dX5_rowsApart_22 ?_
    refine v_lshl dX5_rowsApart_23 ?_
    refine v_last dX5_rowsApart_24 kd_17 (ltA hA0 rfl) (hi_24 c0) ?_
    refine v_aload_n dX5_rowsApart_25 rfl ?_
    refine v_getR dX5_rowsApart_26 fl_RX5_22 kd_13 (ltA hA0 rfl) rfl (hF 13 4 17 rfl) ?_
    refine v_bipush dX5_rowsApart_29 cb_20 ?_
    refine v_iload_n dX5_rowsApart_31 rfl ?_
    refine v_iadd dX5_rowsApart_32 ?_
    refine v_aload_n dX5_rowsApart_33 rfl ?_
    refine v_getR dX5_rowsApart_34 fl_RX5_31 kd_13 (ltA hA0 rfl) rfl (hF 13 0 1 rfl) ?_
    refine v_getR dX5_rowsApart_37 fl_RX5_48 kd_1 (ltA hA0 rfl) rfl (hF 1 2 2 rfl) ?_
    refine v_iload_n dX5_rowsApart_40 rfl ?_
    refine v_iald dX5_rowsApart_41 kd_2 (ltA hA0 rfl) (hi_41 c0) ?_
    refine v_i2l dX5_rowsApart_42 ?_
    refine v_last dX5_rowsApart_43 kd_17 (ltA hA0 rfl) (hi_43 c0) ?_
    refine v_iinc (y := (x3 + 1)) dX5_rowsApart_44 rfl rfl (by decide) (L' := [some (.ref 13), some (.int x1), some (.int x2), some (.int (x3 + 1))]) rfl ?_
    refine v_goto (tgt := 2) dX5_rowsApart_47 (by decide) ?_
    exact (q_1 c0)
theorem c_X5_rowsApart_52 {X : CX} {R : Room} {Q : Option Value → AH → Prop} {nx sz mc ms : Nat} {h : AH} {x1 x2 x3 : Int32} {d : Nat} {P69 : Int32 → AH → Prop} (hA0 : 91 ≤ nx) (hF : Fx h) (hR : RO R (d + 1)) (hcs : mc ≤ R.cells ∧ ms ≤ R.slots) (hq : (h.1 1 0) ≤ x3 → Q (some (.int (h.1 1 0))) h) (hM : ¬ (h.1 1 0) ≤ x3 → Mk X d m_X5_findRow [.ref 13, .int (20 + x1), .int x2] h nx sz (RI P69)) (q : ¬ (h.1 1 0) ≤ x3 → ∀ (y : Int32) (g : AH), P69 y g → V X m_X5_rowsApart R (ZM X Q nx sz mc ms) (nx, sz, mc, ms) 72 [some (.ref 13), some (.int x1), some (.int x2), some (.int x3)] [.int y] g) : V X m_X5_rowsApart R (ZM X Q nx sz mc ms) (nx, sz, mc, ms) 52 [some (.ref 13), some (.int x1), some (.int x2), some (.int x3)] [] h := by
  refine v_iload_n dX5_rowsApart_52 rfl ?_
  refine v_aload_n dX5_rowsApart_53 rfl ?_
  refine v_getR dX5_rowsApart_54 fl_RX5_31 kd_13 (ltA hA0 rfl) rfl (hF 13 0 1 rfl) ?_
  refine v_getI dX5_rowsApart_57 fl_RX5_35 kd_1 (ltA hA0 rfl) rfl ?_
  refine v_icmp_ge (tgt := 92) dX5_rowsApart_60 (by decide) (fun c0 => ?_) (fun c0 => ?_)
  · refine v_aload_n dX5_rowsApart_92 rfl ?_
    refine v_getR dX5_rowsApart_93 fl_RX5_31 kd_13 (ltA hA0 rfl) rfl (hF 13 0 1 rfl) ?_
    refine v_getI dX5_rowsApart_96 fl_RX5_35 kd_1 (ltA hA0 rfl) rfl ?_
    exact v_iret dX5_rowsApart_99 rfl (hq c0)
  · refine v_aload_n dX5_rowsApart_63 rfl ?_
    refine v_bipush dX5_rowsApart_64 cb_20 ?_
    refine v_iload_n dX5_rowsApart_66 rfl ?_
    refine v_iadd dX5_rowsApart_67 ?_
    refine v_iload_n dX5_rowsApart_68 rfl ?_
    exact v_cVI (mt := m_X5_rowsApart) mo_X5_findRow ml_RX5_70 mi_X5_findRow mv_X5_findRow rfl kd_13 cl_5 rfl (ltA hA0 rfl) hR hcs (Nat.le_of_ble_eq_true rfl) dX5_rowsApart_69 rfl (hM c0) (fun y g hp => ((q c0) y g hp))
theorem c_X5_rowsApart_72 {X : CX} {R : Room} {Q : Option Value → AH → Prop} {nx sz mc ms : Nat} {h : AH} {x1 x2 x3 s0 : Int32} {d : Nat} {P83 : AH → Prop} (hA0 : 91 ≤ nx) (hR : RO R (d + 1)) (hcs : mc ≤ R.cells ∧ ms ≤ R.slots) (hM : ¬ s0 = 0 → Mk X d m_X5_turnRow [.ref 13, .int (20 + x1), .int x2] h nx sz (RV P83)) (q : ¬ s0 = 0 → ∀ (g : AH), P83 g → V X m_X5_rowsApart R (ZM X Q nx sz mc ms) (nx, sz, mc, ms) 86 [some (.ref 13), some (.int x1), some (.int x2), some (.int x3)] [] g) (hq : s0 = 0 → Q (some (.int x3)) h) : V X m_X5_rowsApart R (ZM X Q nx sz mc ms) (nx, sz, mc, ms) 72 [some (.ref 13), some (.int x1), some (.int x2), some (.int x3)] [.int s0] h := by
  refine v_if_ne (tgt := 77) dX5_rowsApart_72 (by decide) (fun c0 => ?_) (fun c0 => ?_)
  · refine v_aload_n dX5_rowsApart_77 rfl ?_
    refine v_bipush dX5_rowsApart_78 cb_20 ?_
    refine v_iload_n dX5_rowsApart_80 rfl ?_
    refine v_iadd dX5_rowsApart_81 ?_
    refine v_iload_n dX5_rowsApart_82 rfl ?_
    exact v_cVV (mt := m_X5_rowsApart) mo_X5_turnRow ml_RX5_74 mi_X5_turnRow mv_X5_turnRow rfl kd_13 cl_5 rfl (ltA hA0 rfl) hR hcs (Nat.le_of_ble_eq_true rfl) dX5_rowsApart_83 rfl (hM c0) (fun g hp => ((q c0) g hp))
  · refine v_iload_n dX5_rowsApart_75 rfl ?_
    exact v_iret dX5_rowsApart_76 rfl (hq c0)
theorem c_X5_rowsApart_86 {X : CX} {R : Room} {Z : ZX} {A : AX} {h : AH} {x1 x2 x3 : Int32} (q : V X m_X5_rowsApart R Z A 52 [some (.ref 13), some (.int x1), some (.int x2), some (.int (x3 + 1))] [] h) : V X m_X5_rowsApart R Z A 86 [some (.ref 13), some (.int x1), some (.int x2), some (.int x3)] [] h := by
  refine v_iinc (y := (x3 + 1)) dX5_rowsApart_86 rfl rfl (by decide) (L' := [some (.ref 13), some (.int x1), some (.int x2), some (.int (x3 + 1))]) rfl ?_
  refine v_goto (tgt := 52) dX5_rowsApart_89 (by decide) ?_
  exact q
theorem e_X5_findRow {X : CX} {d nx sz : Nat} {Q : Option Value → AH → Prop} {h : AH} {x1 x2 : Int32} (q : V X m_X5_findRow (rm d 0 0) (ZM X Q nx sz 0 0) (nx, sz, 0, 0) 0 [some (.ref 13), some (.int x1), some (.int x2), none, none, none, none, none, none] [] h) : Mk X d m_X5_findRow [.ref 13, .int x1, .int x2] h nx sz Q := by
  refine Mok.ofV mo_X5_findRow (Nat.le_of_ble_eq_true rfl) (L := [some (.ref 13), some (.int x1), some (.int x2)]) (lvLe_s (lvLe_s (lvLe_s lvLe_e))) (v_grow (n := 6) ?_)
  exact q
theorem c_X5_findRow_0 {X : CX} {R : Room} {Z : ZX} {A : AX} {h : AH} {x1 x2 : Int32} (hA0 : 91 ≤ A.1) (hF : Fx h) (q : V X m_X5_findRow R Z A 17 [some (.ref 13), none, some (.int x2), some (.long ((1 : Int64) <<< ((x1 : Int32).toInt64 &&& 63))), none, some (.int 1), some (.int 0), none, none] [] (setI h 19 0 x1)) : V X m_X5_findRow R Z A 0 [some (.ref 13), some (.int x1), some (.int x2), none, none, none, none, none, none] [] h := by
  refine v_lconst dX5_findRow_0 cl_l1 ?_
  refine v_iload_n dX5_findRow_1 rfl ?_
  refine v_lshl dX5_findRow_2 ?_
  refine v_lstore_n dX5_findRow_3 (by decide) (L' := [some (.ref 13), some (.int x1), some (.int x2), some (.long ((1 : Int64) <<< ((x1 : Int32).toInt64 &&& 63))), none, none, none, none, none]) rfl ?_
  refine v_aload_n dX5_findRow_4 rfl ?_
  refine v_getR dX5_findRow_5 fl_RX5_28 kd_13 (ltA hA0 rfl) rfl (hF 13 6 19 rfl) ?_
  refine v_iconst dX5_findRow_8 ci_0 ?_
  refine v_iload_n dX5_findRow_9 rfl ?_
  refine v_iast dX5_findRow_10 kd_19 (ltA hA0 rfl) (vp_lit (by decide)) ?_
  refine v_iconst dX5_findRow_11 ci_1 ?_
  refine v_istore dX5_findRow_12 (by decide) (L' := [some (.ref 13), some (.int x1), some (.int x2), some (.long ((1 : Int64) <<< ((x1 : Int32).toInt64 &&& 63))), none, some (.int 1), none, none, none]) rfl ?_
  refine v_iconst dX5_findRow_14 ci_0 ?_
  refine v_istore dX5_findRow_15 (by decide) (L' := [some (.ref 13), some (.int x1), some (.int x2), some (.long ((1 : Int64) <<< ((x1 : Int32).toInt64 &&& 63))), none, some (.int 1), some (.int 0), none, none]) rfl ?_
  exact (v_drop (lvLe_s (lvLe_n (lvLe_s (lvLe_s (lvLe_n (lvLe_s (lvLe_s (lvLe_n (lvLe_n lvLe_e))))))))) q)
theorem c_X5_findRow_17 {X : CX} {R : Room} {Q : Option Value → AH → Prop} {nx sz mc ms : Nat} {h : AH} {x2 x5 x6 : Int32} {j3 : Int64} (hA0 : 91 ≤ nx) (hF : Fx h) (hq : x5 ≤ x6 → Q (some (.int 0)) h) (hq_1 : ¬ x5 ≤ x6 → 40 ≤ x6 → Q (some (.int 0)) h) (hi_37 : ¬ x5 ≤ x6 → ¬ 40 ≤ x6 → vp_in x6 40) (q : ¬ x5 ≤ x6 → ¬ 40 ≤ x6 → V X m_X5_findRow R (ZM X Q nx sz mc ms) (nx, sz, mc, ms) 43 [some (.ref 13), none, some (.int x2), some (.long j3), none, some (.int x5), some (.int x6), some (.int (h.1 19 x6.toNatClampNeg)), some (.int 0)] [] h) : V X m_X5_findRow R (ZM X Q nx sz mc ms) (nx, sz, mc, ms) 17 [some (.ref 13), none, some (.int x2), some (.long j3), none, some (.int x5), some (.int x6), none, none] [] h := by
  refine v_iload dX5_findRow_17 rfl ?_
  refine v_iload dX5_findRow_19 rfl ?_
  refine v_icmp_ge (tgt := 132) dX5_findRow_21 (by decide) (fun c0 => ?_) (fun c0 => ?_)
  · refine v_iconst dX5_findRow_132 ci_0 ?_
    exact v_zret (ty := .boolean) dX5_findRow_133 rfl rfl (hq c0)
  · refine v_iload dX5_findRow_24 rfl ?_
    refine v_bipush dX5_findRow_26 cb_40 ?_
    refine v_icmp_ge (tgt := 132) dX5_findRow_28 (by decide) (fun c1 => ?_) (fun c1 => ?_)
    · refine v_iconst dX5_findRow_132 ci_0 ?_
      exact v_zret (ty := .boolean) dX5_findRow_133 rfl rfl (hq_1 c0 c1)
    · refine v_aload_n dX5_findRow_31 rfl ?_
      refine v_getR dX5_findRow_32 fl_RX5_28 kd_13 (ltA hA0 rfl) rfl (hF 13 6 19 rfl) ?_
      refine v_iload dX5_findRow_35 rfl ?_
      refine v_iald dX5_findRow_37 kd_19 (ltA hA0 rfl) (hi_37 c0 c1) ?_
      refine v_istore dX5_findRow_38 (by decide) (L' := [some (.ref 13), none, some (.int x2), some (.long j3), none, some (.int x5), some (.int x6), some (.int (h.1 19 x6.toNatClampNeg)), none]) rfl ?_
      refine v_iconst dX5_findRow_40 ci_0 ?_
      refine v_istore dX5_findRow_41 (by decide) (L' := [some (.ref 13), none, some (.int x2), some (.long j3), none, some (.int x5), some (.int x6), some (.int (h.1 19 x6.toNatClampNeg)), some (.int 0)]) rfl ?_
      exact (q c0 c1)
theorem c_X5_findRow_43 {X : CX} {R : Room} {Q : Option Value → AH → Prop} {nx sz mc ms : Nat} {h : AH} {x2 x5 x6 x7 x8 : Int32} {j3 : Int64} (hA0 : 91 ≤ nx) (hF : Fx h) (q : 40 ≤ x8 → (lg_cmp (j3 &&& ((1 : Int64) <<< ((x2 : Int32).toInt64 &&& 63))) 0) = 0 → V X m_X5_findRow R (ZM X Q nx sz mc ms) (nx, sz, mc, ms) 17 [some (.ref 13), none, some (.int x2), some (.long j3), none, some (.int x5), some (.int (x6 + 1)), none, none] [] h) (hq : 40 ≤ x8 → ¬ (lg_cmp (j3 &&& ((1 : Int64) <<< ((x2 : Int32).toInt64 &&& 63))) 0) = 0 → Q (some (.int 1)) h) (hi_56 : ¬ 40 ≤ x8 → vp_in x7 40) (q_1 : ¬ 40 ≤ x8 → (lg_cmp (((h.2.1 17 x7.toNatClampNeg) &&& (j3 ^^^ (-1))) &&& ((1 : Int64) <<< ((x8 : Int32).toInt64 &&& 63))) 0) = 0 → V X m_X5_findRow R (ZM X Q nx sz mc ms) (nx, sz, mc, ms) 43 [some (.ref 13), none, some (.int x2), some (.long j3), none, some (.int x5), some (.int x6), some (.int x7), some (.int (x8 + 1))] [] h) (q_2 : ¬ 40 ≤ x8 → ¬ (lg_cmp (((h.2.1 17 x7.toNatClampNeg) &&& (j3 ^^^ (-1))) &&& ((1 : Int64) <<< ((x8 : Int32).toInt64 &&& 63))) 0) = 0 → 40 ≤ x5 → V X m_X5_findRow R (ZM X Q nx sz mc ms) (nx, sz, mc, ms) 43 [some (.ref 13), none, some (.int x2), some (.long j3), none, some (.int x5), some (.int x6), some (.int x7), some (.int (x8 + 1))] [] h) (hi_95 : ¬ 40 ≤ x8 → ¬ (lg_cmp (((h.2.1 17 x7.toNatClampNeg) &&& (j3 ^^^ (-1))) &&& ((1 : Int64) <<< ((x8 : Int32).toInt64 &&& 63))) 0) = 0 → ¬ 40 ≤ x5 → vp_in x8 40) (hi_107 : ¬ 40 ≤ x8 → ¬ (lg_cmp (((h.2.1 17 x7.toNatClampNeg) &&& (j3 ^^^ (-1))) &&& ((1 : Int64) <<< ((x8 : Int32).toInt64 &&& 63))) 0) = 0 → ¬ 40 ≤ x5 → vp_in x5 40) (q_3 : ¬ 40 ≤ x8 → ¬ (lg_cmp (((h.2.1 17 x7.toNatClampNeg) &&& (j3 ^^^ (-1))) &&& ((1 : Int64) <<< ((x8 : Int32).toInt64 &&& 63))) 0) = 0 → ¬ 40 ≤ x5 → V X m_X5_findRow R (ZM X Q nx sz mc ms) (nx, sz, mc, ms) 43 [some (.ref 13), none, some (.int x2), some (.long (j3 ||| ((1 : Int64) <<< ((x8 : Int32).toInt64 &&& 63)))), none, some (.int (x5 + 1)), some (.int x6), some (.int x7), some (.int (x8 + 1))] [] (setI (setI h 18 x8.toNatClampNeg x7) 19 x5.toNatClampNeg x8)) : V X m_X5_findRow R (ZM X Q nx sz mc ms) (nx, sz, mc, ms) 43 [some (.ref 13), none, some (.int x2), some (.long j3), none, some (.int x5), some (.int x6), some (.int x7), some (.int x8)] [] h := by
  refine v_iload dX5_findRow_43 rfl ?_
  refine v_bipush dX5_findRow_45 cb_40 ?_
  refine v_icmp_ge (tgt := 114) dX5_findRow_47 (by decide) (fun c0 => ?_) (fun c0 => ?_)
  · refine v_lload_n dX5_findRow_114 rfl ?_
    refine v_lconst dX5_findRow_115 cl_l1 ?_
    refine v_iload_n dX5_findRow_116 rfl ?_
    refine v_lshl dX5_findRow_117 ?_
    refine v_land dX5_findRow_118 ?_
    refine v_lconst dX5_findRow_119 cl_l0 ?_
    refine v_lcmp dX5_findRow_120 ?_
    refine v_if_eq (tgt := 126) dX5_findRow_121 (by decide) (fun c1 => ?_) (fun c1 => ?_)
    · refine v_iinc (y := (x6 + 1)) dX5_findRow_126 rfl rfl (by decide) (L' := [some (.ref 13), none, some (.int x2), some (.long j3), none, some (.int x5), some (.int (x6 + 1)), some (.int x7), some (.int x8)]) rfl ?_
      refine v_goto (tgt := 17) dX5_findRow_129 (by decide) ?_
      exact (v_drop (lvLe_s (lvLe_n (lvLe_s (lvLe_s (lvLe_n (lvLe_s (lvLe_s (lvLe_n (lvLe_n lvLe_e))))))))) (q c0 c1))
    · refine v_iconst dX5_findRow_124 ci_1 ?_
      exact v_zret (ty := .boolean) dX5_findRow_125 rfl rfl (hq c0 c1)
  · refine v_aload_n dX5_findRow_50 rfl ?_
    refine v_getR dX5_findRow_51 fl_RX5_22 kd_13 (ltA hA0 rfl) rfl (hF 13 4 17 rfl) ?_
    refine v_iload dX5_findRow_54 rfl ?_
    refine v_lald dX5_findRow_56 kd_17 (ltA hA0 rfl) (hi_56 c0) ?_
    refine v_lload_n dX5_findRow_57 rfl ?_
    refine v_ldc2 dX5_findRow_58 kl_RX5_77 ?_
    refine v_lxor dX5_findRow_61 ?_
    refine v_land dX5_findRow_62 ?_
    refine v_lconst dX5_findRow_63 cl_l1 ?_
    refine v_iload dX5_findRow_64 rfl ?_
    refine v_lshl dX5_findRow_66 ?_
    refine v_land dX5_findRow_67 ?_
    refine v_lconst dX5_findRow_68 cl_l0 ?_
    refine v_lcmp dX5_findRow_69 ?_
    refine v_if_eq (tgt := 108) dX5_findRow_70 (by decide) (fun c1 => ?_) (fun c1 => ?_)
    · refine v_iinc (y := (x8 + 1)) dX5_findRow_108 rfl rfl (by decide) (L' := [some (.ref 13), none, some (.int x2), some (.long j3), none, some (.int x5), some (.int x6), some (.int x7), some (.int (x8 + 1))]) rfl ?_
      refine v_goto (tgt := 43) dX5_findRow_111 (by decide) ?_
      exact (q_1 c0 c1)
    · refine v_iload dX5_findRow_73 rfl ?_
      refine v_bipush dX5_findRow_75 cb_40 ?_
      refine v_icmp_ge (tgt := 108) dX5_findRow_77 (by decide) (fun c2 => ?_) (fun c2 => ?_)
      · refine v_iinc (y := (x8 + 1)) dX5_findRow_108 rfl rfl (by decide) (L' := [some (.ref 13), none, some (.int x2), some (.long j3), none, some (.int x5), some (.int x6), some (.int x7), some (.int (x8 + 1))]) rfl ?_
        refine v_goto (tgt := 43) dX5_findRow_111 (by decide) ?_
        exact (q_2 c0 c1 c2)
      · refine v_lload_n dX5_findRow_80 rfl ?_
        refine v_lconst dX5_findRow_81 cl_l1 ?_
        refine v_iload dX5_findRow_82 rfl ?_
        refine v_lshl dX5_findRow_84 ?_
        refine v_lor dX5_findRow_85 ?_
        refine v_lstore_n dX5_findRow_86 (by decide) (L' := [some (.ref 13), none, some (.int x2), some (.long (j3 ||| ((1 : Int64) <<< ((x8 : Int32).toInt64 &&& 63)))), none, some (.int x5), some (.int x6), some (.int x7), some (.int x8)]) rfl ?_
        refine v_aload_n dX5_findRow_87 rfl ?_
        refine v_getR dX5_findRow_88 fl_RX5_25 kd_13 (ltA hA0 rfl) rfl (hF 13 5 18 rfl) ?_
        refine v_iload dX5_findRow_91 rfl ?_
        refine v_iload dX5_findRow_93 rfl ?_
        refine v_iast dX5_findRow_95 kd_18 (ltA hA0 rfl) (hi_95 c0 c1 c2) ?_
        refine v_aload_n dX5_findRow_96 rfl ?_
        refine v_getR dX5_findRow_97 fl_RX5_28 kd_13 (ltA hA0 rfl) rfl (hF 13 6 19 rfl) ?_
        refine v_iload dX5_findRow_100 rfl ?_
        refine v_iinc (y := (x5 + 1)) dX5_findRow_102 rfl rfl (by decide) (L' := [some (.ref 13), none, some (.int x2), some (.long (j3 ||| ((1 : Int64) <<< ((x8 : Int32).toInt64 &&& 63)))), none, some (.int (x5 + 1)), some (.int x6), some (.int x7), some (.int x8)]) rfl ?_
        refine v_iload dX5_findRow_105 rfl ?_
        refine v_iast dX5_findRow_107 kd_19 (ltA hA0 rfl) (hi_107 c0 c1 c2) ?_
        refine v_iinc (y := (x8 + 1)) dX5_findRow_108 rfl rfl (by decide) (L' := [some (.ref 13), none, some (.int x2), some (.long (j3 ||| ((1 : Int64) <<< ((x8 : Int32).toInt64 &&& 63)))), none, some (.int (x5 + 1)), some (.int x6), some (.int x7), some (.int (x8 + 1))]) rfl ?_
        refine v_goto (tgt := 43) dX5_findRow_111 (by decide) ?_
        exact (q_3 c0 c1 c2)
theorem e_X5_turnRow {X : CX} {d nx sz : Nat} {Q : Option Value → AH → Prop} {h : AH} {x1 x2 : Int32} (q : V X m_X5_turnRow (rm d 0 0) (ZM X Q nx sz 0 0) (nx, sz, 0, 0) 0 [some (.ref 13), some (.int x1), some (.int x2), none, none, none] [] h) : Mk X d m_X5_turnRow [.ref 13, .int x1, .int x2] h nx sz Q := by
  refine Mok.ofV mo_X5_turnRow (Nat.le_of_ble_eq_true rfl) (L := [some (.ref 13), some (.int x1), some (.int x2)]) (lvLe_s (lvLe_s (lvLe_s lvLe_e))) (v_grow (n := 3) ?_)
  exact q
theorem c_X5_turnRow_0 {X : CX} {R : Room} {Z : ZX} {A : AX} {h : AH} {x1 x2 : Int32} (q : V X m_X5_turnRow R Z A 5 [some (.ref 13), some (.int x1), none, some (.int x2), some (.int 0), none] [] h) : V X m_X5_turnRow R Z A 0 [some (.ref 13), some (.int x1), some (.int x2), none, none, none] [] h := by
  refine v_iload_n dX5_turnRow_0 rfl ?_
  refine v_istore_n dX5_turnRow_1 (by decide) (L' := [some (.ref 13), some (.int x1), some (.int x2), some (.int x2), none, none]) rfl ?_
  refine v_iconst dX5_turnRow_2 ci_0 ?_
  refine v_istore dX5_turnRow_3 (by decide) (L' := [some (.ref 13), some (.int x1), some (.int x2), some (.int x2), some (.int 0), none]) rfl ?_
  exact (v_drop (lvLe_s (lvLe_s (lvLe_n (lvLe_s (lvLe_s (lvLe_n lvLe_e)))))) q)
theorem c_X5_turnRow_5 {X : CX} {R : Room} {Q : Option Value → AH → Prop} {nx sz mc ms : Nat} {h : AH} {x1 x3 x4 : Int32} (hA0 : 91 ≤ nx) (hF : Fx h) (hq : 40 ≤ x4 → Q none h) (hq_1 : ¬ 40 ≤ x4 → x3 = x1 → Q none h) (hi_22 : ¬ 40 ≤ x4 → ¬ x3 = x1 → vp_in x3 40) (hi_32 : ¬ 40 ≤ x4 → ¬ x3 = x1 → vp_in (h.1 18 x3.toNatClampNeg) 40) (hi_41 : ¬ 40 ≤ x4 → ¬ x3 = x1 → vp_in (h.1 18 x3.toNatClampNeg) 40) (hi_48 : ¬ 40 ≤ x4 → ¬ x3 = x1 → vp_in x3 40) (hi_54 : ¬ 40 ≤ x4 → ¬ x3 = x1 → vp_in x3 40) (q : ¬ 40 ≤ x4 → ¬ x3 = x1 → V X m_X5_turnRow R (ZM X Q nx sz mc ms) (nx, sz, mc, ms) 5 [some (.ref 13), some (.int x1), none, some (.int (h.1 18 x3.toNatClampNeg)), some (.int (x4 + 1)), none] [] (setL (setL h 17 (h.1 18 x3.toNatClampNeg).toNatClampNeg ((h.2.1 17 (h.1 18 x3.toNatClampNeg).toNatClampNeg) &&& (((1 : Int64) <<< ((x3 : Int32).toInt64 &&& 63)) ^^^ (-1)))) 17 x3.toNatClampNeg (((setL h 17 (h.1 18 x3.toNatClampNeg).toNatClampNeg ((h.2.1 17 (h.1 18 x3.toNatClampNeg).toNatClampNeg) &&& (((1 : Int64) <<< ((x3 : Int32).toInt64 &&& 63)) ^^^ (-1)))).2.1 17 x3.toNatClampNeg) ||| ((1 : Int64) <<< (((h.1 18 x3.toNatClampNeg) : Int32).toInt64 &&& 63))))) : V X m_X5_turnRow R (ZM X Q nx sz mc ms) (nx, sz, mc, ms) 5 [some (.ref 13), some (.int x1), none, some (.int x3), some (.int x4), none] [] h := by
  refine v_iload dX5_turnRow_5 rfl ?_
  refine v_bipush dX5_turnRow_7 cb_40 ?_
  refine v_icmp_ge (tgt := 64) dX5_turnRow_9 (by decide) (fun c0 => ?_) (fun c0 => ?_)
  · exact v_vret dX5_turnRow_64 rfl (hq c0)
  · refine v_iload_n dX5_turnRow_12 rfl ?_
    refine v_iload_n dX5_turnRow_13 rfl ?_
    refine v_icmp_eq (tgt := 64) dX5_turnRow_14 (by decide) (fun c1 => ?_) (fun c1 => ?_)
    · exact v_vret dX5_turnRow_64 rfl (hq_1 c0 c1)
    · refine v_aload_n dX5_turnRow_17 rfl ?_
      refine v_getR dX5_turnRow_18 fl_RX5_25 kd_13 (ltA hA0 rfl) rfl (hF 13 5 18 rfl) ?_
      refine v_iload_n dX5_turnRow_21 rfl ?_
      refine v_iald dX5_turnRow_22 kd_18 (ltA hA0 rfl) (hi_22 c0 c1) ?_
      refine v_istore dX5_turnRow_23 (by decide) (L' := [some (.ref 13), some (.int x1), none, some (.int x3), some (.int x4), some (.int (h.1 18 x3.toNatClampNeg))]) rfl ?_
      refine v_aload_n dX5_turnRow_25 rfl ?_
      refine v_getR dX5_turnRow_26 fl_RX5_22 kd_13 (ltA hA0 rfl) rfl (hF 13 4 17 rfl) ?_
      refine v_iload dX5_turnRow_29 rfl ?_
      refine v_dup2 dX5_turnRow_31 rfl rfl ?_
      refine v_lald dX5_turnRow_32 kd_17 (ltA hA0 rfl) (hi_32 c0 c1) ?_
      refine v_lconst dX5_turnRow_33 cl_l1 ?_
      refine v_iload_n dX5_turnRow_34 rfl ?_
      refine v_lshl dX5_turnRow_35 ?_
      refine v_ldc2 dX5_turnRow_36 kl_RX5_77 ?_
      refine v_lxor dX5_turnRow_39 ?_
      refine v_land dX5_turnRow_40 ?_
      refine v_last dX5_turnRow_41 kd_17 (ltA hA0 rfl) (hi_41 c0 c1) ?_
      refine v_aload_n dX5_turnRow_42 rfl ?_
      refine v_getR dX5_turnRow_43 fl_RX5_22 kd_13 (ltA hA0 rfl) rfl (hF 13 4 17 rfl) ?_
      refine v_iload_n dX5_turnRow_46 rfl ?_
      refine v_dup2 dX5_turnRow_47 rfl rfl ?_
      refine v_lald dX5_turnRow_48 kd_17 (ltA hA0 rfl) (hi_48 c0 c1) ?_
      refine v_lconst dX5_turnRow_49 cl_l1 ?_
      refine v_iload dX5_turnRow_50 rfl ?_
      refine v_lshl dX5_turnRow_52 ?_
      refine v_lor dX5_turnRow_53 ?_
      refine v_last dX5_turnRow_54 kd_17 (ltA hA0 rfl) (hi_54 c0 c1) ?_
      refine v_iload dX5_turnRow_55 rfl ?_
      refine v_istore_n dX5_turnRow_57 (by decide) (L' := [some (.ref 13), some (.int x1), none, some (.int (h.1 18 x3.toNatClampNeg)), some (.int x4), some (.int (h.1 18 x3.toNatClampNeg))]) rfl ?_
      refine v_iinc (y := (x4 + 1)) dX5_turnRow_58 rfl rfl (by decide) (L' := [some (.ref 13), some (.int x1), none, some (.int (h.1 18 x3.toNatClampNeg)), some (.int (x4 + 1)), some (.int (h.1 18 x3.toNatClampNeg))]) rfl ?_
      refine v_goto (tgt := 5) dX5_turnRow_61 (by decide) ?_
      exact (v_drop (lvLe_s (lvLe_s (lvLe_n (lvLe_s (lvLe_s (lvLe_n lvLe_e)))))) (q c0 c1))
theorem e_X9_circle {X : CX} {d nx sz : Nat} {Q : Option Value → AH → Prop} {h : AH} (q : V X m_X9_circle (rm d 0 0) (ZM X Q nx sz 0 0) (nx, sz, 0, 0) 0 [some (.ref 21)] [] h) : Mk X d m_X9_circle [.ref 21] h nx sz Q := by
  refine Mok.ofV mo_X9_circle (Nat.le_of_ble_eq_true rfl) (L := [some (.ref 21)]) (lvLe_s lvLe_e) (v_grow (n := 0) ?_)
  exact q
theorem c_X9_circle_0 {X : CX} {R : Room} {Z : ZX} {A : AX} {h : AH} {d : Nat} {P17 : Int32 → AH → Prop} (hA0 : 91 ≤ A.1) (hF : Fx h) (hR : RO R (d + 1)) (hcs : A.2.2.1 ≤ R.cells ∧ A.2.2.2 ≤ R.slots) (hM : Mk X d m_X9_grow [.ref 2, .int 0, .int 0, .int (h.1 1 1), .int 0] h A.1 A.2.1 (RI P17)) (q : ∀ (y : Int32) (g : AH), P17 y g → V X m_X9_circle R Z A 20 [none] [.int y] g) : V X m_X9_circle R Z A 0 [some (.ref 21)] [] h := by
  refine v_aload_n dX9_circle_0 rfl ?_
  refine v_getR dX9_circle_1 fl_RX9_9 kd_21 (ltA hA0 rfl) rfl (hF 21 0 1 rfl) ?_
  refine v_getR dX9_circle_4 fl_RX9_25 kd_1 (ltA hA0 rfl) rfl (hF 1 2 2 rfl) ?_
  refine v_iconst dX9_circle_7 ci_0 ?_
  refine v_iconst dX9_circle_8 ci_0 ?_
  refine v_aload_n dX9_circle_9 rfl ?_
  refine v_getR dX9_circle_10 fl_RX9_9 kd_21 (ltA hA0 rfl) rfl (hF 21 0 1 rfl) ?_
  refine v_getI dX9_circle_13 fl_RX9_28 kd_1 (ltA hA0 rfl) rfl ?_
  refine v_iconst dX9_circle_16 ci_0 ?_
  exact v_cSI (mt := m_X9_circle) mo_X9_grow ml_RX9_31 mz_X9_grow rfl hR hcs (Nat.le_of_ble_eq_true rfl) dX9_circle_17 rfl hM (fun y g hp => (v_drop (lvLe_n lvLe_e) (q y g hp)))
theorem c_X9_circle_20 {X : CX} {R : Room} {Q : Option Value → AH → Prop} {nx sz mc ms : Nat} {h : AH} {s0 : Int32} (hq : Q (some (.int s0)) h) : V X m_X9_circle R (ZM X Q nx sz mc ms) (nx, sz, mc, ms) 20 [none] [.int s0] h := by
  exact v_iret dX9_circle_20 rfl hq
theorem e_X9_apartness {X : CX} {d nx sz : Nat} {Q : Option Value → AH → Prop} {h : AH} (q : V X m_X9_apartness (rm d 0 0) (ZM X Q nx sz 0 0) (nx, sz, 0, 0) 0 [some (.ref 21), none] [] h) : Mk X d m_X9_apartness [.ref 21] h nx sz Q := by
  refine Mok.ofV mo_X9_apartness (Nat.le_of_ble_eq_true rfl) (L := [some (.ref 21)]) (lvLe_s lvLe_e) (v_grow (n := 1) ?_)
  exact q
theorem c_X9_apartness_0 {X : CX} {R : Room} {Z : ZX} {A : AX} {h : AH} (q : V X m_X9_apartness R Z A 2 [some (.ref 21), some (.int 0)] [] h) : V X m_X9_apartness R Z A 0 [some (.ref 21), none] [] h := by
  refine v_iconst dX9_apartness_0 ci_0 ?_
  refine v_istore_n dX9_apartness_1 (by decide) (L' := [some (.ref 21), some (.int 0)]) rfl ?_
  exact q
theorem c_X9_apartness_2 {X : CX} {R : Room} {Z : ZX} {A : AX} {h : AH} {x1 : Int32} {d : Nat} {P62 : Int32 → AH → Prop} (hA0 : 91 ≤ A.1) (hF : Fx h) (hR : RO R (d + 1)) (hcs : A.2.2.1 ≤ R.cells ∧ A.2.2.2 ≤ R.slots) (hM : (Int32.ofNat (nX X)) ≤ x1 → Mk X d m_X9_grow [.ref 22, .int 0, .int 0, .int (h.1 1 1), .int 0] h A.1 A.2.1 (RI P62)) (q : (Int32.ofNat (nX X)) ≤ x1 → ∀ (y : Int32) (g : AH), P62 y g → V X m_X9_apartness R Z A 65 [none, none] [.int y] g) (hi_31 : ¬ (Int32.ofNat (nX X)) ≤ x1 → vp_in x1 20) (hi_41 : ¬ (Int32.ofNat (nX X)) ≤ x1 → vp_in x1 (nX X)) (q_1 : ¬ (Int32.ofNat (nX X)) ≤ x1 → V X m_X9_apartness R Z A 2 [some (.ref 21), some (.int (x1 + 1))] [] (setI h 22 x1.toNatClampNeg (((h.1 1 1) &&& ((h.1 2 x1.toNatClampNeg) ^^^ (-1))) &&& (((1 : Int32) <<< ((x1 : Int32) &&& 31)) ^^^ (-1))))) : V X m_X9_apartness R Z A 2 [some (.ref 21), some (.int x1)] [] h := by
  refine v_iload_n dX9_apartness_2 rfl ?_
  refine v_aload_n dX9_apartness_3 rfl ?_
  refine v_getR dX9_apartness_4 fl_RX9_21 kd_21 (ltA hA0 rfl) rfl (hF 21 1 22 rfl) ?_
  refine v_alen (v := Int32.ofNat (nX X)) dX9_apartness_7 kd_22 ⟨by decide, by decide⟩ (ltA hA0 rfl) rfl ?_
  refine v_icmp_ge (tgt := 48) dX9_apartness_8 (by decide) (fun c0 => ?_) (fun c0 => ?_)
  · refine v_aload_n dX9_apartness_48 rfl ?_
    refine v_getR dX9_apartness_49 fl_RX9_21 kd_21 (ltA hA0 rfl) rfl (hF 21 1 22 rfl) ?_
    refine v_iconst dX9_apartness_52 ci_0 ?_
    refine v_iconst dX9_apartness_53 ci_0 ?_
    refine v_aload_n dX9_apartness_54 rfl ?_
    refine v_getR dX9_apartness_55 fl_RX9_9 kd_21 (ltA hA0 rfl) rfl (hF 21 0 1 rfl) ?_
    refine v_getI dX9_apartness_58 fl_RX9_28 kd_1 (ltA hA0 rfl) rfl ?_
    refine v_iconst dX9_apartness_61 ci_0 ?_
    exact v_cSI (mt := m_X9_apartness) mo_X9_grow ml_RX9_31 mz_X9_grow rfl hR hcs (Nat.le_of_ble_eq_true rfl) dX9_apartness_62 rfl (hM c0) (fun y g hp => (v_drop (lvLe_n (lvLe_n lvLe_e)) ((q c0) y g hp)))
  · refine v_aload_n dX9_apartness_11 rfl ?_
    refine v_getR dX9_apartness_12 fl_RX9_21 kd_21 (ltA hA0 rfl) rfl (hF 21 1 22 rfl) ?_
    refine v_iload_n dX9_apartness_15 rfl ?_
    refine v_aload_n dX9_apartness_16 rfl ?_
    refine v_getR dX9_apartness_17 fl_RX9_9 kd_21 (ltA hA0 rfl) rfl (hF 21 0 1 rfl) ?_
    refine v_getI dX9_apartness_20 fl_RX9_28 kd_1 (ltA hA0 rfl) rfl ?_
    refine v_aload_n dX9_apartness_23 rfl ?_
    refine v_getR dX9_apartness_24 fl_RX9_9 kd_21 (ltA hA0 rfl) rfl (hF 21 0 1 rfl) ?_
    refine v_getR dX9_apartness_27 fl_RX9_25 kd_1 (ltA hA0 rfl) rfl (hF 1 2 2 rfl) ?_
    refine v_iload_n dX9_apartness_30 rfl ?_
    refine v_iald dX9_apartness_31 kd_2 (ltA hA0 rfl) (hi_31 c0) ?_
    refine v_iconst dX9_apartness_32 ci_m1 ?_
    refine v_ixor dX9_apartness_33 ?_
    refine v_iand dX9_apartness_34 ?_
    refine v_iconst dX9_apartness_35 ci_1 ?_
    refine v_iload_n dX9_apartness_36 rfl ?_
    refine v_ishl dX9_apartness_37 ?_
    refine v_iconst dX9_apartness_38 ci_m1 ?_
    refine v_ixor dX9_apartness_39 ?_
    refine v_iand dX9_apartness_40 ?_
    refine v_iast dX9_apartness_41 kd_22 (ltA hA0 rfl) (hi_41 c0) ?_
    refine v_iinc (y := (x1 + 1)) dX9_apartness_42 rfl rfl (by decide) (L' := [some (.ref 21), some (.int (x1 + 1))]) rfl ?_
    refine v_goto (tgt := 2) dX9_apartness_45 (by decide) ?_
    exact (q_1 c0)
theorem c_X9_apartness_65 {X : CX} {R : Room} {Q : Option Value → AH → Prop} {nx sz mc ms : Nat} {h : AH} {s0 : Int32} (hq : Q (some (.int s0)) h) : V X m_X9_apartness R (ZM X Q nx sz mc ms) (nx, sz, mc, ms) 65 [none, none] [.int s0] h := by
  exact v_iret dX9_apartness_65 rfl hq
theorem e_X9_grow {X : CX} {d nx sz : Nat} {Q : Option Value → AH → Prop} {h : AH} {r0 n_r0 : Nat} {x1 x2 x3 x4 : Int32} (q : V X m_X9_grow (rm d 0 0) (ZM X Q nx sz 0 0) (nx, sz, 0, 0) 0 [some (.ref r0), some (.int x1), some (.int x2), some (.int x3), some (.int x4), none, none, none] [] h) : Mk X d m_X9_grow [.ref r0, .int x1, .int x2, .int x3, .int x4] h nx sz Q := by
  refine Mok.ofV mo_X9_grow (Nat.le_of_ble_eq_true rfl) (L := [some (.ref r0), some (.int x1), some (.int x2), some (.int x3), some (.int x4)]) (lvLe_s (lvLe_s (lvLe_s (lvLe_s (lvLe_s lvLe_e))))) (v_grow (n := 3) ?_)
  exact q
theorem c_X9_grow_0 {X : CX} {R : Room} {Z : ZX} {A : AX} {h : AH} {r0 n_r0 d : Nat} {x1 x2 x3 x4 : Int32} {P3 : Int32 → AH → Prop} (hR : RO R (d + 1)) (hcs : A.2.2.1 ≤ R.cells ∧ A.2.2.2 ≤ R.slots) (hM : Mk X d m_J6_bitCount_0f7a4 [.int x4] h A.1 A.2.1 (RI P3)) (q : ∀ (y : Int32) (g : AH), P3 y g → V X m_X9_grow R Z A 6 [some (.ref r0), some (.int x1), some (.int x2), some (.int x3), some (.int x4), none, none, none] [.int y, .int x1] g) : V X m_X9_grow R Z A 0 [some (.ref r0), some (.int x1), some (.int x2), some (.int x3), some (.int x4), none, none, none] [] h := by
  refine v_iload_n dX9_grow_0 rfl ?_
  refine v_iload dX9_grow_1 rfl ?_
  exact v_cSI (mt := m_X9_grow) mo_J6_bitCount_0f7a4 ml_RX9_35 mz_J6_bitCount_0f7a4 rfl hR hcs (Nat.le_of_ble_eq_true rfl) dX9_grow_3 rfl hM (fun y g hp => (q y g hp))
theorem c_X9_grow_6 {X : CX} {R : Room} {Z : ZX} {A : AX} {h : AH} {r0 n_r0 : Nat} {x1 x2 x3 x4 s0 s1 : Int32} (q : s0 ≤ s1 → V X m_X9_grow R Z A 23 [some (.ref r0), some (.int x1), some (.int x2), none, none, some (.int x4), some (.int x3), some (.int 0)] [] h) (q_1 : ¬ s0 ≤ s1 → V X m_X9_grow R Z A 23 [some (.ref r0), some (.int x1), some (.int x2), none, none, some (.int x2), some (.int x3), some (.int 0)] [] h) : V X m_X9_grow R Z A 6 [some (.ref r0), some (.int x1), some (.int x2), some (.int x3), some (.int x4), none, none, none] [.int s1, .int s0] h := by
  refine v_icmp_le (tgt := 13) dX9_grow_6 (by decide) (fun c0 => ?_) (fun c0 => ?_)
  · refine v_iload dX9_grow_13 rfl ?_
    refine v_istore dX9_grow_15 (by decide) (L' := [some (.ref r0), some (.int x1), some (.int x2), some (.int x3), some (.int x4), some (.int x4), none, none]) rfl ?_
    refine v_iload_n dX9_grow_17 rfl ?_
    refine v_istore dX9_grow_18 (by decide) (L' := [some (.ref r0), some (.int x1), some (.int x2), some (.int x3), some (.int x4), some (.int x4), some (.int x3), none]) rfl ?_
    refine v_iconst dX9_grow_20 ci_0 ?_
    refine v_istore dX9_grow_21 (by decide) (L' := [some (.ref r0), some (.int x1), some (.int x2), some (.int x3), some (.int x4), some (.int x4), some (.int x3), some (.int 0)]) rfl ?_
    exact (v_drop (lvLe_s (lvLe_s (lvLe_s (lvLe_n (lvLe_n (lvLe_s (lvLe_s (lvLe_s lvLe_e)))))))) (q c0))
  · refine v_iload_n dX9_grow_9 rfl ?_
    refine v_goto (tgt := 15) dX9_grow_10 (by decide) ?_
    refine v_istore dX9_grow_15 (by decide) (L' := [some (.ref r0), some (.int x1), some (.int x2), some (.int x3), some (.int x4), some (.int x2), none, none]) rfl ?_
    refine v_iload_n dX9_grow_17 rfl ?_
    refine v_istore dX9_grow_18 (by decide) (L' := [some (.ref r0), some (.int x1), some (.int x2), some (.int x3), some (.int x4), some (.int x2), some (.int x3), none]) rfl ?_
    refine v_iconst dX9_grow_20 ci_0 ?_
    refine v_istore dX9_grow_21 (by decide) (L' := [some (.ref r0), some (.int x1), some (.int x2), some (.int x3), some (.int x4), some (.int x2), some (.int x3), some (.int 0)]) rfl ?_
    exact (v_drop (lvLe_s (lvLe_s (lvLe_s (lvLe_n (lvLe_n (lvLe_s (lvLe_s (lvLe_s lvLe_e)))))))) (q_1 c0))
theorem c_X9_grow_23 {X : CX} {R : Room} {Q : Option Value → AH → Prop} {nx sz mc ms : Nat} {h : AH} {r0 n_r0 d : Nat} {x1 x2 x5 x6 x7 : Int32} {P39 : Int32 → AH → Prop} (hk_r0 : kd X r0 = (20, n_r0)) (hl_r0 : r0 < nx) (hR : RO R (d + 1)) (hcs : mc ≤ R.cells ∧ ms ≤ R.slots) (hq : (Int32.ofNat n_r0) ≤ x7 → Q (some (.int x5)) h) (hq_1 : ¬ (Int32.ofNat n_r0) ≤ x7 → 20 ≤ x1 → Q (some (.int x5)) h) (hM : ¬ (Int32.ofNat n_r0) ≤ x7 → ¬ 20 ≤ x1 → Mk X d m_J6_bitCount_0f7a4 [.int x6] h nx sz (RI P39)) (q : ¬ (Int32.ofNat n_r0) ≤ x7 → ¬ 20 ≤ x1 → ∀ (y : Int32) (g : AH), P39 y g → V X m_X9_grow R (ZM X Q nx sz mc ms) (nx, sz, mc, ms) 42 [some (.ref r0), some (.int x1), some (.int x2), none, none, some (.int x5), some (.int x6), some (.int x7)] [.int y, .int x1] g) : V X m_X9_grow R (ZM X Q nx sz mc ms) (nx, sz, mc, ms) 23 [some (.ref r0), some (.int x1), some (.int x2), none, none, some (.int x5), some (.int x6), some (.int x7)] [] h := by
  refine v_iload dX9_grow_23 rfl ?_
  refine v_aload_n dX9_grow_25 rfl ?_
  refine v_alen (v := Int32.ofNat n_r0) dX9_grow_26 hk_r0 ⟨by decide, by decide⟩ hl_r0 rfl ?_
  refine v_icmp_ge (tgt := 105) dX9_grow_27 (by decide) (fun c0 => ?_) (fun c0 => ?_)
  · refine v_iload dX9_grow_105 rfl ?_
    exact v_iret dX9_grow_107 rfl (hq c0)
  · refine v_iload_n dX9_grow_30 rfl ?_
    refine v_bipush dX9_grow_31 cb_20 ?_
    refine v_icmp_ge (tgt := 105) dX9_grow_33 (by decide) (fun c1 => ?_) (fun c1 => ?_)
    · refine v_iload dX9_grow_105 rfl ?_
      exact v_iret dX9_grow_107 rfl (hq_1 c0 c1)
    · refine v_iload_n dX9_grow_36 rfl ?_
      refine v_iload dX9_grow_37 rfl ?_
      exact v_cSI (mt := m_X9_grow) mo_J6_bitCount_0f7a4 ml_RX9_35 mz_J6_bitCount_0f7a4 rfl hR hcs (Nat.le_of_ble_eq_true rfl) dX9_grow_39 rfl (hM c0 c1) (fun y g hp => ((q c0 c1) y g hp))
theorem c_X9_grow_42 {X : CX} {R : Room} {Z : ZX} {A : AX} {h : AH} {r0 n_r0 d : Nat} {x1 x2 x5 x6 x7 s0 s1 : Int32} {P45 : Int32 → AH → Prop} (hR : RO R (d + 1)) (hcs : A.2.2.1 ≤ R.cells ∧ A.2.2.2 ≤ R.slots) (hM : Mk X d m_J6_bitCount_0f7a4 [.int x5] h A.1 A.2.1 (RI P45)) (q : ∀ (y : Int32) (g : AH), P45 y g → V X m_X9_grow R Z A 48 [some (.ref r0), some (.int x1), some (.int x2), none, none, some (.int x5), some (.int x6), some (.int x7)] [.int y, .int (s0 + s1)] g) : V X m_X9_grow R Z A 42 [some (.ref r0), some (.int x1), some (.int x2), none, none, some (.int x5), some (.int x6), some (.int x7)] [.int s1, .int s0] h := by
  refine v_iadd dX9_grow_42 ?_
  refine v_iload dX9_grow_43 rfl ?_
  exact v_cSI (mt := m_X9_grow) mo_J6_bitCount_0f7a4 ml_RX9_35 mz_J6_bitCount_0f7a4 rfl hR hcs (Nat.le_of_ble_eq_true rfl) dX9_grow_45 rfl hM (fun y g hp => (q y g hp))
theorem c_X9_grow_48 {X : CX} {R : Room} {Q : Option Value → AH → Prop} {nx sz mc ms : Nat} {h : AH} {r0 n_r0 d : Nat} {x1 x2 x5 x6 x7 s0 s1 : Int32} {P94 : Int32 → AH → Prop} (hk_r0 : kd X r0 = (20, n_r0)) (hl_r0 : r0 < nx) (hR : RO R (d + 1)) (hcs : mc ≤ R.cells ∧ ms ≤ R.slots) (q : s1 < s0 → ((x6 >>> (x7 &&& 31)) &&& 1) = 0 → V X m_X9_grow R (ZM X Q nx sz mc ms) (nx, sz, mc, ms) 23 [some (.ref r0), some (.int x1), some (.int x2), none, none, some (.int x5), some (.int x6), some (.int (x7 + 1))] [] h) (hi_90 : s1 < s0 → ¬ ((x6 >>> (x7 &&& 31)) &&& 1) = 0 → vp_in x7 n_r0) (hM : s1 < s0 → ¬ ((x6 >>> (x7 &&& 31)) &&& 1) = 0 → Mk X d m_X9_grow [.ref r0, .int (x1 + 1), .int (x2 ||| ((1 : Int32) <<< ((x7 : Int32) &&& 31))), .int ((x6 &&& (((1 : Int32) <<< ((x7 : Int32) &&& 31)) ^^^ (-1))) &&& (h.1 r0 x7.toNatClampNeg)), .int x5] h nx sz (RI P94)) (q_1 : s1 < s0 → ¬ ((x6 >>> (x7 &&& 31)) &&& 1) = 0 → ∀ (y : Int32) (g : AH), P94 y g → V X m_X9_grow R (ZM X Q nx sz mc ms) (nx, sz, mc, ms) 97 [some (.ref r0), some (.int x1), some (.int x2), none, none, none, some (.int (x6 &&& (((1 : Int32) <<< ((x7 : Int32) &&& 31)) ^^^ (-1)))), some (.int x7)] [.int y] g) (hq : ¬ s1 < s0 → Q (some (.int x5)) h) : V X m_X9_grow R (ZM X Q nx sz mc ms) (nx, sz, mc, ms) 48 [some (.ref r0), some (.int x1), some (.int x2), none, none, some (.int x5), some (.int x6), some (.int x7)] [.int s1, .int s0] h := by
  refine v_icmp_gt (tgt := 54) dX9_grow_48 (by decide) (fun c0 => ?_) (fun c0 => ?_)
  · refine v_iload dX9_grow_54 rfl ?_
    refine v_iload dX9_grow_56 rfl ?_
    refine v_ishr dX9_grow_58 ?_
    refine v_iconst dX9_grow_59 ci_1 ?_
    refine v_iand dX9_grow_60 ?_
    refine v_if_eq (tgt := 99) dX9_grow_61 (by decide) (fun c1 => ?_) (fun c1 => ?_)
    · refine v_iinc (y := (x7 + 1)) dX9_grow_99 rfl rfl (by decide) (L' := [some (.ref r0), some (.int x1), some (.int x2), none, none, some (.int x5), some (.int x6), some (.int (x7 + 1))]) rfl ?_
      refine v_goto (tgt := 23) dX9_grow_102 (by decide) ?_
      exact (q c0 c1)
    · refine v_iload dX9_grow_64 rfl ?_
      refine v_iconst dX9_grow_66 ci_1 ?_
      refine v_iload dX9_grow_67 rfl ?_
      refine v_ishl dX9_grow_69 ?_
      refine v_iconst dX9_grow_70 ci_m1 ?_
      refine v_ixor dX9_grow_71 ?_
      refine v_iand dX9_grow_72 ?_
      refine v_istore dX9_grow_73 (by decide) (L' := [some (.ref r0), some (.int x1), some (.int x2), none, none, some (.int x5), some (.int (x6 &&& (((1 : Int32) <<< ((x7 : Int32) &&& 31)) ^^^ (-1)))), some (.int x7)]) rfl ?_
      refine v_aload_n dX9_grow_75 rfl ?_
      refine v_iload_n dX9_grow_76 rfl ?_
      refine v_iconst dX9_grow_77 ci_1 ?_
      refine v_iadd dX9_grow_78 ?_
      refine v_iload_n dX9_grow_79 rfl ?_
      refine v_iconst dX9_grow_80 ci_1 ?_
      refine v_iload dX9_grow_81 rfl ?_
      refine v_ishl dX9_grow_83 ?_
      refine v_ior dX9_grow_84 ?_
      refine v_iload dX9_grow_85 rfl ?_
      refine v_aload_n dX9_grow_87 rfl ?_
      refine v_iload dX9_grow_88 rfl ?_
      refine v_iald dX9_grow_90 hk_r0 hl_r0 (hi_90 c0 c1) ?_
      refine v_iand dX9_grow_91 ?_
      refine v_iload dX9_grow_92 rfl ?_
      exact v_cSI (mt := m_X9_grow) mo_X9_grow ml_RX9_31 mz_X9_grow rfl hR hcs (Nat.le_of_ble_eq_true rfl) dX9_grow_94 rfl (hM c0 c1) (fun y g hp => (v_drop (lvLe_s (lvLe_s (lvLe_s (lvLe_n (lvLe_n (lvLe_n (lvLe_s (lvLe_s lvLe_e)))))))) ((q_1 c0 c1) y g hp)))
  · refine v_iload dX9_grow_51 rfl ?_
    exact v_iret dX9_grow_53 rfl (hq c0)
theorem c_X9_grow_97 {X : CX} {R : Room} {Z : ZX} {A : AX} {h : AH} {r0 n_r0 : Nat} {x1 x2 x6 x7 s0 : Int32} (q : V X m_X9_grow R Z A 23 [some (.ref r0), some (.int x1), some (.int x2), none, none, some (.int s0), some (.int x6), some (.int (x7 + 1))] [] h) : V X m_X9_grow R Z A 97 [some (.ref r0), some (.int x1), some (.int x2), none, none, none, some (.int x6), some (.int x7)] [.int s0] h := by
  refine v_istore dX9_grow_97 (by decide) (L' := [some (.ref r0), some (.int x1), some (.int x2), none, none, some (.int s0), some (.int x6), some (.int x7)]) rfl ?_
  refine v_iinc (y := (x7 + 1)) dX9_grow_99 rfl rfl (by decide) (L' := [some (.ref r0), some (.int x1), some (.int x2), none, none, some (.int s0), some (.int x6), some (.int (x7 + 1))]) rfl ?_
  refine v_goto (tgt := 23) dX9_grow_102 (by decide) ?_
  exact q
theorem e_X9_hosts {X : CX} {d nx sz : Nat} {Q : Option Value → AH → Prop} {h : AH} (q : V X m_X9_hosts (rm d 0 0) (ZM X Q nx sz 0 0) (nx, sz, 0, 0) 0 [some (.ref 21), none, none, none] [] h) : Mk X d m_X9_hosts [.ref 21] h nx sz Q := by
  refine Mok.ofV mo_X9_hosts (Nat.le_of_ble_eq_true rfl) (L := [some (.ref 21)]) (lvLe_s lvLe_e) (v_grow (n := 3) ?_)
  exact q
theorem c_X9_hosts_0 {X : CX} {R : Room} {Z : ZX} {A : AX} {h : AH} (q : V X m_X9_hosts R Z A 4 [some (.ref 21), some (.int 1), some (.int 0), none] [] h) : V X m_X9_hosts R Z A 0 [some (.ref 21), none, none, none] [] h := by
  refine v_iconst dX9_hosts_0 ci_1 ?_
  refine v_istore_n dX9_hosts_1 (by decide) (L' := [some (.ref 21), some (.int 1), none, none]) rfl ?_
  refine v_iconst dX9_hosts_2 ci_0 ?_
  refine v_istore_n dX9_hosts_3 (by decide) (L' := [some (.ref 21), some (.int 1), some (.int 0), none]) rfl ?_
  exact q
theorem c_X9_hosts_4 {X : CX} {R : Room} {Z : ZX} {A : AX} {h : AH} {x1 x2 : Int32} {d : Nat} {P39 : Int32 → AH → Prop} (hA0 : 91 ≤ A.1) (hF : Fx h) (hR : RO R (d + 1)) (hcs : A.2.2.1 ≤ R.cells ∧ A.2.2.2 ≤ R.slots) (q : (Int32.ofNat (nX X)) ≤ x2 → V X m_X9_hosts R Z A 54 [some (.ref 21), some (.int x1), some (.int 1), none] [] h) (hi_26 : ¬ (Int32.ofNat (nX X)) ≤ x2 → vp_in x2 20) (hi_31 : ¬ (Int32.ofNat (nX X)) ≤ x2 → vp_in x2 (nX X)) (hi_38 : ¬ (Int32.ofNat (nX X)) ≤ x2 → vp_in x2 (nX X)) (hM : ¬ (Int32.ofNat (nX X)) ≤ x2 → Mk X d m_J6_bitCount_0f7a4 [.int ((setI h 22 x2.toNatClampNeg ((h.1 2 x2.toNatClampNeg) ||| ((1 : Int32) <<< ((x2 : Int32) &&& 31)))).1 22 x2.toNatClampNeg)] (setI h 22 x2.toNatClampNeg ((h.1 2 x2.toNatClampNeg) ||| ((1 : Int32) <<< ((x2 : Int32) &&& 31)))) A.1 A.2.1 (RI P39)) (q_1 : ¬ (Int32.ofNat (nX X)) ≤ x2 → ∀ (y : Int32) (g : AH), P39 y g → V X m_X9_hosts R Z A 42 [some (.ref 21), none, some (.int x2), none] [.int y, .int x1] g) : V X m_X9_hosts R Z A 4 [some (.ref 21), some (.int x1), some (.int x2), none] [] h := by
  refine v_iload_n dX9_hosts_4 rfl ?_
  refine v_aload_n dX9_hosts_5 rfl ?_
  refine v_getR dX9_hosts_6 fl_RX9_21 kd_21 (ltA hA0 rfl) rfl (hF 21 1 22 rfl) ?_
  refine v_alen (v := Int32.ofNat (nX X)) dX9_hosts_9 kd_22 ⟨by decide, by decide⟩ (ltA hA0 rfl) rfl ?_
  refine v_icmp_ge (tgt := 52) dX9_hosts_10 (by decide) (fun c0 => ?_) (fun c0 => ?_)
  · refine v_iconst dX9_hosts_52 ci_1 ?_
    refine v_istore_n dX9_hosts_53 (by decide) (L' := [some (.ref 21), some (.int x1), some (.int 1), none]) rfl ?_
    exact (q c0)
  · refine v_aload_n dX9_hosts_13 rfl ?_
    refine v_getR dX9_hosts_14 fl_RX9_21 kd_21 (ltA hA0 rfl) rfl (hF 21 1 22 rfl) ?_
    refine v_iload_n dX9_hosts_17 rfl ?_
    refine v_aload_n dX9_hosts_18 rfl ?_
    refine v_getR dX9_hosts_19 fl_RX9_9 kd_21 (ltA hA0 rfl) rfl (hF 21 0 1 rfl) ?_
    refine v_getR dX9_hosts_22 fl_RX9_25 kd_1 (ltA hA0 rfl) rfl (hF 1 2 2 rfl) ?_
    refine v_iload_n dX9_hosts_25 rfl ?_
    refine v_iald dX9_hosts_26 kd_2 (ltA hA0 rfl) (hi_26 c0) ?_
    refine v_iconst dX9_hosts_27 ci_1 ?_
    refine v_iload_n dX9_hosts_28 rfl ?_
    refine v_ishl dX9_hosts_29 ?_
    refine v_ior dX9_hosts_30 ?_
    refine v_iast dX9_hosts_31 kd_22 (ltA hA0 rfl) (hi_31 c0) ?_
    refine v_iload_n dX9_hosts_32 rfl ?_
    refine v_aload_n dX9_hosts_33 rfl ?_
    refine v_getR dX9_hosts_34 fl_RX9_21 kd_21 (ltA hA0 rfl) rfl (hF 21 1 22 rfl) ?_
    refine v_iload_n dX9_hosts_37 rfl ?_
    refine v_iald dX9_hosts_38 kd_22 (ltA hA0 rfl) (hi_38 c0) ?_
    exact v_cSI (mt := m_X9_hosts) mo_J6_bitCount_0f7a4 ml_RX9_35 mz_J6_bitCount_0f7a4 rfl hR hcs (Nat.le_of_ble_eq_true rfl) dX9_hosts_39 rfl (hM c0) (fun y g hp => (v_drop (lvLe_s (lvLe_n (lvLe_s (lvLe_n lvLe_e)))) ((q_1 c0) y g hp)))
theorem c_X9_hosts_42 {X : CX} {R : Room} {Z : ZX} {A : AX} {h : AH} {x2 s0 s1 : Int32} {d : Nat} (hR : RO R (d + 1)) (hcs : A.2.2.1 ≤ R.cells ∧ A.2.2.2 ≤ R.slots) (q : V X m_X9_hosts R Z A 4 [some (.ref 21), some (.int (if s0 < s1 then s1 else s0)), some (.int (x2 + 1)), none] [] h) : V X m_X9_hosts R Z A 42 [some (.ref 21), none, some (.int x2), none] [.int s1, .int s0] h := by
  refine v_mmax dX9_hosts_42 ml_RX9_41 mz_mmax in_math mc_mmax (RO_1 hR) hcs (Nat.le_of_ble_eq_true rfl) ?_
  refine v_istore_n dX9_hosts_45 (by decide) (L' := [some (.ref 21), some (.int (if s0 < s1 then s1 else s0)), some (.int x2), none]) rfl ?_
  refine v_iinc (y := (x2 + 1)) dX9_hosts_46 rfl rfl (by decide) (L' := [some (.ref 21), some (.int (if s0 < s1 then s1 else s0)), some (.int (x2 + 1)), none]) rfl ?_
  refine v_goto (tgt := 4) dX9_hosts_49 (by decide) ?_
  exact q
theorem c_X9_hosts_54 {X : CX} {R : Room} {Q : Option Value → AH → Prop} {nx sz mc ms : Nat} {h : AH} {x1 x2 : Int32} {d : Nat} {P80 : Int32 → AH → Prop} (hA0 : 91 ≤ nx) (hF : Fx h) (hR : RO R (d + 1)) (hcs : mc ≤ R.cells ∧ ms ≤ R.slots) (hq : (h.1 1 0) ≤ x2 → Q (some (.int (h.1 1 1))) h) (hM : ¬ (h.1 1 0) ≤ x2 → Mk X d m_X9_cover [.ref 22, .int 0, .int 0, .int (h.1 1 1), .int x2, .int x1] h nx sz (RI P80)) (q : ¬ (h.1 1 0) ≤ x2 → ∀ (y : Int32) (g : AH), P80 y g → V X m_X9_hosts R (ZM X Q nx sz mc ms) (nx, sz, mc, ms) 83 [some (.ref 21), some (.int x1), some (.int x2), none] [.int y] g) : V X m_X9_hosts R (ZM X Q nx sz mc ms) (nx, sz, mc, ms) 54 [some (.ref 21), some (.int x1), some (.int x2), none] [] h := by
  refine v_iload_n dX9_hosts_54 rfl ?_
  refine v_aload_n dX9_hosts_55 rfl ?_
  refine v_getR dX9_hosts_56 fl_RX9_9 kd_21 (ltA hA0 rfl) rfl (hF 21 0 1 rfl) ?_
  refine v_getI dX9_hosts_59 fl_RX9_15 kd_1 (ltA hA0 rfl) rfl ?_
  refine v_icmp_ge (tgt := 97) dX9_hosts_62 (by decide) (fun c0 => ?_) (fun c0 => ?_)
  · refine v_aload_n dX9_hosts_97 rfl ?_
    refine v_getR dX9_hosts_98 fl_RX9_9 kd_21 (ltA hA0 rfl) rfl (hF 21 0 1 rfl) ?_
    refine v_getI dX9_hosts_101 fl_RX9_28 kd_1 (ltA hA0 rfl) rfl ?_
    exact v_iret dX9_hosts_104 rfl (hq c0)
  · refine v_aload_n dX9_hosts_65 rfl ?_
    refine v_getR dX9_hosts_66 fl_RX9_21 kd_21 (ltA hA0 rfl) rfl (hF 21 1 22 rfl) ?_
    refine v_iconst dX9_hosts_69 ci_0 ?_
    refine v_iconst dX9_hosts_70 ci_0 ?_
    refine v_aload_n dX9_hosts_71 rfl ?_
    refine v_getR dX9_hosts_72 fl_RX9_9 kd_21 (ltA hA0 rfl) rfl (hF 21 0 1 rfl) ?_
    refine v_getI dX9_hosts_75 fl_RX9_28 kd_1 (ltA hA0 rfl) rfl ?_
    refine v_iload_n dX9_hosts_78 rfl ?_
    refine v_iload_n dX9_hosts_79 rfl ?_
    exact v_cSI (mt := m_X9_hosts) mo_X9_cover ml_RX9_47 mz_X9_cover rfl hR hcs (Nat.le_of_ble_eq_true rfl) dX9_hosts_80 rfl (hM c0) (fun y g hp => ((q c0) y g hp))
theorem c_X9_hosts_83 {X : CX} {R : Room} {Q : Option Value → AH → Prop} {nx sz mc ms : Nat} {h : AH} {x1 x2 s0 : Int32} (q : s0 = (-1) → V X m_X9_hosts R (ZM X Q nx sz mc ms) (nx, sz, mc, ms) 54 [some (.ref 21), some (.int x1), some (.int (x2 + 1)), none] [] h) (hq : ¬ s0 = (-1) → Q (some (.int s0)) h) : V X m_X9_hosts R (ZM X Q nx sz mc ms) (nx, sz, mc, ms) 83 [some (.ref 21), some (.int x1), some (.int x2), none] [.int s0] h := by
  refine v_istore_n dX9_hosts_83 (by decide) (L' := [some (.ref 21), some (.int x1), some (.int x2), some (.int s0)]) rfl ?_
  refine v_iload_n dX9_hosts_84 rfl ?_
  refine v_iconst dX9_hosts_85 ci_m1 ?_
  refine v_icmp_eq (tgt := 91) dX9_hosts_86 (by decide) (fun c0 => ?_) (fun c0 => ?_)
  · refine v_iinc (y := (x2 + 1)) dX9_hosts_91 rfl rfl (by decide) (L' := [some (.ref 21), some (.int x1), some (.int (x2 + 1)), some (.int s0)]) rfl ?_
    refine v_goto (tgt := 54) dX9_hosts_94 (by decide) ?_
    exact (v_drop (lvLe_s (lvLe_s (lvLe_s (lvLe_n lvLe_e)))) (q c0))
  · refine v_iload_n dX9_hosts_89 rfl ?_
    exact v_iret dX9_hosts_90 rfl (hq c0)
theorem e_X9_cover {X : CX} {d nx sz : Nat} {Q : Option Value → AH → Prop} {h : AH} {r0 n_r0 : Nat} {x1 x2 x3 x4 x5 : Int32} (q : V X m_X9_cover (rm d 0 0) (ZM X Q nx sz 0 0) (nx, sz, 0, 0) 0 [some (.ref r0), some (.int x1), some (.int x2), some (.int x3), some (.int x4), some (.int x5), none] [] h) : Mk X d m_X9_cover [.ref r0, .int x1, .int x2, .int x3, .int x4, .int x5] h nx sz Q := by
  refine Mok.ofV mo_X9_cover (Nat.le_of_ble_eq_true rfl) (L := [some (.ref r0), some (.int x1), some (.int x2), some (.int x3), some (.int x4), some (.int x5)]) (lvLe_s (lvLe_s (lvLe_s (lvLe_s (lvLe_s (lvLe_s lvLe_e)))))) (v_grow (n := 1) ?_)
  exact q
theorem c_X9_cover_0 {X : CX} {R : Room} {Q : Option Value → AH → Prop} {nx sz mc ms : Nat} {h : AH} {r0 n_r0 d : Nat} {x1 x2 x3 x4 x5 : Int32} {P13 : Int32 → AH → Prop} (hk_r0 : kd X r0 = (20, n_r0)) (hl_r0 : r0 < nx) (hR : RO R (d + 1)) (hcs : mc ≤ R.cells ∧ ms ≤ R.slots) (hq : ¬ x3 = 0 → (Int32.ofNat n_r0) ≤ x1 → Q (some (.int (-1))) h) (hM : ¬ x3 = 0 → ¬ (Int32.ofNat n_r0) ≤ x1 → Mk X d m_J6_bitCount_0f7a4 [.int x3] h nx sz (RI P13)) (q : ¬ x3 = 0 → ¬ (Int32.ofNat n_r0) ≤ x1 → ∀ (y : Int32) (g : AH), P13 y g → V X m_X9_cover R (ZM X Q nx sz mc ms) (nx, sz, mc, ms) 16 [some (.ref r0), some (.int x1), some (.int x2), some (.int x3), some (.int x4), some (.int x5), none] [.int y] g) (hq_1 : x3 = 0 → Q (some (.int x2)) h) : V X m_X9_cover R (ZM X Q nx sz mc ms) (nx, sz, mc, ms) 0 [some (.ref r0), some (.int x1), some (.int x2), some (.int x3), some (.int x4), some (.int x5), none] [] h := by
  refine v_iload_n dX9_cover_0 rfl ?_
  refine v_if_ne (tgt := 6) dX9_cover_1 (by decide) (fun c0 => ?_) (fun c0 => ?_)
  · refine v_iload_n dX9_cover_6 rfl ?_
    refine v_aload_n dX9_cover_7 rfl ?_
    refine v_alen (v := Int32.ofNat n_r0) dX9_cover_8 hk_r0 ⟨by decide, by decide⟩ hl_r0 rfl ?_
    refine v_icmp_ge (tgt := 24) dX9_cover_9 (by decide) (fun c1 => ?_) (fun c1 => ?_)
    · refine v_iconst dX9_cover_24 ci_m1 ?_
      exact v_iret dX9_cover_25 rfl (hq c0 c1)
    · refine v_iload_n dX9_cover_12 rfl ?_
      exact v_cSI (mt := m_X9_cover) mo_J6_bitCount_0f7a4 ml_RX9_35 mz_J6_bitCount_0f7a4 rfl hR hcs (Nat.le_of_ble_eq_true rfl) dX9_cover_13 rfl (hM c0 c1) (fun y g hp => ((q c0 c1) y g hp))
  · refine v_iload_n dX9_cover_4 rfl ?_
    exact v_iret dX9_cover_5 rfl (hq_1 c0)
theorem c_X9_cover_16 {X : CX} {R : Room} {Q : Option Value → AH → Prop} {nx sz mc ms : Nat} {h : AH} {r0 n_r0 d : Nat} {x1 x2 x3 x4 x5 s0 : Int32} {P48 : Int32 → AH → Prop} (hk_r0 : kd X r0 = (20, n_r0)) (hl_r0 : r0 < nx) (hR : RO R (d + 1)) (hcs : mc ≤ R.cells ∧ ms ≤ R.slots) (hi_38 : s0 ≤ (x4 * x5) → vp_in x1 n_r0) (hM : s0 ≤ (x4 * x5) → Mk X d m_X9_cover [.ref r0, .int (x1 + 1), .int (x2 ||| ((1 : Int32) <<< ((x1 : Int32) &&& 31))), .int (x3 &&& ((h.1 r0 x1.toNatClampNeg) ^^^ (-1))), .int (x4 - 1), .int x5] h nx sz (RI P48)) (q : s0 ≤ (x4 * x5) → ∀ (y : Int32) (g : AH), P48 y g → V X m_X9_cover R (ZM X Q nx sz mc ms) (nx, sz, mc, ms) 51 [some (.ref r0), some (.int x1), some (.int x2), some (.int x3), some (.int x4), some (.int x5), none] [.int y] g) (hq : ¬ s0 ≤ (x4 * x5) → Q (some (.int (-1))) h) : V X m_X9_cover R (ZM X Q nx sz mc ms) (nx, sz, mc, ms) 16 [some (.ref r0), some (.int x1), some (.int x2), some (.int x3), some (.int x4), some (.int x5), none] [.int s0] h := by
  refine v_iload dX9_cover_16 rfl ?_
  refine v_iload dX9_cover_18 rfl ?_
  refine v_imul dX9_cover_20 ?_
  refine v_icmp_le (tgt := 26) dX9_cover_21 (by decide) (fun c0 => ?_) (fun c0 => ?_)
  · refine v_aload_n dX9_cover_26 rfl ?_
    refine v_iload_n dX9_cover_27 rfl ?_
    refine v_iconst dX9_cover_28 ci_1 ?_
    refine v_iadd dX9_cover_29 ?_
    refine v_iload_n dX9_cover_30 rfl ?_
    refine v_iconst dX9_cover_31 ci_1 ?_
    refine v_iload_n dX9_cover_32 rfl ?_
    refine v_ishl dX9_cover_33 ?_
    refine v_ior dX9_cover_34 ?_
    refine v_iload_n dX9_cover_35 rfl ?_
    refine v_aload_n dX9_cover_36 rfl ?_
    refine v_iload_n dX9_cover_37 rfl ?_
    refine v_iald dX9_cover_38 hk_r0 hl_r0 (hi_38 c0) ?_
    refine v_iconst dX9_cover_39 ci_m1 ?_
    refine v_ixor dX9_cover_40 ?_
    refine v_iand dX9_cover_41 ?_
    refine v_iload dX9_cover_42 rfl ?_
    refine v_iconst dX9_cover_44 ci_1 ?_
    refine v_isub dX9_cover_45 ?_
    refine v_iload dX9_cover_46 rfl ?_
    exact v_cSI (mt := m_X9_cover) mo_X9_cover ml_RX9_47 mz_X9_cover rfl hR hcs (Nat.le_of_ble_eq_true rfl) dX9_cover_48 rfl (hM c0) (fun y g hp => ((q c0) y g hp))
  · refine v_iconst dX9_cover_24 ci_m1 ?_
    exact v_iret dX9_cover_25 rfl (hq c0)
theorem c_X9_cover_51 {X : CX} {R : Room} {Q : Option Value → AH → Prop} {nx sz mc ms : Nat} {h : AH} {r0 n_r0 d : Nat} {x1 x2 x3 x4 x5 s0 : Int32} {P62 : Int32 → AH → Prop} (hR : RO R (d + 1)) (hcs : mc ≤ R.cells ∧ ms ≤ R.slots) (hq : ¬ s0 = (-1) → Q (some (.int s0)) h) (hM : s0 = (-1) → Mk X d m_X9_servedBehind [.ref r0, .int x1, .int x3] h nx sz (RI P62)) (q : s0 = (-1) → ∀ (y : Int32) (g : AH), P62 y g → V X m_X9_cover R (ZM X Q nx sz mc ms) (nx, sz, mc, ms) 65 [some (.ref r0), some (.int x1), some (.int x2), some (.int x3), some (.int x4), some (.int x5), some (.int s0)] [.int y] g) : V X m_X9_cover R (ZM X Q nx sz mc ms) (nx, sz, mc, ms) 51 [some (.ref r0), some (.int x1), some (.int x2), some (.int x3), some (.int x4), some (.int x5), none] [.int s0] h := by
  refine v_istore dX9_cover_51 (by decide) (L' := [some (.ref r0), some (.int x1), some (.int x2), some (.int x3), some (.int x4), some (.int x5), some (.int s0)]) rfl ?_
  refine v_iload dX9_cover_53 rfl ?_
  refine v_iconst dX9_cover_55 ci_m1 ?_
  refine v_icmp_ne (tgt := 68) dX9_cover_56 (by decide) (fun c0 => ?_) (fun c0 => ?_)
  · refine v_iload dX9_cover_68 rfl ?_
    exact v_iret dX9_cover_70 rfl (hq c0)
  · refine v_aload_n dX9_cover_59 rfl ?_
    refine v_iload_n dX9_cover_60 rfl ?_
    refine v_iload_n dX9_cover_61 rfl ?_
    exact v_cSI (mt := m_X9_cover) mo_X9_servedBehind ml_RX9_51 mz_X9_servedBehind rfl hR hcs (Nat.le_of_ble_eq_true rfl) dX9_cover_62 rfl (hM c0) (fun y g hp => ((q c0) y g hp))
theorem c_X9_cover_65 {X : CX} {R : Room} {Q : Option Value → AH → Prop} {nx sz mc ms : Nat} {h : AH} {r0 n_r0 d : Nat} {x1 x2 x3 x4 x5 x6 s0 : Int32} {P81 : Int32 → AH → Prop} (hR : RO R (d + 1)) (hcs : mc ≤ R.cells ∧ ms ≤ R.slots) (hM : ¬ s0 = 0 → Mk X d m_X9_cover [.ref r0, .int (x1 + 1), .int x2, .int x3, .int x4, .int x5] h nx sz (RI P81)) (q : ¬ s0 = 0 → ∀ (y : Int32) (g : AH), P81 y g → V X m_X9_cover R (ZM X Q nx sz mc ms) (nx, sz, mc, ms) 84 [none, none, none, none, none, none, none] [.int y] g) (hq : s0 = 0 → Q (some (.int x6)) h) : V X m_X9_cover R (ZM X Q nx sz mc ms) (nx, sz, mc, ms) 65 [some (.ref r0), some (.int x1), some (.int x2), some (.int x3), some (.int x4), some (.int x5), some (.int x6)] [.int s0] h := by
  refine v_if_ne (tgt := 71) dX9_cover_65 (by decide) (fun c0 => ?_) (fun c0 => ?_)
  · refine v_aload_n dX9_cover_71 rfl ?_
    refine v_iload_n dX9_cover_72 rfl ?_
    refine v_iconst dX9_cover_73 ci_1 ?_
    refine v_iadd dX9_cover_74 ?_
    refine v_iload_n dX9_cover_75 rfl ?_
    refine v_iload_n dX9_cover_76 rfl ?_
    refine v_iload dX9_cover_77 rfl ?_
    refine v_iload dX9_cover_79 rfl ?_
    exact v_cSI (mt := m_X9_cover) mo_X9_cover ml_RX9_47 mz_X9_cover rfl hR hcs (Nat.le_of_ble_eq_true rfl) dX9_cover_81 rfl (hM c0) (fun y g hp => (v_drop (lvLe_n (lvLe_n (lvLe_n (lvLe_n (lvLe_n (lvLe_n (lvLe_n lvLe_e))))))) ((q c0) y g hp)))
  · refine v_iload dX9_cover_68 rfl ?_
    exact v_iret dX9_cover_70 rfl (hq c0)
theorem c_X9_cover_84 {X : CX} {R : Room} {Q : Option Value → AH → Prop} {nx sz mc ms : Nat} {h : AH} {s0 : Int32} (hq : Q (some (.int s0)) h) : V X m_X9_cover R (ZM X Q nx sz mc ms) (nx, sz, mc, ms) 84 [none, none, none, none, none, none, none] [.int s0] h := by
  exact v_iret dX9_cover_84 rfl hq
theorem e_X9_servedBehind {X : CX} {d nx sz : Nat} {Q : Option Value → AH → Prop} {h : AH} {r0 n_r0 : Nat} {x1 x2 : Int32} (q : V X m_X9_servedBehind (rm d 0 0) (ZM X Q nx sz 0 0) (nx, sz, 0, 0) 0 [some (.ref r0), some (.int x1), some (.int x2), none, none] [] h) : Mk X d m_X9_servedBehind [.ref r0, .int x1, .int x2] h nx sz Q := by
  refine Mok.ofV mo_X9_servedBehind (Nat.le_of_ble_eq_true rfl) (L := [some (.ref r0), some (.int x1), some (.int x2)]) (lvLe_s (lvLe_s (lvLe_s lvLe_e))) (v_grow (n := 2) ?_)
  exact q
theorem c_X9_servedBehind_0 {X : CX} {R : Room} {Z : ZX} {A : AX} {h : AH} {r0 n_r0 : Nat} {x1 x2 : Int32} (q : V X m_X9_servedBehind R Z A 8 [some (.ref r0), none, some (.int x2), some (.int (-((2 : Int32) <<< ((x1 : Int32) &&& 31)))), some (.int 0)] [] h) : V X m_X9_servedBehind R Z A 0 [some (.ref r0), some (.int x1), some (.int x2), none, none] [] h := by
  refine v_iconst dX9_servedBehind_0 ci_2 ?_
  refine v_iload_n dX9_servedBehind_1 rfl ?_
  refine v_ishl dX9_servedBehind_2 ?_
  refine v_ineg dX9_servedBehind_3 ?_
  refine v_istore_n dX9_servedBehind_4 (by decide) (L' := [some (.ref r0), some (.int x1), some (.int x2), some (.int (-((2 : Int32) <<< ((x1 : Int32) &&& 31)))), none]) rfl ?_
  refine v_iconst dX9_servedBehind_5 ci_0 ?_
  refine v_istore dX9_servedBehind_6 (by decide) (L' := [some (.ref r0), some (.int x1), some (.int x2), some (.int (-((2 : Int32) <<< ((x1 : Int32) &&& 31)))), some (.int 0)]) rfl ?_
  exact (v_drop (lvLe_s (lvLe_n (lvLe_s (lvLe_s (lvLe_s lvLe_e))))) q)
theorem c_X9_servedBehind_8 {X : CX} {R : Room} {Q : Option Value → AH → Prop} {nx sz mc ms : Nat} {h : AH} {r0 n_r0 : Nat} {x2 x3 x4 : Int32} (hk_r0 : kd X r0 = (20, n_r0)) (hl_r0 : r0 < nx) (hq : (Int32.ofNat n_r0) ≤ x4 → Q (some (.int 1)) h) (q : ¬ (Int32.ofNat n_r0) ≤ x4 → ((x2 >>> (x4 &&& 31)) &&& 1) = 0 → V X m_X9_servedBehind R (ZM X Q nx sz mc ms) (nx, sz, mc, ms) 8 [some (.ref r0), none, some (.int x2), some (.int x3), some (.int (x4 + 1))] [] h) (hi_27 : ¬ (Int32.ofNat n_r0) ≤ x4 → ¬ ((x2 >>> (x4 &&& 31)) &&& 1) = 0 → vp_in x4 n_r0) (q_1 : ¬ (Int32.ofNat n_r0) ≤ x4 → ¬ ((x2 >>> (x4 &&& 31)) &&& 1) = 0 → ¬ ((h.1 r0 x4.toNatClampNeg) &&& x3) = 0 → V X m_X9_servedBehind R (ZM X Q nx sz mc ms) (nx, sz, mc, ms) 8 [some (.ref r0), none, some (.int x2), some (.int x3), some (.int (x4 + 1))] [] h) (hq_1 : ¬ (Int32.ofNat n_r0) ≤ x4 → ¬ ((x2 >>> (x4 &&& 31)) &&& 1) = 0 → ((h.1 r0 x4.toNatClampNeg) &&& x3) = 0 → Q (some (.int 0)) h) : V X m_X9_servedBehind R (ZM X Q nx sz mc ms) (nx, sz, mc, ms) 8 [some (.ref r0), none, some (.int x2), some (.int x3), some (.int x4)] [] h := by
  refine v_iload dX9_servedBehind_8 rfl ?_
  refine v_aload_n dX9_servedBehind_10 rfl ?_
  refine v_alen (v := Int32.ofNat n_r0) dX9_servedBehind_11 hk_r0 ⟨by decide, by decide⟩ hl_r0 rfl ?_
  refine v_icmp_ge (tgt := 41) dX9_servedBehind_12 (by decide) (fun c0 => ?_) (fun c0 => ?_)
  · refine v_iconst dX9_servedBehind_41 ci_1 ?_
    exact v_zret (ty := .boolean) dX9_servedBehind_42 rfl rfl (hq c0)
  · refine v_iload_n dX9_servedBehind_15 rfl ?_
    refine v_iload dX9_servedBehind_16 rfl ?_
    refine v_ishr dX9_servedBehind_18 ?_
    refine v_iconst dX9_servedBehind_19 ci_1 ?_
    refine v_iand dX9_servedBehind_20 ?_
    refine v_if_eq (tgt := 35) dX9_servedBehind_21 (by decide) (fun c1 => ?_) (fun c1 => ?_)
    · refine v_iinc (y := (x4 + 1)) dX9_servedBehind_35 rfl rfl (by decide) (L' := [some (.ref r0), none, some (.int x2), some (.int x3), some (.int (x4 + 1))]) rfl ?_
      refine v_goto (tgt := 8) dX9_servedBehind_38 (by decide) ?_
      exact (q c0 c1)
    · refine v_aload_n dX9_servedBehind_24 rfl ?_
      refine v_iload dX9_servedBehind_25 rfl ?_
      refine v_iald dX9_servedBehind_27 hk_r0 hl_r0 (hi_27 c0 c1) ?_
      refine v_iload_n dX9_servedBehind_28 rfl ?_
      refine v_iand dX9_servedBehind_29 ?_
      refine v_if_ne (tgt := 35) dX9_servedBehind_30 (by decide) (fun c2 => ?_) (fun c2 => ?_)
      · refine v_iinc (y := (x4 + 1)) dX9_servedBehind_35 rfl rfl (by decide) (L' := [some (.ref r0), none, some (.int x2), some (.int x3), some (.int (x4 + 1))]) rfl ?_
        refine v_goto (tgt := 8) dX9_servedBehind_38 (by decide) ?_
        exact (q_1 c0 c1 c2)
      · refine v_iconst dX9_servedBehind_33 ci_0 ?_
        exact v_zret (ty := .boolean) dX9_servedBehind_34 rfl rfl (hq_1 c0 c1 c2)
theorem e_X9_beginners {X : CX} {d nx sz : Nat} {Q : Option Value → AH → Prop} {h : AH} {x1 : Int32} (q : V X m_X9_beginners (rm d 0 0) (ZM X Q nx sz 0 0) (nx, sz, 0, 0) 0 [some (.ref 21), some (.int x1), none, none, none, none, none, none, none] [] h) : Mk X d m_X9_beginners [.ref 21, .int x1] h nx sz Q := by
  refine Mok.ofV mo_X9_beginners (Nat.le_of_ble_eq_true rfl) (L := [some (.ref 21), some (.int x1)]) (lvLe_s (lvLe_s lvLe_e)) (v_grow (n := 7) ?_)
  exact q
theorem c_X9_beginners_0 {X : CX} {R : Room} {Z : ZX} {A : AX} {h : AH} {x1 : Int32} {d : Nat} {P15 : Int32 → AH → Prop} (hA0 : 91 ≤ A.1) (hF : Fx h) (hR : RO R (d + 1)) (hcs : A.2.2.1 ≤ R.cells ∧ A.2.2.2 ≤ R.slots) (hM : Mk X d m_X11_firstSet [.int x1, .int (h.1 1 0)] h A.1 A.2.1 (RI P15)) (q : ∀ (y : Int32) (g : AH), P15 y g → V X m_X9_beginners R Z A 18 [some (.ref 21), none, some (.int (-1)), some (.int 0), some (.int 0), none, none, none, none] [.int y] g) : V X m_X9_beginners R Z A 0 [some (.ref 21), some (.int x1), none, none, none, none, none, none, none] [] h := by
  refine v_iconst dX9_beginners_0 ci_m1 ?_
  refine v_istore_n dX9_beginners_1 (by decide) (L' := [some (.ref 21), some (.int x1), some (.int (-1)), none, none, none, none, none, none]) rfl ?_
  refine v_iconst dX9_beginners_2 ci_0 ?_
  refine v_istore_n dX9_beginners_3 (by decide) (L' := [some (.ref 21), some (.int x1), some (.int (-1)), some (.int 0), none, none, none, none, none]) rfl ?_
  refine v_iconst dX9_beginners_4 ci_0 ?_
  refine v_istore dX9_beginners_5 (by decide) (L' := [some (.ref 21), some (.int x1), some (.int (-1)), some (.int 0), some (.int 0), none, none, none, none]) rfl ?_
  refine v_iload_n dX9_beginners_7 rfl ?_
  refine v_aload_n dX9_beginners_8 rfl ?_
  refine v_getR dX9_beginners_9 fl_RX9_9 kd_21 (ltA hA0 rfl) rfl (hF 21 0 1 rfl) ?_
  refine v_getI dX9_beginners_12 fl_RX9_15 kd_1 (ltA hA0 rfl) rfl ?_
  exact v_cNI (mt := m_X9_beginners) mo_X11_firstSet mn_RX9_55 mz_X11_firstSet rfl hR hcs (Nat.le_of_ble_eq_true rfl) dX9_beginners_15 rfl hM (fun y g hp => (v_drop (lvLe_s (lvLe_n (lvLe_s (lvLe_s (lvLe_s (lvLe_n (lvLe_n (lvLe_n (lvLe_n lvLe_e))))))))) (q y g hp)))
theorem c_X9_beginners_18 {X : CX} {R : Room} {Z : ZX} {A : AX} {h : AH} {x2 x3 x4 s0 : Int32} (q : V X m_X9_beginners R Z A 23 [some (.ref 21), none, some (.int x2), some (.int x3), some (.int x4), some (.int s0), some (.int 0), none, none] [] h) : V X m_X9_beginners R Z A 18 [some (.ref 21), none, some (.int x2), some (.int x3), some (.int x4), none, none, none, none] [.int s0] h := by
  refine v_istore dX9_beginners_18 (by decide) (L' := [some (.ref 21), none, some (.int x2), some (.int x3), some (.int x4), some (.int s0), none, none, none]) rfl ?_
  refine v_iconst dX9_beginners_20 ci_0 ?_
  refine v_istore dX9_beginners_21 (by decide) (L' := [some (.ref 21), none, some (.int x2), some (.int x3), some (.int x4), some (.int s0), some (.int 0), none, none]) rfl ?_
  exact q
theorem c_X9_beginners_23 {X : CX} {R : Room} {Q : Option Value → AH → Prop} {nx sz mc ms : Nat} {h : AH} {x2 x3 x4 x5 x6 : Int32} {d : Nat} {P50 : Int32 → AH → Prop} (hA0 : 91 ≤ nx) (hF : Fx h) (hR : RO R (d + 1)) (hcs : mc ≤ R.cells ∧ ms ≤ R.slots) (hq : 1140 ≤ x6 → Q (some (.int x2)) h) (hq_1 : ¬ 1140 ≤ x6 → x5 = (-1) → Q (some (.int x2)) h) (hM : ¬ 1140 ≤ x6 → ¬ x5 = (-1) → Mk X d m_X3_reached [.ref 1, .int x5, .int (h.1 1 1)] h nx sz (RI P50)) (q : ¬ 1140 ≤ x6 → ¬ x5 = (-1) → ∀ (y : Int32) (g : AH), P50 y g → V X m_X9_beginners R (ZM X Q nx sz mc ms) (nx, sz, mc, ms) 53 [some (.ref 21), none, some (.int x2), some (.int x3), some (.int x4), some (.int x5), some (.int x6), none, none] [.int y] g) : V X m_X9_beginners R (ZM X Q nx sz mc ms) (nx, sz, mc, ms) 23 [some (.ref 21), none, some (.int x2), some (.int x3), some (.int x4), some (.int x5), some (.int x6), none, none] [] h := by
  refine v_iload dX9_beginners_23 rfl ?_
  refine v_sipush dX9_beginners_25 cs_1140 ?_
  refine v_icmp_ge (tgt := 118) dX9_beginners_28 (by decide) (fun c0 => ?_) (fun c0 => ?_)
  · refine v_iload_n dX9_beginners_118 rfl ?_
    exact v_iret dX9_beginners_119 rfl (hq c0)
  · refine v_iload dX9_beginners_31 rfl ?_
    refine v_iconst dX9_beginners_33 ci_m1 ?_
    refine v_icmp_eq (tgt := 118) dX9_beginners_34 (by decide) (fun c1 => ?_) (fun c1 => ?_)
    · refine v_iload_n dX9_beginners_118 rfl ?_
      exact v_iret dX9_beginners_119 rfl (hq_1 c0 c1)
    · refine v_aload_n dX9_beginners_37 rfl ?_
      refine v_getR dX9_beginners_38 fl_RX9_9 kd_21 (ltA hA0 rfl) rfl (hF 21 0 1 rfl) ?_
      refine v_iload dX9_beginners_41 rfl ?_
      refine v_aload_n dX9_beginners_43 rfl ?_
      refine v_getR dX9_beginners_44 fl_RX9_9 kd_21 (ltA hA0 rfl) rfl (hF 21 0 1 rfl) ?_
      refine v_getI dX9_beginners_47 fl_RX9_28 kd_1 (ltA hA0 rfl) rfl ?_
      exact v_cVI (mt := m_X9_beginners) mo_X3_reached ml_RX9_58 mi_X3_reached mv_X3_reached rfl kd_1 cl_3 rfl (ltA hA0 rfl) hR hcs (Nat.le_of_ble_eq_true rfl) dX9_beginners_50 rfl (hM c0 c1) (fun y g hp => ((q c0 c1) y g hp))
theorem c_X9_beginners_53 {X : CX} {R : Room} {Z : ZX} {A : AX} {h : AH} {x2 x3 x4 x5 x6 s0 : Int32} {d : Nat} {P53 : Int32 → AH → Prop} (hR : RO R (d + 1)) (hcs : A.2.2.1 ≤ R.cells ∧ A.2.2.2 ≤ R.slots) (hM : Mk X d m_J6_bitCount_0f7a4 [.int s0] h A.1 A.2.1 (RI P53)) (q : ∀ (y : Int32) (g : AH), P53 y g → V X m_X9_beginners R Z A 56 [some (.ref 21), none, some (.int x2), some (.int x3), some (.int x4), some (.int x5), some (.int x6), none, none] [.int y] g) : V X m_X9_beginners R Z A 53 [some (.ref 21), none, some (.int x2), some (.int x3), some (.int x4), some (.int x5), some (.int x6), none, none] [.int s0] h := by
  exact v_cSI (mt := m_X9_beginners) mo_J6_bitCount_0f7a4 ml_RX9_35 mz_J6_bitCount_0f7a4 rfl hR hcs (Nat.le_of_ble_eq_true rfl) dX9_beginners_53 rfl hM (fun y g hp => (q y g hp))
theorem c_X9_beginners_56 {X : CX} {R : Room} {Z : ZX} {A : AX} {h : AH} {x2 x3 x4 x5 x6 s0 : Int32} {d : Nat} {P64 : Int32 → AH → Prop} (hA0 : 91 ≤ A.1) (hF : Fx h) (hR : RO R (d + 1)) (hcs : A.2.2.1 ≤ R.cells ∧ A.2.2.2 ≤ R.slots) (hM : Mk X d m_X3_roundsFrom [.ref 1, .int x5] h A.1 A.2.1 (RI P64)) (q : ∀ (y : Int32) (g : AH), P64 y g → V X m_X9_beginners R Z A 67 [some (.ref 21), none, some (.int x2), some (.int x3), some (.int x4), some (.int x5), some (.int x6), some (.int s0), none] [.int y] g) : V X m_X9_beginners R Z A 56 [some (.ref 21), none, some (.int x2), some (.int x3), some (.int x4), some (.int x5), some (.int x6), none, none] [.int s0] h := by
  refine v_istore dX9_beginners_56 (by decide) (L' := [some (.ref 21), none, some (.int x2), some (.int x3), some (.int x4), some (.int x5), some (.int x6), some (.int s0), none]) rfl ?_
  refine v_aload_n dX9_beginners_58 rfl ?_
  refine v_getR dX9_beginners_59 fl_RX9_9 kd_21 (ltA hA0 rfl) rfl (hF 21 0 1 rfl) ?_
  refine v_iload dX9_beginners_62 rfl ?_
  exact v_cVI (mt := m_X9_beginners) mo_X3_roundsFrom ml_RX9_61 mi_X3_roundsFrom mv_X3_roundsFrom rfl kd_1 cl_3 rfl (ltA hA0 rfl) hR hcs (Nat.le_of_ble_eq_true rfl) dX9_beginners_64 rfl hM (fun y g hp => (q y g hp))
theorem c_X9_beginners_67 {X : CX} {R : Room} {Z : ZX} {A : AX} {h : AH} {x2 x3 x4 x5 x6 x7 s0 : Int32} {d : Nat} {P107 P107_1 P107_2 P107_3 : Int32 → AH → Prop} (hA0 : 91 ≤ A.1) (hF : Fx h) (hR : RO R (d + 1)) (hcs : A.2.2.1 ≤ R.cells ∧ A.2.2.2 ≤ R.slots) (hM : x3 < x7 → Mk X d m_X11_nextSet [.int x5, .int (h.1 1 0)] h A.1 A.2.1 (RI P107)) (q : x3 < x7 → ∀ (y : Int32) (g : AH), P107 y g → V X m_X9_beginners R Z A 110 [some (.ref 21), none, some (.int x5), some (.int x7), some (.int s0), none, some (.int x6), none, none] [.int y] g) (hM_1 : ¬ x3 < x7 → ¬ x7 = x3 → Mk X d m_X11_nextSet [.int x5, .int (h.1 1 0)] h A.1 A.2.1 (RI P107_1)) (q_1 : ¬ x3 < x7 → ¬ x7 = x3 → ∀ (y : Int32) (g : AH), P107_1 y g → V X m_X9_beginners R Z A 110 [some (.ref 21), none, some (.int x2), some (.int x3), some (.int x4), none, some (.int x6), none, none] [.int y] g) (hM_2 : ¬ x3 < x7 → x7 = x3 → x4 ≤ s0 → Mk X d m_X11_nextSet [.int x5, .int (h.1 1 0)] h A.1 A.2.1 (RI P107_2)) (q_2 : ¬ x3 < x7 → x7 = x3 → x4 ≤ s0 → ∀ (y : Int32) (g : AH), P107_2 y g → V X m_X9_beginners R Z A 110 [some (.ref 21), none, some (.int x2), some (.int x3), some (.int x4), none, some (.int x6), none, none] [.int y] g) (hM_3 : ¬ x3 < x7 → x7 = x3 → ¬ x4 ≤ s0 → Mk X d m_X11_nextSet [.int x5, .int (h.1 1 0)] h A.1 A.2.1 (RI P107_3)) (q_3 : ¬ x3 < x7 → x7 = x3 → ¬ x4 ≤ s0 → ∀ (y : Int32) (g : AH), P107_3 y g → V X m_X9_beginners R Z A 110 [some (.ref 21), none, some (.int x5), some (.int x7), some (.int s0), none, some (.int x6), none, none] [.int y] g) : V X m_X9_beginners R Z A 67 [some (.ref 21), none, some (.int x2), some (.int x3), some (.int x4), some (.int x5), some (.int x6), some (.int x7), none] [.int s0] h := by
  refine v_istore dX9_beginners_67 (by decide) (L' := [some (.ref 21), none, some (.int x2), some (.int x3), some (.int x4), some (.int x5), some (.int x6), some (.int x7), some (.int s0)]) rfl ?_
  refine v_iload dX9_beginners_69 rfl ?_
  refine v_iload_n dX9_beginners_71 rfl ?_
  refine v_icmp_gt (tgt := 88) dX9_beginners_72 (by decide) (fun c0 => ?_) (fun c0 => ?_)
  · refine v_iload dX9_beginners_88 rfl ?_
    refine v_istore_n dX9_beginners_90 (by decide) (L' := [some (.ref 21), none, some (.int x5), some (.int x3), some (.int x4), some (.int x5), some (.int x6), some (.int x7), some (.int s0)]) rfl ?_
    refine v_iload dX9_beginners_91 rfl ?_
    refine v_istore_n dX9_beginners_93 (by decide) (L' := [some (.ref 21), none, some (.int x5), some (.int x7), some (.int x4), some (.int x5), some (.int x6), some (.int x7), some (.int s0)]) rfl ?_
    refine v_iload dX9_beginners_94 rfl ?_
    refine v_istore dX9_beginners_96 (by decide) (L' := [some (.ref 21), none, some (.int x5), some (.int x7), some (.int s0), some (.int x5), some (.int x6), some (.int x7), some (.int s0)]) rfl ?_
    refine v_iload dX9_beginners_98 rfl ?_
    refine v_aload_n dX9_beginners_100 rfl ?_
    refine v_getR dX9_beginners_101 fl_RX9_9 kd_21 (ltA hA0 rfl) rfl (hF 21 0 1 rfl) ?_
    refine v_getI dX9_beginners_104 fl_RX9_15 kd_1 (ltA hA0 rfl) rfl ?_
    exact v_cNI (mt := m_X9_beginners) mo_X11_nextSet mn_RX9_64 mz_X11_nextSet rfl hR hcs (Nat.le_of_ble_eq_true rfl) dX9_beginners_107 rfl (hM c0) (fun y g hp => (v_drop (lvLe_s (lvLe_n (lvLe_s (lvLe_s (lvLe_s (lvLe_n (lvLe_s (lvLe_n (lvLe_n lvLe_e))))))))) ((q c0) y g hp)))
  · refine v_iload dX9_beginners_75 rfl ?_
    refine v_iload_n dX9_beginners_77 rfl ?_
    refine v_icmp_ne (tgt := 98) dX9_beginners_78 (by decide) (fun c1 => ?_) (fun c1 => ?_)
    · refine v_iload dX9_beginners_98 rfl ?_
      refine v_aload_n dX9_beginners_100 rfl ?_
      refine v_getR dX9_beginners_101 fl_RX9_9 kd_21 (ltA hA0 rfl) rfl (hF 21 0 1 rfl) ?_
      refine v_getI dX9_beginners_104 fl_RX9_15 kd_1 (ltA hA0 rfl) rfl ?_
      exact v_cNI (mt := m_X9_beginners) mo_X11_nextSet mn_RX9_64 mz_X11_nextSet rfl hR hcs (Nat.le_of_ble_eq_true rfl) dX9_beginners_107 rfl (hM_1 c0 c1) (fun y g hp => (v_drop (lvLe_s (lvLe_n (lvLe_s (lvLe_s (lvLe_s (lvLe_n (lvLe_s (lvLe_n (lvLe_n lvLe_e))))))))) ((q_1 c0 c1) y g hp)))
    · refine v_iload dX9_beginners_81 rfl ?_
      refine v_iload dX9_beginners_83 rfl ?_
      refine v_icmp_ge (tgt := 98) dX9_beginners_85 (by decide) (fun c2 => ?_) (fun c2 => ?_)
      · refine v_iload dX9_beginners_98 rfl ?_
        refine v_aload_n dX9_beginners_100 rfl ?_
        refine v_getR dX9_beginners_101 fl_RX9_9 kd_21 (ltA hA0 rfl) rfl (hF 21 0 1 rfl) ?_
        refine v_getI dX9_beginners_104 fl_RX9_15 kd_1 (ltA hA0 rfl) rfl ?_
        exact v_cNI (mt := m_X9_beginners) mo_X11_nextSet mn_RX9_64 mz_X11_nextSet rfl hR hcs (Nat.le_of_ble_eq_true rfl) dX9_beginners_107 rfl (hM_2 c0 c1 c2) (fun y g hp => (v_drop (lvLe_s (lvLe_n (lvLe_s (lvLe_s (lvLe_s (lvLe_n (lvLe_s (lvLe_n (lvLe_n lvLe_e))))))))) ((q_2 c0 c1 c2) y g hp)))
      · refine v_iload dX9_beginners_88 rfl ?_
        refine v_istore_n dX9_beginners_90 (by decide) (L' := [some (.ref 21), none, some (.int x5), some (.int x3), some (.int x4), some (.int x5), some (.int x6), some (.int x7), some (.int s0)]) rfl ?_
        refine v_iload dX9_beginners_91 rfl ?_
        refine v_istore_n dX9_beginners_93 (by decide) (L' := [some (.ref 21), none, some (.int x5), some (.int x7), some (.int x4), some (.int x5), some (.int x6), some (.int x7), some (.int s0)]) rfl ?_
        refine v_iload dX9_beginners_94 rfl ?_
        refine v_istore dX9_beginners_96 (by decide) (L' := [some (.ref 21), none, some (.int x5), some (.int x7), some (.int s0), some (.int x5), some (.int x6), some (.int x7), some (.int s0)]) rfl ?_
        refine v_iload dX9_beginners_98 rfl ?_
        refine v_aload_n dX9_beginners_100 rfl ?_
        refine v_getR dX9_beginners_101 fl_RX9_9 kd_21 (ltA hA0 rfl) rfl (hF 21 0 1 rfl) ?_
        refine v_getI dX9_beginners_104 fl_RX9_15 kd_1 (ltA hA0 rfl) rfl ?_
        exact v_cNI (mt := m_X9_beginners) mo_X11_nextSet mn_RX9_64 mz_X11_nextSet rfl hR hcs (Nat.le_of_ble_eq_true rfl) dX9_beginners_107 rfl (hM_3 c0 c1 c2) (fun y g hp => (v_drop (lvLe_s (lvLe_n (lvLe_s (lvLe_s (lvLe_s (lvLe_n (lvLe_s (lvLe_n (lvLe_n lvLe_e))))))))) ((q_3 c0 c1 c2) y g hp)))
theorem c_X9_beginners_110 {X : CX} {R : Room} {Z : ZX} {A : AX} {h : AH} {x2 x3 x4 x6 s0 : Int32} (q : V X m_X9_beginners R Z A 23 [some (.ref 21), none, some (.int x2), some (.int x3), some (.int x4), some (.int s0), some (.int (x6 + 1)), none, none] [] h) : V X m_X9_beginners R Z A 110 [some (.ref 21), none, some (.int x2), some (.int x3), some (.int x4), none, some (.int x6), none, none] [.int s0] h := by
  refine v_istore dX9_beginners_110 (by decide) (L' := [some (.ref 21), none, some (.int x2), some (.int x3), some (.int x4), some (.int s0), some (.int x6), none, none]) rfl ?_
  refine v_iinc (y := (x6 + 1)) dX9_beginners_112 rfl rfl (by decide) (L' := [some (.ref 21), none, some (.int x2), some (.int x3), some (.int x4), some (.int s0), some (.int (x6 + 1)), none, none]) rfl ?_
  refine v_goto (tgt := 23) dX9_beginners_115 (by decide) ?_
  exact q
theorem e_X9_likeliest {X : CX} {d nx sz : Nat} {Q : Option Value → AH → Prop} {h : AH} (q : V X m_X9_likeliest (rm d 0 0) (ZM X Q nx sz 0 0) (nx, sz, 0, 0) 0 [some (.ref 21), none, none, none, none] [] h) : Mk X d m_X9_likeliest [.ref 21] h nx sz Q := by
  refine Mok.ofV mo_X9_likeliest (Nat.le_of_ble_eq_true rfl) (L := [some (.ref 21)]) (lvLe_s lvLe_e) (v_grow (n := 4) ?_)
  exact q
theorem c_X9_likeliest_0 {X : CX} {R : Room} {Z : ZX} {A : AX} {h : AH} (q : V X m_X9_likeliest R Z A 6 [some (.ref 21), some (.int (-1)), some (.int (-1)), some (.int 0), none] [] h) : V X m_X9_likeliest R Z A 0 [some (.ref 21), none, none, none, none] [] h := by
  refine v_iconst dX9_likeliest_0 ci_m1 ?_
  refine v_istore_n dX9_likeliest_1 (by decide) (L' := [some (.ref 21), some (.int (-1)), none, none, none]) rfl ?_
  refine v_iconst dX9_likeliest_2 ci_m1 ?_
  refine v_istore_n dX9_likeliest_3 (by decide) (L' := [some (.ref 21), some (.int (-1)), some (.int (-1)), none, none]) rfl ?_
  refine v_iconst dX9_likeliest_4 ci_0 ?_
  refine v_istore_n dX9_likeliest_5 (by decide) (L' := [some (.ref 21), some (.int (-1)), some (.int (-1)), some (.int 0), none]) rfl ?_
  exact q
theorem c_X9_likeliest_6 {X : CX} {R : Room} {Q : Option Value → AH → Prop} {nx sz mc ms : Nat} {h : AH} {x1 x2 x3 : Int32} (hA0 : 91 ≤ nx) (hF : Fx h) (hq : (h.1 1 0) ≤ x3 → Q (some (.int x1)) h) (q : ¬ (h.1 1 0) ≤ x3 → V X m_X9_likeliest R (ZM X Q nx sz mc ms) (nx, sz, mc, ms) 22 [some (.ref 21), some (.int x1), some (.int x2), some (.int x3), some (.int (x3 + 1))] [] h) : V X m_X9_likeliest R (ZM X Q nx sz mc ms) (nx, sz, mc, ms) 6 [some (.ref 21), some (.int x1), some (.int x2), some (.int x3), none] [] h := by
  refine v_iload_n dX9_likeliest_6 rfl ?_
  refine v_aload_n dX9_likeliest_7 rfl ?_
  refine v_getR dX9_likeliest_8 fl_RX9_9 kd_21 (ltA hA0 rfl) rfl (hF 21 0 1 rfl) ?_
  refine v_getI dX9_likeliest_11 fl_RX9_15 kd_1 (ltA hA0 rfl) rfl ?_
  refine v_icmp_ge (tgt := 92) dX9_likeliest_14 (by decide) (fun c0 => ?_) (fun c0 => ?_)
  · refine v_iload_n dX9_likeliest_92 rfl ?_
    exact v_iret dX9_likeliest_93 rfl (hq c0)
  · refine v_iload_n dX9_likeliest_17 rfl ?_
    refine v_iconst dX9_likeliest_18 ci_1 ?_
    refine v_iadd dX9_likeliest_19 ?_
    refine v_istore dX9_likeliest_20 (by decide) (L' := [some (.ref 21), some (.int x1), some (.int x2), some (.int x3), some (.int (x3 + 1))]) rfl ?_
    exact (q c0)
theorem c_X9_likeliest_22 {X : CX} {R : Room} {Z : ZX} {A : AX} {h : AH} {x1 x2 x3 x4 : Int32} {d : Nat} {P41 : Int32 → AH → Prop} (hA0 : 91 ≤ A.1) (hF : Fx h) (hR : RO R (d + 1)) (hcs : A.2.2.1 ≤ R.cells ∧ A.2.2.2 ≤ R.slots) (q : (h.1 1 0) ≤ x4 → V X m_X9_likeliest R Z A 6 [some (.ref 21), some (.int x1), some (.int x2), some (.int (x3 + 1)), none] [] h) (hM : ¬ (h.1 1 0) ≤ x4 → Mk X d m_X3_tied [.ref 1, .int x3, .int x4] h A.1 A.2.1 (RI P41)) (q_1 : ¬ (h.1 1 0) ≤ x4 → ∀ (y : Int32) (g : AH), P41 y g → V X m_X9_likeliest R Z A 44 [some (.ref 21), some (.int x1), some (.int x2), some (.int x3), some (.int x4)] [.int y] g) : V X m_X9_likeliest R Z A 22 [some (.ref 21), some (.int x1), some (.int x2), some (.int x3), some (.int x4)] [] h := by
  refine v_iload dX9_likeliest_22 rfl ?_
  refine v_aload_n dX9_likeliest_24 rfl ?_
  refine v_getR dX9_likeliest_25 fl_RX9_9 kd_21 (ltA hA0 rfl) rfl (hF 21 0 1 rfl) ?_
  refine v_getI dX9_likeliest_28 fl_RX9_15 kd_1 (ltA hA0 rfl) rfl ?_
  refine v_icmp_ge (tgt := 86) dX9_likeliest_31 (by decide) (fun c0 => ?_) (fun c0 => ?_)
  · refine v_iinc (y := (x3 + 1)) dX9_likeliest_86 rfl rfl (by decide) (L' := [some (.ref 21), some (.int x1), some (.int x2), some (.int (x3 + 1)), some (.int x4)]) rfl ?_
    refine v_goto (tgt := 6) dX9_likeliest_89 (by decide) ?_
    exact (v_drop (lvLe_s (lvLe_s (lvLe_s (lvLe_s (lvLe_n lvLe_e))))) (q c0))
  · refine v_aload_n dX9_likeliest_34 rfl ?_
    refine v_getR dX9_likeliest_35 fl_RX9_9 kd_21 (ltA hA0 rfl) rfl (hF 21 0 1 rfl) ?_
    refine v_iload_n dX9_likeliest_38 rfl ?_
    refine v_iload dX9_likeliest_39 rfl ?_
    exact v_cVI (mt := m_X9_likeliest) mo_X3_tied ml_RX9_67 mi_X3_tied mv_X3_tied rfl kd_1 cl_3 rfl (ltA hA0 rfl) hR hcs (Nat.le_of_ble_eq_true rfl) dX9_likeliest_41 rfl (hM c0) (fun y g hp => ((q_1 c0) y g hp))
theorem c_X9_likeliest_44 {X : CX} {R : Room} {Z : ZX} {A : AX} {h : AH} {x1 x2 x3 x4 s0 : Int32} {d : Nat} {P54 : Int32 → AH → Prop} (hA0 : 91 ≤ A.1) (hF : Fx h) (hR : RO R (d + 1)) (hcs : A.2.2.1 ≤ R.cells ∧ A.2.2.2 ≤ R.slots) (q : ¬ s0 = 0 → V X m_X9_likeliest R Z A 22 [some (.ref 21), some (.int x1), some (.int x2), some (.int x3), some (.int (x4 + 1))] [] h) (hM : s0 = 0 → Mk X d m_X3_inCommon [.ref 1, .int x3, .int x4] h A.1 A.2.1 (RI P54)) (q_1 : s0 = 0 → ∀ (y : Int32) (g : AH), P54 y g → V X m_X9_likeliest R Z A 57 [some (.ref 21), some (.int x1), some (.int x2), some (.int x3), some (.int x4)] [.int y] g) : V X m_X9_likeliest R Z A 44 [some (.ref 21), some (.int x1), some (.int x2), some (.int x3), some (.int x4)] [.int s0] h := by
  refine v_if_ne (tgt := 80) dX9_likeliest_44 (by decide) (fun c0 => ?_) (fun c0 => ?_)
  · refine v_iinc (y := (x4 + 1)) dX9_likeliest_80 rfl rfl (by decide) (L' := [some (.ref 21), some (.int x1), some (.int x2), some (.int x3), some (.int (x4 + 1))]) rfl ?_
    refine v_goto (tgt := 22) dX9_likeliest_83 (by decide) ?_
    exact (q c0)
  · refine v_aload_n dX9_likeliest_47 rfl ?_
    refine v_getR dX9_likeliest_48 fl_RX9_9 kd_21 (ltA hA0 rfl) rfl (hF 21 0 1 rfl) ?_
    refine v_iload_n dX9_likeliest_51 rfl ?_
    refine v_iload dX9_likeliest_52 rfl ?_
    exact v_cVI (mt := m_X9_likeliest) mo_X3_inCommon ml_RX9_71 mi_X3_inCommon mv_X3_inCommon rfl kd_1 cl_3 rfl (ltA hA0 rfl) hR hcs (Nat.le_of_ble_eq_true rfl) dX9_likeliest_54 rfl (hM c0) (fun y g hp => ((q_1 c0) y g hp))
theorem c_X9_likeliest_57 {X : CX} {R : Room} {Z : ZX} {A : AX} {h : AH} {x1 x2 x3 x4 s0 : Int32} {d : Nat} {P76 : Int32 → AH → Prop} (hA0 : 91 ≤ A.1) (hF : Fx h) (hR : RO R (d + 1)) (hcs : A.2.2.1 ≤ R.cells ∧ A.2.2.2 ≤ R.slots) (q : s0 ≤ x2 → V X m_X9_likeliest R Z A 22 [some (.ref 21), some (.int x1), some (.int x2), some (.int x3), some (.int (x4 + 1))] [] h) (hM : ¬ s0 ≤ x2 → Mk X d m_X3_inCommon [.ref 1, .int x3, .int x4] h A.1 A.2.1 (RI P76)) (q_1 : ¬ s0 ≤ x2 → ∀ (y : Int32) (g : AH), P76 y g → V X m_X9_likeliest R Z A 79 [some (.ref 21), some (.int ((20 * x3) + x4)), none, some (.int x3), some (.int x4)] [.int y] g) : V X m_X9_likeliest R Z A 57 [some (.ref 21), some (.int x1), some (.int x2), some (.int x3), some (.int x4)] [.int s0] h := by
  refine v_iload_n dX9_likeliest_57 rfl ?_
  refine v_icmp_le (tgt := 80) dX9_likeliest_58 (by decide) (fun c0 => ?_) (fun c0 => ?_)
  · refine v_iinc (y := (x4 + 1)) dX9_likeliest_80 rfl rfl (by decide) (L' := [some (.ref 21), some (.int x1), some (.int x2), some (.int x3), some (.int (x4 + 1))]) rfl ?_
    refine v_goto (tgt := 22) dX9_likeliest_83 (by decide) ?_
    exact (q c0)
  · refine v_bipush dX9_likeliest_61 cb_20 ?_
    refine v_iload_n dX9_likeliest_63 rfl ?_
    refine v_imul dX9_likeliest_64 ?_
    refine v_iload dX9_likeliest_65 rfl ?_
    refine v_iadd dX9_likeliest_67 ?_
    refine v_istore_n dX9_likeliest_68 (by decide) (L' := [some (.ref 21), some (.int ((20 * x3) + x4)), some (.int x2), some (.int x3), some (.int x4)]) rfl ?_
    refine v_aload_n dX9_likeliest_69 rfl ?_
    refine v_getR dX9_likeliest_70 fl_RX9_9 kd_21 (ltA hA0 rfl) rfl (hF 21 0 1 rfl) ?_
    refine v_iload_n dX9_likeliest_73 rfl ?_
    refine v_iload dX9_likeliest_74 rfl ?_
    exact v_cVI (mt := m_X9_likeliest) mo_X3_inCommon ml_RX9_71 mi_X3_inCommon mv_X3_inCommon rfl kd_1 cl_3 rfl (ltA hA0 rfl) hR hcs (Nat.le_of_ble_eq_true rfl) dX9_likeliest_76 rfl (hM c0) (fun y g hp => (v_drop (lvLe_s (lvLe_s (lvLe_n (lvLe_s (lvLe_s lvLe_e))))) ((q_1 c0) y g hp)))
theorem c_X9_likeliest_79 {X : CX} {R : Room} {Z : ZX} {A : AX} {h : AH} {x1 x3 x4 s0 : Int32} (q : V X m_X9_likeliest R Z A 22 [some (.ref 21), some (.int x1), some (.int s0), some (.int x3), some (.int (x4 + 1))] [] h) : V X m_X9_likeliest R Z A 79 [some (.ref 21), some (.int x1), none, some (.int x3), some (.int x4)] [.int s0] h := by
  refine v_istore_n dX9_likeliest_79 (by decide) (L' := [some (.ref 21), some (.int x1), some (.int s0), some (.int x3), some (.int x4)]) rfl ?_
  refine v_iinc (y := (x4 + 1)) dX9_likeliest_80 rfl rfl (by decide) (L' := [some (.ref 21), some (.int x1), some (.int s0), some (.int x3), some (.int (x4 + 1))]) rfl ?_
  refine v_goto (tgt := 22) dX9_likeliest_83 (by decide) ?_
  exact q
theorem e_X9_countThrees {X : CX} {d nx sz : Nat} {Q : Option Value → AH → Prop} {h : AH} {x1 : Int32} (q : V X m_X9_countThrees (rm d 0 0) (ZM X Q nx sz 0 0) (nx, sz, 0, 0) 0 [some (.ref 21), some (.int x1), none, none, none] [] h) : Mk X d m_X9_countThrees [.ref 21, .int x1] h nx sz Q := by
  refine Mok.ofV mo_X9_countThrees (Nat.le_of_ble_eq_true rfl) (L := [some (.ref 21), some (.int x1)]) (lvLe_s (lvLe_s lvLe_e)) (v_grow (n := 3) ?_)
  exact q
theorem c_X9_countThrees_0 {X : CX} {R : Room} {Z : ZX} {A : AX} {h : AH} {x1 : Int32} {d : Nat} {P2 : Int32 → AH → Prop} (hA0 : 91 ≤ A.1) (hR : RO R (d + 1)) (hcs : A.2.2.1 ≤ R.cells ∧ A.2.2.2 ≤ R.slots) (hM : Mk X d m_X9_threesWith [.ref 21, .int 3] h A.1 A.2.1 (RI P2)) (q : ∀ (y : Int32) (g : AH), P2 y g → V X m_X9_countThrees R Z A 5 [some (.ref 21), some (.int x1), none, none, none] [.int y] g) : V X m_X9_countThrees R Z A 0 [some (.ref 21), some (.int x1), none, none, none] [] h := by
  refine v_aload_n dX9_countThrees_0 rfl ?_
  refine v_iconst dX9_countThrees_1 ci_3 ?_
  exact v_cVI (mt := m_X9_countThrees) mo_X9_threesWith ml_RX9_74 mi_X9_threesWith mv_X9_threesWith rfl kd_21 cl_9 rfl (ltA hA0 rfl) hR hcs (Nat.le_of_ble_eq_true rfl) dX9_countThrees_2 rfl hM (fun y g hp => (q y g hp))
theorem c_X9_countThrees_5 {X : CX} {R : Room} {Z : ZX} {A : AX} {h : AH} {x1 s0 : Int32} {d : Nat} {P8 : Int32 → AH → Prop} (hA0 : 91 ≤ A.1) (hR : RO R (d + 1)) (hcs : A.2.2.1 ≤ R.cells ∧ A.2.2.2 ≤ R.slots) (hM : Mk X d m_X9_threesWith [.ref 21, .int 2] h A.1 A.2.1 (RI P8)) (q : ∀ (y : Int32) (g : AH), P8 y g → V X m_X9_countThrees R Z A 11 [none, some (.int x1), some (.int s0), none, none] [.int y] g) : V X m_X9_countThrees R Z A 5 [some (.ref 21), some (.int x1), none, none, none] [.int s0] h := by
  refine v_istore_n dX9_countThrees_5 (by decide) (L' := [some (.ref 21), some (.int x1), some (.int s0), none, none]) rfl ?_
  refine v_aload_n dX9_countThrees_6 rfl ?_
  refine v_iconst dX9_countThrees_7 ci_2 ?_
  exact v_cVI (mt := m_X9_countThrees) mo_X9_threesWith ml_RX9_74 mi_X9_threesWith mv_X9_threesWith rfl kd_21 cl_9 rfl (ltA hA0 rfl) hR hcs (Nat.le_of_ble_eq_true rfl) dX9_countThrees_8 rfl hM (fun y g hp => (v_drop (lvLe_n (lvLe_s (lvLe_s (lvLe_n (lvLe_n lvLe_e))))) (q y g hp)))
theorem c_X9_countThrees_11 {X : CX} {R : Room} {Q : Option Value → AH → Prop} {nx sz mc ms : Nat} {h : AH} {x1 x2 s0 : Int32} (hz_50 : 2 ≤ x1 → ¬ ((3 * x2) + s0) = 0 → ¬ ((3 * x2) + s0) = 0) (hq : 2 ≤ x1 → ¬ ((3 * x2) + s0) = 0 → Q (some (.int ((3000 * x2) / ((3 * x2) + s0)))) h) (hq_1 : 2 ≤ x1 → ((3 * x2) + s0) = 0 → Q (some (.int 0)) h) (hq_2 : ¬ 2 ≤ x1 → ¬ x1 = 0 → Q (some (.int s0)) h) (hq_3 : ¬ 2 ≤ x1 → x1 = 0 → Q (some (.int x2)) h) : V X m_X9_countThrees R (ZM X Q nx sz mc ms) (nx, sz, mc, ms) 11 [none, some (.int x1), some (.int x2), none, none] [.int s0] h := by
  refine v_istore_n dX9_countThrees_11 (by decide) (L' := [none, some (.int x1), some (.int x2), some (.int s0), none]) rfl ?_
  refine v_iload_n dX9_countThrees_12 rfl ?_
  refine v_iconst dX9_countThrees_13 ci_2 ?_
  refine v_icmp_ge (tgt := 27) dX9_countThrees_14 (by decide) (fun c0 => ?_) (fun c0 => ?_)
  · refine v_iconst dX9_countThrees_27 ci_3 ?_
    refine v_iload_n dX9_countThrees_28 rfl ?_
    refine v_imul dX9_countThrees_29 ?_
    refine v_iload_n dX9_countThrees_30 rfl ?_
    refine v_iadd dX9_countThrees_31 ?_
    refine v_istore dX9_countThrees_32 (by decide) (L' := [none, some (.int x1), some (.int x2), some (.int s0), some (.int ((3 * x2) + s0))]) rfl ?_
    refine v_iload dX9_countThrees_34 rfl ?_
    refine v_if_ne (tgt := 43) dX9_countThrees_36 (by decide) (fun c1 => ?_) (fun c1 => ?_)
    · refine v_sipush dX9_countThrees_43 cs_3000 ?_
      refine v_iload_n dX9_countThrees_46 rfl ?_
      refine v_imul dX9_countThrees_47 ?_
      refine v_iload dX9_countThrees_48 rfl ?_
      refine v_idiv dX9_countThrees_50 (hz_50 c0 c1) ?_
      exact v_iret dX9_countThrees_51 rfl (hq c0 c1)
    · refine v_iconst dX9_countThrees_39 ci_0 ?_
      refine v_goto (tgt := 51) dX9_countThrees_40 (by decide) ?_
      exact v_iret dX9_countThrees_51 rfl (hq_1 c0 c1)
  · refine v_iload_n dX9_countThrees_17 rfl ?_
    refine v_if_ne (tgt := 25) dX9_countThrees_18 (by decide) (fun c1 => ?_) (fun c1 => ?_)
    · refine v_iload_n dX9_countThrees_25 rfl ?_
      exact v_iret dX9_countThrees_26 rfl (hq_2 c0 c1)
    · refine v_iload_n dX9_countThrees_21 rfl ?_
      refine v_goto (tgt := 26) dX9_countThrees_22 (by decide) ?_
      exact v_iret dX9_countThrees_26 rfl (hq_3 c0 c1)
theorem e_X9_threesWith {X : CX} {d nx sz : Nat} {Q : Option Value → AH → Prop} {h : AH} {x1 : Int32} (q : V X m_X9_threesWith (rm d 0 0) (ZM X Q nx sz 0 0) (nx, sz, 0, 0) 0 [some (.ref 21), some (.int x1), none, none, none, none, none] [] h) : Mk X d m_X9_threesWith [.ref 21, .int x1] h nx sz Q := by
  refine Mok.ofV mo_X9_threesWith (Nat.le_of_ble_eq_true rfl) (L := [some (.ref 21), some (.int x1)]) (lvLe_s (lvLe_s lvLe_e)) (v_grow (n := 5) ?_)
  exact q
theorem c_X9_threesWith_0 {X : CX} {R : Room} {Z : ZX} {A : AX} {h : AH} {x1 : Int32} (q : V X m_X9_threesWith R Z A 4 [some (.ref 21), some (.int x1), some (.int 0), some (.int 0), none, none, none] [] h) : V X m_X9_threesWith R Z A 0 [some (.ref 21), some (.int x1), none, none, none, none, none] [] h := by
  refine v_iconst dX9_threesWith_0 ci_0 ?_
  refine v_istore_n dX9_threesWith_1 (by decide) (L' := [some (.ref 21), some (.int x1), some (.int 0), none, none, none, none]) rfl ?_
  refine v_iconst dX9_threesWith_2 ci_0 ?_
  refine v_istore_n dX9_threesWith_3 (by decide) (L' := [some (.ref 21), some (.int x1), some (.int 0), some (.int 0), none, none, none]) rfl ?_
  exact q
theorem c_X9_threesWith_4 {X : CX} {R : Room} {Q : Option Value → AH → Prop} {nx sz mc ms : Nat} {h : AH} {x1 x2 x3 : Int32} (hA0 : 91 ≤ nx) (hF : Fx h) (hq : (h.1 1 0) ≤ x3 → Q (some (.int x2)) h) (q : ¬ (h.1 1 0) ≤ x3 → V X m_X9_threesWith R (ZM X Q nx sz mc ms) (nx, sz, mc, ms) 20 [some (.ref 21), some (.int x1), some (.int x2), some (.int x3), some (.int (x3 + 1)), none, none] [] h) : V X m_X9_threesWith R (ZM X Q nx sz mc ms) (nx, sz, mc, ms) 4 [some (.ref 21), some (.int x1), some (.int x2), some (.int x3), none, none, none] [] h := by
  refine v_iload_n dX9_threesWith_4 rfl ?_
  refine v_aload_n dX9_threesWith_5 rfl ?_
  refine v_getR dX9_threesWith_6 fl_RX9_9 kd_21 (ltA hA0 rfl) rfl (hF 21 0 1 rfl) ?_
  refine v_getI dX9_threesWith_9 fl_RX9_15 kd_1 (ltA hA0 rfl) rfl ?_
  refine v_icmp_ge (tgt := 129) dX9_threesWith_12 (by decide) (fun c0 => ?_) (fun c0 => ?_)
  · refine v_iload_n dX9_threesWith_129 rfl ?_
    exact v_iret dX9_threesWith_130 rfl (hq c0)
  · refine v_iload_n dX9_threesWith_15 rfl ?_
    refine v_iconst dX9_threesWith_16 ci_1 ?_
    refine v_iadd dX9_threesWith_17 ?_
    refine v_istore dX9_threesWith_18 (by decide) (L' := [some (.ref 21), some (.int x1), some (.int x2), some (.int x3), some (.int (x3 + 1)), none, none]) rfl ?_
    exact (q c0)
theorem c_X9_threesWith_20 {X : CX} {R : Room} {Z : ZX} {A : AX} {h : AH} {x1 x2 x3 x4 : Int32} (hA0 : 91 ≤ A.1) (hF : Fx h) (q : (h.1 1 0) ≤ x4 → V X m_X9_threesWith R Z A 4 [some (.ref 21), some (.int x1), some (.int x2), some (.int (x3 + 1)), none, none, none] [] h) (q_1 : ¬ (h.1 1 0) ≤ x4 → V X m_X9_threesWith R Z A 38 [some (.ref 21), some (.int x1), some (.int x2), some (.int x3), some (.int x4), some (.int (x4 + 1)), none] [] h) : V X m_X9_threesWith R Z A 20 [some (.ref 21), some (.int x1), some (.int x2), some (.int x3), some (.int x4), none, none] [] h := by
  refine v_iload dX9_threesWith_20 rfl ?_
  refine v_aload_n dX9_threesWith_22 rfl ?_
  refine v_getR dX9_threesWith_23 fl_RX9_9 kd_21 (ltA hA0 rfl) rfl (hF 21 0 1 rfl) ?_
  refine v_getI dX9_threesWith_26 fl_RX9_15 kd_1 (ltA hA0 rfl) rfl ?_
  refine v_icmp_ge (tgt := 123) dX9_threesWith_29 (by decide) (fun c0 => ?_) (fun c0 => ?_)
  · refine v_iinc (y := (x3 + 1)) dX9_threesWith_123 rfl rfl (by decide) (L' := [some (.ref 21), some (.int x1), some (.int x2), some (.int (x3 + 1)), some (.int x4), none, none]) rfl ?_
    refine v_goto (tgt := 4) dX9_threesWith_126 (by decide) ?_
    exact (v_drop (lvLe_s (lvLe_s (lvLe_s (lvLe_s (lvLe_n (lvLe_n (lvLe_n lvLe_e))))))) (q c0))
  · refine v_iload dX9_threesWith_32 rfl ?_
    refine v_iconst dX9_threesWith_34 ci_1 ?_
    refine v_iadd dX9_threesWith_35 ?_
    refine v_istore dX9_threesWith_36 (by decide) (L' := [some (.ref 21), some (.int x1), some (.int x2), some (.int x3), some (.int x4), some (.int (x4 + 1)), none]) rfl ?_
    exact (q_1 c0)
theorem c_X9_threesWith_38 {X : CX} {R : Room} {Z : ZX} {A : AX} {h : AH} {x1 x2 x3 x4 x5 : Int32} (hA0 : 91 ≤ A.1) (hF : Fx h) (q : (h.1 1 0) ≤ x5 → V X m_X9_threesWith R Z A 20 [some (.ref 21), some (.int x1), some (.int x2), some (.int x3), some (.int (x4 + 1)), none, none] [] h) (hi_58 : ¬ (h.1 1 0) ≤ x5 → vp_in x3 20) (hi_72 : ¬ (h.1 1 0) ≤ x5 → vp_in x3 20) (hi_88 : ¬ (h.1 1 0) ≤ x5 → vp_in x4 20) (q_1 : ¬ (h.1 1 0) ≤ x5 → ¬ (((((h.1 2 x3.toNatClampNeg) >>> (x4 &&& 31)) &&& 1) + (((h.1 2 x3.toNatClampNeg) >>> (x5 &&& 31)) &&& 1)) + (((h.1 2 x4.toNatClampNeg) >>> (x5 &&& 31)) &&& 1)) = x1 → V X m_X9_threesWith R Z A 38 [some (.ref 21), some (.int x1), some (.int (x2 + 0)), some (.int x3), some (.int x4), some (.int (x5 + 1)), none] [] h) (q_2 : ¬ (h.1 1 0) ≤ x5 → (((((h.1 2 x3.toNatClampNeg) >>> (x4 &&& 31)) &&& 1) + (((h.1 2 x3.toNatClampNeg) >>> (x5 &&& 31)) &&& 1)) + (((h.1 2 x4.toNatClampNeg) >>> (x5 &&& 31)) &&& 1)) = x1 → V X m_X9_threesWith R Z A 38 [some (.ref 21), some (.int x1), some (.int (x2 + 1)), some (.int x3), some (.int x4), some (.int (x5 + 1)), none] [] h) : V X m_X9_threesWith R Z A 38 [some (.ref 21), some (.int x1), some (.int x2), some (.int x3), some (.int x4), some (.int x5), none] [] h := by
  refine v_iload dX9_threesWith_38 rfl ?_
  refine v_aload_n dX9_threesWith_40 rfl ?_
  refine v_getR dX9_threesWith_41 fl_RX9_9 kd_21 (ltA hA0 rfl) rfl (hF 21 0 1 rfl) ?_
  refine v_getI dX9_threesWith_44 fl_RX9_15 kd_1 (ltA hA0 rfl) rfl ?_
  refine v_icmp_ge (tgt := 117) dX9_threesWith_47 (by decide) (fun c0 => ?_) (fun c0 => ?_)
  · refine v_iinc (y := (x4 + 1)) dX9_threesWith_117 rfl rfl (by decide) (L' := [some (.ref 21), some (.int x1), some (.int x2), some (.int x3), some (.int (x4 + 1)), some (.int x5), none]) rfl ?_
    refine v_goto (tgt := 20) dX9_threesWith_120 (by decide) ?_
    exact (v_drop (lvLe_s (lvLe_s (lvLe_s (lvLe_s (lvLe_s (lvLe_n (lvLe_n lvLe_e))))))) (q c0))
  · refine v_aload_n dX9_threesWith_50 rfl ?_
    refine v_getR dX9_threesWith_51 fl_RX9_9 kd_21 (ltA hA0 rfl) rfl (hF 21 0 1 rfl) ?_
    refine v_getR dX9_threesWith_54 fl_RX9_25 kd_1 (ltA hA0 rfl) rfl (hF 1 2 2 rfl) ?_
    refine v_iload_n dX9_threesWith_57 rfl ?_
    refine v_iald dX9_threesWith_58 kd_2 (ltA hA0 rfl) (hi_58 c0) ?_
    refine v_iload dX9_threesWith_59 rfl ?_
    refine v_ishr dX9_threesWith_61 ?_
    refine v_iconst dX9_threesWith_62 ci_1 ?_
    refine v_iand dX9_threesWith_63 ?_
    refine v_aload_n dX9_threesWith_64 rfl ?_
    refine v_getR dX9_threesWith_65 fl_RX9_9 kd_21 (ltA hA0 rfl) rfl (hF 21 0 1 rfl) ?_
    refine v_getR dX9_threesWith_68 fl_RX9_25 kd_1 (ltA hA0 rfl) rfl (hF 1 2 2 rfl) ?_
    refine v_iload_n dX9_threesWith_71 rfl ?_
    refine v_iald dX9_threesWith_72 kd_2 (ltA hA0 rfl) (hi_72 c0) ?_
    refine v_iload dX9_threesWith_73 rfl ?_
    refine v_ishr dX9_threesWith_75 ?_
    refine v_iconst dX9_threesWith_76 ci_1 ?_
    refine v_iand dX9_threesWith_77 ?_
    refine v_iadd dX9_threesWith_78 ?_
    refine v_aload_n dX9_threesWith_79 rfl ?_
    refine v_getR dX9_threesWith_80 fl_RX9_9 kd_21 (ltA hA0 rfl) rfl (hF 21 0 1 rfl) ?_
    refine v_getR dX9_threesWith_83 fl_RX9_25 kd_1 (ltA hA0 rfl) rfl (hF 1 2 2 rfl) ?_
    refine v_iload dX9_threesWith_86 rfl ?_
    refine v_iald dX9_threesWith_88 kd_2 (ltA hA0 rfl) (hi_88 c0) ?_
    refine v_iload dX9_threesWith_89 rfl ?_
    refine v_ishr dX9_threesWith_91 ?_
    refine v_iconst dX9_threesWith_92 ci_1 ?_
    refine v_iand dX9_threesWith_93 ?_
    refine v_iadd dX9_threesWith_94 ?_
    refine v_istore dX9_threesWith_95 (by decide) (L' := [some (.ref 21), some (.int x1), some (.int x2), some (.int x3), some (.int x4), some (.int x5), some (.int (((((h.1 2 x3.toNatClampNeg) >>> (x4 &&& 31)) &&& 1) + (((h.1 2 x3.toNatClampNeg) >>> (x5 &&& 31)) &&& 1)) + (((h.1 2 x4.toNatClampNeg) >>> (x5 &&& 31)) &&& 1)))]) rfl ?_
    refine v_iload_n dX9_threesWith_97 rfl ?_
    refine v_iload dX9_threesWith_98 rfl ?_
    refine v_iload_n dX9_threesWith_100 rfl ?_
    refine v_icmp_ne (tgt := 108) dX9_threesWith_101 (by decide) (fun c1 => ?_) (fun c1 => ?_)
    · refine v_iconst dX9_threesWith_108 ci_0 ?_
      refine v_iadd dX9_threesWith_109 ?_
      refine v_istore_n dX9_threesWith_110 (by decide) (L' := [some (.ref 21), some (.int x1), some (.int (x2 + 0)), some (.int x3), some (.int x4), some (.int x5), some (.int (((((h.1 2 x3.toNatClampNeg) >>> (x4 &&& 31)) &&& 1) + (((h.1 2 x3.toNatClampNeg) >>> (x5 &&& 31)) &&& 1)) + (((h.1 2 x4.toNatClampNeg) >>> (x5 &&& 31)) &&& 1)))]) rfl ?_
      refine v_iinc (y := (x5 + 1)) dX9_threesWith_111 rfl rfl (by decide) (L' := [some (.ref 21), some (.int x1), some (.int (x2 + 0)), some (.int x3), some (.int x4), some (.int (x5 + 1)), some (.int (((((h.1 2 x3.toNatClampNeg) >>> (x4 &&& 31)) &&& 1) + (((h.1 2 x3.toNatClampNeg) >>> (x5 &&& 31)) &&& 1)) + (((h.1 2 x4.toNatClampNeg) >>> (x5 &&& 31)) &&& 1)))]) rfl ?_
      refine v_goto (tgt := 38) dX9_threesWith_114 (by decide) ?_
      exact (v_drop (lvLe_s (lvLe_s (lvLe_s (lvLe_s (lvLe_s (lvLe_s (lvLe_n lvLe_e))))))) (q_1 c0 c1))
    · refine v_iconst dX9_threesWith_104 ci_1 ?_
      refine v_goto (tgt := 109) dX9_threesWith_105 (by decide) ?_
      refine v_iadd dX9_threesWith_109 ?_
      refine v_istore_n dX9_threesWith_110 (by decide) (L' := [some (.ref 21), some (.int x1), some (.int (x2 + 1)), some (.int x3), some (.int x4), some (.int x5), some (.int (((((h.1 2 x3.toNatClampNeg) >>> (x4 &&& 31)) &&& 1) + (((h.1 2 x3.toNatClampNeg) >>> (x5 &&& 31)) &&& 1)) + (((h.1 2 x4.toNatClampNeg) >>> (x5 &&& 31)) &&& 1)))]) rfl ?_
      refine v_iinc (y := (x5 + 1)) dX9_threesWith_111 rfl rfl (by decide) (L' := [some (.ref 21), some (.int x1), some (.int (x2 + 1)), some (.int x3), some (.int x4), some (.int (x5 + 1)), some (.int (((((h.1 2 x3.toNatClampNeg) >>> (x4 &&& 31)) &&& 1) + (((h.1 2 x3.toNatClampNeg) >>> (x5 &&& 31)) &&& 1)) + (((h.1 2 x4.toNatClampNeg) >>> (x5 &&& 31)) &&& 1)))]) rfl ?_
      refine v_goto (tgt := 38) dX9_threesWith_114 (by decide) ?_
      exact (v_drop (lvLe_s (lvLe_s (lvLe_s (lvLe_s (lvLe_s (lvLe_s (lvLe_n lvLe_e))))))) (q_2 c0 c1))
