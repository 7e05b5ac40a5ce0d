/-! stretches of code, by program -/
theorem e_X4_read {X : CX} {d nx sz : Nat} {Q : Option Value → AH → Prop} {h : AH} (q : V X m_X4_read (rm d 0 0) (ZM X Q nx sz 0 0) (nx, sz, 0, 0) 0 [some (.ref 25), none, none, none] [] h) : Mk X d m_X4_read [.ref 25] h nx sz Q := by
  refine Mok.ofV mo_X4_read (Nat.le_of_ble_eq_true rfl) (L := [some (.ref 25)]) (lvLe_s lvLe_e) (v_grow (n := 3) ?_)
  exact q
theorem c_X4_read_0 {X : CX} {R : Room} {Z : ZX} {A : AX} {h : AH} {d : Nat} {P5 : AH → Prop} (hA0 : 91 ≤ A.1) (hF : Fx h) (hR : RO R (d + 1)) (hcs : A.2.2.1 ≤ R.cells ∧ A.2.2.2 ≤ R.slots) (hM : Mk X d m_J7_fill_53178 [.ref 26, .int 0] h A.1 A.2.1 (RV P5)) (q : ∀ (g : AH), P5 g → V X m_X4_read R Z A 8 [some (.ref 25), none, none, none] [] g) : V X m_X4_read R Z A 0 [some (.ref 25), none, none, none] [] h := by
  refine v_aload_n dX4_read_0 rfl ?_
  refine v_getR dX4_read_1 fl_RX4_9 kd_25 (ltA hA0 rfl) rfl (hF 25 2 26 rfl) ?_
  refine v_iconst dX4_read_4 ci_0 ?_
  exact v_cSV (mt := m_X4_read) mo_J7_fill_53178 ml_RX4_23 mz_J7_fill_53178 rfl hR hcs (Nat.le_of_ble_eq_true rfl) dX4_read_5 rfl hM (fun g hp => (q g hp))
theorem c_X4_read_8 {X : CX} {R : Room} {Z : ZX} {A : AX} {h : AH} {d : Nat} {P13 : Int32 → AH → Prop} (hA0 : 91 ≤ A.1) (hF : Fx h) (hR : RO R (d + 1)) (hcs : A.2.2.1 ≤ R.cells ∧ A.2.2.2 ≤ R.slots) (hM : Mk X d m_X10_pastBlanks [.ref 23, .int 0] h A.1 A.2.1 (RI P13)) (q : ∀ (y : Int32) (g : AH), P13 y g → V X m_X4_read R Z A 16 [some (.ref 25), none, none, none] [.int y] g) : V X m_X4_read R Z A 8 [some (.ref 25), none, none, none] [] h := by
  refine v_aload_n dX4_read_8 rfl ?_
  refine v_getR dX4_read_9 fl_RX4_15 kd_25 (ltA hA0 rfl) rfl (hF 25 0 23 rfl) ?_
  refine v_iconst dX4_read_12 ci_0 ?_
  exact v_cVI (mt := m_X4_read) mo_X10_pastBlanks ml_RX4_29 mi_X10_pastBlanks mv_X10_pastBlanks rfl kd_23 cl_10 rfl (ltA hA0 rfl) hR hcs (Nat.le_of_ble_eq_true rfl) dX4_read_13 rfl hM (fun y g hp => (q y g hp))
theorem c_X4_read_16 {X : CX} {R : Room} {Q : Option Value → AH → Prop} {nx sz mc ms : Nat} {h : AH} {s0 : Int32} (hA0 : 91 ≤ nx) (hF : Fx h) (q : ¬ s0 = (h.1 23 1) → V X m_X4_read R (ZM X Q nx sz mc ms) (nx, sz, mc, ms) 32 [some (.ref 25), some (.int s0), some (.int 0), none] [] h) (hq : s0 = (h.1 23 1) → Q (some (.int (-1))) h) : V X m_X4_read R (ZM X Q nx sz mc ms) (nx, sz, mc, ms) 16 [some (.ref 25), none, none, none] [.int s0] h := by
  refine v_istore_n dX4_read_16 (by decide) (L' := [some (.ref 25), some (.int s0), none, none]) rfl ?_
  refine v_iload_n dX4_read_17 rfl ?_
  refine v_aload_n dX4_read_18 rfl ?_
  refine v_getR dX4_read_19 fl_RX4_15 kd_25 (ltA hA0 rfl) rfl (hF 25 0 23 rfl) ?_
  refine v_getI dX4_read_22 fl_RX4_35 kd_23 (ltA hA0 rfl) rfl ?_
  refine v_icmp_ne (tgt := 30) dX4_read_25 (by decide) (fun c0 => ?_) (fun c0 => ?_)
  · refine v_iconst dX4_read_30 ci_0 ?_
    refine v_istore_n dX4_read_31 (by decide) (L' := [some (.ref 25), some (.int s0), some (.int 0), none]) rfl ?_
    exact (q c0)
  · refine v_iconst dX4_read_28 ci_m1 ?_
    exact v_iret dX4_read_29 rfl (hq c0)
theorem c_X4_read_32 {X : CX} {R : Room} {Q : Option Value → AH → Prop} {nx sz mc ms : Nat} {h : AH} {x1 x2 : Int32} {d : Nat} {P41 : Int32 → AH → Prop} (hA0 : 91 ≤ nx) (hR : RO R (d + 1)) (hcs : mc ≤ R.cells ∧ ms ≤ R.slots) (hq : 200 ≤ x2 → Q (some (.int x1)) h) (hM : ¬ 200 ≤ x2 → Mk X d m_X4_whose [.ref 25, .int x1] h nx sz (RI P41)) (q : ¬ 200 ≤ x2 → ∀ (y : Int32) (g : AH), P41 y g → V X m_X4_read R (ZM X Q nx sz mc ms) (nx, sz, mc, ms) 44 [some (.ref 25), some (.int x1), some (.int x2), none] [.int y] g) : V X m_X4_read R (ZM X Q nx sz mc ms) (nx, sz, mc, ms) 32 [some (.ref 25), some (.int x1), some (.int x2), none] [] h := by
  refine v_iload_n dX4_read_32 rfl ?_
  refine v_sipush dX4_read_33 cs_200 ?_
  refine v_icmp_ge (tgt := 134) dX4_read_36 (by decide) (fun c0 => ?_) (fun c0 => ?_)
  · refine v_iload_n dX4_read_134 rfl ?_
    exact v_iret dX4_read_135 rfl (hq c0)
  · refine v_aload_n dX4_read_39 rfl ?_
    refine v_iload_n dX4_read_40 rfl ?_
    exact v_cVI (mt := m_X4_read) mo_X4_whose ml_RX4_39 mi_X4_whose mv_X4_whose rfl kd_25 cl_4 rfl (ltA hA0 rfl) hR hcs (Nat.le_of_ble_eq_true rfl) dX4_read_41 rfl (hM c0) (fun y g hp => ((q c0) y g hp))
theorem c_X4_read_44 {X : CX} {R : Room} {Q : Option Value → AH → Prop} {nx sz mc ms : Nat} {h : AH} {x1 x2 s0 : Int32} {d : Nat} {P59 : Int32 → AH → Prop} (hA0 : 91 ≤ nx) (hF : Fx h) (hR : RO R (d + 1)) (hcs : mc ≤ R.cells ∧ ms ≤ R.slots) (hM : ¬ s0 = (-1) → Mk X d m_X10_pastBlanks [.ref 23, .int (x1 + 1)] h nx sz (RI P59)) (q : ¬ s0 = (-1) → ∀ (y : Int32) (g : AH), P59 y g → V X m_X4_read R (ZM X Q nx sz mc ms) (nx, sz, mc, ms) 62 [some (.ref 25), none, some (.int x2), some (.int s0)] [.int y] g) (hq : s0 = (-1) → Q (some (.int x1)) h) : V X m_X4_read R (ZM X Q nx sz mc ms) (nx, sz, mc, ms) 44 [some (.ref 25), some (.int x1), some (.int x2), none] [.int s0] h := by
  refine v_istore_n dX4_read_44 (by decide) (L' := [some (.ref 25), some (.int x1), some (.int x2), some (.int s0)]) rfl ?_
  refine v_iload_n dX4_read_45 rfl ?_
  refine v_iconst dX4_read_46 ci_m1 ?_
  refine v_icmp_ne (tgt := 52) dX4_read_47 (by decide) (fun c0 => ?_) (fun c0 => ?_)
  · refine v_aload_n dX4_read_52 rfl ?_
    refine v_getR dX4_read_53 fl_RX4_15 kd_25 (ltA hA0 rfl) rfl (hF 25 0 23 rfl) ?_
    refine v_iload_n dX4_read_56 rfl ?_
    refine v_iconst dX4_read_57 ci_1 ?_
    refine v_iadd dX4_read_58 ?_
    exact v_cVI (mt := m_X4_read) mo_X10_pastBlanks ml_RX4_29 mi_X10_pastBlanks mv_X10_pastBlanks rfl kd_23 cl_10 rfl (ltA hA0 rfl) hR hcs (Nat.le_of_ble_eq_true rfl) dX4_read_59 rfl (hM c0) (fun y g hp => (v_drop (lvLe_s (lvLe_n (lvLe_s (lvLe_s lvLe_e)))) ((q c0) y g hp)))
  · refine v_iload_n dX4_read_50 rfl ?_
    exact v_iret dX4_read_51 rfl (hq c0)
theorem c_X4_read_62 {X : CX} {R : Room} {Z : ZX} {A : AX} {h : AH} {x2 x3 s0 : Int32} {d : Nat} {P67 : Int32 → AH → Prop} (hA0 : 91 ≤ A.1) (hR : RO R (d + 1)) (hcs : A.2.2.1 ≤ R.cells ∧ A.2.2.2 ≤ R.slots) (hM : Mk X d m_X4_whose [.ref 25, .int s0] h A.1 A.2.1 (RI P67)) (q : ∀ (y : Int32) (g : AH), P67 y g → V X m_X4_read R Z A 70 [some (.ref 25), some (.int s0), some (.int x2), none] [.int y, .int x3, .ref 25] g) : V X m_X4_read R Z A 62 [some (.ref 25), none, some (.int x2), some (.int x3)] [.int s0] h := by
  refine v_istore_n dX4_read_62 (by decide) (L' := [some (.ref 25), some (.int s0), some (.int x2), some (.int x3)]) rfl ?_
  refine v_aload_n dX4_read_63 rfl ?_
  refine v_iload_n dX4_read_64 rfl ?_
  refine v_aload_n dX4_read_65 rfl ?_
  refine v_iload_n dX4_read_66 rfl ?_
  exact v_cVI (mt := m_X4_read) mo_X4_whose ml_RX4_39 mi_X4_whose mv_X4_whose rfl kd_25 cl_4 rfl (ltA hA0 rfl) hR hcs (Nat.le_of_ble_eq_true rfl) dX4_read_67 rfl hM (fun y g hp => (v_drop (lvLe_s (lvLe_s (lvLe_s (lvLe_n lvLe_e)))) (q y g hp)))
theorem c_X4_read_70 {X : CX} {R : Room} {Z : ZX} {A : AX} {h : AH} {x1 x2 s1 s2 : Int32} {d : Nat} {P70 : Int32 → AH → Prop} (hA0 : 91 ≤ A.1) (hR : RO R (d + 1)) (hcs : A.2.2.1 ≤ R.cells ∧ A.2.2.2 ≤ R.slots) (hM : Mk X d m_X4_joined [.ref 25, .int s1, .int s2] h A.1 A.2.1 (RI P70)) (q : ∀ (y : Int32) (g : AH), P70 y g → V X m_X4_read R Z A 73 [some (.ref 25), some (.int x1), some (.int x2), none] [.int y] g) : V X m_X4_read R Z A 70 [some (.ref 25), some (.int x1), some (.int x2), none] [.int s2, .int s1, .ref 25] h := by
  exact v_cVI (mt := m_X4_read) mo_X4_joined ml_RX4_42 mi_X4_joined mv_X4_joined rfl kd_25 cl_4 rfl (ltA hA0 rfl) hR hcs (Nat.le_of_ble_eq_true rfl) dX4_read_70 rfl hM (fun y g hp => (q y g hp))
theorem c_X4_read_73 {X : CX} {R : Room} {Q : Option Value → AH → Prop} {nx sz mc ms : Nat} {h : AH} {x1 x2 s0 : Int32} {d : Nat} {P85 : Int32 → AH → Prop} (hA0 : 91 ≤ nx) (hF : Fx h) (hR : RO R (d + 1)) (hcs : mc ≤ R.cells ∧ ms ≤ R.slots) (hM : ¬ s0 = 0 → Mk X d m_X10_pastBlanks [.ref 23, .int (x1 + 1)] h nx sz (RI P85)) (q : ¬ s0 = 0 → ∀ (y : Int32) (g : AH), P85 y g → V X m_X4_read R (ZM X Q nx sz mc ms) (nx, sz, mc, ms) 88 [some (.ref 25), none, some (.int x2), none] [.int y] g) (hq : s0 = 0 → Q (some (.int x1)) h) : V X m_X4_read R (ZM X Q nx sz mc ms) (nx, sz, mc, ms) 73 [some (.ref 25), some (.int x1), some (.int x2), none] [.int s0] h := by
  refine v_if_ne (tgt := 78) dX4_read_73 (by decide) (fun c0 => ?_) (fun c0 => ?_)
  · refine v_aload_n dX4_read_78 rfl ?_
    refine v_getR dX4_read_79 fl_RX4_15 kd_25 (ltA hA0 rfl) rfl (hF 25 0 23 rfl) ?_
    refine v_iload_n dX4_read_82 rfl ?_
    refine v_iconst dX4_read_83 ci_1 ?_
    refine v_iadd dX4_read_84 ?_
    exact v_cVI (mt := m_X4_read) mo_X10_pastBlanks ml_RX4_29 mi_X10_pastBlanks mv_X10_pastBlanks rfl kd_23 cl_10 rfl (ltA hA0 rfl) hR hcs (Nat.le_of_ble_eq_true rfl) dX4_read_85 rfl (hM c0) (fun y g hp => (v_drop (lvLe_s (lvLe_n (lvLe_s (lvLe_n lvLe_e)))) ((q c0) y g hp)))
  · refine v_iload_n dX4_read_76 rfl ?_
    exact v_iret dX4_read_77 rfl (hq c0)
theorem c_X4_read_88 {X : CX} {R : Room} {Q : Option Value → AH → Prop} {nx sz mc ms : Nat} {h : AH} {x2 s0 : Int32} {d : Nat} {P107 : Int32 → AH → Prop} (hA0 : 91 ≤ nx) (hF : Fx h) (hR : RO R (d + 1)) (hcs : mc ≤ R.cells ∧ ms ≤ R.slots) (hM : ¬ s0 = (h.1 23 1) → Mk X d m_X10_sign [.ref 23, .int s0] h nx sz (RI P107)) (q : ¬ s0 = (h.1 23 1) → ∀ (y : Int32) (g : AH), P107 y g → V X m_X4_read R (ZM X Q nx sz mc ms) (nx, sz, mc, ms) 110 [some (.ref 25), some (.int s0), some (.int x2), none] [.int y] g) (hq : s0 = (h.1 23 1) → Q (some (.int (-1))) h) : V X m_X4_read R (ZM X Q nx sz mc ms) (nx, sz, mc, ms) 88 [some (.ref 25), none, some (.int x2), none] [.int s0] h := by
  refine v_istore_n dX4_read_88 (by decide) (L' := [some (.ref 25), some (.int s0), some (.int x2), none]) rfl ?_
  refine v_iload_n dX4_read_89 rfl ?_
  refine v_aload_n dX4_read_90 rfl ?_
  refine v_getR dX4_read_91 fl_RX4_15 kd_25 (ltA hA0 rfl) rfl (hF 25 0 23 rfl) ?_
  refine v_getI dX4_read_94 fl_RX4_35 kd_23 (ltA hA0 rfl) rfl ?_
  refine v_icmp_ne (tgt := 102) dX4_read_97 (by decide) (fun c0 => ?_) (fun c0 => ?_)
  · refine v_aload_n dX4_read_102 rfl ?_
    refine v_getR dX4_read_103 fl_RX4_15 kd_25 (ltA hA0 rfl) rfl (hF 25 0 23 rfl) ?_
    refine v_iload_n dX4_read_106 rfl ?_
    exact v_cVI (mt := m_X4_read) mo_X10_sign ml_RX4_46 mi_X10_sign mv_X10_sign rfl kd_23 cl_10 rfl (ltA hA0 rfl) hR hcs (Nat.le_of_ble_eq_true rfl) dX4_read_107 rfl (hM c0) (fun y g hp => ((q c0) y g hp))
  · refine v_iconst dX4_read_100 ci_m1 ?_
    exact v_iret dX4_read_101 rfl (hq c0)
theorem c_X4_read_110 {X : CX} {R : Room} {Q : Option Value → AH → Prop} {nx sz mc ms : Nat} {h : AH} {x1 x2 s0 : Int32} {d : Nat} {P124 : Int32 → AH → Prop} (hA0 : 91 ≤ nx) (hF : Fx h) (hR : RO R (d + 1)) (hcs : mc ≤ R.cells ∧ ms ≤ R.slots) (hM : s0 = 44 → Mk X d m_X10_pastBlanks [.ref 23, .int (x1 + 1)] h nx sz (RI P124)) (q : s0 = 44 → ∀ (y : Int32) (g : AH), P124 y g → V X m_X4_read R (ZM X Q nx sz mc ms) (nx, sz, mc, ms) 127 [some (.ref 25), none, some (.int x2), none] [.int y] g) (hq : ¬ s0 = 44 → Q (some (.int x1)) h) : V X m_X4_read R (ZM X Q nx sz mc ms) (nx, sz, mc, ms) 110 [some (.ref 25), some (.int x1), some (.int x2), none] [.int s0] h := by
  refine v_bipush dX4_read_110 cb_44 ?_
  refine v_icmp_eq (tgt := 117) dX4_read_112 (by decide) (fun c0 => ?_) (fun c0 => ?_)
  · refine v_aload_n dX4_read_117 rfl ?_
    refine v_getR dX4_read_118 fl_RX4_15 kd_25 (ltA hA0 rfl) rfl (hF 25 0 23 rfl) ?_
    refine v_iload_n dX4_read_121 rfl ?_
    refine v_iconst dX4_read_122 ci_1 ?_
    refine v_iadd dX4_read_123 ?_
    exact v_cVI (mt := m_X4_read) mo_X10_pastBlanks ml_RX4_29 mi_X10_pastBlanks mv_X10_pastBlanks rfl kd_23 cl_10 rfl (ltA hA0 rfl) hR hcs (Nat.le_of_ble_eq_true rfl) dX4_read_124 rfl (hM c0) (fun y g hp => (v_drop (lvLe_s (lvLe_n (lvLe_s (lvLe_n lvLe_e)))) ((q c0) y g hp)))
  · refine v_iload_n dX4_read_115 rfl ?_
    exact v_iret dX4_read_116 rfl (hq c0)
theorem c_X4_read_127 {X : CX} {R : Room} {Z : ZX} {A : AX} {h : AH} {x2 s0 : Int32} (q : V X m_X4_read R Z A 32 [some (.ref 25), some (.int s0), some (.int (x2 + 1)), none] [] h) : V X m_X4_read R Z A 127 [some (.ref 25), none, some (.int x2), none] [.int s0] h := by
  refine v_istore_n dX4_read_127 (by decide) (L' := [some (.ref 25), some (.int s0), some (.int x2), none]) rfl ?_
  refine v_iinc (y := (x2 + 1)) dX4_read_128 rfl rfl (by decide) (L' := [some (.ref 25), some (.int s0), some (.int (x2 + 1)), none]) rfl ?_
  refine v_goto (tgt := 32) dX4_read_131 (by decide) ?_
  exact q
theorem e_X4_whose {X : CX} {d nx sz : Nat} {Q : Option Value → AH → Prop} {h : AH} {x1 : Int32} (q : V X m_X4_whose (rm d 0 0) (ZM X Q nx sz 0 0) (nx, sz, 0, 0) 0 [some (.ref 25), some (.int x1), none] [] h) : Mk X d m_X4_whose [.ref 25, .int x1] h nx sz Q := by
  refine Mok.ofV mo_X4_whose (Nat.le_of_ble_eq_true rfl) (L := [some (.ref 25), some (.int x1)]) (lvLe_s (lvLe_s lvLe_e)) (v_grow (n := 1) ?_)
  exact q
theorem c_X4_whose_0 {X : CX} {R : Room} {Z : ZX} {A : AX} {h : AH} {x1 : Int32} {d : Nat} {P5 : Int32 → AH → Prop} (hA0 : 91 ≤ A.1) (hF : Fx h) (hR : RO R (d + 1)) (hcs : A.2.2.1 ≤ R.cells ∧ A.2.2.2 ≤ R.slots) (hM : Mk X d m_X10_sign [.ref 23, .int x1] h A.1 A.2.1 (RI P5)) (q : ∀ (y : Int32) (g : AH), P5 y g → V X m_X4_whose R Z A 8 [some (.ref 25), none, none] [.int y] g) : V X m_X4_whose R Z A 0 [some (.ref 25), some (.int x1), none] [] h := by
  refine v_aload_n dX4_whose_0 rfl ?_
  refine v_getR dX4_whose_1 fl_RX4_15 kd_25 (ltA hA0 rfl) rfl (hF 25 0 23 rfl) ?_
  refine v_iload_n dX4_whose_4 rfl ?_
  exact v_cVI (mt := m_X4_whose) mo_X10_sign ml_RX4_46 mi_X10_sign mv_X10_sign rfl kd_23 cl_10 rfl (ltA hA0 rfl) hR hcs (Nat.le_of_ble_eq_true rfl) dX4_whose_5 rfl hM (fun y g hp => (v_drop (lvLe_s (lvLe_n (lvLe_n lvLe_e))) (q y g hp)))
theorem c_X4_whose_8 {X : CX} {R : Room} {Z : ZX} {A : AX} {h : AH} {s0 : Int32} {d : Nat} {P17 : Int32 → AH → Prop} (hA0 : 91 ≤ A.1) (hF : Fx h) (hR : RO R (d + 1)) (hcs : A.2.2.1 ≤ R.cells ∧ A.2.2.2 ≤ R.slots) (hM : Mk X d m_X3_has [.ref 1, .int (s0 - 97)] h A.1 A.2.1 (RI P17)) (q : ∀ (y : Int32) (g : AH), P17 y g → V X m_X4_whose R Z A 20 [none, none, some (.int (s0 - 97))] [.int y] g) : V X m_X4_whose R Z A 8 [some (.ref 25), none, none] [.int s0] h := by
  refine v_bipush dX4_whose_8 cb_97 ?_
  refine v_isub dX4_whose_10 ?_
  refine v_istore_n dX4_whose_11 (by decide) (L' := [some (.ref 25), none, some (.int (s0 - 97))]) rfl ?_
  refine v_aload_n dX4_whose_12 rfl ?_
  refine v_getR dX4_whose_13 fl_RX4_19 kd_25 (ltA hA0 rfl) rfl (hF 25 1 1 rfl) ?_
  refine v_iload_n dX4_whose_16 rfl ?_
  exact v_cVI (mt := m_X4_whose) mo_X3_has ml_RX4_49 mi_X3_has mv_X3_has rfl kd_1 cl_3 rfl (ltA hA0 rfl) hR hcs (Nat.le_of_ble_eq_true rfl) dX4_whose_17 rfl hM (fun y g hp => (v_drop (lvLe_n (lvLe_n (lvLe_s lvLe_e))) (q y g hp)))
theorem c_X4_whose_20 {X : CX} {R : Room} {Q : Option Value → AH → Prop} {nx sz mc ms : Nat} {h : AH} {x2 s0 : Int32} (hq : s0 = 0 → Q (some (.int (-1))) h) (hq_1 : ¬ s0 = 0 → Q (some (.int x2)) h) : V X m_X4_whose R (ZM X Q nx sz mc ms) (nx, sz, mc, ms) 20 [none, none, some (.int x2)] [.int s0] h := by
  refine v_if_eq (tgt := 27) dX4_whose_20 (by decide) (fun c0 => ?_) (fun c0 => ?_)
  · refine v_iconst dX4_whose_27 ci_m1 ?_
    exact v_iret dX4_whose_28 rfl (hq c0)
  · refine v_iload_n dX4_whose_23 rfl ?_
    refine v_goto (tgt := 28) dX4_whose_24 (by decide) ?_
    exact v_iret dX4_whose_28 rfl (hq_1 c0)
theorem e_X4_joined {X : CX} {d nx sz : Nat} {Q : Option Value → AH → Prop} {h : AH} {x1 x2 : Int32} (q : V X m_X4_joined (rm d 0 0) (ZM X Q nx sz 0 0) (nx, sz, 0, 0) 0 [some (.ref 25), some (.int x1), some (.int x2)] [] h) : Mk X d m_X4_joined [.ref 25, .int x1, .int x2] h nx sz Q := by
  refine Mok.ofV mo_X4_joined (Nat.le_of_ble_eq_true rfl) (L := [some (.ref 25), some (.int x1), some (.int x2)]) (lvLe_s (lvLe_s (lvLe_s lvLe_e))) (v_grow (n := 0) ?_)
  exact q
theorem c_X4_joined_0 {X : CX} {R : Room} {Q : Option Value → AH → Prop} {nx sz mc ms : Nat} {h : AH} {x1 x2 : Int32} {d : Nat} {P25 : Int32 → AH → Prop} (hA0 : 91 ≤ nx) (hF : Fx h) (hR : RO R (d + 1)) (hcs : mc ≤ R.cells ∧ ms ≤ R.slots) (hq : x2 = (-1) → Q (some (.int 0)) h) (hq_1 : ¬ x2 = (-1) → x2 = x1 → Q (some (.int 0)) h) (hi_15 : ¬ x2 = (-1) → ¬ x2 = x1 → vp_in x1 20) (hq_2 : ¬ x2 = (-1) → ¬ x2 = x1 → ¬ (((h.1 26 x1.toNatClampNeg) >>> (x2 &&& 31)) &&& 1) = 0 → Q (some (.int 0)) h) (hM : ¬ x2 = (-1) → ¬ x2 = x1 → (((h.1 26 x1.toNatClampNeg) >>> (x2 &&& 31)) &&& 1) = 0 → Mk X d m_X4_hasMost [.ref 25, .int x1] h nx sz (RI P25)) (q : ¬ x2 = (-1) → ¬ x2 = x1 → (((h.1 26 x1.toNatClampNeg) >>> (x2 &&& 31)) &&& 1) = 0 → ∀ (y : Int32) (g : AH), P25 y g → V X m_X4_joined R (ZM X Q nx sz mc ms) (nx, sz, mc, ms) 28 [some (.ref 25), some (.int x1), some (.int x2)] [.int y] g) : V X m_X4_joined R (ZM X Q nx sz mc ms) (nx, sz, mc, ms) 0 [some (.ref 25), some (.int x1), some (.int x2)] [] h := by
  refine v_iload_n dX4_joined_0 rfl ?_
  refine v_iconst dX4_joined_1 ci_m1 ?_
  refine v_icmp_eq (tgt := 39) dX4_joined_2 (by decide) (fun c0 => ?_) (fun c0 => ?_)
  · refine v_iconst dX4_joined_39 ci_0 ?_
    exact v_zret (ty := .boolean) dX4_joined_40 rfl rfl (hq c0)
  · refine v_iload_n dX4_joined_5 rfl ?_
    refine v_iload_n dX4_joined_6 rfl ?_
    refine v_icmp_eq (tgt := 39) dX4_joined_7 (by decide) (fun c1 => ?_) (fun c1 => ?_)
    · refine v_iconst dX4_joined_39 ci_0 ?_
      exact v_zret (ty := .boolean) dX4_joined_40 rfl rfl (hq_1 c0 c1)
    · refine v_aload_n dX4_joined_10 rfl ?_
      refine v_getR dX4_joined_11 fl_RX4_9 kd_25 (ltA hA0 rfl) rfl (hF 25 2 26 rfl) ?_
      refine v_iload_n dX4_joined_14 rfl ?_
      refine v_iald dX4_joined_15 kd_26 (ltA hA0 rfl) (hi_15 c0 c1) ?_
      refine v_iload_n dX4_joined_16 rfl ?_
      refine v_ishr dX4_joined_17 ?_
      refine v_iconst dX4_joined_18 ci_1 ?_
      refine v_iand dX4_joined_19 ?_
      refine v_if_ne (tgt := 39) dX4_joined_20 (by decide) (fun c2 => ?_) (fun c2 => ?_)
      · refine v_iconst dX4_joined_39 ci_0 ?_
        exact v_zret (ty := .boolean) dX4_joined_40 rfl rfl (hq_2 c0 c1 c2)
      · refine v_aload_n dX4_joined_23 rfl ?_
        refine v_iload_n dX4_joined_24 rfl ?_
        exact v_cVI (mt := m_X4_joined) mo_X4_hasMost ml_RX4_55 mi_X4_hasMost mv_X4_hasMost rfl kd_25 cl_4 rfl (ltA hA0 rfl) hR hcs (Nat.le_of_ble_eq_true rfl) dX4_joined_25 rfl (hM c0 c1 c2) (fun y g hp => ((q c0 c1 c2) y g hp))
theorem c_X4_joined_28 {X : CX} {R : Room} {Q : Option Value → AH → Prop} {nx sz mc ms : Nat} {h : AH} {x1 x2 s0 : Int32} {d : Nat} {P33 : Int32 → AH → Prop} (hA0 : 91 ≤ nx) (hR : RO R (d + 1)) (hcs : mc ≤ R.cells ∧ ms ≤ R.slots) (hq : ¬ s0 = 0 → Q (some (.int 0)) h) (hM : s0 = 0 → Mk X d m_X4_hasMost [.ref 25, .int x2] h nx sz (RI P33)) (q : s0 = 0 → ∀ (y : Int32) (g : AH), P33 y g → V X m_X4_joined R (ZM X Q nx sz mc ms) (nx, sz, mc, ms) 36 [some (.ref 25), some (.int x1), some (.int x2)] [.int y] g) : V X m_X4_joined R (ZM X Q nx sz mc ms) (nx, sz, mc, ms) 28 [some (.ref 25), some (.int x1), some (.int x2)] [.int s0] h := by
  refine v_if_ne (tgt := 39) dX4_joined_28 (by decide) (fun c0 => ?_) (fun c0 => ?_)
  · refine v_iconst dX4_joined_39 ci_0 ?_
    exact v_zret (ty := .boolean) dX4_joined_40 rfl rfl (hq c0)
  · refine v_aload_n dX4_joined_31 rfl ?_
    refine v_iload_n dX4_joined_32 rfl ?_
    exact v_cVI (mt := m_X4_joined) mo_X4_hasMost ml_RX4_55 mi_X4_hasMost mv_X4_hasMost rfl kd_25 cl_4 rfl (ltA hA0 rfl) hR hcs (Nat.le_of_ble_eq_true rfl) dX4_joined_33 rfl (hM c0) (fun y g hp => ((q c0) y g hp))
theorem c_X4_joined_36 {X : CX} {R : Room} {Q : Option Value → AH → Prop} {nx sz mc ms : Nat} {h : AH} {x1 x2 s0 : Int32} (hA0 : 91 ≤ nx) (hF : Fx h) (hi_47 : s0 = 0 → vp_in x1 20) (hi_52 : s0 = 0 → vp_in x1 20) (hi_59 : s0 = 0 → vp_in x2 20) (hi_64 : s0 = 0 → vp_in x2 20) (hq : s0 = 0 → Q (some (.int 1)) (setI (setI h 26 x1.toNatClampNeg ((h.1 26 x1.toNatClampNeg) ||| ((1 : Int32) <<< ((x2 : Int32) &&& 31)))) 26 x2.toNatClampNeg (((setI h 26 x1.toNatClampNeg ((h.1 26 x1.toNatClampNeg) ||| ((1 : Int32) <<< ((x2 : Int32) &&& 31)))).1 26 x2.toNatClampNeg) ||| ((1 : Int32) <<< ((x1 : Int32) &&& 31))))) (hq_1 : ¬ s0 = 0 → Q (some (.int 0)) h) : V X m_X4_joined R (ZM X Q nx sz mc ms) (nx, sz, mc, ms) 36 [some (.ref 25), some (.int x1), some (.int x2)] [.int s0] h := by
  refine v_if_eq (tgt := 41) dX4_joined_36 (by decide) (fun c0 => ?_) (fun c0 => ?_)
  · refine v_aload_n dX4_joined_41 rfl ?_
    refine v_getR dX4_joined_42 fl_RX4_9 kd_25 (ltA hA0 rfl) rfl (hF 25 2 26 rfl) ?_
    refine v_iload_n dX4_joined_45 rfl ?_
    refine v_dup2 dX4_joined_46 rfl rfl ?_
    refine v_iald dX4_joined_47 kd_26 (ltA hA0 rfl) (hi_47 c0) ?_
    refine v_iconst dX4_joined_48 ci_1 ?_
    refine v_iload_n dX4_joined_49 rfl ?_
    refine v_ishl dX4_joined_50 ?_
    refine v_ior dX4_joined_51 ?_
    refine v_iast dX4_joined_52 kd_26 (ltA hA0 rfl) (hi_52 c0) ?_
    refine v_aload_n dX4_joined_53 rfl ?_
    refine v_getR dX4_joined_54 fl_RX4_9 kd_25 (ltA hA0 rfl) rfl (hF 25 2 26 rfl) ?_
    refine v_iload_n dX4_joined_57 rfl ?_
    refine v_dup2 dX4_joined_58 rfl rfl ?_
    refine v_iald dX4_joined_59 kd_26 (ltA hA0 rfl) (hi_59 c0) ?_
    refine v_iconst dX4_joined_60 ci_1 ?_
    refine v_iload_n dX4_joined_61 rfl ?_
    refine v_ishl dX4_joined_62 ?_
    refine v_ior dX4_joined_63 ?_
    refine v_iast dX4_joined_64 kd_26 (ltA hA0 rfl) (hi_64 c0) ?_
    refine v_iconst dX4_joined_65 ci_1 ?_
    exact v_zret (ty := .boolean) dX4_joined_66 rfl rfl (hq c0)
  · refine v_iconst dX4_joined_39 ci_0 ?_
    exact v_zret (ty := .boolean) dX4_joined_40 rfl rfl (hq_1 c0)
theorem e_X4_hasMost {X : CX} {d nx sz : Nat} {Q : Option Value → AH → Prop} {h : AH} {x1 : Int32} (q : V X m_X4_hasMost (rm d 0 0) (ZM X Q nx sz 0 0) (nx, sz, 0, 0) 0 [some (.ref 25), some (.int x1)] [] h) : Mk X d m_X4_hasMost [.ref 25, .int x1] h nx sz Q := by
  refine Mok.ofV mo_X4_hasMost (Nat.le_of_ble_eq_true rfl) (L := [some (.ref 25), some (.int x1)]) (lvLe_s (lvLe_s lvLe_e)) (v_grow (n := 0) ?_)
  exact q
theorem c_X4_hasMost_0 {X : CX} {R : Room} {Z : ZX} {A : AX} {h : AH} {x1 : Int32} {d : Nat} {P6 : Int32 → AH → Prop} (hA0 : 91 ≤ A.1) (hF : Fx h) (hR : RO R (d + 1)) (hcs : A.2.2.1 ≤ R.cells ∧ A.2.2.2 ≤ R.slots) (hi_5 : vp_in x1 20) (hM : Mk X d m_J6_bitCount_0f7a4 [.int (h.1 26 x1.toNatClampNeg)] h A.1 A.2.1 (RI P6)) (q : ∀ (y : Int32) (g : AH), P6 y g → V X m_X4_hasMost R Z A 9 [some (.ref 25), some (.int x1)] [.int y] g) : V X m_X4_hasMost R Z A 0 [some (.ref 25), some (.int x1)] [] h := by
  refine v_aload_n dX4_hasMost_0 rfl ?_
  refine v_getR dX4_hasMost_1 fl_RX4_9 kd_25 (ltA hA0 rfl) rfl (hF 25 2 26 rfl) ?_
  refine v_iload_n dX4_hasMost_4 rfl ?_
  refine v_iald dX4_hasMost_5 kd_26 (ltA hA0 rfl) hi_5 ?_
  exact v_cSI (mt := m_X4_hasMost) mo_J6_bitCount_0f7a4 ml_RX4_58 mz_J6_bitCount_0f7a4 rfl hR hcs (Nat.le_of_ble_eq_true rfl) dX4_hasMost_6 rfl hM (fun y g hp => (q y g hp))
theorem c_X4_hasMost_9 {X : CX} {R : Room} {Q : Option Value → AH → Prop} {nx sz mc ms : Nat} {h : AH} {x1 s0 : Int32} (hA0 : 91 ≤ nx) (hF : Fx h) (hi_17 : vp_in x1 20) (hq : s0 < (h.1 3 x1.toNatClampNeg) → Q (some (.int 0)) h) (hq_1 : ¬ s0 < (h.1 3 x1.toNatClampNeg) → Q (some (.int 1)) h) : V X m_X4_hasMost R (ZM X Q nx sz mc ms) (nx, sz, mc, ms) 9 [some (.ref 25), some (.int x1)] [.int s0] h := by
  refine v_aload_n dX4_hasMost_9 rfl ?_
  refine v_getR dX4_hasMost_10 fl_RX4_19 kd_25 (ltA hA0 rfl) rfl (hF 25 1 1 rfl) ?_
  refine v_getR dX4_hasMost_13 fl_RX4_63 kd_1 (ltA hA0 rfl) rfl (hF 1 3 3 rfl) ?_
  refine v_iload_n dX4_hasMost_16 rfl ?_
  refine v_iald dX4_hasMost_17 kd_3 (ltA hA0 rfl) hi_17 ?_
  refine v_icmp_lt (tgt := 25) dX4_hasMost_18 (by decide) (fun c0 => ?_) (fun c0 => ?_)
  · refine v_iconst dX4_hasMost_25 ci_0 ?_
    exact v_zret (ty := .boolean) dX4_hasMost_26 rfl rfl (hq c0)
  · refine v_iconst dX4_hasMost_21 ci_1 ?_
    refine v_goto (tgt := 26) dX4_hasMost_22 (by decide) ?_
    exact v_zret (ty := .boolean) dX4_hasMost_26 rfl rfl (hq_1 c0)
theorem e_X7_read {X : CX} {d nx sz : Nat} {Q : Option Value → AH → Prop} {h : AH} (q : V X m_X7_read (rm d 0 0) (ZM X Q nx sz 0 0) (nx, sz, 0, 0) 0 [some (.ref 27), none, none, none] [] h) : Mk X d m_X7_read [.ref 27] h nx sz Q := by
  refine Mok.ofV mo_X7_read (Nat.le_of_ble_eq_true rfl) (L := [some (.ref 27)]) (lvLe_s lvLe_e) (v_grow (n := 3) ?_)
  exact q
theorem c_X7_read_0 {X : CX} {R : Room} {Z : ZX} {A : AX} {h : AH} (hA0 : 91 ≤ A.1) (q : V X m_X7_read R Z A 17 [some (.ref 27), some (.int 0), none, none] [] (setI (setI (setI h 27 2 0) 27 3 0) 27 4 0)) : V X m_X7_read R Z A 0 [some (.ref 27), none, none, none] [] h := by
  refine v_aload_n dX7_read_0 rfl ?_
  refine v_iconst dX7_read_1 ci_0 ?_
  refine v_putI rfl rfl rfl dX7_read_2 fl_RX7_19 (Or.inl rfl) kd_27 (ltA hA0 rfl) ?_
  refine v_aload_n dX7_read_5 rfl ?_
  refine v_iconst dX7_read_6 ci_0 ?_
  refine v_putI rfl rfl rfl dX7_read_7 fl_RX7_23 (Or.inl rfl) kd_27 (ltA hA0 rfl) ?_
  refine v_aload_n dX7_read_10 rfl ?_
  refine v_iconst dX7_read_11 ci_0 ?_
  refine v_putI rfl rfl rfl dX7_read_12 fl_RX7_26 (Or.inl rfl) kd_27 (ltA hA0 rfl) ?_
  refine v_iconst dX7_read_15 ci_0 ?_
  refine v_istore_n dX7_read_16 (by decide) (L' := [some (.ref 27), some (.int 0), none, none]) rfl ?_
  exact q
theorem c_X7_read_17 {X : CX} {R : Room} {Q : Option Value → AH → Prop} {nx sz mc ms : Nat} {h : AH} {x1 : Int32} {d : Nat} {P27 : AH → Prop} (hA0 : 91 ≤ nx) (hF : Fx h) (hR : RO R (d + 1)) (hcs : mc ≤ R.cells ∧ ms ≤ R.slots) (hq : 200 ≤ x1 → ¬ (h.1 27 4) = 0 → Q (some (.int (h.1 27 3))) h) (hq_1 : 200 ≤ x1 → (h.1 27 4) = 0 → (h.1 23 1) ≤ (h.1 27 3) → Q (some (.int (-1))) h) (hq_2 : 200 ≤ x1 → (h.1 27 4) = 0 → ¬ (h.1 23 1) ≤ (h.1 27 3) → Q (some (.int (h.1 27 3))) h) (hM : ¬ 200 ≤ x1 → Mk X d m_X7_expect [.ref 27, .int 121] h nx sz (RV P27)) (q : ¬ 200 ≤ x1 → ∀ (g : AH), P27 g → V X m_X7_read R (ZM X Q nx sz mc ms) (nx, sz, mc, ms) 30 [some (.ref 27), some (.int x1), none, none] [] g) : V X m_X7_read R (ZM X Q nx sz mc ms) (nx, sz, mc, ms) 17 [some (.ref 27), some (.int x1), none, none] [] h := by
  refine v_iload_n dX7_read_17 rfl ?_
  refine v_sipush dX7_read_18 cs_200 ?_
  refine v_icmp_ge (tgt := 142) dX7_read_21 (by decide) (fun c0 => ?_) (fun c0 => ?_)
  · refine v_aload_n dX7_read_142 rfl ?_
    refine v_getI dX7_read_143 fl_RX7_26 kd_27 (ltA hA0 rfl) rfl ?_
    refine v_if_ne (tgt := 163) dX7_read_146 (by decide) (fun c1 => ?_) (fun c1 => ?_)
    · refine v_aload_n dX7_read_163 rfl ?_
      refine v_getI dX7_read_164 fl_RX7_23 kd_27 (ltA hA0 rfl) rfl ?_
      refine v_goto (tgt := 171) dX7_read_167 (by decide) ?_
      exact v_iret dX7_read_171 rfl (hq c0 c1)
    · refine v_aload_n dX7_read_149 rfl ?_
      refine v_getI dX7_read_150 fl_RX7_23 kd_27 (ltA hA0 rfl) rfl ?_
      refine v_aload_n dX7_read_153 rfl ?_
      refine v_getR dX7_read_154 fl_RX7_15 kd_27 (ltA hA0 rfl) rfl (hF 27 0 23 rfl) ?_
      refine v_getI dX7_read_157 fl_RX7_55 kd_23 (ltA hA0 rfl) rfl ?_
      refine v_icmp_ge (tgt := 170) dX7_read_160 (by decide) (fun c2 => ?_) (fun c2 => ?_)
      · refine v_iconst dX7_read_170 ci_m1 ?_
        exact v_iret dX7_read_171 rfl (hq_1 c0 c1 c2)
      · refine v_aload_n dX7_read_163 rfl ?_
        refine v_getI dX7_read_164 fl_RX7_23 kd_27 (ltA hA0 rfl) rfl ?_
        refine v_goto (tgt := 171) dX7_read_167 (by decide) ?_
        exact v_iret dX7_read_171 rfl (hq_2 c0 c1 c2)
  · refine v_aload_n dX7_read_24 rfl ?_
    refine v_bipush dX7_read_25 cb_121 ?_
    exact v_cVV (mt := m_X7_read) mo_X7_expect ml_RX7_30 mi_X7_expect mv_X7_expect rfl kd_27 cl_7 rfl (ltA hA0 rfl) hR hcs (Nat.le_of_ble_eq_true rfl) dX7_read_27 rfl (hM c0) (fun g hp => ((q c0) g hp))
theorem c_X7_read_30 {X : CX} {R : Room} {Z : ZX} {A : AX} {h : AH} {x1 : Int32} {d : Nat} {P33 : AH → Prop} (hA0 : 91 ≤ A.1) (hR : RO R (d + 1)) (hcs : A.2.2.1 ≤ R.cells ∧ A.2.2.2 ≤ R.slots) (hM : Mk X d m_X7_expect [.ref 27, .int 58] h A.1 A.2.1 (RV P33)) (q : ∀ (g : AH), P33 g → V X m_X7_read R Z A 36 [some (.ref 27), some (.int x1), none, none] [] g) : V X m_X7_read R Z A 30 [some (.ref 27), some (.int x1), none, none] [] h := by
  refine v_aload_n dX7_read_30 rfl ?_
  refine v_bipush dX7_read_31 cb_58 ?_
  exact v_cVV (mt := m_X7_read) mo_X7_expect ml_RX7_30 mi_X7_expect mv_X7_expect rfl kd_27 cl_7 rfl (ltA hA0 rfl) hR hcs (Nat.le_of_ble_eq_true rfl) dX7_read_33 rfl hM (fun g hp => (q g hp))
theorem c_X7_read_36 {X : CX} {R : Room} {Z : ZX} {A : AX} {h : AH} {x1 : Int32} {d : Nat} {P37 : Int32 → AH → Prop} (hA0 : 91 ≤ A.1) (hR : RO R (d + 1)) (hcs : A.2.2.1 ≤ R.cells ∧ A.2.2.2 ≤ R.slots) (hM : Mk X d m_X7_next [.ref 27] h A.1 A.2.1 (RI P37)) (q : ∀ (y : Int32) (g : AH), P37 y g → V X m_X7_read R Z A 40 [some (.ref 27), some (.int x1), none, none] [.int y] g) : V X m_X7_read R Z A 36 [some (.ref 27), some (.int x1), none, none] [] h := by
  refine v_aload_n dX7_read_36 rfl ?_
  exact v_cVI (mt := m_X7_read) mo_X7_next ml_RX7_34 mi_X7_next mv_X7_next rfl kd_27 cl_7 rfl (ltA hA0 rfl) hR hcs (Nat.le_of_ble_eq_true rfl) dX7_read_37 rfl hM (fun y g hp => (q y g hp))
theorem c_X7_read_40 {X : CX} {R : Room} {Z : ZX} {A : AX} {h : AH} {x1 s0 : Int32} {d : Nat} {P65 : AH → Prop} (hA0 : 91 ≤ A.1) (hR : RO R (d + 1)) (hcs : A.2.2.1 ≤ R.cells ∧ A.2.2.2 ≤ R.slots) (q : s0 = 33 → V X m_X7_read R Z A 68 [some (.ref 27), some (.int x1), none, some (.int 0)] [] h) (q_1 : ¬ s0 = 33 → s0 = 40 → V X m_X7_read R Z A 68 [some (.ref 27), some (.int x1), none, some (.int 0)] [] h) (hM : ¬ s0 = 33 → ¬ s0 = 40 → Mk X d m_X7_sum [.ref 27, .int 0] h A.1 A.2.1 (RV P65)) (q_2 : ¬ s0 = 33 → ¬ s0 = 40 → ∀ (g : AH), P65 g → V X m_X7_read R Z A 68 [some (.ref 27), some (.int x1), none, some (.int 1)] [] g) : V X m_X7_read R Z A 40 [some (.ref 27), some (.int x1), none, none] [.int s0] h := by
  refine v_istore_n dX7_read_40 (by decide) (L' := [some (.ref 27), some (.int x1), some (.int s0), none]) rfl ?_
  refine v_iload_n dX7_read_41 rfl ?_
  refine v_bipush dX7_read_42 cb_33 ?_
  refine v_icmp_eq (tgt := 57) dX7_read_44 (by decide) (fun c0 => ?_) (fun c0 => ?_)
  · refine v_iconst dX7_read_57 ci_0 ?_
    refine v_istore_n dX7_read_58 (by decide) (L' := [some (.ref 27), some (.int x1), some (.int s0), some (.int 0)]) rfl ?_
    refine v_iload_n dX7_read_59 rfl ?_
    refine v_if_eq (tgt := 68) dX7_read_60 (by decide) (fun _ => ?_) (fun z => absurd (show ¬ (0 : Int32) = 0 from z) (by decide))
    exact (v_drop (lvLe_s (lvLe_s (lvLe_n (lvLe_s lvLe_e)))) (q c0))
  · refine v_iload_n dX7_read_47 rfl ?_
    refine v_bipush dX7_read_48 cb_40 ?_
    refine v_icmp_eq (tgt := 57) dX7_read_50 (by decide) (fun c1 => ?_) (fun c1 => ?_)
    · refine v_iconst dX7_read_57 ci_0 ?_
      refine v_istore_n dX7_read_58 (by decide) (L' := [some (.ref 27), some (.int x1), some (.int s0), some (.int 0)]) rfl ?_
      refine v_iload_n dX7_read_59 rfl ?_
      refine v_if_eq (tgt := 68) dX7_read_60 (by decide) (fun _ => ?_) (fun z => absurd (show ¬ (0 : Int32) = 0 from z) (by decide))
      exact (v_drop (lvLe_s (lvLe_s (lvLe_n (lvLe_s lvLe_e)))) (q_1 c0 c1))
    · refine v_iconst dX7_read_53 ci_1 ?_
      refine v_goto (tgt := 58) dX7_read_54 (by decide) ?_
      refine v_istore_n dX7_read_58 (by decide) (L' := [some (.ref 27), some (.int x1), some (.int s0), some (.int 1)]) rfl ?_
      refine v_iload_n dX7_read_59 rfl ?_
      refine v_if_eq (tgt := 68) dX7_read_60 (by decide) (fun z => absurd (show (1 : Int32) = 0 from z) (by decide)) (fun _ => ?_)
      refine v_aload_n dX7_read_63 rfl ?_
      refine v_iconst dX7_read_64 ci_0 ?_
      exact v_cVV (mt := m_X7_read) mo_X7_sum ml_RX7_38 mi_X7_sum mv_X7_sum rfl kd_27 cl_7 rfl (ltA hA0 rfl) hR hcs (Nat.le_of_ble_eq_true rfl) dX7_read_65 rfl (hM c0 c1) (fun g hp => (v_drop (lvLe_s (lvLe_s (lvLe_n (lvLe_s lvLe_e)))) ((q_2 c0 c1) g hp)))
theorem c_X7_read_68 {X : CX} {R : Room} {Z : ZX} {A : AX} {h : AH} {x1 x3 : Int32} {d : Nat} {P86 : AH → Prop} {P73 : Int32 → AH → Prop} (hA0 : 91 ≤ A.1) (hR : RO R (d + 1)) (hcs : A.2.2.1 ≤ R.cells ∧ A.2.2.2 ≤ R.slots) (hM : x3 = 0 → Mk X d m_X7_condition [.ref 27, .int 0, .int x3] h A.1 A.2.1 (RV P86)) (q : x3 = 0 → ∀ (g : AH), P86 g → V X m_X7_read R Z A 89 [some (.ref 27), some (.int x1), none, none] [] g) (hM_1 : ¬ x3 = 0 → Mk X d m_X7_next [.ref 27] h A.1 A.2.1 (RI P73)) (q_1 : ¬ x3 = 0 → ∀ (y : Int32) (g : AH), P73 y g → V X m_X7_read R Z A 76 [some (.ref 27), some (.int x1), none, some (.int x3)] [.int y] g) : V X m_X7_read R Z A 68 [some (.ref 27), some (.int x1), none, some (.int x3)] [] h := by
  refine v_iload_n dX7_read_68 rfl ?_
  refine v_if_eq (tgt := 83) dX7_read_69 (by decide) (fun c0 => ?_) (fun c0 => ?_)
  · refine v_aload_n dX7_read_83 rfl ?_
    refine v_iconst dX7_read_84 ci_0 ?_
    refine v_iload_n dX7_read_85 rfl ?_
    exact v_cVV (mt := m_X7_read) mo_X7_condition ml_RX7_45 mi_X7_condition mv_X7_condition rfl kd_27 cl_7 rfl (ltA hA0 rfl) hR hcs (Nat.le_of_ble_eq_true rfl) dX7_read_86 rfl (hM c0) (fun g hp => (v_drop (lvLe_s (lvLe_s (lvLe_n (lvLe_n lvLe_e)))) ((q c0) g hp)))
  · refine v_aload_n dX7_read_72 rfl ?_
    exact v_cVI (mt := m_X7_read) mo_X7_next ml_RX7_34 mi_X7_next mv_X7_next rfl kd_27 cl_7 rfl (ltA hA0 rfl) hR hcs (Nat.le_of_ble_eq_true rfl) dX7_read_73 rfl (hM_1 c0) (fun y g hp => ((q_1 c0) y g hp))
theorem c_X7_read_76 {X : CX} {R : Room} {Z : ZX} {A : AX} {h : AH} {x1 x3 s0 : Int32} {d : Nat} {P76 : Int32 → AH → Prop} (hR : RO R (d + 1)) (hcs : A.2.2.1 ≤ R.cells ∧ A.2.2.2 ≤ R.slots) (hM : Mk X d m_X7_comparing [.int s0] h A.1 A.2.1 (RI P76)) (q : ∀ (y : Int32) (g : AH), P76 y g → V X m_X7_read R Z A 79 [some (.ref 27), some (.int x1), none, some (.int x3)] [.int y] g) : V X m_X7_read R Z A 76 [some (.ref 27), some (.int x1), none, some (.int x3)] [.int s0] h := by
  exact v_cSI (mt := m_X7_read) mo_X7_comparing ml_RX7_41 mz_X7_comparing rfl hR hcs (Nat.le_of_ble_eq_true rfl) dX7_read_76 rfl hM (fun y g hp => (q y g hp))
theorem c_X7_read_79 {X : CX} {R : Room} {Z : ZX} {A : AX} {h : AH} {x1 x3 s0 : Int32} {d : Nat} {P86 : AH → Prop} (hA0 : 91 ≤ A.1) (hR : RO R (d + 1)) (hcs : A.2.2.1 ≤ R.cells ∧ A.2.2.2 ≤ R.slots) (q : s0 = (-1) → V X m_X7_read R Z A 107 [some (.ref 27), some (.int x1), none, none] [] h) (hM : ¬ s0 = (-1) → Mk X d m_X7_condition [.ref 27, .int 0, .int x3] h A.1 A.2.1 (RV P86)) (q_1 : ¬ s0 = (-1) → ∀ (g : AH), P86 g → V X m_X7_read R Z A 89 [some (.ref 27), some (.int x1), none, none] [] g) : V X m_X7_read R Z A 79 [some (.ref 27), some (.int x1), none, some (.int x3)] [.int s0] h := by
  refine v_iconst dX7_read_79 ci_m1 ?_
  refine v_icmp_eq (tgt := 107) dX7_read_80 (by decide) (fun c0 => ?_) (fun c0 => ?_)
  · exact (v_drop (lvLe_s (lvLe_s (lvLe_n (lvLe_n lvLe_e)))) (q c0))
  · refine v_aload_n dX7_read_83 rfl ?_
    refine v_iconst dX7_read_84 ci_0 ?_
    refine v_iload_n dX7_read_85 rfl ?_
    exact v_cVV (mt := m_X7_read) mo_X7_condition ml_RX7_45 mi_X7_condition mv_X7_condition rfl kd_27 cl_7 rfl (ltA hA0 rfl) hR hcs (Nat.le_of_ble_eq_true rfl) dX7_read_86 rfl (hM c0) (fun g hp => (v_drop (lvLe_s (lvLe_s (lvLe_n (lvLe_n lvLe_e)))) ((q_1 c0) g hp)))
theorem c_X7_read_89 {X : CX} {R : Room} {Z : ZX} {A : AX} {h : AH} {x1 : Int32} {d : Nat} {P92 : AH → Prop} (hA0 : 91 ≤ A.1) (hR : RO R (d + 1)) (hcs : A.2.2.1 ≤ R.cells ∧ A.2.2.2 ≤ R.slots) (hM : Mk X d m_X7_expect [.ref 27, .int 63] h A.1 A.2.1 (RV P92)) (q : ∀ (g : AH), P92 g → V X m_X7_read R Z A 95 [some (.ref 27), some (.int x1), none, none] [] g) : V X m_X7_read R Z A 89 [some (.ref 27), some (.int x1), none, none] [] h := by
  refine v_aload_n dX7_read_89 rfl ?_
  refine v_bipush dX7_read_90 cb_63 ?_
  exact v_cVV (mt := m_X7_read) mo_X7_expect ml_RX7_30 mi_X7_expect mv_X7_expect rfl kd_27 cl_7 rfl (ltA hA0 rfl) hR hcs (Nat.le_of_ble_eq_true rfl) dX7_read_92 rfl hM (fun g hp => (q g hp))
theorem c_X7_read_95 {X : CX} {R : Room} {Z : ZX} {A : AX} {h : AH} {x1 : Int32} {d : Nat} {P99 : AH → Prop} (hA0 : 91 ≤ A.1) (hR : RO R (d + 1)) (hcs : A.2.2.1 ≤ R.cells ∧ A.2.2.2 ≤ R.slots) (hM : Mk X d m_X7_write [.ref 27, .int 12, .int 0] h A.1 A.2.1 (RV P99)) (q : ∀ (g : AH), P99 g → V X m_X7_read R Z A 102 [some (.ref 27), some (.int x1), none, none] [] g) : V X m_X7_read R Z A 95 [some (.ref 27), some (.int x1), none, none] [] h := by
  refine v_aload_n dX7_read_95 rfl ?_
  refine v_bipush dX7_read_96 cb_12 ?_
  refine v_iconst dX7_read_98 ci_0 ?_
  exact v_cVV (mt := m_X7_read) mo_X7_write ml_RX7_51 mi_X7_write mv_X7_write rfl kd_27 cl_7 rfl (ltA hA0 rfl) hR hcs (Nat.le_of_ble_eq_true rfl) dX7_read_99 rfl hM (fun g hp => (q g hp))
theorem c_X7_read_102 {X : CX} {R : Room} {Z : ZX} {A : AX} {h : AH} {x1 : Int32} {d : Nat} {P104 : AH → Prop} (hA0 : 91 ≤ A.1) (hR : RO R (d + 1)) (hcs : A.2.2.1 ≤ R.cells ∧ A.2.2.2 ≤ R.slots) (hM : Mk X d m_X7_sum [.ref 27, .int 0] h A.1 A.2.1 (RV P104)) (q : ∀ (g : AH), P104 g → V X m_X7_read R Z A 107 [some (.ref 27), some (.int x1), none, none] [] g) : V X m_X7_read R Z A 102 [some (.ref 27), some (.int x1), none, none] [] h := by
  refine v_aload_n dX7_read_102 rfl ?_
  refine v_iconst dX7_read_103 ci_0 ?_
  exact v_cVV (mt := m_X7_read) mo_X7_sum ml_RX7_38 mi_X7_sum mv_X7_sum rfl kd_27 cl_7 rfl (ltA hA0 rfl) hR hcs (Nat.le_of_ble_eq_true rfl) dX7_read_104 rfl hM (fun g hp => (q g hp))
theorem c_X7_read_107 {X : CX} {R : Room} {Z : ZX} {A : AX} {h : AH} {x1 : Int32} {d : Nat} {P111 : AH → Prop} (hA0 : 91 ≤ A.1) (hR : RO R (d + 1)) (hcs : A.2.2.1 ≤ R.cells ∧ A.2.2.2 ≤ R.slots) (hM : Mk X d m_X7_write [.ref 27, .int 13, .int 0] h A.1 A.2.1 (RV P111)) (q : ∀ (g : AH), P111 g → V X m_X7_read R Z A 114 [some (.ref 27), some (.int x1), none, none] [] g) : V X m_X7_read R Z A 107 [some (.ref 27), some (.int x1), none, none] [] h := by
  refine v_aload_n dX7_read_107 rfl ?_
  refine v_bipush dX7_read_108 cb_13 ?_
  refine v_iconst dX7_read_110 ci_0 ?_
  exact v_cVV (mt := m_X7_read) mo_X7_write ml_RX7_51 mi_X7_write mv_X7_write rfl kd_27 cl_7 rfl (ltA hA0 rfl) hR hcs (Nat.le_of_ble_eq_true rfl) dX7_read_111 rfl hM (fun g hp => (q g hp))
theorem c_X7_read_114 {X : CX} {R : Room} {Z : ZX} {A : AX} {h : AH} {x1 : Int32} {d : Nat} {P115 : Int32 → AH → Prop} (hA0 : 91 ≤ A.1) (hR : RO R (d + 1)) (hcs : A.2.2.1 ≤ R.cells ∧ A.2.2.2 ≤ R.slots) (hM : Mk X d m_X7_next [.ref 27] h A.1 A.2.1 (RI P115)) (q : ∀ (y : Int32) (g : AH), P115 y g → V X m_X7_read R Z A 118 [some (.ref 27), some (.int x1), none, none] [.int y] g) : V X m_X7_read R Z A 114 [some (.ref 27), some (.int x1), none, none] [] h := by
  refine v_aload_n dX7_read_114 rfl ?_
  exact v_cVI (mt := m_X7_read) mo_X7_next ml_RX7_34 mi_X7_next mv_X7_next rfl kd_27 cl_7 rfl (ltA hA0 rfl) hR hcs (Nat.le_of_ble_eq_true rfl) dX7_read_115 rfl hM (fun y g hp => (q y g hp))
theorem c_X7_read_118 {X : CX} {R : Room} {Q : Option Value → AH → Prop} {nx sz mc ms : Nat} {h : AH} {x1 s0 : Int32} (hA0 : 91 ≤ nx) (hF : Fx h) (q : s0 = 59 → V X m_X7_read R (ZM X Q nx sz mc ms) (nx, sz, mc, ms) 17 [some (.ref 27), some (.int (x1 + 1)), none, none] [] (setI h 27 3 ((h.1 27 3) + 1))) (hq : ¬ s0 = 59 → ¬ (h.1 27 4) = 0 → Q (some (.int (h.1 27 3))) h) (hq_1 : ¬ s0 = 59 → (h.1 27 4) = 0 → (h.1 23 1) ≤ (h.1 27 3) → Q (some (.int (-1))) h) (hq_2 : ¬ s0 = 59 → (h.1 27 4) = 0 → ¬ (h.1 23 1) ≤ (h.1 27 3) → Q (some (.int (h.1 27 3))) h) : V X m_X7_read R (ZM X Q nx sz mc ms) (nx, sz, mc, ms) 118 [some (.ref 27), some (.int x1), none, none] [.int s0] h := by
  refine v_bipush dX7_read_118 cb_59 ?_
  refine v_icmp_eq (tgt := 126) dX7_read_120 (by decide) (fun c0 => ?_) (fun c0 => ?_)
  · refine v_aload_n dX7_read_126 rfl ?_
    refine v_dup dX7_read_127 rfl ?_
    refine v_getI dX7_read_128 fl_RX7_23 kd_27 (ltA hA0 rfl) rfl ?_
    refine v_iconst dX7_read_131 ci_1 ?_
    refine v_iadd dX7_read_132 ?_
    refine v_putI rfl rfl rfl dX7_read_133 fl_RX7_23 (Or.inl rfl) kd_27 (ltA hA0 rfl) ?_
    refine v_iinc (y := (x1 + 1)) dX7_read_136 rfl rfl (by decide) (L' := [some (.ref 27), some (.int (x1 + 1)), none, none]) rfl ?_
    refine v_goto (tgt := 17) dX7_read_139 (by decide) ?_
    exact (q c0)
  · refine v_goto (tgt := 142) dX7_read_123 (by decide) ?_
    refine v_aload_n dX7_read_142 rfl ?_
    refine v_getI dX7_read_143 fl_RX7_26 kd_27 (ltA hA0 rfl) rfl ?_
    refine v_if_ne (tgt := 163) dX7_read_146 (by decide) (fun c1 => ?_) (fun c1 => ?_)
    · refine v_aload_n dX7_read_163 rfl ?_
      refine v_getI dX7_read_164 fl_RX7_23 kd_27 (ltA hA0 rfl) rfl ?_
      refine v_goto (tgt := 171) dX7_read_167 (by decide) ?_
      exact v_iret dX7_read_171 rfl (hq c0 c1)
    · refine v_aload_n dX7_read_149 rfl ?_
      refine v_getI dX7_read_150 fl_RX7_23 kd_27 (ltA hA0 rfl) rfl ?_
      refine v_aload_n dX7_read_153 rfl ?_
      refine v_getR dX7_read_154 fl_RX7_15 kd_27 (ltA hA0 rfl) rfl (hF 27 0 23 rfl) ?_
      refine v_getI dX7_read_157 fl_RX7_55 kd_23 (ltA hA0 rfl) rfl ?_
      refine v_icmp_ge (tgt := 170) dX7_read_160 (by decide) (fun c2 => ?_) (fun c2 => ?_)
      · refine v_iconst dX7_read_170 ci_m1 ?_
        exact v_iret dX7_read_171 rfl (hq_1 c0 c1 c2)
      · refine v_aload_n dX7_read_163 rfl ?_
        refine v_getI dX7_read_164 fl_RX7_23 kd_27 (ltA hA0 rfl) rfl ?_
        refine v_goto (tgt := 171) dX7_read_167 (by decide) ?_
        exact v_iret dX7_read_171 rfl (hq_2 c0 c1 c2)
theorem e_X7_next {X : CX} {d nx sz : Nat} {Q : Option Value → AH → Prop} {h : AH} (q : V X m_X7_next (rm d 0 0) (ZM X Q nx sz 0 0) (nx, sz, 0, 0) 0 [some (.ref 27)] [] h) : Mk X d m_X7_next [.ref 27] h nx sz Q := by
  refine Mok.ofV mo_X7_next (Nat.le_of_ble_eq_true rfl) (L := [some (.ref 27)]) (lvLe_s lvLe_e) (v_grow (n := 0) ?_)
  exact q
theorem c_X7_next_0 {X : CX} {R : Room} {Q : Option Value → AH → Prop} {nx sz mc ms : Nat} {h : AH} {d : Nat} {P18 : Int32 → AH → Prop} (hA0 : 91 ≤ nx) (hF : Fx h) (hR : RO R (d + 1)) (hcs : mc ≤ R.cells ∧ ms ≤ R.slots) (hM : (h.1 27 4) = 0 → Mk X d m_X10_pastBlanks [.ref 23, .int (h.1 27 3)] h nx sz (RI P18)) (q : (h.1 27 4) = 0 → ∀ (y : Int32) (g : AH), P18 y g → V X m_X7_next R (ZM X Q nx sz mc ms) (nx, sz, mc, ms) 21 [some (.ref 27)] [.int y, .ref 27] g) (hq : ¬ (h.1 27 4) = 0 → Q (some (.int 0)) h) : V X m_X7_next R (ZM X Q nx sz mc ms) (nx, sz, mc, ms) 0 [some (.ref 27)] [] h := by
  refine v_aload_n dX7_next_0 rfl ?_
  refine v_getI dX7_next_1 fl_RX7_26 kd_27 (ltA hA0 rfl) rfl ?_
  refine v_if_eq (tgt := 9) dX7_next_4 (by decide) (fun c0 => ?_) (fun c0 => ?_)
  · refine v_aload_n dX7_next_9 rfl ?_
    refine v_aload_n dX7_next_10 rfl ?_
    refine v_getR dX7_next_11 fl_RX7_15 kd_27 (ltA hA0 rfl) rfl (hF 27 0 23 rfl) ?_
    refine v_aload_n dX7_next_14 rfl ?_
    refine v_getI dX7_next_15 fl_RX7_23 kd_27 (ltA hA0 rfl) rfl ?_
    exact v_cVI (mt := m_X7_next) mo_X10_pastBlanks ml_RX7_60 mi_X10_pastBlanks mv_X10_pastBlanks rfl kd_23 cl_10 rfl (ltA hA0 rfl) hR hcs (Nat.le_of_ble_eq_true rfl) dX7_next_18 rfl (hM c0) (fun y g hp => ((q c0) y g hp))
  · refine v_iconst dX7_next_7 ci_0 ?_
    exact v_iret dX7_next_8 rfl (hq c0)
theorem c_X7_next_21 {X : CX} {R : Room} {Z : ZX} {A : AX} {h : AH} {s1 : Int32} {d : Nat} {P32 : Int32 → AH → Prop} (hA0 : 91 ≤ A.1) (hF : Fx h) (hR : RO R (d + 1)) (hcs : A.2.2.1 ≤ R.cells ∧ A.2.2.2 ≤ R.slots) (hM : Mk X d m_X10_sign [.ref 23, .int s1] (setI h 27 3 s1) A.1 A.2.1 (RI P32)) (q : ∀ (y : Int32) (g : AH), P32 y g → V X m_X7_next R Z A 35 [none] [.int y] g) : V X m_X7_next R Z A 21 [some (.ref 27)] [.int s1, .ref 27] h := by
  refine v_putI rfl rfl rfl dX7_next_21 fl_RX7_23 (Or.inl rfl) kd_27 (ltA hA0 rfl) ?_
  refine v_aload_n dX7_next_24 rfl ?_
  refine v_getR dX7_next_25 fl_RX7_15 kd_27 (ltA hA0 rfl) rfl (hF 27 0 23 rfl) ?_
  refine v_aload_n dX7_next_28 rfl ?_
  refine v_getI dX7_next_29 fl_RX7_23 kd_27 (ltA hA0 rfl) rfl ?_
  exact v_cVI (mt := m_X7_next) mo_X10_sign ml_RX7_63 mi_X10_sign mv_X10_sign rfl kd_23 cl_10 rfl (ltA hA0 rfl) hR hcs (Nat.le_of_ble_eq_true rfl) dX7_next_32 rfl hM (fun y g hp => (v_drop (lvLe_n lvLe_e) (q y g hp)))
theorem c_X7_next_35 {X : CX} {R : Room} {Q : Option Value → AH → Prop} {nx sz mc ms : Nat} {h : AH} {s0 : Int32} (hq : Q (some (.int s0)) h) : V X m_X7_next R (ZM X Q nx sz mc ms) (nx, sz, mc, ms) 35 [none] [.int s0] h := by
  exact v_iret dX7_next_35 rfl hq
theorem e_X7_expect {X : CX} {d nx sz : Nat} {Q : Option Value → AH → Prop} {h : AH} {x1 : Int32} (q : V X m_X7_expect (rm d 0 0) (ZM X Q nx sz 0 0) (nx, sz, 0, 0) 0 [some (.ref 27), some (.int x1)] [] h) : Mk X d m_X7_expect [.ref 27, .int x1] h nx sz Q := by
  refine Mok.ofV mo_X7_expect (Nat.le_of_ble_eq_true rfl) (L := [some (.ref 27), some (.int x1)]) (lvLe_s (lvLe_s lvLe_e)) (v_grow (n := 0) ?_)
  exact q
theorem c_X7_expect_0 {X : CX} {R : Room} {Z : ZX} {A : AX} {h : AH} {x1 : Int32} {d : Nat} {P1 : Int32 → AH → Prop} (hA0 : 91 ≤ A.1) (hR : RO R (d + 1)) (hcs : A.2.2.1 ≤ R.cells ∧ A.2.2.2 ≤ R.slots) (hM : Mk X d m_X7_next [.ref 27] h A.1 A.2.1 (RI P1)) (q : ∀ (y : Int32) (g : AH), P1 y g → V X m_X7_expect R Z A 4 [some (.ref 27), some (.int x1)] [.int y] g) : V X m_X7_expect R Z A 0 [some (.ref 27), some (.int x1)] [] h := by
  refine v_aload_n dX7_expect_0 rfl ?_
  exact v_cVI (mt := m_X7_expect) mo_X7_next ml_RX7_34 mi_X7_next mv_X7_next rfl kd_27 cl_7 rfl (ltA hA0 rfl) hR hcs (Nat.le_of_ble_eq_true rfl) dX7_expect_1 rfl hM (fun y g hp => (q y g hp))
theorem c_X7_expect_4 {X : CX} {R : Room} {Q : Option Value → AH → Prop} {nx sz mc ms : Nat} {h : AH} {x1 s0 : Int32} (hA0 : 91 ≤ nx) (hq : ¬ s0 = x1 → Q none (setI h 27 4 1)) (hq_1 : s0 = x1 → Q none (setI h 27 3 ((h.1 27 3) + 1))) : V X m_X7_expect R (ZM X Q nx sz mc ms) (nx, sz, mc, ms) 4 [some (.ref 27), some (.int x1)] [.int s0] h := by
  refine v_iload_n dX7_expect_4 rfl ?_
  refine v_icmp_ne (tgt := 21) dX7_expect_5 (by decide) (fun c0 => ?_) (fun c0 => ?_)
  · refine v_aload_n dX7_expect_21 rfl ?_
    refine v_iconst dX7_expect_22 ci_1 ?_
    refine v_putI rfl rfl rfl dX7_expect_23 fl_RX7_26 (Or.inl rfl) kd_27 (ltA hA0 rfl) ?_
    exact v_vret dX7_expect_26 rfl (hq c0)
  · refine v_aload_n dX7_expect_8 rfl ?_
    refine v_dup dX7_expect_9 rfl ?_
    refine v_getI dX7_expect_10 fl_RX7_23 kd_27 (ltA hA0 rfl) rfl ?_
    refine v_iconst dX7_expect_13 ci_1 ?_
    refine v_iadd dX7_expect_14 ?_
    refine v_putI rfl rfl rfl dX7_expect_15 fl_RX7_23 (Or.inl rfl) kd_27 (ltA hA0 rfl) ?_
    refine v_goto (tgt := 26) dX7_expect_18 (by decide) ?_
    exact v_vret dX7_expect_26 rfl (hq_1 c0)
theorem e_X7_write {X : CX} {d nx sz : Nat} {Q : Option Value → AH → Prop} {h : AH} {x1 x2 : Int32} (q : V X m_X7_write (rm d 0 0) (ZM X Q nx sz 0 0) (nx, sz, 0, 0) 0 [some (.ref 27), some (.int x1), some (.int x2)] [] h) : Mk X d m_X7_write [.ref 27, .int x1, .int x2] h nx sz Q := by
  refine Mok.ofV mo_X7_write (Nat.le_of_ble_eq_true rfl) (L := [some (.ref 27), some (.int x1), some (.int x2)]) (lvLe_s (lvLe_s (lvLe_s lvLe_e))) (v_grow (n := 0) ?_)
  exact q
theorem c_X7_write_0 {X : CX} {R : Room} {Q : Option Value → AH → Prop} {nx sz mc ms : Nat} {h : AH} {x1 x2 : Int32} (hA0 : 91 ≤ nx) (hF : Fx h) (hq : 200 ≤ (h.1 27 2) → Q none h) (hi_32 : ¬ 200 ≤ (h.1 27 2) → vp_in (h.1 27 2) 200) (hq_1 : ¬ 200 ≤ (h.1 27 2) → Q none (setI (setI h 27 2 ((h.1 27 2) + 1)) 28 (h.1 27 2).toNatClampNeg ((x2 <<< (4 &&& 31)) ||| x1))) : V X m_X7_write R (ZM X Q nx sz mc ms) (nx, sz, mc, ms) 0 [some (.ref 27), some (.int x1), some (.int x2)] [] h := by
  refine v_aload_n dX7_write_0 rfl ?_
  refine v_getI dX7_write_1 fl_RX7_19 kd_27 (ltA hA0 rfl) rfl ?_
  refine v_aload_n dX7_write_4 rfl ?_
  refine v_getR dX7_write_5 fl_RX7_9 kd_27 (ltA hA0 rfl) rfl (hF 27 1 28 rfl) ?_
  refine v_alen (v := 200) dX7_write_8 kd_28 ⟨by decide, by decide⟩ (ltA hA0 rfl) rfl ?_
  refine v_icmp_ge (tgt := 33) dX7_write_9 (by decide) (fun c0 => ?_) (fun c0 => ?_)
  · exact v_vret dX7_write_33 rfl (hq c0)
  · refine v_aload_n dX7_write_12 rfl ?_
    refine v_getR dX7_write_13 fl_RX7_9 kd_27 (ltA hA0 rfl) rfl (hF 27 1 28 rfl) ?_
    refine v_aload_n dX7_write_16 rfl ?_
    refine v_dup dX7_write_17 rfl ?_
    refine v_getI dX7_write_18 fl_RX7_19 kd_27 (ltA hA0 rfl) rfl ?_
    refine v_dup_x1 dX7_write_21 rfl rfl ?_
    refine v_iconst dX7_write_22 ci_1 ?_
    refine v_iadd dX7_write_23 ?_
    refine v_putI rfl rfl rfl dX7_write_24 fl_RX7_19 (Or.inl rfl) kd_27 (ltA hA0 rfl) ?_
    refine v_iload_n dX7_write_27 rfl ?_
    refine v_iconst dX7_write_28 ci_4 ?_
    refine v_ishl dX7_write_29 ?_
    refine v_iload_n dX7_write_30 rfl ?_
    refine v_ior dX7_write_31 ?_
    refine v_iast dX7_write_32 kd_28 (ltA hA0 rfl) (hi_32 c0) ?_
    exact v_vret dX7_write_33 rfl (hq_1 c0)
theorem e_X7_condition {X : CX} {d nx sz : Nat} {Q : Option Value → AH → Prop} {h : AH} {x1 x2 : Int32} (q : V X m_X7_condition (rm d 0 0) (ZM X Q nx sz 0 0) (nx, sz, 0, 0) 0 [some (.ref 27), some (.int x1), some (.int x2), none, none, none, none] [] h) : Mk X d m_X7_condition [.ref 27, .int x1, .int x2] h nx sz Q := by
  refine Mok.ofV mo_X7_condition (Nat.le_of_ble_eq_true rfl) (L := [some (.ref 27), some (.int x1), some (.int x2)]) (lvLe_s (lvLe_s (lvLe_s lvLe_e))) (v_grow (n := 4) ?_)
  exact q
theorem c_X7_condition_0 {X : CX} {R : Room} {Z : ZX} {A : AX} {h : AH} {x1 x2 : Int32} (q : V X m_X7_condition R Z A 8 [some (.ref 27), some (.int x1), some (.int x2), some (.int 0), some (.int 0), some (.int 0), none] [] h) : V X m_X7_condition R Z A 0 [some (.ref 27), some (.int x1), some (.int x2), none, none, none, none] [] h := by
  refine v_iconst dX7_condition_0 ci_0 ?_
  refine v_istore_n dX7_condition_1 (by decide) (L' := [some (.ref 27), some (.int x1), some (.int x2), some (.int 0), none, none, none]) rfl ?_
  refine v_iconst dX7_condition_2 ci_0 ?_
  refine v_istore dX7_condition_3 (by decide) (L' := [some (.ref 27), some (.int x1), some (.int x2), some (.int 0), some (.int 0), none, none]) rfl ?_
  refine v_iconst dX7_condition_5 ci_0 ?_
  refine v_istore dX7_condition_6 (by decide) (L' := [some (.ref 27), some (.int x1), some (.int x2), some (.int 0), some (.int 0), some (.int 0), none]) rfl ?_
  exact q
theorem c_X7_condition_8 {X : CX} {R : Room} {Q : Option Value → AH → Prop} {nx sz mc ms : Nat} {h : AH} {x1 x2 x3 x4 x5 : Int32} {d : Nat} {P39 P39_1 P39_2 : AH → Prop} (hA0 : 91 ≤ nx) (hR : RO R (d + 1)) (hcs : mc ≤ R.cells ∧ ms ≤ R.slots) (hq : 200 ≤ x5 → Q none h) (hq_1 : ¬ 200 ≤ x5 → ¬ (h.1 27 4) = 0 → Q none h) (hM : ¬ 200 ≤ x5 → (h.1 27 4) = 0 → x2 = 0 → Mk X d m_X7_unit [.ref 27, .int x1, .int 0] h nx sz (RV P39)) (q : ¬ 200 ≤ x5 → (h.1 27 4) = 0 → x2 = 0 → ∀ (g : AH), P39 g → V X m_X7_condition R (ZM X Q nx sz mc ms) (nx, sz, mc, ms) 42 [some (.ref 27), some (.int x1), some (.int x2), some (.int x3), some (.int x4), some (.int x5), none] [] g) (hM_1 : ¬ 200 ≤ x5 → (h.1 27 4) = 0 → ¬ x2 = 0 → ¬ x5 = 0 → Mk X d m_X7_unit [.ref 27, .int x1, .int 0] h nx sz (RV P39_1)) (q_1 : ¬ 200 ≤ x5 → (h.1 27 4) = 0 → ¬ x2 = 0 → ¬ x5 = 0 → ∀ (g : AH), P39_1 g → V X m_X7_condition R (ZM X Q nx sz mc ms) (nx, sz, mc, ms) 42 [some (.ref 27), some (.int x1), some (.int x2), some (.int x3), some (.int x4), some (.int x5), none] [] g) (hM_2 : ¬ 200 ≤ x5 → (h.1 27 4) = 0 → ¬ x2 = 0 → x5 = 0 → Mk X d m_X7_unit [.ref 27, .int x1, .int 1] h nx sz (RV P39_2)) (q_2 : ¬ 200 ≤ x5 → (h.1 27 4) = 0 → ¬ x2 = 0 → x5 = 0 → ∀ (g : AH), P39_2 g → V X m_X7_condition R (ZM X Q nx sz mc ms) (nx, sz, mc, ms) 42 [some (.ref 27), some (.int x1), some (.int x2), some (.int x3), some (.int x4), some (.int x5), none] [] g) : V X m_X7_condition R (ZM X Q nx sz mc ms) (nx, sz, mc, ms) 8 [some (.ref 27), some (.int x1), some (.int x2), some (.int x3), some (.int x4), some (.int x5), none] [] h := by
  refine v_iload dX7_condition_8 rfl ?_
  refine v_sipush dX7_condition_10 cs_200 ?_
  refine v_icmp_ge (tgt := 124) dX7_condition_13 (by decide) (fun c0 => ?_) (fun c0 => ?_)
  · exact v_vret dX7_condition_124 rfl (hq c0)
  · refine v_aload_n dX7_condition_16 rfl ?_
    refine v_getI dX7_condition_17 fl_RX7_26 kd_27 (ltA hA0 rfl) rfl ?_
    refine v_if_ne (tgt := 124) dX7_condition_20 (by decide) (fun c1 => ?_) (fun c1 => ?_)
    · exact v_vret dX7_condition_124 rfl (hq_1 c0 c1)
    · refine v_aload_n dX7_condition_23 rfl ?_
      refine v_iload_n dX7_condition_24 rfl ?_
      refine v_iload_n dX7_condition_25 rfl ?_
      refine v_if_eq (tgt := 38) dX7_condition_26 (by decide) (fun c2 => ?_) (fun c2 => ?_)
      · refine v_iconst dX7_condition_38 ci_0 ?_
        exact v_cVV (mt := m_X7_condition) mo_X7_unit ml_RX7_66 mi_X7_unit mv_X7_unit rfl kd_27 cl_7 rfl (ltA hA0 rfl) hR hcs (Nat.le_of_ble_eq_true rfl) dX7_condition_39 rfl (hM c0 c1 c2) (fun g hp => ((q c0 c1 c2) g hp))
      · refine v_iload dX7_condition_29 rfl ?_
        refine v_if_ne (tgt := 38) dX7_condition_31 (by decide) (fun c3 => ?_) (fun c3 => ?_)
        · refine v_iconst dX7_condition_38 ci_0 ?_
          exact v_cVV (mt := m_X7_condition) mo_X7_unit ml_RX7_66 mi_X7_unit mv_X7_unit rfl kd_27 cl_7 rfl (ltA hA0 rfl) hR hcs (Nat.le_of_ble_eq_true rfl) dX7_condition_39 rfl (hM_1 c0 c1 c2 c3) (fun g hp => ((q_1 c0 c1 c2 c3) g hp))
        · refine v_iconst dX7_condition_34 ci_1 ?_
          refine v_goto (tgt := 39) dX7_condition_35 (by decide) ?_
          exact v_cVV (mt := m_X7_condition) mo_X7_unit ml_RX7_66 mi_X7_unit mv_X7_unit rfl kd_27 cl_7 rfl (ltA hA0 rfl) hR hcs (Nat.le_of_ble_eq_true rfl) dX7_condition_39 rfl (hM_2 c0 c1 c2 c3) (fun g hp => ((q_2 c0 c1 c2 c3) g hp))
theorem c_X7_condition_42 {X : CX} {R : Room} {Z : ZX} {A : AX} {h : AH} {x1 x2 x3 x4 x5 : Int32} {d : Nat} {P50 : AH → Prop} (hA0 : 91 ≤ A.1) (hR : RO R (d + 1)) (hcs : A.2.2.1 ≤ R.cells ∧ A.2.2.2 ≤ R.slots) (q : x3 = 0 → V X m_X7_condition R Z A 53 [some (.ref 27), some (.int x1), some (.int x2), none, some (.int x4), some (.int x5), none] [] h) (hM : ¬ x3 = 0 → Mk X d m_X7_write [.ref 27, .int 9, .int 0] h A.1 A.2.1 (RV P50)) (q_1 : ¬ x3 = 0 → ∀ (g : AH), P50 g → V X m_X7_condition R Z A 53 [some (.ref 27), some (.int x1), some (.int x2), none, some (.int x4), some (.int x5), none] [] g) : V X m_X7_condition R Z A 42 [some (.ref 27), some (.int x1), some (.int x2), some (.int x3), some (.int x4), some (.int x5), none] [] h := by
  refine v_iload_n dX7_condition_42 rfl ?_
  refine v_if_eq (tgt := 53) dX7_condition_43 (by decide) (fun c0 => ?_) (fun c0 => ?_)
  · exact (v_drop (lvLe_s (lvLe_s (lvLe_s (lvLe_n (lvLe_s (lvLe_s (lvLe_n lvLe_e))))))) (q c0))
  · refine v_aload_n dX7_condition_46 rfl ?_
    refine v_bipush dX7_condition_47 cb_9 ?_
    refine v_iconst dX7_condition_49 ci_0 ?_
    exact v_cVV (mt := m_X7_condition) mo_X7_write ml_RX7_51 mi_X7_write mv_X7_write rfl kd_27 cl_7 rfl (ltA hA0 rfl) hR hcs (Nat.le_of_ble_eq_true rfl) dX7_condition_50 rfl (hM c0) (fun g hp => (v_drop (lvLe_s (lvLe_s (lvLe_s (lvLe_n (lvLe_s (lvLe_s (lvLe_n lvLe_e))))))) ((q_1 c0) g hp)))
theorem c_X7_condition_53 {X : CX} {R : Room} {Z : ZX} {A : AX} {h : AH} {x1 x2 x4 x5 : Int32} {d : Nat} {P54 : Int32 → AH → Prop} (hA0 : 91 ≤ A.1) (hR : RO R (d + 1)) (hcs : A.2.2.1 ≤ R.cells ∧ A.2.2.2 ≤ R.slots) (hM : Mk X d m_X7_next [.ref 27] h A.1 A.2.1 (RI P54)) (q : ∀ (y : Int32) (g : AH), P54 y g → V X m_X7_condition R Z A 57 [some (.ref 27), some (.int x1), some (.int x2), none, some (.int x4), some (.int x5), none] [.int y] g) : V X m_X7_condition R Z A 53 [some (.ref 27), some (.int x1), some (.int x2), none, some (.int x4), some (.int x5), none] [] h := by
  refine v_aload_n dX7_condition_53 rfl ?_
  exact v_cVI (mt := m_X7_condition) mo_X7_next ml_RX7_34 mi_X7_next mv_X7_next rfl kd_27 cl_7 rfl (ltA hA0 rfl) hR hcs (Nat.le_of_ble_eq_true rfl) dX7_condition_54 rfl hM (fun y g hp => (q y g hp))
theorem c_X7_condition_57 {X : CX} {R : Room} {Z : ZX} {A : AX} {h : AH} {x1 x2 x4 x5 s0 : Int32} {d : Nat} {P85 : AH → Prop} (hA0 : 91 ≤ A.1) (hR : RO R (d + 1)) (hcs : A.2.2.1 ≤ R.cells ∧ A.2.2.2 ≤ R.slots) (q : ¬ s0 = 38 → x4 = 0 → V X m_X7_condition R Z A 88 [some (.ref 27), some (.int x1), some (.int x2), some (.int 0), none, some (.int x5), some (.int s0)] [] h) (hM : ¬ s0 = 38 → ¬ x4 = 0 → Mk X d m_X7_write [.ref 27, .int 10, .int 0] h A.1 A.2.1 (RV P85)) (q_1 : ¬ s0 = 38 → ¬ x4 = 0 → ∀ (g : AH), P85 g → V X m_X7_condition R Z A 88 [some (.ref 27), some (.int x1), some (.int x2), some (.int 0), none, some (.int x5), some (.int s0)] [] g) (q_2 : s0 = 38 → V X m_X7_condition R Z A 8 [some (.ref 27), some (.int x1), some (.int x2), some (.int 1), some (.int x4), some (.int (x5 + 1)), none] [] (setI h 27 3 ((h.1 27 3) + 1))) : V X m_X7_condition R Z A 57 [some (.ref 27), some (.int x1), some (.int x2), none, some (.int x4), some (.int x5), none] [.int s0] h := by
  refine v_istore dX7_condition_57 (by decide) (L' := [some (.ref 27), some (.int x1), some (.int x2), none, some (.int x4), some (.int x5), some (.int s0)]) rfl ?_
  refine v_iload dX7_condition_59 rfl ?_
  refine v_bipush dX7_condition_61 cb_38 ?_
  refine v_icmp_ne (tgt := 70) dX7_condition_63 (by decide) (fun c0 => ?_) (fun c0 => ?_)
  · refine v_iconst dX7_condition_70 ci_0 ?_
    refine v_istore_n dX7_condition_71 (by decide) (L' := [some (.ref 27), some (.int x1), some (.int x2), some (.int 0), some (.int x4), some (.int x5), some (.int s0)]) rfl ?_
    refine v_iload_n dX7_condition_72 rfl ?_
    refine v_if_ne (tgt := 108) dX7_condition_73 (by decide) (fun z => absurd (show ¬ (0 : Int32) = 0 from z) (by decide)) (fun _ => ?_)
    refine v_iload dX7_condition_76 rfl ?_
    refine v_if_eq (tgt := 88) dX7_condition_78 (by decide) (fun c1 => ?_) (fun c1 => ?_)
    · exact (v_drop (lvLe_s (lvLe_s (lvLe_s (lvLe_s (lvLe_n (lvLe_s (lvLe_s lvLe_e))))))) (q c0 c1))
    · refine v_aload_n dX7_condition_81 rfl ?_
      refine v_bipush dX7_condition_82 cb_10 ?_
      refine v_iconst dX7_condition_84 ci_0 ?_
      exact v_cVV (mt := m_X7_condition) mo_X7_write ml_RX7_51 mi_X7_write mv_X7_write rfl kd_27 cl_7 rfl (ltA hA0 rfl) hR hcs (Nat.le_of_ble_eq_true rfl) dX7_condition_85 rfl (hM c0 c1) (fun g hp => (v_drop (lvLe_s (lvLe_s (lvLe_s (lvLe_s (lvLe_n (lvLe_s (lvLe_s lvLe_e))))))) ((q_1 c0 c1) g hp)))
  · refine v_iconst dX7_condition_66 ci_1 ?_
    refine v_goto (tgt := 71) dX7_condition_67 (by decide) ?_
    refine v_istore_n dX7_condition_71 (by decide) (L' := [some (.ref 27), some (.int x1), some (.int x2), some (.int 1), some (.int x4), some (.int x5), some (.int s0)]) rfl ?_
    refine v_iload_n dX7_condition_72 rfl ?_
    refine v_if_ne (tgt := 108) dX7_condition_73 (by decide) (fun _ => ?_) (fun z => absurd (show (1 : Int32) = 0 from z) (by decide))
    refine v_aload_n dX7_condition_108 rfl ?_
    refine v_dup dX7_condition_109 rfl ?_
    refine v_getI dX7_condition_110 fl_RX7_23 kd_27 (ltA hA0 rfl) rfl ?_
    refine v_iconst dX7_condition_113 ci_1 ?_
    refine v_iadd dX7_condition_114 ?_
    refine v_putI rfl rfl rfl dX7_condition_115 fl_RX7_23 (Or.inl rfl) kd_27 (ltA hA0 rfl) ?_
    refine v_iinc (y := (x5 + 1)) dX7_condition_118 rfl rfl (by decide) (L' := [some (.ref 27), some (.int x1), some (.int x2), some (.int 1), some (.int x4), some (.int (x5 + 1)), some (.int s0)]) rfl ?_
    refine v_goto (tgt := 8) dX7_condition_121 (by decide) ?_
    exact (v_drop (lvLe_s (lvLe_s (lvLe_s (lvLe_s (lvLe_s (lvLe_s (lvLe_n lvLe_e))))))) (q_2 c0))
theorem c_X7_condition_88 {X : CX} {R : Room} {Q : Option Value → AH → Prop} {nx sz mc ms : Nat} {h : AH} {x1 x2 x3 x5 x6 : Int32} (hA0 : 91 ≤ nx) (hq : ¬ x6 = 124 → Q none h) (q : x6 = 124 → V X m_X7_condition R (ZM X Q nx sz mc ms) (nx, sz, mc, ms) 8 [some (.ref 27), some (.int x1), some (.int x2), some (.int x3), some (.int 1), some (.int (x5 + 1)), none] [] (setI h 27 3 ((h.1 27 3) + 1))) : V X m_X7_condition R (ZM X Q nx sz mc ms) (nx, sz, mc, ms) 88 [some (.ref 27), some (.int x1), some (.int x2), some (.int x3), none, some (.int x5), some (.int x6)] [] h := by
  refine v_iload dX7_condition_88 rfl ?_
  refine v_bipush dX7_condition_90 cb_124 ?_
  refine v_icmp_ne (tgt := 99) dX7_condition_92 (by decide) (fun c0 => ?_) (fun c0 => ?_)
  · refine v_iconst dX7_condition_99 ci_0 ?_
    refine v_istore dX7_condition_100 (by decide) (L' := [some (.ref 27), some (.int x1), some (.int x2), some (.int x3), some (.int 0), some (.int x5), some (.int x6)]) rfl ?_
    refine v_iload dX7_condition_102 rfl ?_
    refine v_if_ne (tgt := 108) dX7_condition_104 (by decide) (fun z => absurd (show ¬ (0 : Int32) = 0 from z) (by decide)) (fun _ => ?_)
    exact v_vret dX7_condition_107 rfl (hq c0)
  · refine v_iconst dX7_condition_95 ci_1 ?_
    refine v_goto (tgt := 100) dX7_condition_96 (by decide) ?_
    refine v_istore dX7_condition_100 (by decide) (L' := [some (.ref 27), some (.int x1), some (.int x2), some (.int x3), some (.int 1), some (.int x5), some (.int x6)]) rfl ?_
    refine v_iload dX7_condition_102 rfl ?_
    refine v_if_ne (tgt := 108) dX7_condition_104 (by decide) (fun _ => ?_) (fun z => absurd (show (1 : Int32) = 0 from z) (by decide))
    refine v_aload_n dX7_condition_108 rfl ?_
    refine v_dup dX7_condition_109 rfl ?_
    refine v_getI dX7_condition_110 fl_RX7_23 kd_27 (ltA hA0 rfl) rfl ?_
    refine v_iconst dX7_condition_113 ci_1 ?_
    refine v_iadd dX7_condition_114 ?_
    refine v_putI rfl rfl rfl dX7_condition_115 fl_RX7_23 (Or.inl rfl) kd_27 (ltA hA0 rfl) ?_
    refine v_iinc (y := (x5 + 1)) dX7_condition_118 rfl rfl (by decide) (L' := [some (.ref 27), some (.int x1), some (.int x2), some (.int x3), some (.int 1), some (.int (x5 + 1)), some (.int x6)]) rfl ?_
    refine v_goto (tgt := 8) dX7_condition_121 (by decide) ?_
    exact (v_drop (lvLe_s (lvLe_s (lvLe_s (lvLe_s (lvLe_s (lvLe_s (lvLe_n lvLe_e))))))) (q c0))
theorem e_X7_unit {X : CX} {d nx sz : Nat} {Q : Option Value → AH → Prop} {h : AH} {x1 x2 : Int32} (q : V X m_X7_unit (rm d 0 0) (ZM X Q nx sz 0 0) (nx, sz, 0, 0) 0 [some (.ref 27), some (.int x1), some (.int x2), none, none] [] h) : Mk X d m_X7_unit [.ref 27, .int x1, .int x2] h nx sz Q := by
  refine Mok.ofV mo_X7_unit (Nat.le_of_ble_eq_true rfl) (L := [some (.ref 27), some (.int x1), some (.int x2)]) (lvLe_s (lvLe_s (lvLe_s lvLe_e))) (v_grow (n := 2) ?_)
  exact q
theorem c_X7_unit_0 {X : CX} {R : Room} {Z : ZX} {A : AX} {h : AH} {x1 x2 : Int32} (q : V X m_X7_unit R Z A 2 [some (.ref 27), some (.int x1), some (.int x2), some (.int x1), none] [] h) : V X m_X7_unit R Z A 0 [some (.ref 27), some (.int x1), some (.int x2), none, none] [] h := by
  refine v_iload_n dX7_unit_0 rfl ?_
  refine v_istore_n dX7_unit_1 (by decide) (L' := [some (.ref 27), some (.int x1), some (.int x2), some (.int x1), none]) rfl ?_
  exact q
theorem c_X7_unit_2 {X : CX} {R : Room} {Z : ZX} {A : AX} {h : AH} {x1 x2 x3 : Int32} {d : Nat} {P89 P89_1 P89_2 P89_3 : AH → Prop} {P48 P48_1 P13 : Int32 → AH → Prop} (hA0 : 91 ≤ A.1) (hR : RO R (d + 1)) (hcs : A.2.2.1 ≤ R.cells ∧ A.2.2.2 ≤ R.slots) (q : ¬ x2 = 0 → ¬ x2 = 0 → ¬ x2 = 0 → V X m_X7_unit R Z A 92 [some (.ref 27), some (.int x1), none, some (.int x3), none] [] h) (hM : ¬ x2 = 0 → ¬ x2 = 0 → x2 = 0 → Mk X d m_X7_sum [.ref 27, .int x3] h A.1 A.2.1 (RV P89)) (q_1 : ¬ x2 = 0 → ¬ x2 = 0 → x2 = 0 → ∀ (g : AH), P89 g → V X m_X7_unit R Z A 92 [some (.ref 27), some (.int x1), none, some (.int x3), none] [] g) (q_2 : ¬ x2 = 0 → x2 = 0 → 6 ≤ x3 → ¬ x2 = 0 → V X m_X7_unit R Z A 92 [some (.ref 27), some (.int x1), none, some (.int x3), none] [] h) (hM_1 : ¬ x2 = 0 → x2 = 0 → 6 ≤ x3 → x2 = 0 → Mk X d m_X7_sum [.ref 27, .int x3] h A.1 A.2.1 (RV P89_1)) (q_3 : ¬ x2 = 0 → x2 = 0 → 6 ≤ x3 → x2 = 0 → ∀ (g : AH), P89_1 g → V X m_X7_unit R Z A 92 [some (.ref 27), some (.int x1), none, some (.int x3), none] [] g) (hM_2 : ¬ x2 = 0 → x2 = 0 → ¬ 6 ≤ x3 → Mk X d m_X7_next [.ref 27] h A.1 A.2.1 (RI P48)) (q_4 : ¬ x2 = 0 → x2 = 0 → ¬ 6 ≤ x3 → ∀ (y : Int32) (g : AH), P48 y g → V X m_X7_unit R Z A 51 [some (.ref 27), some (.int x1), some (.int x2), some (.int x3), none] [.int y] g) (q_5 : x2 = 0 → 6 ≤ x3 → ¬ x2 = 0 → ¬ x2 = 0 → V X m_X7_unit R Z A 92 [some (.ref 27), some (.int x1), none, some (.int x3), none] [] h) (hM_3 : x2 = 0 → 6 ≤ x3 → ¬ x2 = 0 → x2 = 0 → Mk X d m_X7_sum [.ref 27, .int x3] h A.1 A.2.1 (RV P89_2)) (q_6 : x2 = 0 → 6 ≤ x3 → ¬ x2 = 0 → x2 = 0 → ∀ (g : AH), P89_2 g → V X m_X7_unit R Z A 92 [some (.ref 27), some (.int x1), none, some (.int x3), none] [] g) (q_7 : x2 = 0 → 6 ≤ x3 → x2 = 0 → 6 ≤ x3 → ¬ x2 = 0 → V X m_X7_unit R Z A 92 [some (.ref 27), some (.int x1), none, some (.int x3), none] [] h) (hM_4 : x2 = 0 → 6 ≤ x3 → x2 = 0 → 6 ≤ x3 → x2 = 0 → Mk X d m_X7_sum [.ref 27, .int x3] h A.1 A.2.1 (RV P89_3)) (q_8 : x2 = 0 → 6 ≤ x3 → x2 = 0 → 6 ≤ x3 → x2 = 0 → ∀ (g : AH), P89_3 g → V X m_X7_unit R Z A 92 [some (.ref 27), some (.int x1), none, some (.int x3), none] [] g) (hM_5 : x2 = 0 → 6 ≤ x3 → x2 = 0 → ¬ 6 ≤ x3 → Mk X d m_X7_next [.ref 27] h A.1 A.2.1 (RI P48_1)) (q_9 : x2 = 0 → 6 ≤ x3 → x2 = 0 → ¬ 6 ≤ x3 → ∀ (y : Int32) (g : AH), P48_1 y g → V X m_X7_unit R Z A 51 [some (.ref 27), some (.int x1), some (.int x2), some (.int x3), none] [.int y] g) (hM_6 : x2 = 0 → ¬ 6 ≤ x3 → Mk X d m_X7_next [.ref 27] h A.1 A.2.1 (RI P13)) (q_10 : x2 = 0 → ¬ 6 ≤ x3 → ∀ (y : Int32) (g : AH), P13 y g → V X m_X7_unit R Z A 16 [some (.ref 27), some (.int x1), some (.int x2), some (.int x3), none] [.int y] g) : V X m_X7_unit R Z A 2 [some (.ref 27), some (.int x1), some (.int x2), some (.int x3), none] [] h := by
  refine v_iload_n dX7_unit_2 rfl ?_
  refine v_if_ne (tgt := 37) dX7_unit_3 (by decide) (fun c0 => ?_) (fun c0 => ?_)
  · refine v_iload_n dX7_unit_37 rfl ?_
    refine v_if_ne (tgt := 83) dX7_unit_38 (by decide) (fun c1 => ?_) (fun c1 => ?_)
    · refine v_iload_n dX7_unit_83 rfl ?_
      refine v_if_ne (tgt := 92) dX7_unit_84 (by decide) (fun c2 => ?_) (fun c2 => ?_)
      · exact (v_drop (lvLe_s (lvLe_s (lvLe_n (lvLe_s (lvLe_n lvLe_e))))) (q c0 c1 c2))
      · refine v_aload_n dX7_unit_87 rfl ?_
        refine v_iload_n dX7_unit_88 rfl ?_
        exact v_cVV (mt := m_X7_unit) mo_X7_sum ml_RX7_38 mi_X7_sum mv_X7_sum rfl kd_27 cl_7 rfl (ltA hA0 rfl) hR hcs (Nat.le_of_ble_eq_true rfl) dX7_unit_89 rfl (hM c0 c1 c2) (fun g hp => (v_drop (lvLe_s (lvLe_s (lvLe_n (lvLe_s (lvLe_n lvLe_e))))) ((q_1 c0 c1 c2) g hp)))
    · refine v_iload_n dX7_unit_41 rfl ?_
      refine v_bipush dX7_unit_42 cb_6 ?_
      refine v_icmp_ge (tgt := 83) dX7_unit_44 (by decide) (fun c2 => ?_) (fun c2 => ?_)
      · refine v_iload_n dX7_unit_83 rfl ?_
        refine v_if_ne (tgt := 92) dX7_unit_84 (by decide) (fun c3 => ?_) (fun c3 => ?_)
        · exact (v_drop (lvLe_s (lvLe_s (lvLe_n (lvLe_s (lvLe_n lvLe_e))))) (q_2 c0 c1 c2 c3))
        · refine v_aload_n dX7_unit_87 rfl ?_
          refine v_iload_n dX7_unit_88 rfl ?_
          exact v_cVV (mt := m_X7_unit) mo_X7_sum ml_RX7_38 mi_X7_sum mv_X7_sum rfl kd_27 cl_7 rfl (ltA hA0 rfl) hR hcs (Nat.le_of_ble_eq_true rfl) dX7_unit_89 rfl (hM_1 c0 c1 c2 c3) (fun g hp => (v_drop (lvLe_s (lvLe_s (lvLe_n (lvLe_s (lvLe_n lvLe_e))))) ((q_3 c0 c1 c2 c3) g hp)))
      · refine v_aload_n dX7_unit_47 rfl ?_
        exact v_cVI (mt := m_X7_unit) mo_X7_next ml_RX7_34 mi_X7_next mv_X7_next rfl kd_27 cl_7 rfl (ltA hA0 rfl) hR hcs (Nat.le_of_ble_eq_true rfl) dX7_unit_48 rfl (hM_2 c0 c1 c2) (fun y g hp => ((q_4 c0 c1 c2) y g hp))
  · refine v_iload_n dX7_unit_6 rfl ?_
    refine v_bipush dX7_unit_7 cb_6 ?_
    refine v_icmp_ge (tgt := 37) dX7_unit_9 (by decide) (fun c1 => ?_) (fun c1 => ?_)
    · refine v_iload_n dX7_unit_37 rfl ?_
      refine v_if_ne (tgt := 83) dX7_unit_38 (by decide) (fun c2 => ?_) (fun c2 => ?_)
      · refine v_iload_n dX7_unit_83 rfl ?_
        refine v_if_ne (tgt := 92) dX7_unit_84 (by decide) (fun c3 => ?_) (fun c3 => ?_)
        · exact (v_drop (lvLe_s (lvLe_s (lvLe_n (lvLe_s (lvLe_n lvLe_e))))) (q_5 c0 c1 c2 c3))
        · refine v_aload_n dX7_unit_87 rfl ?_
          refine v_iload_n dX7_unit_88 rfl ?_
          exact v_cVV (mt := m_X7_unit) mo_X7_sum ml_RX7_38 mi_X7_sum mv_X7_sum rfl kd_27 cl_7 rfl (ltA hA0 rfl) hR hcs (Nat.le_of_ble_eq_true rfl) dX7_unit_89 rfl (hM_3 c0 c1 c2 c3) (fun g hp => (v_drop (lvLe_s (lvLe_s (lvLe_n (lvLe_s (lvLe_n lvLe_e))))) ((q_6 c0 c1 c2 c3) g hp)))
      · refine v_iload_n dX7_unit_41 rfl ?_
        refine v_bipush dX7_unit_42 cb_6 ?_
        refine v_icmp_ge (tgt := 83) dX7_unit_44 (by decide) (fun c3 => ?_) (fun c3 => ?_)
        · refine v_iload_n dX7_unit_83 rfl ?_
          refine v_if_ne (tgt := 92) dX7_unit_84 (by decide) (fun c4 => ?_) (fun c4 => ?_)
          · exact (v_drop (lvLe_s (lvLe_s (lvLe_n (lvLe_s (lvLe_n lvLe_e))))) (q_7 c0 c1 c2 c3 c4))
          · refine v_aload_n dX7_unit_87 rfl ?_
            refine v_iload_n dX7_unit_88 rfl ?_
            exact v_cVV (mt := m_X7_unit) mo_X7_sum ml_RX7_38 mi_X7_sum mv_X7_sum rfl kd_27 cl_7 rfl (ltA hA0 rfl) hR hcs (Nat.le_of_ble_eq_true rfl) dX7_unit_89 rfl (hM_4 c0 c1 c2 c3 c4) (fun g hp => (v_drop (lvLe_s (lvLe_s (lvLe_n (lvLe_s (lvLe_n lvLe_e))))) ((q_8 c0 c1 c2 c3 c4) g hp)))
        · refine v_aload_n dX7_unit_47 rfl ?_
          exact v_cVI (mt := m_X7_unit) mo_X7_next ml_RX7_34 mi_X7_next mv_X7_next rfl kd_27 cl_7 rfl (ltA hA0 rfl) hR hcs (Nat.le_of_ble_eq_true rfl) dX7_unit_48 rfl (hM_5 c0 c1 c2 c3) (fun y g hp => ((q_9 c0 c1 c2 c3) y g hp))
    · refine v_aload_n dX7_unit_12 rfl ?_
      exact v_cVI (mt := m_X7_unit) mo_X7_next ml_RX7_34 mi_X7_next mv_X7_next rfl kd_27 cl_7 rfl (ltA hA0 rfl) hR hcs (Nat.le_of_ble_eq_true rfl) dX7_unit_13 rfl (hM_6 c0 c1) (fun y g hp => ((q_10 c0 c1) y g hp))
theorem c_X7_unit_16 {X : CX} {R : Room} {Z : ZX} {A : AX} {h : AH} {x1 x2 x3 s0 : Int32} {d : Nat} {P89 P89_1 : AH → Prop} {P48 : Int32 → AH → Prop} (hA0 : 91 ≤ A.1) (hR : RO R (d + 1)) (hcs : A.2.2.1 ≤ R.cells ∧ A.2.2.2 ≤ R.slots) (q : ¬ s0 = 33 → ¬ x2 = 0 → ¬ x2 = 0 → V X m_X7_unit R Z A 92 [some (.ref 27), some (.int x1), none, some (.int x3), none] [] h) (hM : ¬ s0 = 33 → ¬ x2 = 0 → x2 = 0 → Mk X d m_X7_sum [.ref 27, .int x3] h A.1 A.2.1 (RV P89)) (q_1 : ¬ s0 = 33 → ¬ x2 = 0 → x2 = 0 → ∀ (g : AH), P89 g → V X m_X7_unit R Z A 92 [some (.ref 27), some (.int x1), none, some (.int x3), none] [] g) (q_2 : ¬ s0 = 33 → x2 = 0 → 6 ≤ x3 → ¬ x2 = 0 → V X m_X7_unit R Z A 92 [some (.ref 27), some (.int x1), none, some (.int x3), none] [] h) (hM_1 : ¬ s0 = 33 → x2 = 0 → 6 ≤ x3 → x2 = 0 → Mk X d m_X7_sum [.ref 27, .int x3] h A.1 A.2.1 (RV P89_1)) (q_3 : ¬ s0 = 33 → x2 = 0 → 6 ≤ x3 → x2 = 0 → ∀ (g : AH), P89_1 g → V X m_X7_unit R Z A 92 [some (.ref 27), some (.int x1), none, some (.int x3), none] [] g) (hM_2 : ¬ s0 = 33 → x2 = 0 → ¬ 6 ≤ x3 → Mk X d m_X7_next [.ref 27] h A.1 A.2.1 (RI P48)) (q_4 : ¬ s0 = 33 → x2 = 0 → ¬ 6 ≤ x3 → ∀ (y : Int32) (g : AH), P48 y g → V X m_X7_unit R Z A 51 [some (.ref 27), some (.int x1), some (.int x2), some (.int x3), none] [.int y] g) (q_5 : s0 = 33 → V X m_X7_unit R Z A 2 [some (.ref 27), some (.int x1), some (.int x2), some (.int (x3 + 1)), none] [] (setI h 27 3 ((h.1 27 3) + 1))) : V X m_X7_unit R Z A 16 [some (.ref 27), some (.int x1), some (.int x2), some (.int x3), none] [.int s0] h := by
  refine v_bipush dX7_unit_16 cb_33 ?_
  refine v_icmp_ne (tgt := 37) dX7_unit_18 (by decide) (fun c0 => ?_) (fun c0 => ?_)
  · refine v_iload_n dX7_unit_37 rfl ?_
    refine v_if_ne (tgt := 83) dX7_unit_38 (by decide) (fun c1 => ?_) (fun c1 => ?_)
    · refine v_iload_n dX7_unit_83 rfl ?_
      refine v_if_ne (tgt := 92) dX7_unit_84 (by decide) (fun c2 => ?_) (fun c2 => ?_)
      · exact (v_drop (lvLe_s (lvLe_s (lvLe_n (lvLe_s (lvLe_n lvLe_e))))) (q c0 c1 c2))
      · refine v_aload_n dX7_unit_87 rfl ?_
        refine v_iload_n dX7_unit_88 rfl ?_
        exact v_cVV (mt := m_X7_unit) mo_X7_sum ml_RX7_38 mi_X7_sum mv_X7_sum rfl kd_27 cl_7 rfl (ltA hA0 rfl) hR hcs (Nat.le_of_ble_eq_true rfl) dX7_unit_89 rfl (hM c0 c1 c2) (fun g hp => (v_drop (lvLe_s (lvLe_s (lvLe_n (lvLe_s (lvLe_n lvLe_e))))) ((q_1 c0 c1 c2) g hp)))
    · refine v_iload_n dX7_unit_41 rfl ?_
      refine v_bipush dX7_unit_42 cb_6 ?_
      refine v_icmp_ge (tgt := 83) dX7_unit_44 (by decide) (fun c2 => ?_) (fun c2 => ?_)
      · refine v_iload_n dX7_unit_83 rfl ?_
        refine v_if_ne (tgt := 92) dX7_unit_84 (by decide) (fun c3 => ?_) (fun c3 => ?_)
        · exact (v_drop (lvLe_s (lvLe_s (lvLe_n (lvLe_s (lvLe_n lvLe_e))))) (q_2 c0 c1 c2 c3))
        · refine v_aload_n dX7_unit_87 rfl ?_
          refine v_iload_n dX7_unit_88 rfl ?_
          exact v_cVV (mt := m_X7_unit) mo_X7_sum ml_RX7_38 mi_X7_sum mv_X7_sum rfl kd_27 cl_7 rfl (ltA hA0 rfl) hR hcs (Nat.le_of_ble_eq_true rfl) dX7_unit_89 rfl (hM_1 c0 c1 c2 c3) (fun g hp => (v_drop (lvLe_s (lvLe_s (lvLe_n (lvLe_s (lvLe_n lvLe_e))))) ((q_3 c0 c1 c2 c3) g hp)))
      · refine v_aload_n dX7_unit_47 rfl ?_
        exact v_cVI (mt := m_X7_unit) mo_X7_next ml_RX7_34 mi_X7_next mv_X7_next rfl kd_27 cl_7 rfl (ltA hA0 rfl) hR hcs (Nat.le_of_ble_eq_true rfl) dX7_unit_48 rfl (hM_2 c0 c1 c2) (fun y g hp => ((q_4 c0 c1 c2) y g hp))
  · refine v_aload_n dX7_unit_21 rfl ?_
    refine v_dup dX7_unit_22 rfl ?_
    refine v_getI dX7_unit_23 fl_RX7_23 kd_27 (ltA hA0 rfl) rfl ?_
    refine v_iconst dX7_unit_26 ci_1 ?_
    refine v_iadd dX7_unit_27 ?_
    refine v_putI rfl rfl rfl dX7_unit_28 fl_RX7_23 (Or.inl rfl) kd_27 (ltA hA0 rfl) ?_
    refine v_iinc (y := (x3 + 1)) dX7_unit_31 rfl rfl (by decide) (L' := [some (.ref 27), some (.int x1), some (.int x2), some (.int (x3 + 1)), none]) rfl ?_
    refine v_goto (tgt := 2) dX7_unit_34 (by decide) ?_
    exact (q_5 c0)
theorem c_X7_unit_51 {X : CX} {R : Room} {Z : ZX} {A : AX} {h : AH} {x1 x2 x3 s0 : Int32} {d : Nat} {P89 P71 : AH → Prop} (hA0 : 91 ≤ A.1) (hR : RO R (d + 1)) (hcs : A.2.2.1 ≤ R.cells ∧ A.2.2.2 ≤ R.slots) (q : ¬ s0 = 40 → ¬ x2 = 0 → V X m_X7_unit R Z A 92 [some (.ref 27), some (.int x1), none, some (.int x3), none] [] h) (hM : ¬ s0 = 40 → x2 = 0 → Mk X d m_X7_sum [.ref 27, .int x3] h A.1 A.2.1 (RV P89)) (q_1 : ¬ s0 = 40 → x2 = 0 → ∀ (g : AH), P89 g → V X m_X7_unit R Z A 92 [some (.ref 27), some (.int x1), none, some (.int x3), none] [] g) (hM_1 : s0 = 40 → Mk X d m_X7_condition [.ref 27, .int (x3 + 1), .int 0] (setI h 27 3 ((h.1 27 3) + 1)) A.1 A.2.1 (RV P71)) (q_2 : s0 = 40 → ∀ (g : AH), P71 g → V X m_X7_unit R Z A 74 [some (.ref 27), some (.int x1), none, some (.int x3), none] [] g) : V X m_X7_unit R Z A 51 [some (.ref 27), some (.int x1), some (.int x2), some (.int x3), none] [.int s0] h := by
  refine v_bipush dX7_unit_51 cb_40 ?_
  refine v_icmp_ne (tgt := 83) dX7_unit_53 (by decide) (fun c0 => ?_) (fun c0 => ?_)
  · refine v_iload_n dX7_unit_83 rfl ?_
    refine v_if_ne (tgt := 92) dX7_unit_84 (by decide) (fun c1 => ?_) (fun c1 => ?_)
    · exact (v_drop (lvLe_s (lvLe_s (lvLe_n (lvLe_s (lvLe_n lvLe_e))))) (q c0 c1))
    · refine v_aload_n dX7_unit_87 rfl ?_
      refine v_iload_n dX7_unit_88 rfl ?_
      exact v_cVV (mt := m_X7_unit) mo_X7_sum ml_RX7_38 mi_X7_sum mv_X7_sum rfl kd_27 cl_7 rfl (ltA hA0 rfl) hR hcs (Nat.le_of_ble_eq_true rfl) dX7_unit_89 rfl (hM c0 c1) (fun g hp => (v_drop (lvLe_s (lvLe_s (lvLe_n (lvLe_s (lvLe_n lvLe_e))))) ((q_1 c0 c1) g hp)))
  · refine v_aload_n dX7_unit_56 rfl ?_
    refine v_dup dX7_unit_57 rfl ?_
    refine v_getI dX7_unit_58 fl_RX7_23 kd_27 (ltA hA0 rfl) rfl ?_
    refine v_iconst dX7_unit_61 ci_1 ?_
    refine v_iadd dX7_unit_62 ?_
    refine v_putI rfl rfl rfl dX7_unit_63 fl_RX7_23 (Or.inl rfl) kd_27 (ltA hA0 rfl) ?_
    refine v_aload_n dX7_unit_66 rfl ?_
    refine v_iload_n dX7_unit_67 rfl ?_
    refine v_iconst dX7_unit_68 ci_1 ?_
    refine v_iadd dX7_unit_69 ?_
    refine v_iconst dX7_unit_70 ci_0 ?_
    exact v_cVV (mt := m_X7_unit) mo_X7_condition ml_RX7_45 mi_X7_condition mv_X7_condition rfl kd_27 cl_7 rfl (ltA hA0 rfl) hR hcs (Nat.le_of_ble_eq_true rfl) dX7_unit_71 rfl (hM_1 c0) (fun g hp => (v_drop (lvLe_s (lvLe_s (lvLe_n (lvLe_s (lvLe_n lvLe_e))))) ((q_2 c0) g hp)))
theorem c_X7_unit_74 {X : CX} {R : Room} {Z : ZX} {A : AX} {h : AH} {x1 x3 : Int32} {d : Nat} {P77 : AH → Prop} (hA0 : 91 ≤ A.1) (hR : RO R (d + 1)) (hcs : A.2.2.1 ≤ R.cells ∧ A.2.2.2 ≤ R.slots) (hM : Mk X d m_X7_expect [.ref 27, .int 41] h A.1 A.2.1 (RV P77)) (q : ∀ (g : AH), P77 g → V X m_X7_unit R Z A 80 [some (.ref 27), some (.int x1), none, some (.int x3), none] [] g) : V X m_X7_unit R Z A 74 [some (.ref 27), some (.int x1), none, some (.int x3), none] [] h := by
  refine v_aload_n dX7_unit_74 rfl ?_
  refine v_bipush dX7_unit_75 cb_41 ?_
  exact v_cVV (mt := m_X7_unit) mo_X7_expect ml_RX7_30 mi_X7_expect mv_X7_expect rfl kd_27 cl_7 rfl (ltA hA0 rfl) hR hcs (Nat.le_of_ble_eq_true rfl) dX7_unit_77 rfl hM (fun g hp => (q g hp))
theorem c_X7_unit_80 {X : CX} {R : Room} {Z : ZX} {A : AX} {h : AH} {x1 x3 : Int32} (q : V X m_X7_unit R Z A 137 [some (.ref 27), some (.int x1), none, some (.int x3), none] [] h) : V X m_X7_unit R Z A 80 [some (.ref 27), some (.int x1), none, some (.int x3), none] [] h := by
  refine v_goto (tgt := 137) dX7_unit_80 (by decide) ?_
  exact q
theorem c_X7_unit_92 {X : CX} {R : Room} {Z : ZX} {A : AX} {h : AH} {x1 x3 : Int32} {d : Nat} {P93 : Int32 → AH → Prop} (hA0 : 91 ≤ A.1) (hR : RO R (d + 1)) (hcs : A.2.2.1 ≤ R.cells ∧ A.2.2.2 ≤ R.slots) (hM : Mk X d m_X7_next [.ref 27] h A.1 A.2.1 (RI P93)) (q : ∀ (y : Int32) (g : AH), P93 y g → V X m_X7_unit R Z A 96 [some (.ref 27), some (.int x1), none, some (.int x3), none] [.int y] g) : V X m_X7_unit R Z A 92 [some (.ref 27), some (.int x1), none, some (.int x3), none] [] h := by
  refine v_aload_n dX7_unit_92 rfl ?_
  exact v_cVI (mt := m_X7_unit) mo_X7_next ml_RX7_34 mi_X7_next mv_X7_next rfl kd_27 cl_7 rfl (ltA hA0 rfl) hR hcs (Nat.le_of_ble_eq_true rfl) dX7_unit_93 rfl hM (fun y g hp => (q y g hp))
theorem c_X7_unit_96 {X : CX} {R : Room} {Z : ZX} {A : AX} {h : AH} {x1 x3 s0 : Int32} {d : Nat} {P96 : Int32 → AH → Prop} (hR : RO R (d + 1)) (hcs : A.2.2.1 ≤ R.cells ∧ A.2.2.2 ≤ R.slots) (hM : Mk X d m_X7_comparing [.int s0] h A.1 A.2.1 (RI P96)) (q : ∀ (y : Int32) (g : AH), P96 y g → V X m_X7_unit R Z A 99 [some (.ref 27), some (.int x1), none, some (.int x3), none] [.int y] g) : V X m_X7_unit R Z A 96 [some (.ref 27), some (.int x1), none, some (.int x3), none] [.int s0] h := by
  exact v_cSI (mt := m_X7_unit) mo_X7_comparing ml_RX7_41 mz_X7_comparing rfl hR hcs (Nat.le_of_ble_eq_true rfl) dX7_unit_96 rfl hM (fun y g hp => (q y g hp))
theorem c_X7_unit_99 {X : CX} {R : Room} {Z : ZX} {A : AX} {h : AH} {x1 x3 s0 : Int32} {d : Nat} {P127 : AH → Prop} (hA0 : 91 ≤ A.1) (hR : RO R (d + 1)) (hcs : A.2.2.1 ≤ R.cells ∧ A.2.2.2 ≤ R.slots) (hM : ¬ s0 = (-1) → Mk X d m_X7_sum [.ref 27, .int x3] (setI h 27 3 ((h.1 27 3) + 1)) A.1 A.2.1 (RV P127)) (q : ¬ s0 = (-1) → ∀ (g : AH), P127 g → V X m_X7_unit R Z A 130 [some (.ref 27), some (.int x1), none, some (.int x3), some (.int s0)] [] g) (q_1 : s0 = (-1) → V X m_X7_unit R Z A 137 [some (.ref 27), some (.int x1), none, some (.int x3), none] [] (setI h 27 4 1)) : V X m_X7_unit R Z A 99 [some (.ref 27), some (.int x1), none, some (.int x3), none] [.int s0] h := by
  refine v_istore dX7_unit_99 (by decide) (L' := [some (.ref 27), some (.int x1), none, some (.int x3), some (.int s0)]) rfl ?_
  refine v_iload dX7_unit_101 rfl ?_
  refine v_iconst dX7_unit_103 ci_m1 ?_
  refine v_icmp_ne (tgt := 115) dX7_unit_104 (by decide) (fun c0 => ?_) (fun c0 => ?_)
  · refine v_aload_n dX7_unit_115 rfl ?_
    refine v_dup dX7_unit_116 rfl ?_
    refine v_getI dX7_unit_117 fl_RX7_23 kd_27 (ltA hA0 rfl) rfl ?_
    refine v_iconst dX7_unit_120 ci_1 ?_
    refine v_iadd dX7_unit_121 ?_
    refine v_putI rfl rfl rfl dX7_unit_122 fl_RX7_23 (Or.inl rfl) kd_27 (ltA hA0 rfl) ?_
    refine v_aload_n dX7_unit_125 rfl ?_
    refine v_iload_n dX7_unit_126 rfl ?_
    exact v_cVV (mt := m_X7_unit) mo_X7_sum ml_RX7_38 mi_X7_sum mv_X7_sum rfl kd_27 cl_7 rfl (ltA hA0 rfl) hR hcs (Nat.le_of_ble_eq_true rfl) dX7_unit_127 rfl (hM c0) (fun g hp => ((q c0) g hp))
  · refine v_aload_n dX7_unit_107 rfl ?_
    refine v_iconst dX7_unit_108 ci_1 ?_
    refine v_putI rfl rfl rfl dX7_unit_109 fl_RX7_26 (Or.inl rfl) kd_27 (ltA hA0 rfl) ?_
    refine v_goto (tgt := 137) dX7_unit_112 (by decide) ?_
    exact (v_drop (lvLe_s (lvLe_s (lvLe_n (lvLe_s (lvLe_n lvLe_e))))) (q_1 c0))
theorem c_X7_unit_130 {X : CX} {R : Room} {Z : ZX} {A : AX} {h : AH} {x1 x3 x4 : Int32} {d : Nat} {P134 : AH → Prop} (hA0 : 91 ≤ A.1) (hR : RO R (d + 1)) (hcs : A.2.2.1 ≤ R.cells ∧ A.2.2.2 ≤ R.slots) (hM : Mk X d m_X7_write [.ref 27, .int x4, .int 0] h A.1 A.2.1 (RV P134)) (q : ∀ (g : AH), P134 g → V X m_X7_unit R Z A 137 [some (.ref 27), some (.int x1), none, some (.int x3), none] [] g) : V X m_X7_unit R Z A 130 [some (.ref 27), some (.int x1), none, some (.int x3), some (.int x4)] [] h := by
  refine v_aload_n dX7_unit_130 rfl ?_
  refine v_iload dX7_unit_131 rfl ?_
  refine v_iconst dX7_unit_133 ci_0 ?_
  exact v_cVV (mt := m_X7_unit) mo_X7_write ml_RX7_51 mi_X7_write mv_X7_write rfl kd_27 cl_7 rfl (ltA hA0 rfl) hR hcs (Nat.le_of_ble_eq_true rfl) dX7_unit_134 rfl hM (fun g hp => (v_drop (lvLe_s (lvLe_s (lvLe_n (lvLe_s (lvLe_n lvLe_e))))) (q g hp)))
theorem c_X7_unit_137 {X : CX} {R : Room} {Z : ZX} {A : AX} {h : AH} {x1 x3 : Int32} (q : V X m_X7_unit R Z A 140 [some (.ref 27), none, none, some (.int x3), some (.int x1)] [] h) : V X m_X7_unit R Z A 137 [some (.ref 27), some (.int x1), none, some (.int x3), none] [] h := by
  refine v_iload_n dX7_unit_137 rfl ?_
  refine v_istore dX7_unit_138 (by decide) (L' := [some (.ref 27), some (.int x1), none, some (.int x3), some (.int x1)]) rfl ?_
  exact (v_drop (lvLe_s (lvLe_n (lvLe_n (lvLe_s (lvLe_s lvLe_e))))) q)
theorem c_X7_unit_140 {X : CX} {R : Room} {Q : Option Value → AH → Prop} {nx sz mc ms : Nat} {h : AH} {x3 x4 : Int32} {d : Nat} {P150 : AH → Prop} (hA0 : 91 ≤ nx) (hR : RO R (d + 1)) (hcs : mc ≤ R.cells ∧ ms ≤ R.slots) (hq : x3 ≤ x4 → Q none h) (hM : ¬ x3 ≤ x4 → Mk X d m_X7_write [.ref 27, .int 11, .int 0] h nx sz (RV P150)) (q : ¬ x3 ≤ x4 → ∀ (g : AH), P150 g → V X m_X7_unit R (ZM X Q nx sz mc ms) (nx, sz, mc, ms) 153 [some (.ref 27), none, none, some (.int x3), some (.int x4)] [] g) : V X m_X7_unit R (ZM X Q nx sz mc ms) (nx, sz, mc, ms) 140 [some (.ref 27), none, none, some (.int x3), some (.int x4)] [] h := by
  refine v_iload dX7_unit_140 rfl ?_
  refine v_iload_n dX7_unit_142 rfl ?_
  refine v_icmp_ge (tgt := 159) dX7_unit_143 (by decide) (fun c0 => ?_) (fun c0 => ?_)
  · exact v_vret dX7_unit_159 rfl (hq c0)
  · refine v_aload_n dX7_unit_146 rfl ?_
    refine v_bipush dX7_unit_147 cb_11 ?_
    refine v_iconst dX7_unit_149 ci_0 ?_
    exact v_cVV (mt := m_X7_unit) mo_X7_write ml_RX7_51 mi_X7_write mv_X7_write rfl kd_27 cl_7 rfl (ltA hA0 rfl) hR hcs (Nat.le_of_ble_eq_true rfl) dX7_unit_150 rfl (hM c0) (fun g hp => ((q c0) g hp))
theorem c_X7_unit_153 {X : CX} {R : Room} {Z : ZX} {A : AX} {h : AH} {x3 x4 : Int32} (q : V X m_X7_unit R Z A 140 [some (.ref 27), none, none, some (.int x3), some (.int (x4 + 1))] [] h) : V X m_X7_unit R Z A 153 [some (.ref 27), none, none, some (.int x3), some (.int x4)] [] h := by
  refine v_iinc (y := (x4 + 1)) dX7_unit_153 rfl rfl (by decide) (L' := [some (.ref 27), none, none, some (.int x3), some (.int (x4 + 1))]) rfl ?_
  refine v_goto (tgt := 140) dX7_unit_156 (by decide) ?_
  exact q
theorem e_X7_sum {X : CX} {d nx sz : Nat} {Q : Option Value → AH → Prop} {h : AH} {x1 : Int32} (q : V X m_X7_sum (rm d 0 0) (ZM X Q nx sz 0 0) (nx, sz, 0, 0) 0 [some (.ref 27), some (.int x1), none, none, none, none] [] h) : Mk X d m_X7_sum [.ref 27, .int x1] h nx sz Q := by
  refine Mok.ofV mo_X7_sum (Nat.le_of_ble_eq_true rfl) (L := [some (.ref 27), some (.int x1)]) (lvLe_s (lvLe_s lvLe_e)) (v_grow (n := 4) ?_)
  exact q
theorem c_X7_sum_0 {X : CX} {R : Room} {Z : ZX} {A : AX} {h : AH} {x1 : Int32} (q : V X m_X7_sum R Z A 7 [some (.ref 27), some (.int x1), some (.int (-1)), some (.int (-1)), some (.int 0), none] [] h) : V X m_X7_sum R Z A 0 [some (.ref 27), some (.int x1), none, none, none, none] [] h := by
  refine v_iconst dX7_sum_0 ci_m1 ?_
  refine v_istore_n dX7_sum_1 (by decide) (L' := [some (.ref 27), some (.int x1), some (.int (-1)), none, none, none]) rfl ?_
  refine v_iconst dX7_sum_2 ci_m1 ?_
  refine v_istore_n dX7_sum_3 (by decide) (L' := [some (.ref 27), some (.int x1), some (.int (-1)), some (.int (-1)), none, none]) rfl ?_
  refine v_iconst dX7_sum_4 ci_0 ?_
  refine v_istore dX7_sum_5 (by decide) (L' := [some (.ref 27), some (.int x1), some (.int (-1)), some (.int (-1)), some (.int 0), none]) rfl ?_
  exact q
theorem c_X7_sum_7 {X : CX} {R : Room} {Q : Option Value → AH → Prop} {nx sz mc ms : Nat} {h : AH} {x1 x2 x3 x4 : Int32} {d : Nat} {P24 : AH → Prop} (hA0 : 91 ≤ nx) (hR : RO R (d + 1)) (hcs : mc ≤ R.cells ∧ ms ≤ R.slots) (hq : 200 ≤ x4 → Q none h) (hq_1 : ¬ 200 ≤ x4 → ¬ (h.1 27 4) = 0 → Q none h) (hM : ¬ 200 ≤ x4 → (h.1 27 4) = 0 → Mk X d m_X7_atom [.ref 27, .int x1] h nx sz (RV P24)) (q : ¬ 200 ≤ x4 → (h.1 27 4) = 0 → ∀ (g : AH), P24 g → V X m_X7_sum R (ZM X Q nx sz mc ms) (nx, sz, mc, ms) 27 [some (.ref 27), some (.int x1), some (.int x2), some (.int x3), some (.int x4), none] [] g) : V X m_X7_sum R (ZM X Q nx sz mc ms) (nx, sz, mc, ms) 7 [some (.ref 27), some (.int x1), some (.int x2), some (.int x3), some (.int x4), none] [] h := by
  refine v_iload dX7_sum_7 rfl ?_
  refine v_sipush dX7_sum_9 cs_200 ?_
  refine v_icmp_ge (tgt := 94) dX7_sum_12 (by decide) (fun c0 => ?_) (fun c0 => ?_)
  · exact v_vret dX7_sum_94 rfl (hq c0)
  · refine v_aload_n dX7_sum_15 rfl ?_
    refine v_getI dX7_sum_16 fl_RX7_26 kd_27 (ltA hA0 rfl) rfl ?_
    refine v_if_ne (tgt := 94) dX7_sum_19 (by decide) (fun c1 => ?_) (fun c1 => ?_)
    · exact v_vret dX7_sum_94 rfl (hq_1 c0 c1)
    · refine v_aload_n dX7_sum_22 rfl ?_
      refine v_iload_n dX7_sum_23 rfl ?_
      exact v_cVV (mt := m_X7_sum) mo_X7_atom ml_RX7_69 mi_X7_atom mv_X7_atom rfl kd_27 cl_7 rfl (ltA hA0 rfl) hR hcs (Nat.le_of_ble_eq_true rfl) dX7_sum_24 rfl (hM c0 c1) (fun g hp => ((q c0 c1) g hp))
theorem c_X7_sum_27 {X : CX} {R : Room} {Z : ZX} {A : AX} {h : AH} {x1 x2 x3 x4 : Int32} {d : Nat} {P35 : AH → Prop} (hA0 : 91 ≤ A.1) (hR : RO R (d + 1)) (hcs : A.2.2.1 ≤ R.cells ∧ A.2.2.2 ≤ R.slots) (q : x2 = (-1) → V X m_X7_sum R Z A 38 [some (.ref 27), some (.int x1), none, some (.int x3), some (.int x4), none] [] h) (hM : ¬ x2 = (-1) → Mk X d m_X7_write [.ref 27, .int x2, .int 0] h A.1 A.2.1 (RV P35)) (q_1 : ¬ x2 = (-1) → ∀ (g : AH), P35 g → V X m_X7_sum R Z A 38 [some (.ref 27), some (.int x1), none, some (.int x3), some (.int x4), none] [] g) : V X m_X7_sum R Z A 27 [some (.ref 27), some (.int x1), some (.int x2), some (.int x3), some (.int x4), none] [] h := by
  refine v_iload_n dX7_sum_27 rfl ?_
  refine v_iconst dX7_sum_28 ci_m1 ?_
  refine v_icmp_eq (tgt := 38) dX7_sum_29 (by decide) (fun c0 => ?_) (fun c0 => ?_)
  · exact (v_drop (lvLe_s (lvLe_s (lvLe_n (lvLe_s (lvLe_s (lvLe_n lvLe_e)))))) (q c0))
  · refine v_aload_n dX7_sum_32 rfl ?_
    refine v_iload_n dX7_sum_33 rfl ?_
    refine v_iconst dX7_sum_34 ci_0 ?_
    exact v_cVV (mt := m_X7_sum) mo_X7_write ml_RX7_51 mi_X7_write mv_X7_write rfl kd_27 cl_7 rfl (ltA hA0 rfl) hR hcs (Nat.le_of_ble_eq_true rfl) dX7_sum_35 rfl (hM c0) (fun g hp => (v_drop (lvLe_s (lvLe_s (lvLe_n (lvLe_s (lvLe_s (lvLe_n lvLe_e)))))) ((q_1 c0) g hp)))
theorem c_X7_sum_38 {X : CX} {R : Room} {Z : ZX} {A : AX} {h : AH} {x1 x3 x4 : Int32} {d : Nat} {P39 : Int32 → AH → Prop} (hA0 : 91 ≤ A.1) (hR : RO R (d + 1)) (hcs : A.2.2.1 ≤ R.cells ∧ A.2.2.2 ≤ R.slots) (hM : Mk X d m_X7_next [.ref 27] h A.1 A.2.1 (RI P39)) (q : ∀ (y : Int32) (g : AH), P39 y g → V X m_X7_sum R Z A 42 [some (.ref 27), some (.int x1), none, some (.int x3), some (.int x4), none] [.int y] g) : V X m_X7_sum R Z A 38 [some (.ref 27), some (.int x1), none, some (.int x3), some (.int x4), none] [] h := by
  refine v_aload_n dX7_sum_38 rfl ?_
  exact v_cVI (mt := m_X7_sum) mo_X7_next ml_RX7_34 mi_X7_next mv_X7_next rfl kd_27 cl_7 rfl (ltA hA0 rfl) hR hcs (Nat.le_of_ble_eq_true rfl) dX7_sum_39 rfl hM (fun y g hp => (q y g hp))
theorem c_X7_sum_42 {X : CX} {R : Room} {Z : ZX} {A : AX} {h : AH} {x1 x3 x4 s0 : Int32} {d : Nat} {P46 : Int32 → AH → Prop} (hR : RO R (d + 1)) (hcs : A.2.2.1 ≤ R.cells ∧ A.2.2.2 ≤ R.slots) (hM : Mk X d m_X7_multiplying [.int s0] h A.1 A.2.1 (RI P46)) (q : ∀ (y : Int32) (g : AH), P46 y g → V X m_X7_sum R Z A 49 [some (.ref 27), some (.int x1), none, some (.int x3), some (.int x4), some (.int s0)] [.int y] g) : V X m_X7_sum R Z A 42 [some (.ref 27), some (.int x1), none, some (.int x3), some (.int x4), none] [.int s0] h := by
  refine v_istore dX7_sum_42 (by decide) (L' := [some (.ref 27), some (.int x1), none, some (.int x3), some (.int x4), some (.int s0)]) rfl ?_
  refine v_iload dX7_sum_44 rfl ?_
  exact v_cSI (mt := m_X7_sum) mo_X7_multiplying ml_RX7_72 mz_X7_multiplying rfl hR hcs (Nat.le_of_ble_eq_true rfl) dX7_sum_46 rfl hM (fun y g hp => (q y g hp))
theorem c_X7_sum_49 {X : CX} {R : Room} {Z : ZX} {A : AX} {h : AH} {x1 x3 x4 x5 s0 : Int32} {d : Nat} {P63 : AH → Prop} (hA0 : 91 ≤ A.1) (hR : RO R (d + 1)) (hcs : A.2.2.1 ≤ R.cells ∧ A.2.2.2 ≤ R.slots) (q : ¬ s0 = (-1) → V X m_X7_sum R Z A 7 [some (.ref 27), some (.int x1), some (.int s0), some (.int x3), some (.int (x4 + 1)), none] [] (setI h 27 3 ((h.1 27 3) + 1))) (q_1 : s0 = (-1) → x3 = (-1) → V X m_X7_sum R Z A 66 [some (.ref 27), some (.int x1), some (.int s0), none, some (.int x4), some (.int x5)] [] h) (hM : s0 = (-1) → ¬ x3 = (-1) → Mk X d m_X7_write [.ref 27, .int x3, .int 0] h A.1 A.2.1 (RV P63)) (q_2 : s0 = (-1) → ¬ x3 = (-1) → ∀ (g : AH), P63 g → V X m_X7_sum R Z A 66 [some (.ref 27), some (.int x1), some (.int s0), none, some (.int x4), some (.int x5)] [] g) : V X m_X7_sum R Z A 49 [some (.ref 27), some (.int x1), none, some (.int x3), some (.int x4), some (.int x5)] [.int s0] h := by
  refine v_istore_n dX7_sum_49 (by decide) (L' := [some (.ref 27), some (.int x1), some (.int s0), some (.int x3), some (.int x4), some (.int x5)]) rfl ?_
  refine v_iload_n dX7_sum_50 rfl ?_
  refine v_iconst dX7_sum_51 ci_m1 ?_
  refine v_icmp_ne (tgt := 78) dX7_sum_52 (by decide) (fun c0 => ?_) (fun c0 => ?_)
  · refine v_aload_n dX7_sum_78 rfl ?_
    refine v_dup dX7_sum_79 rfl ?_
    refine v_getI dX7_sum_80 fl_RX7_23 kd_27 (ltA hA0 rfl) rfl ?_
    refine v_iconst dX7_sum_83 ci_1 ?_
    refine v_iadd dX7_sum_84 ?_
    refine v_putI rfl rfl rfl dX7_sum_85 fl_RX7_23 (Or.inl rfl) kd_27 (ltA hA0 rfl) ?_
    refine v_iinc (y := (x4 + 1)) dX7_sum_88 rfl rfl (by decide) (L' := [some (.ref 27), some (.int x1), some (.int s0), some (.int x3), some (.int (x4 + 1)), some (.int x5)]) rfl ?_
    refine v_goto (tgt := 7) dX7_sum_91 (by decide) ?_
    exact (v_drop (lvLe_s (lvLe_s (lvLe_s (lvLe_s (lvLe_s (lvLe_n lvLe_e)))))) (q c0))
  · refine v_iload_n dX7_sum_55 rfl ?_
    refine v_iconst dX7_sum_56 ci_m1 ?_
    refine v_icmp_eq (tgt := 66) dX7_sum_57 (by decide) (fun c1 => ?_) (fun c1 => ?_)
    · exact (v_drop (lvLe_s (lvLe_s (lvLe_s (lvLe_n (lvLe_s (lvLe_s lvLe_e)))))) (q_1 c0 c1))
    · refine v_aload_n dX7_sum_60 rfl ?_
      refine v_iload_n dX7_sum_61 rfl ?_
      refine v_iconst dX7_sum_62 ci_0 ?_
      exact v_cVV (mt := m_X7_sum) mo_X7_write ml_RX7_51 mi_X7_write mv_X7_write rfl kd_27 cl_7 rfl (ltA hA0 rfl) hR hcs (Nat.le_of_ble_eq_true rfl) dX7_sum_63 rfl (hM c0 c1) (fun g hp => (v_drop (lvLe_s (lvLe_s (lvLe_s (lvLe_n (lvLe_s (lvLe_s lvLe_e)))))) ((q_2 c0 c1) g hp)))
theorem c_X7_sum_66 {X : CX} {R : Room} {Z : ZX} {A : AX} {h : AH} {x1 x2 x4 x5 : Int32} {d : Nat} {P68 : Int32 → AH → Prop} (hR : RO R (d + 1)) (hcs : A.2.2.1 ≤ R.cells ∧ A.2.2.2 ≤ R.slots) (hM : Mk X d m_X7_adding [.int x5] h A.1 A.2.1 (RI P68)) (q : ∀ (y : Int32) (g : AH), P68 y g → V X m_X7_sum R Z A 71 [some (.ref 27), some (.int x1), some (.int x2), none, some (.int x4), none] [.int y] g) : V X m_X7_sum R Z A 66 [some (.ref 27), some (.int x1), some (.int x2), none, some (.int x4), some (.int x5)] [] h := by
  refine v_iload dX7_sum_66 rfl ?_
  exact v_cSI (mt := m_X7_sum) mo_X7_adding ml_RX7_75 mz_X7_adding rfl hR hcs (Nat.le_of_ble_eq_true rfl) dX7_sum_68 rfl hM (fun y g hp => (v_drop (lvLe_s (lvLe_s (lvLe_s (lvLe_n (lvLe_s (lvLe_n lvLe_e)))))) (q y g hp)))
theorem c_X7_sum_71 {X : CX} {R : Room} {Q : Option Value → AH → Prop} {nx sz mc ms : Nat} {h : AH} {x1 x2 x4 s0 : Int32} (hA0 : 91 ≤ nx) (q : ¬ s0 = (-1) → V X m_X7_sum R (ZM X Q nx sz mc ms) (nx, sz, mc, ms) 7 [some (.ref 27), some (.int x1), some (.int x2), some (.int s0), some (.int (x4 + 1)), none] [] (setI h 27 3 ((h.1 27 3) + 1))) (hq : s0 = (-1) → Q none h) : V X m_X7_sum R (ZM X Q nx sz mc ms) (nx, sz, mc, ms) 71 [some (.ref 27), some (.int x1), some (.int x2), none, some (.int x4), none] [.int s0] h := by
  refine v_istore_n dX7_sum_71 (by decide) (L' := [some (.ref 27), some (.int x1), some (.int x2), some (.int s0), some (.int x4), none]) rfl ?_
  refine v_iload_n dX7_sum_72 rfl ?_
  refine v_iconst dX7_sum_73 ci_m1 ?_
  refine v_icmp_ne (tgt := 78) dX7_sum_74 (by decide) (fun c0 => ?_) (fun c0 => ?_)
  · refine v_aload_n dX7_sum_78 rfl ?_
    refine v_dup dX7_sum_79 rfl ?_
    refine v_getI dX7_sum_80 fl_RX7_23 kd_27 (ltA hA0 rfl) rfl ?_
    refine v_iconst dX7_sum_83 ci_1 ?_
    refine v_iadd dX7_sum_84 ?_
    refine v_putI rfl rfl rfl dX7_sum_85 fl_RX7_23 (Or.inl rfl) kd_27 (ltA hA0 rfl) ?_
    refine v_iinc (y := (x4 + 1)) dX7_sum_88 rfl rfl (by decide) (L' := [some (.ref 27), some (.int x1), some (.int x2), some (.int s0), some (.int (x4 + 1)), none]) rfl ?_
    refine v_goto (tgt := 7) dX7_sum_91 (by decide) ?_
    exact (q c0)
  · exact v_vret dX7_sum_77 rfl (hq c0)
theorem e_X7_atom {X : CX} {d nx sz : Nat} {Q : Option Value → AH → Prop} {h : AH} {x1 : Int32} (q : V X m_X7_atom (rm d 0 0) (ZM X Q nx sz 0 0) (nx, sz, 0, 0) 0 [some (.ref 27), some (.int x1), none] [] h) : Mk X d m_X7_atom [.ref 27, .int x1] h nx sz Q := by
  refine Mok.ofV mo_X7_atom (Nat.le_of_ble_eq_true rfl) (L := [some (.ref 27), some (.int x1)]) (lvLe_s (lvLe_s lvLe_e)) (v_grow (n := 1) ?_)
  exact q
theorem c_X7_atom_0 {X : CX} {R : Room} {Z : ZX} {A : AX} {h : AH} {x1 : Int32} {d : Nat} {P1 : Int32 → AH → Prop} (hA0 : 91 ≤ A.1) (hR : RO R (d + 1)) (hcs : A.2.2.1 ≤ R.cells ∧ A.2.2.2 ≤ R.slots) (hM : Mk X d m_X7_next [.ref 27] h A.1 A.2.1 (RI P1)) (q : ∀ (y : Int32) (g : AH), P1 y g → V X m_X7_atom R Z A 4 [some (.ref 27), some (.int x1), none] [.int y] g) : V X m_X7_atom R Z A 0 [some (.ref 27), some (.int x1), none] [] h := by
  refine v_aload_n dX7_atom_0 rfl ?_
  exact v_cVI (mt := m_X7_atom) mo_X7_next ml_RX7_34 mi_X7_next mv_X7_next rfl kd_27 cl_7 rfl (ltA hA0 rfl) hR hcs (Nat.le_of_ble_eq_true rfl) dX7_atom_1 rfl hM (fun y g hp => (q y g hp))
theorem c_X7_atom_4 {X : CX} {R : Room} {Z : ZX} {A : AX} {h : AH} {x1 s0 : Int32} {d : Nat} {P6 : Int32 → AH → Prop} (hR : RO R (d + 1)) (hcs : A.2.2.1 ≤ R.cells ∧ A.2.2.2 ≤ R.slots) (hM : Mk X d m_X7_isDigit [.int s0] h A.1 A.2.1 (RI P6)) (q : ∀ (y : Int32) (g : AH), P6 y g → V X m_X7_atom R Z A 9 [some (.ref 27), some (.int x1), some (.int s0)] [.int y] g) : V X m_X7_atom R Z A 4 [some (.ref 27), some (.int x1), none] [.int s0] h := by
  refine v_istore_n dX7_atom_4 (by decide) (L' := [some (.ref 27), some (.int x1), some (.int s0)]) rfl ?_
  refine v_iload_n dX7_atom_5 rfl ?_
  exact v_cSI (mt := m_X7_atom) mo_X7_isDigit ml_RX7_78 mz_X7_isDigit rfl hR hcs (Nat.le_of_ble_eq_true rfl) dX7_atom_6 rfl hM (fun y g hp => (q y g hp))
theorem c_X7_atom_9 {X : CX} {R : Room} {Q : Option Value → AH → Prop} {nx sz mc ms : Nat} {h : AH} {x1 x2 s0 : Int32} {d : Nat} {P65 P65_1 : Int32 → AH → Prop} {P45 P13 : AH → Prop} (hA0 : 91 ≤ nx) (hR : RO R (d + 1)) (hcs : mc ≤ R.cells ∧ ms ≤ R.slots) (hq : s0 = 0 → ¬ x2 = 91 → x2 = 0 → Q none (setI h 27 4 1)) (hM : s0 = 0 → ¬ x2 = 91 → ¬ x2 = 0 → Mk X d m_J0_indexOf_0f7a4 [.ref (10000 + 0), .int (((x2 : Int32).toUInt32 % 65536).toInt32)] h nx sz (RI P65)) (q : s0 = 0 → ¬ x2 = 91 → ¬ x2 = 0 → ∀ (y : Int32) (g : AH), P65 y g → V X m_X7_atom R (ZM X Q nx sz mc ms) (nx, sz, mc, ms) 68 [some (.ref 27), none, some (.int x2)] [.int y] g) (hq_1 : s0 = 0 → x2 = 91 → 6 ≤ x1 → x2 = 0 → Q none (setI h 27 4 1)) (hM_1 : s0 = 0 → x2 = 91 → 6 ≤ x1 → ¬ x2 = 0 → Mk X d m_J0_indexOf_0f7a4 [.ref (10000 + 0), .int (((x2 : Int32).toUInt32 % 65536).toInt32)] h nx sz (RI P65_1)) (q_1 : s0 = 0 → x2 = 91 → 6 ≤ x1 → ¬ x2 = 0 → ∀ (y : Int32) (g : AH), P65_1 y g → V X m_X7_atom R (ZM X Q nx sz mc ms) (nx, sz, mc, ms) 68 [some (.ref 27), none, some (.int x2)] [.int y] g) (hM_2 : s0 = 0 → x2 = 91 → ¬ 6 ≤ x1 → Mk X d m_X7_sum [.ref 27, .int (x1 + 1)] (setI h 27 3 ((h.1 27 3) + 1)) nx sz (RV P45)) (q_2 : s0 = 0 → x2 = 91 → ¬ 6 ≤ x1 → ∀ (g : AH), P45 g → V X m_X7_atom R (ZM X Q nx sz mc ms) (nx, sz, mc, ms) 48 [some (.ref 27), none, none] [] g) (hM_3 : ¬ s0 = 0 → Mk X d m_X7_number [.ref 27] h nx sz (RV P13)) (q_3 : ¬ s0 = 0 → ∀ (g : AH), P13 g → V X m_X7_atom R (ZM X Q nx sz mc ms) (nx, sz, mc, ms) 16 [none, none, none] [] g) : V X m_X7_atom R (ZM X Q nx sz mc ms) (nx, sz, mc, ms) 9 [some (.ref 27), some (.int x1), some (.int x2)] [.int s0] h := by
  refine v_if_eq (tgt := 19) dX7_atom_9 (by decide) (fun c0 => ?_) (fun c0 => ?_)
  · refine v_iload_n dX7_atom_19 rfl ?_
    refine v_bipush dX7_atom_20 cb_91 ?_
    refine v_icmp_ne (tgt := 57) dX7_atom_22 (by decide) (fun c1 => ?_) (fun c1 => ?_)
    · refine v_iload_n dX7_atom_57 rfl ?_
      refine v_if_eq (tgt := 96) dX7_atom_58 (by decide) (fun c2 => ?_) (fun c2 => ?_)
      · refine v_aload_n dX7_atom_96 rfl ?_
        refine v_iconst dX7_atom_97 ci_1 ?_
        refine v_putI rfl rfl rfl dX7_atom_98 fl_RX7_26 (Or.inl rfl) kd_27 (ltA hA0 rfl) ?_
        exact v_vret dX7_atom_101 rfl (hq c0 c1 c2)
      · refine v_ldcs (k := 0) dX7_atom_61 (List.mem_of_getElem? (i := 0) rfl) ?_
        refine v_iload_n dX7_atom_63 rfl ?_
        refine v_i2c dX7_atom_64 ?_
        exact v_cTI (mt := m_X7_atom) (i := 0) mo_J0_indexOf_0f7a4 ml_RX7_87 mi_J0_indexOf_0f7a4 mv_J0_indexOf_0f7a4 rfl rfl (by decide) hR hcs (Nat.le_of_ble_eq_true rfl) dX7_atom_65 rfl (hM c0 c1 c2) (fun y g hp => (v_drop (lvLe_s (lvLe_n (lvLe_s lvLe_e))) ((q c0 c1 c2) y g hp)))
    · refine v_iload_n dX7_atom_25 rfl ?_
      refine v_bipush dX7_atom_26 cb_6 ?_
      refine v_icmp_ge (tgt := 57) dX7_atom_28 (by decide) (fun c2 => ?_) (fun c2 => ?_)
      · refine v_iload_n dX7_atom_57 rfl ?_
        refine v_if_eq (tgt := 96) dX7_atom_58 (by decide) (fun c3 => ?_) (fun c3 => ?_)
        · refine v_aload_n dX7_atom_96 rfl ?_
          refine v_iconst dX7_atom_97 ci_1 ?_
          refine v_putI rfl rfl rfl dX7_atom_98 fl_RX7_26 (Or.inl rfl) kd_27 (ltA hA0 rfl) ?_
          exact v_vret dX7_atom_101 rfl (hq_1 c0 c1 c2 c3)
        · refine v_ldcs (k := 0) dX7_atom_61 (List.mem_of_getElem? (i := 0) rfl) ?_
          refine v_iload_n dX7_atom_63 rfl ?_
          refine v_i2c dX7_atom_64 ?_
          exact v_cTI (mt := m_X7_atom) (i := 0) mo_J0_indexOf_0f7a4 ml_RX7_87 mi_J0_indexOf_0f7a4 mv_J0_indexOf_0f7a4 rfl rfl (by decide) hR hcs (Nat.le_of_ble_eq_true rfl) dX7_atom_65 rfl (hM_1 c0 c1 c2 c3) (fun y g hp => (v_drop (lvLe_s (lvLe_n (lvLe_s lvLe_e))) ((q_1 c0 c1 c2 c3) y g hp)))
      · refine v_aload_n dX7_atom_31 rfl ?_
        refine v_dup dX7_atom_32 rfl ?_
        refine v_getI dX7_atom_33 fl_RX7_23 kd_27 (ltA hA0 rfl) rfl ?_
        refine v_iconst dX7_atom_36 ci_1 ?_
        refine v_iadd dX7_atom_37 ?_
        refine v_putI rfl rfl rfl dX7_atom_38 fl_RX7_23 (Or.inl rfl) kd_27 (ltA hA0 rfl) ?_
        refine v_aload_n dX7_atom_41 rfl ?_
        refine v_iload_n dX7_atom_42 rfl ?_
        refine v_iconst dX7_atom_43 ci_1 ?_
        refine v_iadd dX7_atom_44 ?_
        exact v_cVV (mt := m_X7_atom) mo_X7_sum ml_RX7_38 mi_X7_sum mv_X7_sum rfl kd_27 cl_7 rfl (ltA hA0 rfl) hR hcs (Nat.le_of_ble_eq_true rfl) dX7_atom_45 rfl (hM_2 c0 c1 c2) (fun g hp => (v_drop (lvLe_s (lvLe_n (lvLe_n lvLe_e))) ((q_2 c0 c1 c2) g hp)))
  · refine v_aload_n dX7_atom_12 rfl ?_
    exact v_cVV (mt := m_X7_atom) mo_X7_number ml_RX7_82 mi_X7_number mv_X7_number rfl kd_27 cl_7 rfl (ltA hA0 rfl) hR hcs (Nat.le_of_ble_eq_true rfl) dX7_atom_13 rfl (hM_3 c0) (fun g hp => (v_drop (lvLe_n (lvLe_n (lvLe_n lvLe_e))) ((q_3 c0) g hp)))
theorem c_X7_atom_16 {X : CX} {R : Room} {Q : Option Value → AH → Prop} {nx sz mc ms : Nat} {h : AH} (hq : Q none h) : V X m_X7_atom R (ZM X Q nx sz mc ms) (nx, sz, mc, ms) 16 [none, none, none] [] h := by
  refine v_goto (tgt := 101) dX7_atom_16 (by decide) ?_
  exact v_vret dX7_atom_101 rfl hq
theorem c_X7_atom_48 {X : CX} {R : Room} {Z : ZX} {A : AX} {h : AH} {d : Nat} {P51 : AH → Prop} (hA0 : 91 ≤ A.1) (hR : RO R (d + 1)) (hcs : A.2.2.1 ≤ R.cells ∧ A.2.2.2 ≤ R.slots) (hM : Mk X d m_X7_expect [.ref 27, .int 93] h A.1 A.2.1 (RV P51)) (q : ∀ (g : AH), P51 g → V X m_X7_atom R Z A 54 [none, none, none] [] g) : V X m_X7_atom R Z A 48 [some (.ref 27), none, none] [] h := by
  refine v_aload_n dX7_atom_48 rfl ?_
  refine v_bipush dX7_atom_49 cb_93 ?_
  exact v_cVV (mt := m_X7_atom) mo_X7_expect ml_RX7_30 mi_X7_expect mv_X7_expect rfl kd_27 cl_7 rfl (ltA hA0 rfl) hR hcs (Nat.le_of_ble_eq_true rfl) dX7_atom_51 rfl hM (fun g hp => (v_drop (lvLe_n (lvLe_n (lvLe_n lvLe_e))) (q g hp)))
theorem c_X7_atom_54 {X : CX} {R : Room} {Q : Option Value → AH → Prop} {nx sz mc ms : Nat} {h : AH} (hq : Q none h) : V X m_X7_atom R (ZM X Q nx sz mc ms) (nx, sz, mc, ms) 54 [none, none, none] [] h := by
  refine v_goto (tgt := 101) dX7_atom_54 (by decide) ?_
  exact v_vret dX7_atom_101 rfl hq
theorem c_X7_atom_68 {X : CX} {R : Room} {Q : Option Value → AH → Prop} {nx sz mc ms : Nat} {h : AH} {x2 s0 : Int32} {d : Nat} {P87 : Int32 → AH → Prop} (hA0 : 91 ≤ nx) (hR : RO R (d + 1)) (hcs : mc ≤ R.cells ∧ ms ≤ R.slots) (hq : s0 < 0 → Q none (setI h 27 4 1)) (hM : ¬ s0 < 0 → Mk X d m_J0_indexOf_0f7a4 [.ref (10000 + 0), .int (((x2 : Int32).toUInt32 % 65536).toInt32)] (setI h 27 3 ((h.1 27 3) + 1)) nx sz (RI P87)) (q : ¬ s0 < 0 → ∀ (y : Int32) (g : AH), P87 y g → V X m_X7_atom R (ZM X Q nx sz mc ms) (nx, sz, mc, ms) 90 [none, none, none] [.int y, .int 1, .ref 27] g) : V X m_X7_atom R (ZM X Q nx sz mc ms) (nx, sz, mc, ms) 68 [some (.ref 27), none, some (.int x2)] [.int s0] h := by
  refine v_if_lt (tgt := 96) dX7_atom_68 (by decide) (fun c0 => ?_) (fun c0 => ?_)
  · refine v_aload_n dX7_atom_96 rfl ?_
    refine v_iconst dX7_atom_97 ci_1 ?_
    refine v_putI rfl rfl rfl dX7_atom_98 fl_RX7_26 (Or.inl rfl) kd_27 (ltA hA0 rfl) ?_
    exact v_vret dX7_atom_101 rfl (hq c0)
  · refine v_aload_n dX7_atom_71 rfl ?_
    refine v_dup dX7_atom_72 rfl ?_
    refine v_getI dX7_atom_73 fl_RX7_23 kd_27 (ltA hA0 rfl) rfl ?_
    refine v_iconst dX7_atom_76 ci_1 ?_
    refine v_iadd dX7_atom_77 ?_
    refine v_putI rfl rfl rfl dX7_atom_78 fl_RX7_23 (Or.inl rfl) kd_27 (ltA hA0 rfl) ?_
    refine v_aload_n dX7_atom_81 rfl ?_
    refine v_iconst dX7_atom_82 ci_1 ?_
    refine v_ldcs (k := 0) dX7_atom_83 (List.mem_of_getElem? (i := 0) rfl) ?_
    refine v_iload_n dX7_atom_85 rfl ?_
    refine v_i2c dX7_atom_86 ?_
    exact v_cTI (mt := m_X7_atom) (i := 0) mo_J0_indexOf_0f7a4 ml_RX7_87 mi_J0_indexOf_0f7a4 mv_J0_indexOf_0f7a4 rfl rfl (by decide) hR hcs (Nat.le_of_ble_eq_true rfl) dX7_atom_87 rfl (hM c0) (fun y g hp => (v_drop (lvLe_n (lvLe_n (lvLe_n lvLe_e))) ((q c0) y g hp)))
theorem c_X7_atom_90 {X : CX} {R : Room} {Z : ZX} {A : AX} {h : AH} {s1 s2 : Int32} {d : Nat} {P90 : AH → Prop} (hA0 : 91 ≤ A.1) (hR : RO R (d + 1)) (hcs : A.2.2.1 ≤ R.cells ∧ A.2.2.2 ≤ R.slots) (hM : Mk X d m_X7_write [.ref 27, .int s1, .int s2] h A.1 A.2.1 (RV P90)) (q : ∀ (g : AH), P90 g → V X m_X7_atom R Z A 93 [none, none, none] [] g) : V X m_X7_atom R Z A 90 [none, none, none] [.int s2, .int s1, .ref 27] h := by
  exact v_cVV (mt := m_X7_atom) mo_X7_write ml_RX7_51 mi_X7_write mv_X7_write rfl kd_27 cl_7 rfl (ltA hA0 rfl) hR hcs (Nat.le_of_ble_eq_true rfl) dX7_atom_90 rfl hM (fun g hp => (q g hp))
theorem c_X7_atom_93 {X : CX} {R : Room} {Q : Option Value → AH → Prop} {nx sz mc ms : Nat} {h : AH} (hq : Q none h) : V X m_X7_atom R (ZM X Q nx sz mc ms) (nx, sz, mc, ms) 93 [none, none, none] [] h := by
  refine v_goto (tgt := 101) dX7_atom_93 (by decide) ?_
  exact v_vret dX7_atom_101 rfl hq
theorem e_X7_number {X : CX} {d nx sz : Nat} {Q : Option Value → AH → Prop} {h : AH} (q : V X m_X7_number (rm d 0 0) (ZM X Q nx sz 0 0) (nx, sz, 0, 0) 0 [some (.ref 27), none, none] [] h) : Mk X d m_X7_number [.ref 27] h nx sz Q := by
  refine Mok.ofV mo_X7_number (Nat.le_of_ble_eq_true rfl) (L := [some (.ref 27)]) (lvLe_s lvLe_e) (v_grow (n := 2) ?_)
  exact q
theorem c_X7_number_0 {X : CX} {R : Room} {Z : ZX} {A : AX} {h : AH} (q : V X m_X7_number R Z A 4 [some (.ref 27), some (.int 0), some (.int 0)] [] h) : V X m_X7_number R Z A 0 [some (.ref 27), none, none] [] h := by
  refine v_iconst dX7_number_0 ci_0 ?_
  refine v_istore_n dX7_number_1 (by decide) (L' := [some (.ref 27), some (.int 0), none]) rfl ?_
  refine v_iconst dX7_number_2 ci_0 ?_
  refine v_istore_n dX7_number_3 (by decide) (L' := [some (.ref 27), some (.int 0), some (.int 0)]) rfl ?_
  exact q
theorem c_X7_number_4 {X : CX} {R : Room} {Z : ZX} {A : AX} {h : AH} {x1 x2 : Int32} {d : Nat} {P65 : AH → Prop} {P17 : Int32 → AH → Prop} (hA0 : 91 ≤ A.1) (hF : Fx h) (hR : RO R (d + 1)) (hcs : A.2.2.1 ≤ R.cells ∧ A.2.2.2 ≤ R.slots) (hM : 4 ≤ x2 → Mk X d m_X7_write [.ref 27, .int 0, .int x1] h A.1 A.2.1 (RV P65)) (q : 4 ≤ x2 → ∀ (g : AH), P65 g → V X m_X7_number R Z A 68 [none, none, none] [] g) (hM_1 : ¬ 4 ≤ x2 → Mk X d m_X10_sign [.ref 23, .int (h.1 27 3)] h A.1 A.2.1 (RI P17)) (q_1 : ¬ 4 ≤ x2 → ∀ (y : Int32) (g : AH), P17 y g → V X m_X7_number R Z A 20 [some (.ref 27), some (.int x1), some (.int x2)] [.int y] g) : V X m_X7_number R Z A 4 [some (.ref 27), some (.int x1), some (.int x2)] [] h := by
  refine v_iload_n dX7_number_4 rfl ?_
  refine v_iconst dX7_number_5 ci_4 ?_
  refine v_icmp_ge (tgt := 62) dX7_number_6 (by decide) (fun c0 => ?_) (fun c0 => ?_)
  · refine v_aload_n dX7_number_62 rfl ?_
    refine v_iconst dX7_number_63 ci_0 ?_
    refine v_iload_n dX7_number_64 rfl ?_
    exact v_cVV (mt := m_X7_number) mo_X7_write ml_RX7_51 mi_X7_write mv_X7_write rfl kd_27 cl_7 rfl (ltA hA0 rfl) hR hcs (Nat.le_of_ble_eq_true rfl) dX7_number_65 rfl (hM c0) (fun g hp => (v_drop (lvLe_n (lvLe_n (lvLe_n lvLe_e))) ((q c0) g hp)))
  · refine v_aload_n dX7_number_9 rfl ?_
    refine v_getR dX7_number_10 fl_RX7_15 kd_27 (ltA hA0 rfl) rfl (hF 27 0 23 rfl) ?_
    refine v_aload_n dX7_number_13 rfl ?_
    refine v_getI dX7_number_14 fl_RX7_23 kd_27 (ltA hA0 rfl) rfl ?_
    exact v_cVI (mt := m_X7_number) mo_X10_sign ml_RX7_63 mi_X10_sign mv_X10_sign rfl kd_23 cl_10 rfl (ltA hA0 rfl) hR hcs (Nat.le_of_ble_eq_true rfl) dX7_number_17 rfl (hM_1 c0) (fun y g hp => ((q_1 c0) y g hp))
theorem c_X7_number_20 {X : CX} {R : Room} {Z : ZX} {A : AX} {h : AH} {x1 x2 s0 : Int32} {d : Nat} {P20 : Int32 → AH → Prop} (hR : RO R (d + 1)) (hcs : A.2.2.1 ≤ R.cells ∧ A.2.2.2 ≤ R.slots) (hM : Mk X d m_X7_isDigit [.int s0] h A.1 A.2.1 (RI P20)) (q : ∀ (y : Int32) (g : AH), P20 y g → V X m_X7_number R Z A 23 [some (.ref 27), some (.int x1), some (.int x2)] [.int y] g) : V X m_X7_number R Z A 20 [some (.ref 27), some (.int x1), some (.int x2)] [.int s0] h := by
  exact v_cSI (mt := m_X7_number) mo_X7_isDigit ml_RX7_78 mz_X7_isDigit rfl hR hcs (Nat.le_of_ble_eq_true rfl) dX7_number_20 rfl hM (fun y g hp => (q y g hp))
theorem c_X7_number_23 {X : CX} {R : Room} {Z : ZX} {A : AX} {h : AH} {x1 x2 s0 : Int32} {d : Nat} {P65 : AH → Prop} {P38 : Int32 → AH → Prop} (hA0 : 91 ≤ A.1) (hF : Fx h) (hR : RO R (d + 1)) (hcs : A.2.2.1 ≤ R.cells ∧ A.2.2.2 ≤ R.slots) (hM : s0 = 0 → Mk X d m_X7_write [.ref 27, .int 0, .int x1] h A.1 A.2.1 (RV P65)) (q : s0 = 0 → ∀ (g : AH), P65 g → V X m_X7_number R Z A 68 [none, none, none] [] g) (hM_1 : ¬ s0 = 0 → Mk X d m_X10_sign [.ref 23, .int (h.1 27 3)] h A.1 A.2.1 (RI P38)) (q_1 : ¬ s0 = 0 → ∀ (y : Int32) (g : AH), P38 y g → V X m_X7_number R Z A 41 [some (.ref 27), none, some (.int x2)] [.int y, .int (10 * x1)] g) : V X m_X7_number R Z A 23 [some (.ref 27), some (.int x1), some (.int x2)] [.int s0] h := by
  refine v_if_eq (tgt := 62) dX7_number_23 (by decide) (fun c0 => ?_) (fun c0 => ?_)
  · refine v_aload_n dX7_number_62 rfl ?_
    refine v_iconst dX7_number_63 ci_0 ?_
    refine v_iload_n dX7_number_64 rfl ?_
    exact v_cVV (mt := m_X7_number) mo_X7_write ml_RX7_51 mi_X7_write mv_X7_write rfl kd_27 cl_7 rfl (ltA hA0 rfl) hR hcs (Nat.le_of_ble_eq_true rfl) dX7_number_65 rfl (hM c0) (fun g hp => (v_drop (lvLe_n (lvLe_n (lvLe_n lvLe_e))) ((q c0) g hp)))
  · refine v_bipush dX7_number_26 cb_10 ?_
    refine v_iload_n dX7_number_28 rfl ?_
    refine v_imul dX7_number_29 ?_
    refine v_aload_n dX7_number_30 rfl ?_
    refine v_getR dX7_number_31 fl_RX7_15 kd_27 (ltA hA0 rfl) rfl (hF 27 0 23 rfl) ?_
    refine v_aload_n dX7_number_34 rfl ?_
    refine v_getI dX7_number_35 fl_RX7_23 kd_27 (ltA hA0 rfl) rfl ?_
    exact v_cVI (mt := m_X7_number) mo_X10_sign ml_RX7_63 mi_X10_sign mv_X10_sign rfl kd_23 cl_10 rfl (ltA hA0 rfl) hR hcs (Nat.le_of_ble_eq_true rfl) dX7_number_38 rfl (hM_1 c0) (fun y g hp => (v_drop (lvLe_s (lvLe_n (lvLe_s lvLe_e))) ((q_1 c0) y g hp)))
theorem c_X7_number_41 {X : CX} {R : Room} {Z : ZX} {A : AX} {h : AH} {x2 s0 s1 : Int32} (hA0 : 91 ≤ A.1) (q : V X m_X7_number R Z A 4 [some (.ref 27), some (.int ((s0 + s1) - 48)), some (.int (x2 + 1))] [] (setI h 27 3 ((h.1 27 3) + 1))) : V X m_X7_number R Z A 41 [some (.ref 27), none, some (.int x2)] [.int s1, .int s0] h := by
  refine v_iadd dX7_number_41 ?_
  refine v_bipush dX7_number_42 cb_48 ?_
  refine v_isub dX7_number_44 ?_
  refine v_istore_n dX7_number_45 (by decide) (L' := [some (.ref 27), some (.int ((s0 + s1) - 48)), some (.int x2)]) rfl ?_
  refine v_aload_n dX7_number_46 rfl ?_
  refine v_dup dX7_number_47 rfl ?_
  refine v_getI dX7_number_48 fl_RX7_23 kd_27 (ltA hA0 rfl) rfl ?_
  refine v_iconst dX7_number_51 ci_1 ?_
  refine v_iadd dX7_number_52 ?_
  refine v_putI rfl rfl rfl dX7_number_53 fl_RX7_23 (Or.inl rfl) kd_27 (ltA hA0 rfl) ?_
  refine v_iinc (y := (x2 + 1)) dX7_number_56 rfl rfl (by decide) (L' := [some (.ref 27), some (.int ((s0 + s1) - 48)), some (.int (x2 + 1))]) rfl ?_
  refine v_goto (tgt := 4) dX7_number_59 (by decide) ?_
  exact q
theorem c_X7_number_68 {X : CX} {R : Room} {Q : Option Value → AH → Prop} {nx sz mc ms : Nat} {h : AH} (hq : Q none h) : V X m_X7_number R (ZM X Q nx sz mc ms) (nx, sz, mc, ms) 68 [none, none, none] [] h := by
  exact v_vret dX7_number_68 rfl hq
theorem e_X7_isDigit {X : CX} {d nx sz : Nat} {Q : Option Value → AH → Prop} {h : AH} {x0 : Int32} (q : V X m_X7_isDigit (rm d 0 0) (ZM X Q nx sz 0 0) (nx, sz, 0, 0) 0 [some (.int x0)] [] h) : Mk X d m_X7_isDigit [.int x0] h nx sz Q := by
  refine Mok.ofV mo_X7_isDigit (Nat.le_of_ble_eq_true rfl) (L := [some (.int x0)]) (lvLe_s lvLe_e) (v_grow (n := 0) ?_)
  exact q
theorem c_X7_isDigit_0 {X : CX} {R : Room} {Q : Option Value → AH → Prop} {nx sz mc ms : Nat} {h : AH} {x0 : Int32} (hq : x0 < 48 → Q (some (.int 0)) h) (hq_1 : ¬ x0 < 48 → 57 < x0 → Q (some (.int 0)) h) (hq_2 : ¬ x0 < 48 → ¬ 57 < x0 → Q (some (.int 1)) h) : V X m_X7_isDigit R (ZM X Q nx sz mc ms) (nx, sz, mc, ms) 0 [some (.int x0)] [] h := by
  refine v_iload_n dX7_isDigit_0 rfl ?_
  refine v_bipush dX7_isDigit_1 cb_48 ?_
  refine v_icmp_lt (tgt := 16) dX7_isDigit_3 (by decide) (fun c0 => ?_) (fun c0 => ?_)
  · refine v_iconst dX7_isDigit_16 ci_0 ?_
    exact v_zret (ty := .boolean) dX7_isDigit_17 rfl rfl (hq c0)
  · refine v_iload_n dX7_isDigit_6 rfl ?_
    refine v_bipush dX7_isDigit_7 cb_57 ?_
    refine v_icmp_gt (tgt := 16) dX7_isDigit_9 (by decide) (fun c1 => ?_) (fun c1 => ?_)
    · refine v_iconst dX7_isDigit_16 ci_0 ?_
      exact v_zret (ty := .boolean) dX7_isDigit_17 rfl rfl (hq_1 c0 c1)
    · refine v_iconst dX7_isDigit_12 ci_1 ?_
      refine v_goto (tgt := 17) dX7_isDigit_13 (by decide) ?_
      exact v_zret (ty := .boolean) dX7_isDigit_17 rfl rfl (hq_2 c0 c1)
theorem e_X7_comparing {X : CX} {d nx sz : Nat} {Q : Option Value → AH → Prop} {h : AH} {x0 : Int32} (q : V X m_X7_comparing (rm d 0 0) (ZM X Q nx sz 0 0) (nx, sz, 0, 0) 0 [some (.int x0)] [] h) : Mk X d m_X7_comparing [.int x0] h nx sz Q := by
  refine Mok.ofV mo_X7_comparing (Nat.le_of_ble_eq_true rfl) (L := [some (.int x0)]) (lvLe_s lvLe_e) (v_grow (n := 0) ?_)
  exact q
theorem c_X7_comparing_0 {X : CX} {R : Room} {Q : Option Value → AH → Prop} {nx sz mc ms : Nat} {h : AH} {x0 : Int32} (hq : ((x0 : Int32).toInt < 60 ∨ 62 < (x0 : Int32).toInt) → Q (some (.int (-1))) h) (hq_1 : (x0 : Int32).toInt = 60 → Q (some (.int 7)) h) (hq_2 : (x0 : Int32).toInt = 61 → Q (some (.int 6)) h) (hq_3 : (x0 : Int32).toInt = 62 → Q (some (.int 8)) h) : V X m_X7_comparing R (ZM X Q nx sz mc ms) (nx, sz, mc, ms) 0 [some (.int x0)] [] h := by
  refine v_iload_n dX7_comparing_0 rfl ?_
  rcases (by omega : ((x0 : Int32).toInt < 60 ∨ 62 < (x0 : Int32).toInt) ∨ (x0 : Int32).toInt = 60 ∨ (x0 : Int32).toInt = 61 ∨ (x0 : Int32).toInt = 62) with c0 | c0 | c0 | c0
  · refine v_tableOut (tgt := 37) dX7_comparing_1 c0 (by decide) ?_
    refine v_iconst dX7_comparing_37 ci_m1 ?_
    exact v_iret dX7_comparing_38 rfl (hq c0)
  · refine v_tableIn (tgt := 31) (off := 30) dX7_comparing_1 (by rw [c0]; decide) (by rw [c0]; decide) (by rw [c0]; rfl) (by decide) ?_
    refine v_bipush dX7_comparing_31 cb_7 ?_
    exact v_iret dX7_comparing_33 rfl (hq_1 c0)
  · refine v_tableIn (tgt := 28) (off := 27) dX7_comparing_1 (by rw [c0]; decide) (by rw [c0]; decide) (by rw [c0]; rfl) (by decide) ?_
    refine v_bipush dX7_comparing_28 cb_6 ?_
    exact v_iret dX7_comparing_30 rfl (hq_2 c0)
  · refine v_tableIn (tgt := 34) (off := 33) dX7_comparing_1 (by rw [c0]; decide) (by rw [c0]; decide) (by rw [c0]; rfl) (by decide) ?_
    refine v_bipush dX7_comparing_34 cb_8 ?_
    exact v_iret dX7_comparing_36 rfl (hq_3 c0)
theorem e_X7_adding {X : CX} {d nx sz : Nat} {Q : Option Value → AH → Prop} {h : AH} {x0 : Int32} (q : V X m_X7_adding (rm d 0 0) (ZM X Q nx sz 0 0) (nx, sz, 0, 0) 0 [some (.int x0)] [] h) : Mk X d m_X7_adding [.int x0] h nx sz Q := by
  refine Mok.ofV mo_X7_adding (Nat.le_of_ble_eq_true rfl) (L := [some (.int x0)]) (lvLe_s lvLe_e) (v_grow (n := 0) ?_)
  exact q
theorem c_X7_adding_0 {X : CX} {R : Room} {Q : Option Value → AH → Prop} {nx sz mc ms : Nat} {h : AH} {x0 : Int32} (hq : ¬ x0 = 43 → ¬ x0 = 45 → Q (some (.int (-1))) h) (hq_1 : ¬ x0 = 43 → x0 = 45 → Q (some (.int 3)) h) (hq_2 : x0 = 43 → Q (some (.int 2)) h) : V X m_X7_adding R (ZM X Q nx sz mc ms) (nx, sz, mc, ms) 0 [some (.int x0)] [] h := by
  refine v_iload_n dX7_adding_0 rfl ?_
  refine v_bipush dX7_adding_1 cb_43 ?_
  refine v_icmp_ne (tgt := 8) dX7_adding_3 (by decide) (fun c0 => ?_) (fun c0 => ?_)
  · refine v_iload_n dX7_adding_8 rfl ?_
    refine v_bipush dX7_adding_9 cb_45 ?_
    refine v_icmp_ne (tgt := 18) dX7_adding_11 (by decide) (fun c1 => ?_) (fun c1 => ?_)
    · refine v_iconst dX7_adding_18 ci_m1 ?_
      exact v_iret dX7_adding_19 rfl (hq c0 c1)
    · refine v_iconst dX7_adding_14 ci_3 ?_
      refine v_goto (tgt := 19) dX7_adding_15 (by decide) ?_
      exact v_iret dX7_adding_19 rfl (hq_1 c0 c1)
  · refine v_iconst dX7_adding_6 ci_2 ?_
    exact v_iret dX7_adding_7 rfl (hq_2 c0)
theorem e_X7_multiplying {X : CX} {d nx sz : Nat} {Q : Option Value → AH → Prop} {h : AH} {x0 : Int32} (q : V X m_X7_multiplying (rm d 0 0) (ZM X Q nx sz 0 0) (nx, sz, 0, 0) 0 [some (.int x0)] [] h) : Mk X d m_X7_multiplying [.int x0] h nx sz Q := by
  refine Mok.ofV mo_X7_multiplying (Nat.le_of_ble_eq_true rfl) (L := [some (.int x0)]) (lvLe_s lvLe_e) (v_grow (n := 0) ?_)
  exact q
theorem c_X7_multiplying_0 {X : CX} {R : Room} {Q : Option Value → AH → Prop} {nx sz mc ms : Nat} {h : AH} {x0 : Int32} (hq : ¬ x0 = 42 → ¬ x0 = 47 → Q (some (.int (-1))) h) (hq_1 : ¬ x0 = 42 → x0 = 47 → Q (some (.int 5)) h) (hq_2 : x0 = 42 → Q (some (.int 4)) h) : V X m_X7_multiplying R (ZM X Q nx sz mc ms) (nx, sz, mc, ms) 0 [some (.int x0)] [] h := by
  refine v_iload_n dX7_multiplying_0 rfl ?_
  refine v_bipush dX7_multiplying_1 cb_42 ?_
  refine v_icmp_ne (tgt := 8) dX7_multiplying_3 (by decide) (fun c0 => ?_) (fun c0 => ?_)
  · refine v_iload_n dX7_multiplying_8 rfl ?_
    refine v_bipush dX7_multiplying_9 cb_47 ?_
    refine v_icmp_ne (tgt := 18) dX7_multiplying_11 (by decide) (fun c1 => ?_) (fun c1 => ?_)
    · refine v_iconst dX7_multiplying_18 ci_m1 ?_
      exact v_iret dX7_multiplying_19 rfl (hq c0 c1)
    · refine v_iconst dX7_multiplying_14 ci_5 ?_
      refine v_goto (tgt := 19) dX7_multiplying_15 (by decide) ?_
      exact v_iret dX7_multiplying_19 rfl (hq_1 c0 c1)
  · refine v_iconst dX7_multiplying_6 ci_4 ?_
    exact v_iret dX7_multiplying_7 rfl (hq_2 c0)
theorem e_X8_has {X : CX} {d nx sz : Nat} {Q : Option Value → AH → Prop} {h : AH} {x1 : Int32} (q : V X m_X8_has (rm d 0 0) (ZM X Q nx sz 0 0) (nx, sz, 0, 0) 0 [some (.ref 29), some (.int x1)] [] h) : Mk X d m_X8_has [.ref 29, .int x1] h nx sz Q := by
  refine Mok.ofV mo_X8_has (Nat.le_of_ble_eq_true rfl) (L := [some (.ref 29), some (.int x1)]) (lvLe_s (lvLe_s lvLe_e)) (v_grow (n := 0) ?_)
  exact q
theorem c_X8_has_0 {X : CX} {R : Room} {Q : Option Value → AH → Prop} {nx sz mc ms : Nat} {h : AH} {x1 : Int32} (hA0 : 91 ≤ nx) (hq : x1 < 0 → Q (some (.int 0)) h) (hq_1 : ¬ x1 < 0 → (h.1 29 4) ≤ x1 → Q (some (.int 0)) h) (hq_2 : ¬ x1 < 0 → ¬ (h.1 29 4) ≤ x1 → Q (some (.int 1)) h) : V X m_X8_has R (ZM X Q nx sz mc ms) (nx, sz, mc, ms) 0 [some (.ref 29), some (.int x1)] [] h := by
  refine v_iload_n dX8_has_0 rfl ?_
  refine v_if_lt (tgt := 16) dX8_has_1 (by decide) (fun c0 => ?_) (fun c0 => ?_)
  · refine v_iconst dX8_has_16 ci_0 ?_
    exact v_zret (ty := .boolean) dX8_has_17 rfl rfl (hq c0)
  · refine v_iload_n dX8_has_4 rfl ?_
    refine v_aload_n dX8_has_5 rfl ?_
    refine v_getI dX8_has_6 fl_RX8_26 kd_29 (ltA hA0 rfl) rfl ?_
    refine v_icmp_ge (tgt := 16) dX8_has_9 (by decide) (fun c1 => ?_) (fun c1 => ?_)
    · refine v_iconst dX8_has_16 ci_0 ?_
      exact v_zret (ty := .boolean) dX8_has_17 rfl rfl (hq_1 c0 c1)
    · refine v_iconst dX8_has_12 ci_1 ?_
      refine v_goto (tgt := 17) dX8_has_13 (by decide) ?_
      exact v_zret (ty := .boolean) dX8_has_17 rfl rfl (hq_2 c0 c1)
theorem e_X8_add {X : CX} {d nx sz : Nat} {Q : Option Value → AH → Prop} {h : AH} {x2 : Int32} (q : V X m_X8_add (rm d 0 0) (ZM X Q nx sz 0 0) (nx, sz, 0, 0) 0 [some (.ref 29), some (.ref 28), some (.int x2)] [] h) : Mk X d m_X8_add [.ref 29, .ref 28, .int x2] h nx sz Q := by
  refine Mok.ofV mo_X8_add (Nat.le_of_ble_eq_true rfl) (L := [some (.ref 29), some (.ref 28), some (.int x2)]) (lvLe_s (lvLe_s (lvLe_s lvLe_e))) (v_grow (n := 0) ?_)
  exact q
theorem c_X8_add_0 {X : CX} {R : Room} {Q : Option Value → AH → Prop} {nx sz mc ms : Nat} {h : AH} {x2 : Int32} {ra10 d : Nat} (hA0 : 91 ≤ nx) (hF : Fx h) (hk_ra10 : kd X ra10 = (20, 200)) (hl_ra10 : ra10 < nx) (hR : RO R (d + 1)) (hcs : mc ≤ R.cells ∧ ms ≤ R.slots) (hi_10 : vp_in (h.1 29 4) 6) (hr_10 : h.2.2 30 (h.1 29 4).toNatClampNeg = some ra10) (h0_13 : ¬ (0 : Int32) < 0) (h1_13 : ¬ (0 : Int32) < 0) (h2_13 : ¬ (x2 : Int32) < 0) (h3_13 : 0 + x2.toNatClampNeg ≤ 200) (h4_13 : 0 + x2.toNatClampNeg ≤ 200) (hi_25 : vp_in ((setA h ra10 (va_cpy (h.1 28) (h.1 ra10) 0 0 x2.toNatClampNeg)).1 29 4) 6) (hq : Q (some (.int ((setI (setA h ra10 (va_cpy (h.1 28) (h.1 ra10) 0 0 x2.toNatClampNeg)) 37 ((setA h ra10 (va_cpy (h.1 28) (h.1 ra10) 0 0 x2.toNatClampNeg)).1 29 4).toNatClampNeg x2).1 29 4))) (setI (setI (setA h ra10 (va_cpy (h.1 28) (h.1 ra10) 0 0 x2.toNatClampNeg)) 37 ((setA h ra10 (va_cpy (h.1 28) (h.1 ra10) 0 0 x2.toNatClampNeg)).1 29 4).toNatClampNeg x2) 29 4 (((setI (setA h ra10 (va_cpy (h.1 28) (h.1 ra10) 0 0 x2.toNatClampNeg)) 37 ((setA h ra10 (va_cpy (h.1 28) (h.1 ra10) 0 0 x2.toNatClampNeg)).1 29 4).toNatClampNeg x2).1 29 4) + 1))) : V X m_X8_add R (ZM X Q nx sz mc ms) (nx, sz, mc, ms) 0 [some (.ref 29), some (.ref 28), some (.int x2)] [] h := by
  refine v_aload_n dX8_add_0 rfl ?_
  refine v_iconst dX8_add_1 ci_0 ?_
  refine v_aload_n dX8_add_2 rfl ?_
  refine v_getR dX8_add_3 fl_RX8_11 kd_29 (ltA hA0 rfl) rfl (hF 29 0 30 rfl) ?_
  refine v_aload_n dX8_add_6 rfl ?_
  refine v_getI dX8_add_7 fl_RX8_26 kd_29 (ltA hA0 rfl) rfl ?_
  refine v_aald dX8_add_10 kd_30 (ltA hA0 rfl) hi_10 hr_10 ?_
  refine v_iconst dX8_add_11 ci_0 ?_
  refine v_iload_n dX8_add_12 rfl ?_
  refine v_acopy dX8_add_13 ml_RX8_30 nat_ac mz_ac in_sys kd_28 hk_ra10 (ltA hA0 rfl) hl_ra10 h0_13 h1_13 h2_13 h3_13 h4_13 (RO_1 hR) (Nat.le_of_ble_eq_true rfl) ?_
  refine v_aload_n dX8_add_16 rfl ?_
  refine v_getR dX8_add_17 fl_RX8_16 kd_29 (ltA hA0 rfl) rfl (hF 29 1 37 rfl) ?_
  refine v_aload_n dX8_add_20 rfl ?_
  refine v_getI dX8_add_21 fl_RX8_26 kd_29 (ltA hA0 rfl) rfl ?_
  refine v_iload_n dX8_add_24 rfl ?_
  refine v_iast dX8_add_25 kd_37 (ltA hA0 rfl) hi_25 ?_
  refine v_aload_n dX8_add_26 rfl ?_
  refine v_dup dX8_add_27 rfl ?_
  refine v_getI dX8_add_28 fl_RX8_26 kd_29 (ltA hA0 rfl) rfl ?_
  refine v_dup_x1 dX8_add_31 rfl rfl ?_
  refine v_iconst dX8_add_32 ci_1 ?_
  refine v_iadd dX8_add_33 ?_
  refine v_putI rfl rfl rfl dX8_add_34 fl_RX8_26 (Or.inl rfl) kd_29 (ltA hA0 rfl) ?_
  exact v_iret dX8_add_37 rfl hq
theorem e_X8_forgetLetters {X : CX} {d nx sz : Nat} {Q : Option Value → AH → Prop} {h : AH} (q : V X m_X8_forgetLetters (rm d 0 0) (ZM X Q nx sz 0 0) (nx, sz, 0, 0) 0 [some (.ref 29)] [] h) : Mk X d m_X8_forgetLetters [.ref 29] h nx sz Q := by
  refine Mok.ofV mo_X8_forgetLetters (Nat.le_of_ble_eq_true rfl) (L := [some (.ref 29)]) (lvLe_s lvLe_e) (v_grow (n := 0) ?_)
  exact q
theorem c_X8_forgetLetters_0 {X : CX} {R : Room} {Z : ZX} {A : AX} {h : AH} {d : Nat} {P5 : AH → Prop} (hA0 : 91 ≤ A.1) (hF : Fx h) (hR : RO R (d + 1)) (hcs : A.2.2.1 ≤ R.cells ∧ A.2.2.2 ≤ R.slots) (hM : Mk X d m_J7_fill_53178 [.ref 39, .int 0] h A.1 A.2.1 (RV P5)) (q : ∀ (g : AH), P5 g → V X m_X8_forgetLetters R Z A 8 [none] [] g) : V X m_X8_forgetLetters R Z A 0 [some (.ref 29)] [] h := by
  refine v_aload_n dX8_forgetLetters_0 rfl ?_
  refine v_getR dX8_forgetLetters_1 fl_RX8_23 kd_29 (ltA hA0 rfl) rfl (hF 29 3 39 rfl) ?_
  refine v_iconst dX8_forgetLetters_4 ci_0 ?_
  exact v_cSV (mt := m_X8_forgetLetters) mo_J7_fill_53178 ml_RX8_36 mz_J7_fill_53178 rfl hR hcs (Nat.le_of_ble_eq_true rfl) dX8_forgetLetters_5 rfl hM (fun g hp => (v_drop (lvLe_n lvLe_e) (q g hp)))
theorem c_X8_forgetLetters_8 {X : CX} {R : Room} {Q : Option Value → AH → Prop} {nx sz mc ms : Nat} {h : AH} (hq : Q none h) : V X m_X8_forgetLetters R (ZM X Q nx sz mc ms) (nx, sz, mc, ms) 8 [none] [] h := by
  exact v_vret dX8_forgetLetters_8 rfl hq
theorem e_X8_worth {X : CX} {d nx sz : Nat} {Q : Option Value → AH → Prop} {h : AH} {x1 : Int32} (q : V X m_X8_worth (rm d 0 0) (ZM X Q nx sz 0 0) (nx, sz, 0, 0) 0 [some (.ref 29), some (.int x1), none, none, none, none, none] [] h) : Mk X d m_X8_worth [.ref 29, .int x1] h nx sz Q := by
  refine Mok.ofV mo_X8_worth (Nat.le_of_ble_eq_true rfl) (L := [some (.ref 29), some (.int x1)]) (lvLe_s (lvLe_s lvLe_e)) (v_grow (n := 5) ?_)
  exact q
theorem c_X8_worth_0 {X : CX} {R : Room} {Z : ZX} {A : AX} {h : AH} {x1 : Int32} {ra5 : Nat} (hA0 : 91 ≤ A.1) (hF : Fx h) (hi_5 : vp_in x1 6) (hr_5 : h.2.2 30 x1.toNatClampNeg = some ra5) (q : V X m_X8_worth R Z A 15 [some (.ref 29), some (.int x1), some (.ref ra5), some (.int 0), some (.int 0), some (.int 0), none] [] h) : V X m_X8_worth R Z A 0 [some (.ref 29), some (.int x1), none, none, none, none, none] [] h := by
  refine v_aload_n dX8_worth_0 rfl ?_
  refine v_getR dX8_worth_1 fl_RX8_11 kd_29 (ltA hA0 rfl) rfl (hF 29 0 30 rfl) ?_
  refine v_iload_n dX8_worth_4 rfl ?_
  refine v_aald dX8_worth_5 kd_30 (ltA hA0 rfl) hi_5 hr_5 ?_
  refine v_astore_n dX8_worth_6 (by decide) (L' := [some (.ref 29), some (.int x1), some (.ref ra5), none, none, none, none]) rfl ?_
  refine v_iconst dX8_worth_7 ci_0 ?_
  refine v_istore_n dX8_worth_8 (by decide) (L' := [some (.ref 29), some (.int x1), some (.ref ra5), some (.int 0), none, none, none]) rfl ?_
  refine v_iconst dX8_worth_9 ci_0 ?_
  refine v_istore dX8_worth_10 (by decide) (L' := [some (.ref 29), some (.int x1), some (.ref ra5), some (.int 0), some (.int 0), none, none]) rfl ?_
  refine v_iconst dX8_worth_12 ci_0 ?_
  refine v_istore dX8_worth_13 (by decide) (L' := [some (.ref 29), some (.int x1), some (.ref ra5), some (.int 0), some (.int 0), some (.int 0), none]) rfl ?_
  exact q
theorem c_X8_worth_15 {X : CX} {R : Room} {Z : ZX} {A : AX} {h : AH} {x1 x3 x4 x5 : Int32} {ra5 d : Nat} {P221 P151 : Int32 → AH → Prop} (hA0 : 91 ≤ A.1) (hF : Fx h) (hk_ra5 : kd X ra5 = (20, 200)) (hl_ra5 : ra5 < A.1) (hR : RO R (d + 1)) (hcs : A.2.2.1 ≤ R.cells ∧ A.2.2.2 ≤ R.slots) (hi_22 : vp_in x1 6) (q : (h.1 37 x1.toNatClampNeg) ≤ x5 → V X m_X8_worth R Z A 231 [none, none, none, none, none, none, none] [] h) (q_1 : ¬ (h.1 37 x1.toNatClampNeg) ≤ x5 → 200 ≤ x5 → V X m_X8_worth R Z A 231 [none, none, none, none, none, none, none] [] h) (hi_36 : ¬ (h.1 37 x1.toNatClampNeg) ≤ x5 → ¬ 200 ≤ x5 → vp_in x5 200) (q_2 : ¬ (h.1 37 x1.toNatClampNeg) ≤ x5 → ¬ 200 ≤ x5 → x4 = 0 → ¬ ((h.1 ra5 x5.toNatClampNeg) &&& 15) = 13 → ¬ ((h.1 ra5 x5.toNatClampNeg) &&& 15) = 12 → 1 < ((h.1 ra5 x5.toNatClampNeg) &&& 15) → ¬ ((h.1 ra5 x5.toNatClampNeg) &&& 15) = 11 → x3 ≤ 1 → V X m_X8_worth R Z A 225 [some (.ref 29), some (.int x1), some (.ref ra5), some (.int x3), some (.int x4), some (.int x5), none] [] h) (hi_214 : ¬ (h.1 37 x1.toNatClampNeg) ≤ x5 → ¬ 200 ≤ x5 → x4 = 0 → ¬ ((h.1 ra5 x5.toNatClampNeg) &&& 15) = 13 → ¬ ((h.1 ra5 x5.toNatClampNeg) &&& 15) = 12 → 1 < ((h.1 ra5 x5.toNatClampNeg) &&& 15) → ¬ ((h.1 ra5 x5.toNatClampNeg) &&& 15) = 11 → ¬ x3 ≤ 1 → vp_in ((x3 + (-1)) - 1) 48) (hi_220 : ¬ (h.1 37 x1.toNatClampNeg) ≤ x5 → ¬ 200 ≤ x5 → x4 = 0 → ¬ ((h.1 ra5 x5.toNatClampNeg) &&& 15) = 13 → ¬ ((h.1 ra5 x5.toNatClampNeg) &&& 15) = 12 → 1 < ((h.1 ra5 x5.toNatClampNeg) &&& 15) → ¬ ((h.1 ra5 x5.toNatClampNeg) &&& 15) = 11 → ¬ x3 ≤ 1 → vp_in (x3 + (-1)) 48) (hM : ¬ (h.1 37 x1.toNatClampNeg) ≤ x5 → ¬ 200 ≤ x5 → x4 = 0 → ¬ ((h.1 ra5 x5.toNatClampNeg) &&& 15) = 13 → ¬ ((h.1 ra5 x5.toNatClampNeg) &&& 15) = 12 → 1 < ((h.1 ra5 x5.toNatClampNeg) &&& 15) → ¬ ((h.1 ra5 x5.toNatClampNeg) &&& 15) = 11 → ¬ x3 ≤ 1 → Mk X d m_X8_joined [.int ((h.1 ra5 x5.toNatClampNeg) &&& 15), .int (h.1 38 ((x3 + (-1)) - 1).toNatClampNeg), .int (h.1 38 (x3 + (-1)).toNatClampNeg)] h A.1 A.2.1 (RI P221)) (q_3 : ¬ (h.1 37 x1.toNatClampNeg) ≤ x5 → ¬ 200 ≤ x5 → x4 = 0 → ¬ ((h.1 ra5 x5.toNatClampNeg) &&& 15) = 13 → ¬ ((h.1 ra5 x5.toNatClampNeg) &&& 15) = 12 → 1 < ((h.1 ra5 x5.toNatClampNeg) &&& 15) → ¬ ((h.1 ra5 x5.toNatClampNeg) &&& 15) = 11 → ¬ x3 ≤ 1 → ∀ (y : Int32) (g : AH), P221 y g → V X m_X8_worth R Z A 224 [some (.ref 29), some (.int x1), some (.ref ra5), some (.int (x3 + (-1))), some (.int x4), some (.int x5), none] [.int y, .int ((x3 + (-1)) - 1), .ref 38] g) (q_4 : ¬ (h.1 37 x1.toNatClampNeg) ≤ x5 → ¬ 200 ≤ x5 → x4 = 0 → ¬ ((h.1 ra5 x5.toNatClampNeg) &&& 15) = 13 → ¬ ((h.1 ra5 x5.toNatClampNeg) &&& 15) = 12 → 1 < ((h.1 ra5 x5.toNatClampNeg) &&& 15) → ((h.1 ra5 x5.toNatClampNeg) &&& 15) = 11 → x3 ≤ 0 → V X m_X8_worth R Z A 225 [some (.ref 29), some (.int x1), some (.ref ra5), some (.int x3), some (.int x4), some (.int x5), none] [] h) (hi_184 : ¬ (h.1 37 x1.toNatClampNeg) ≤ x5 → ¬ 200 ≤ x5 → x4 = 0 → ¬ ((h.1 ra5 x5.toNatClampNeg) &&& 15) = 13 → ¬ ((h.1 ra5 x5.toNatClampNeg) &&& 15) = 12 → 1 < ((h.1 ra5 x5.toNatClampNeg) &&& 15) → ((h.1 ra5 x5.toNatClampNeg) &&& 15) = 11 → ¬ x3 ≤ 0 → vp_in (x3 - 1) 48) (hi_186 : ¬ (h.1 37 x1.toNatClampNeg) ≤ x5 → ¬ 200 ≤ x5 → x4 = 0 → ¬ ((h.1 ra5 x5.toNatClampNeg) &&& 15) = 13 → ¬ ((h.1 ra5 x5.toNatClampNeg) &&& 15) = 12 → 1 < ((h.1 ra5 x5.toNatClampNeg) &&& 15) → ((h.1 ra5 x5.toNatClampNeg) &&& 15) = 11 → ¬ x3 ≤ 0 → vp_in (x3 - 1) 48) (q_5 : ¬ (h.1 37 x1.toNatClampNeg) ≤ x5 → ¬ 200 ≤ x5 → x4 = 0 → ¬ ((h.1 ra5 x5.toNatClampNeg) &&& 15) = 13 → ¬ ((h.1 ra5 x5.toNatClampNeg) &&& 15) = 12 → 1 < ((h.1 ra5 x5.toNatClampNeg) &&& 15) → ((h.1 ra5 x5.toNatClampNeg) &&& 15) = 11 → ¬ x3 ≤ 0 → V X m_X8_worth R Z A 225 [some (.ref 29), some (.int x1), some (.ref ra5), some (.int x3), some (.int x4), some (.int x5), none] [] (setI h 38 (x3 - 1).toNatClampNeg (1 - (h.1 38 (x3 - 1).toNatClampNeg)))) (q_6 : ¬ (h.1 37 x1.toNatClampNeg) ≤ x5 → ¬ 200 ≤ x5 → x4 = 0 → ¬ ((h.1 ra5 x5.toNatClampNeg) &&& 15) = 13 → ¬ ((h.1 ra5 x5.toNatClampNeg) &&& 15) = 12 → ¬ 1 < ((h.1 ra5 x5.toNatClampNeg) &&& 15) → 48 ≤ x3 → V X m_X8_worth R Z A 225 [some (.ref 29), some (.int x1), some (.ref ra5), some (.int x3), some (.int x4), some (.int x5), none] [] h) (hi_148 : ¬ (h.1 37 x1.toNatClampNeg) ≤ x5 → ¬ 200 ≤ x5 → x4 = 0 → ¬ ((h.1 ra5 x5.toNatClampNeg) &&& 15) = 13 → ¬ ((h.1 ra5 x5.toNatClampNeg) &&& 15) = 12 → ¬ 1 < ((h.1 ra5 x5.toNatClampNeg) &&& 15) → ¬ 48 ≤ x3 → vp_in x5 200) (hM_1 : ¬ (h.1 37 x1.toNatClampNeg) ≤ x5 → ¬ 200 ≤ x5 → x4 = 0 → ¬ ((h.1 ra5 x5.toNatClampNeg) &&& 15) = 13 → ¬ ((h.1 ra5 x5.toNatClampNeg) &&& 15) = 12 → ¬ 1 < ((h.1 ra5 x5.toNatClampNeg) &&& 15) → ¬ 48 ≤ x3 → Mk X d m_X8_told [.ref 29, .int ((h.1 ra5 x5.toNatClampNeg) &&& 15), .int ((h.1 ra5 x5.toNatClampNeg) >>> (4 &&& 31))] h A.1 A.2.1 (RI P151)) (q_7 : ¬ (h.1 37 x1.toNatClampNeg) ≤ x5 → ¬ 200 ≤ x5 → x4 = 0 → ¬ ((h.1 ra5 x5.toNatClampNeg) &&& 15) = 13 → ¬ ((h.1 ra5 x5.toNatClampNeg) &&& 15) = 12 → ¬ 1 < ((h.1 ra5 x5.toNatClampNeg) &&& 15) → ¬ 48 ≤ x3 → ∀ (y : Int32) (g : AH), P151 y g → V X m_X8_worth R Z A 154 [some (.ref 29), some (.int x1), some (.ref ra5), some (.int (x3 + 1)), some (.int x4), some (.int x5), none] [.int y, .int x3, .ref 38] g) (q_8 : ¬ (h.1 37 x1.toNatClampNeg) ≤ x5 → ¬ 200 ≤ x5 → x4 = 0 → ¬ ((h.1 ra5 x5.toNatClampNeg) &&& 15) = 13 → ((h.1 ra5 x5.toNatClampNeg) &&& 15) = 12 → x3 ≤ 0 → V X m_X8_worth R Z A 114 [some (.ref 29), some (.int x1), some (.ref ra5), none, none, some (.int x5), none] [] h) (hi_106 : ¬ (h.1 37 x1.toNatClampNeg) ≤ x5 → ¬ 200 ≤ x5 → x4 = 0 → ¬ ((h.1 ra5 x5.toNatClampNeg) &&& 15) = 13 → ((h.1 ra5 x5.toNatClampNeg) &&& 15) = 12 → ¬ x3 ≤ 0 → vp_in (x3 - 1) 48) (q_9 : ¬ (h.1 37 x1.toNatClampNeg) ≤ x5 → ¬ 200 ≤ x5 → x4 = 0 → ¬ ((h.1 ra5 x5.toNatClampNeg) &&& 15) = 13 → ((h.1 ra5 x5.toNatClampNeg) &&& 15) = 12 → ¬ x3 ≤ 0 → ¬ (h.1 38 (x3 - 1).toNatClampNeg) = 0 → V X m_X8_worth R Z A 114 [some (.ref 29), some (.int x1), some (.ref ra5), none, none, some (.int x5), none] [] h) (q_10 : ¬ (h.1 37 x1.toNatClampNeg) ≤ x5 → ¬ 200 ≤ x5 → x4 = 0 → ¬ ((h.1 ra5 x5.toNatClampNeg) &&& 15) = 13 → ((h.1 ra5 x5.toNatClampNeg) &&& 15) = 12 → ¬ x3 ≤ 0 → (h.1 38 (x3 - 1).toNatClampNeg) = 0 → V X m_X8_worth R Z A 115 [some (.ref 29), some (.int x1), some (.ref ra5), none, none, some (.int x5), none] [.int 1] h) (q_11 : ¬ (h.1 37 x1.toNatClampNeg) ≤ x5 → ¬ 200 ≤ x5 → x4 = 0 → ((h.1 ra5 x5.toNatClampNeg) &&& 15) = 13 → x3 ≤ 0 → V X m_X8_worth R Z A 87 [none, none, none, none, none, none, none] [.int 0] h) (hi_82 : ¬ (h.1 37 x1.toNatClampNeg) ≤ x5 → ¬ 200 ≤ x5 → x4 = 0 → ((h.1 ra5 x5.toNatClampNeg) &&& 15) = 13 → ¬ x3 ≤ 0 → vp_in (x3 - 1) 48) (q_12 : ¬ (h.1 37 x1.toNatClampNeg) ≤ x5 → ¬ 200 ≤ x5 → x4 = 0 → ((h.1 ra5 x5.toNatClampNeg) &&& 15) = 13 → ¬ x3 ≤ 0 → V X m_X8_worth R Z A 87 [none, none, none, none, none, none, none] [.int (h.1 38 (x3 - 1).toNatClampNeg)] h) (q_13 : ¬ (h.1 37 x1.toNatClampNeg) ≤ x5 → ¬ 200 ≤ x5 → ¬ x4 = 0 → ((h.1 ra5 x5.toNatClampNeg) &&& 15) = 13 → V X m_X8_worth R Z A 59 [some (.ref 29), some (.int x1), some (.ref ra5), some (.int x3), none, some (.int x5), none] [.int 0] h) (q_14 : ¬ (h.1 37 x1.toNatClampNeg) ≤ x5 → ¬ 200 ≤ x5 → ¬ x4 = 0 → ¬ ((h.1 ra5 x5.toNatClampNeg) &&& 15) = 13 → V X m_X8_worth R Z A 59 [some (.ref 29), some (.int x1), some (.ref ra5), some (.int x3), none, some (.int x5), none] [.int 1] h) : V X m_X8_worth R Z A 15 [some (.ref 29), some (.int x1), some (.ref ra5), some (.int x3), some (.int x4), some (.int x5), none] [] h := by
  refine v_iload dX8_worth_15 rfl ?_
  refine v_aload_n dX8_worth_17 rfl ?_
  refine v_getR dX8_worth_18 fl_RX8_16 kd_29 (ltA hA0 rfl) rfl (hF 29 1 37 rfl) ?_
  refine v_iload_n dX8_worth_21 rfl ?_
  refine v_iald dX8_worth_22 kd_37 (ltA hA0 rfl) hi_22 ?_
  refine v_icmp_ge (tgt := 231) dX8_worth_23 (by decide) (fun c0 => ?_) (fun c0 => ?_)
  · exact (v_drop (lvLe_n (lvLe_n (lvLe_n (lvLe_n (lvLe_n (lvLe_n (lvLe_n lvLe_e))))))) (q c0))
  · refine v_iload dX8_worth_26 rfl ?_
    refine v_aload_n dX8_worth_28 rfl ?_
    refine v_alen (v := 200) dX8_worth_29 hk_ra5 ⟨by decide, by decide⟩ hl_ra5 rfl ?_
    refine v_icmp_ge (tgt := 231) dX8_worth_30 (by decide) (fun c1 => ?_) (fun c1 => ?_)
    · exact (v_drop (lvLe_n (lvLe_n (lvLe_n (lvLe_n (lvLe_n (lvLe_n (lvLe_n lvLe_e))))))) (q_1 c0 c1))
    · refine v_aload_n dX8_worth_33 rfl ?_
      refine v_iload dX8_worth_34 rfl ?_
      refine v_iald dX8_worth_36 hk_ra5 hl_ra5 (hi_36 c0 c1) ?_
      refine v_bipush dX8_worth_37 cb_15 ?_
      refine v_iand dX8_worth_39 ?_
      refine v_istore dX8_worth_40 (by decide) (L' := [some (.ref 29), some (.int x1), some (.ref ra5), some (.int x3), some (.int x4), some (.int x5), some (.int ((h.1 ra5 x5.toNatClampNeg) &&& 15))]) rfl ?_
      refine v_iload dX8_worth_42 rfl ?_
      refine v_if_eq (tgt := 64) dX8_worth_44 (by decide) (fun c2 => ?_) (fun c2 => ?_)
      · refine v_iload dX8_worth_64 rfl ?_
        refine v_bipush dX8_worth_66 cb_13 ?_
        refine v_icmp_ne (tgt := 88) dX8_worth_68 (by decide) (fun c3 => ?_) (fun c3 => ?_)
        · refine v_iload dX8_worth_88 rfl ?_
          refine v_bipush dX8_worth_90 cb_12 ?_
          refine v_icmp_ne (tgt := 122) dX8_worth_92 (by decide) (fun c4 => ?_) (fun c4 => ?_)
          · refine v_iload dX8_worth_122 rfl ?_
            refine v_iconst dX8_worth_124 ci_1 ?_
            refine v_icmp_gt (tgt := 158) dX8_worth_125 (by decide) (fun c5 => ?_) (fun c5 => ?_)
            · refine v_iload dX8_worth_158 rfl ?_
              refine v_bipush dX8_worth_160 cb_11 ?_
              refine v_icmp_ne (tgt := 190) dX8_worth_162 (by decide) (fun c6 => ?_) (fun c6 => ?_)
              · refine v_iload_n dX8_worth_190 rfl ?_
                refine v_iconst dX8_worth_191 ci_1 ?_
                refine v_icmp_le (tgt := 225) dX8_worth_192 (by decide) (fun c7 => ?_) (fun c7 => ?_)
                · exact (v_drop (lvLe_s (lvLe_s (lvLe_s (lvLe_s (lvLe_s (lvLe_s (lvLe_n lvLe_e))))))) (q_2 c0 c1 c2 c3 c4 c5 c6 c7))
                · refine v_iinc (y := (x3 + (-1))) dX8_worth_195 rfl rfl (by decide) (L' := [some (.ref 29), some (.int x1), some (.ref ra5), some (.int (x3 + (-1))), some (.int x4), some (.int x5), some (.int ((h.1 ra5 x5.toNatClampNeg) &&& 15))]) rfl ?_
                  refine v_aload_n dX8_worth_198 rfl ?_
                  refine v_getR dX8_worth_199 fl_RX8_20 kd_29 (ltA hA0 rfl) rfl (hF 29 2 38 rfl) ?_
                  refine v_iload_n dX8_worth_202 rfl ?_
                  refine v_iconst dX8_worth_203 ci_1 ?_
                  refine v_isub dX8_worth_204 ?_
                  refine v_iload dX8_worth_205 rfl ?_
                  refine v_aload_n dX8_worth_207 rfl ?_
                  refine v_getR dX8_worth_208 fl_RX8_20 kd_29 (ltA hA0 rfl) rfl (hF 29 2 38 rfl) ?_
                  refine v_iload_n dX8_worth_211 rfl ?_
                  refine v_iconst dX8_worth_212 ci_1 ?_
                  refine v_isub dX8_worth_213 ?_
                  refine v_iald dX8_worth_214 kd_38 (ltA hA0 rfl) (hi_214 c0 c1 c2 c3 c4 c5 c6 c7) ?_
                  refine v_aload_n dX8_worth_215 rfl ?_
                  refine v_getR dX8_worth_216 fl_RX8_20 kd_29 (ltA hA0 rfl) rfl (hF 29 2 38 rfl) ?_
                  refine v_iload_n dX8_worth_219 rfl ?_
                  refine v_iald dX8_worth_220 kd_38 (ltA hA0 rfl) (hi_220 c0 c1 c2 c3 c4 c5 c6 c7) ?_
                  exact v_cSI (mt := m_X8_worth) mo_X8_joined ml_RX8_46 mz_X8_joined rfl hR hcs (Nat.le_of_ble_eq_true rfl) dX8_worth_221 rfl (hM c0 c1 c2 c3 c4 c5 c6 c7) (fun y g hp => (v_drop (lvLe_s (lvLe_s (lvLe_s (lvLe_s (lvLe_s (lvLe_s (lvLe_n lvLe_e))))))) ((q_3 c0 c1 c2 c3 c4 c5 c6 c7) y g hp)))
              · refine v_iload_n dX8_worth_165 rfl ?_
                refine v_if_le (tgt := 225) dX8_worth_166 (by decide) (fun c7 => ?_) (fun c7 => ?_)
                · exact (v_drop (lvLe_s (lvLe_s (lvLe_s (lvLe_s (lvLe_s (lvLe_s (lvLe_n lvLe_e))))))) (q_4 c0 c1 c2 c3 c4 c5 c6 c7))
                · refine v_aload_n dX8_worth_169 rfl ?_
                  refine v_getR dX8_worth_170 fl_RX8_20 kd_29 (ltA hA0 rfl) rfl (hF 29 2 38 rfl) ?_
                  refine v_iload_n dX8_worth_173 rfl ?_
                  refine v_iconst dX8_worth_174 ci_1 ?_
                  refine v_isub dX8_worth_175 ?_
                  refine v_iconst dX8_worth_176 ci_1 ?_
                  refine v_aload_n dX8_worth_177 rfl ?_
                  refine v_getR dX8_worth_178 fl_RX8_20 kd_29 (ltA hA0 rfl) rfl (hF 29 2 38 rfl) ?_
                  refine v_iload_n dX8_worth_181 rfl ?_
                  refine v_iconst dX8_worth_182 ci_1 ?_
                  refine v_isub dX8_worth_183 ?_
                  refine v_iald dX8_worth_184 kd_38 (ltA hA0 rfl) (hi_184 c0 c1 c2 c3 c4 c5 c6 c7) ?_
                  refine v_isub dX8_worth_185 ?_
                  refine v_iast dX8_worth_186 kd_38 (ltA hA0 rfl) (hi_186 c0 c1 c2 c3 c4 c5 c6 c7) ?_
                  refine v_goto (tgt := 225) dX8_worth_187 (by decide) ?_
                  exact (v_drop (lvLe_s (lvLe_s (lvLe_s (lvLe_s (lvLe_s (lvLe_s (lvLe_n lvLe_e))))))) (q_5 c0 c1 c2 c3 c4 c5 c6 c7))
            · refine v_iload_n dX8_worth_128 rfl ?_
              refine v_bipush dX8_worth_129 cb_48 ?_
              refine v_icmp_ge (tgt := 225) dX8_worth_131 (by decide) (fun c6 => ?_) (fun c6 => ?_)
              · exact (v_drop (lvLe_s (lvLe_s (lvLe_s (lvLe_s (lvLe_s (lvLe_s (lvLe_n lvLe_e))))))) (q_6 c0 c1 c2 c3 c4 c5 c6))
              · refine v_aload_n dX8_worth_134 rfl ?_
                refine v_getR dX8_worth_135 fl_RX8_20 kd_29 (ltA hA0 rfl) rfl (hF 29 2 38 rfl) ?_
                refine v_iload_n dX8_worth_138 rfl ?_
                refine v_iinc (y := (x3 + 1)) dX8_worth_139 rfl rfl (by decide) (L' := [some (.ref 29), some (.int x1), some (.ref ra5), some (.int (x3 + 1)), some (.int x4), some (.int x5), some (.int ((h.1 ra5 x5.toNatClampNeg) &&& 15))]) rfl ?_
                refine v_aload_n dX8_worth_142 rfl ?_
                refine v_iload dX8_worth_143 rfl ?_
                refine v_aload_n dX8_worth_145 rfl ?_
                refine v_iload dX8_worth_146 rfl ?_
                refine v_iald dX8_worth_148 hk_ra5 hl_ra5 (hi_148 c0 c1 c2 c3 c4 c5 c6) ?_
                refine v_iconst dX8_worth_149 ci_4 ?_
                refine v_ishr dX8_worth_150 ?_
                exact v_cVI (mt := m_X8_worth) mo_X8_told ml_RX8_42 mi_X8_told mv_X8_told rfl kd_29 cl_8 rfl (ltA hA0 rfl) hR hcs (Nat.le_of_ble_eq_true rfl) dX8_worth_151 rfl (hM_1 c0 c1 c2 c3 c4 c5 c6) (fun y g hp => (v_drop (lvLe_s (lvLe_s (lvLe_s (lvLe_s (lvLe_s (lvLe_s (lvLe_n lvLe_e))))))) ((q_7 c0 c1 c2 c3 c4 c5 c6) y g hp)))
          · refine v_iload_n dX8_worth_95 rfl ?_
            refine v_if_le (tgt := 114) dX8_worth_96 (by decide) (fun c5 => ?_) (fun c5 => ?_)
            · exact (v_drop (lvLe_s (lvLe_s (lvLe_s (lvLe_n (lvLe_n (lvLe_s (lvLe_n lvLe_e))))))) (q_8 c0 c1 c2 c3 c4 c5))
            · refine v_aload_n dX8_worth_99 rfl ?_
              refine v_getR dX8_worth_100 fl_RX8_20 kd_29 (ltA hA0 rfl) rfl (hF 29 2 38 rfl) ?_
              refine v_iload_n dX8_worth_103 rfl ?_
              refine v_iconst dX8_worth_104 ci_1 ?_
              refine v_isub dX8_worth_105 ?_
              refine v_iald dX8_worth_106 kd_38 (ltA hA0 rfl) (hi_106 c0 c1 c2 c3 c4 c5) ?_
              refine v_if_ne (tgt := 114) dX8_worth_107 (by decide) (fun c6 => ?_) (fun c6 => ?_)
              · exact (v_drop (lvLe_s (lvLe_s (lvLe_s (lvLe_n (lvLe_n (lvLe_s (lvLe_n lvLe_e))))))) (q_9 c0 c1 c2 c3 c4 c5 c6))
              · refine v_iconst dX8_worth_110 ci_1 ?_
                refine v_goto (tgt := 115) dX8_worth_111 (by decide) ?_
                exact (v_drop (lvLe_s (lvLe_s (lvLe_s (lvLe_n (lvLe_n (lvLe_s (lvLe_n lvLe_e))))))) (q_10 c0 c1 c2 c3 c4 c5 c6))
        · refine v_iload_n dX8_worth_71 rfl ?_
          refine v_if_le (tgt := 86) dX8_worth_72 (by decide) (fun c4 => ?_) (fun c4 => ?_)
          · refine v_iconst dX8_worth_86 ci_0 ?_
            exact (v_drop (lvLe_n (lvLe_n (lvLe_n (lvLe_n (lvLe_n (lvLe_n (lvLe_n lvLe_e))))))) (q_11 c0 c1 c2 c3 c4))
          · refine v_aload_n dX8_worth_75 rfl ?_
            refine v_getR dX8_worth_76 fl_RX8_20 kd_29 (ltA hA0 rfl) rfl (hF 29 2 38 rfl) ?_
            refine v_iload_n dX8_worth_79 rfl ?_
            refine v_iconst dX8_worth_80 ci_1 ?_
            refine v_isub dX8_worth_81 ?_
            refine v_iald dX8_worth_82 kd_38 (ltA hA0 rfl) (hi_82 c0 c1 c2 c3 c4) ?_
            refine v_goto (tgt := 87) dX8_worth_83 (by decide) ?_
            exact (v_drop (lvLe_n (lvLe_n (lvLe_n (lvLe_n (lvLe_n (lvLe_n (lvLe_n lvLe_e))))))) (q_12 c0 c1 c2 c3 c4))
      · refine v_iload dX8_worth_47 rfl ?_
        refine v_bipush dX8_worth_49 cb_13 ?_
        refine v_icmp_eq (tgt := 58) dX8_worth_51 (by decide) (fun c3 => ?_) (fun c3 => ?_)
        · refine v_iconst dX8_worth_58 ci_0 ?_
          exact (v_drop (lvLe_s (lvLe_s (lvLe_s (lvLe_s (lvLe_n (lvLe_s (lvLe_n lvLe_e))))))) (q_13 c0 c1 c2 c3))
        · refine v_iconst dX8_worth_54 ci_1 ?_
          refine v_goto (tgt := 59) dX8_worth_55 (by decide) ?_
          exact (v_drop (lvLe_s (lvLe_s (lvLe_s (lvLe_s (lvLe_n (lvLe_s (lvLe_n lvLe_e))))))) (q_14 c0 c1 c2 c3))
theorem c_X8_worth_59 {X : CX} {R : Room} {Z : ZX} {A : AX} {h : AH} {x1 x3 x5 s0 : Int32} {ra5 : Nat} (q : V X m_X8_worth R Z A 225 [some (.ref 29), some (.int x1), some (.ref ra5), some (.int x3), some (.int s0), some (.int x5), none] [] h) : V X m_X8_worth R Z A 59 [some (.ref 29), some (.int x1), some (.ref ra5), some (.int x3), none, some (.int x5), none] [.int s0] h := by
  refine v_istore dX8_worth_59 (by decide) (L' := [some (.ref 29), some (.int x1), some (.ref ra5), some (.int x3), some (.int s0), some (.int x5), none]) rfl ?_
  refine v_goto (tgt := 225) dX8_worth_61 (by decide) ?_
  exact q
theorem c_X8_worth_87 {X : CX} {R : Room} {Q : Option Value → AH → Prop} {nx sz mc ms : Nat} {h : AH} {s0 : Int32} (hq : Q (some (.int s0)) h) : V X m_X8_worth R (ZM X Q nx sz mc ms) (nx, sz, mc, ms) 87 [none, none, none, none, none, none, none] [.int s0] h := by
  exact v_iret dX8_worth_87 rfl hq
theorem c_X8_worth_114 {X : CX} {R : Room} {Z : ZX} {A : AX} {h : AH} {x1 x5 : Int32} {ra5 : Nat} (q : V X m_X8_worth R Z A 115 [some (.ref 29), some (.int x1), some (.ref ra5), none, none, some (.int x5), none] [.int 0] h) : V X m_X8_worth R Z A 114 [some (.ref 29), some (.int x1), some (.ref ra5), none, none, some (.int x5), none] [] h := by
  refine v_iconst dX8_worth_114 ci_0 ?_
  exact q
theorem c_X8_worth_115 {X : CX} {R : Room} {Z : ZX} {A : AX} {h : AH} {x1 x5 s0 : Int32} {ra5 : Nat} (q : V X m_X8_worth R Z A 225 [some (.ref 29), some (.int x1), some (.ref ra5), some (.int 0), some (.int s0), some (.int x5), none] [] h) : V X m_X8_worth R Z A 115 [some (.ref 29), some (.int x1), some (.ref ra5), none, none, some (.int x5), none] [.int s0] h := by
  refine v_istore dX8_worth_115 (by decide) (L' := [some (.ref 29), some (.int x1), some (.ref ra5), none, some (.int s0), some (.int x5), none]) rfl ?_
  refine v_iconst dX8_worth_117 ci_0 ?_
  refine v_istore_n dX8_worth_118 (by decide) (L' := [some (.ref 29), some (.int x1), some (.ref ra5), some (.int 0), some (.int s0), some (.int x5), none]) rfl ?_
  refine v_goto (tgt := 225) dX8_worth_119 (by decide) ?_
  exact q
theorem c_X8_worth_154 {X : CX} {R : Room} {Z : ZX} {A : AX} {h : AH} {x1 x3 x4 x5 s1 s2 : Int32} {ra5 : Nat} (hA0 : 91 ≤ A.1) (hi_154 : vp_in s1 48) (q : V X m_X8_worth R Z A 225 [some (.ref 29), some (.int x1), some (.ref ra5), some (.int x3), some (.int x4), some (.int x5), none] [] (setI h 38 s1.toNatClampNeg s2)) : V X m_X8_worth R Z A 154 [some (.ref 29), some (.int x1), some (.ref ra5), some (.int x3), some (.int x4), some (.int x5), none] [.int s2, .int s1, .ref 38] h := by
  refine v_iast dX8_worth_154 kd_38 (ltA hA0 rfl) hi_154 ?_
  refine v_goto (tgt := 225) dX8_worth_155 (by decide) ?_
  exact q
theorem c_X8_worth_224 {X : CX} {R : Room} {Z : ZX} {A : AX} {h : AH} {x1 x3 x4 x5 s1 s2 : Int32} {ra5 : Nat} (hA0 : 91 ≤ A.1) (hi_224 : vp_in s1 48) (q : V X m_X8_worth R Z A 225 [some (.ref 29), some (.int x1), some (.ref ra5), some (.int x3), some (.int x4), some (.int x5), none] [] (setI h 38 s1.toNatClampNeg s2)) : V X m_X8_worth R Z A 224 [some (.ref 29), some (.int x1), some (.ref ra5), some (.int x3), some (.int x4), some (.int x5), none] [.int s2, .int s1, .ref 38] h := by
  refine v_iast dX8_worth_224 kd_38 (ltA hA0 rfl) hi_224 ?_
  exact q
theorem c_X8_worth_225 {X : CX} {R : Room} {Z : ZX} {A : AX} {h : AH} {x1 x3 x4 x5 : Int32} {ra5 : Nat} (q : V X m_X8_worth R Z A 15 [some (.ref 29), some (.int x1), some (.ref ra5), some (.int x3), some (.int x4), some (.int (x5 + 1)), none] [] h) : V X m_X8_worth R Z A 225 [some (.ref 29), some (.int x1), some (.ref ra5), some (.int x3), some (.int x4), some (.int x5), none] [] h := by
  refine v_iinc (y := (x5 + 1)) dX8_worth_225 rfl rfl (by decide) (L' := [some (.ref 29), some (.int x1), some (.ref ra5), some (.int x3), some (.int x4), some (.int (x5 + 1)), none]) rfl ?_
  refine v_goto (tgt := 15) dX8_worth_228 (by decide) ?_
  exact q
theorem c_X8_worth_231 {X : CX} {R : Room} {Q : Option Value → AH → Prop} {nx sz mc ms : Nat} {h : AH} (hq : Q (some (.int 0)) h) : V X m_X8_worth R (ZM X Q nx sz mc ms) (nx, sz, mc, ms) 231 [none, none, none, none, none, none, none] [] h := by
  refine v_iconst dX8_worth_231 ci_0 ?_
  exact v_iret dX8_worth_232 rfl hq
theorem e_X8_told {X : CX} {d nx sz : Nat} {Q : Option Value → AH → Prop} {h : AH} {x1 x2 : Int32} (q : V X m_X8_told (rm d 0 0) (ZM X Q nx sz 0 0) (nx, sz, 0, 0) 0 [some (.ref 29), some (.int x1), some (.int x2)] [] h) : Mk X d m_X8_told [.ref 29, .int x1, .int x2] h nx sz Q := by
  refine Mok.ofV mo_X8_told (Nat.le_of_ble_eq_true rfl) (L := [some (.ref 29), some (.int x1), some (.int x2)]) (lvLe_s (lvLe_s (lvLe_s lvLe_e))) (v_grow (n := 0) ?_)
  exact q
theorem c_X8_told_0 {X : CX} {R : Room} {Q : Option Value → AH → Prop} {nx sz mc ms : Nat} {h : AH} {x1 x2 : Int32} (hA0 : 91 ≤ nx) (hF : Fx h) (hq : ¬ x1 = 0 → x2 < 0 → Q (some (.int 0)) h) (hq_1 : ¬ x1 = 0 → ¬ x2 < 0 → 9 ≤ x2 → Q (some (.int 0)) h) (hi_21 : ¬ x1 = 0 → ¬ x2 < 0 → ¬ 9 ≤ x2 → vp_in x2 9) (hq_2 : ¬ x1 = 0 → ¬ x2 < 0 → ¬ 9 ≤ x2 → Q (some (.int (h.1 39 x2.toNatClampNeg))) h) (hq_3 : x1 = 0 → Q (some (.int x2)) h) : V X m_X8_told R (ZM X Q nx sz mc ms) (nx, sz, mc, ms) 0 [some (.ref 29), some (.int x1), some (.int x2)] [] h := by
  refine v_iload_n dX8_told_0 rfl ?_
  refine v_if_ne (tgt := 6) dX8_told_1 (by decide) (fun c0 => ?_) (fun c0 => ?_)
  · refine v_iload_n dX8_told_6 rfl ?_
    refine v_if_lt (tgt := 25) dX8_told_7 (by decide) (fun c1 => ?_) (fun c1 => ?_)
    · refine v_iconst dX8_told_25 ci_0 ?_
      exact v_iret dX8_told_26 rfl (hq c0 c1)
    · refine v_iload_n dX8_told_10 rfl ?_
      refine v_bipush dX8_told_11 cb_9 ?_
      refine v_icmp_ge (tgt := 25) dX8_told_13 (by decide) (fun c2 => ?_) (fun c2 => ?_)
      · refine v_iconst dX8_told_25 ci_0 ?_
        exact v_iret dX8_told_26 rfl (hq_1 c0 c1 c2)
      · refine v_aload_n dX8_told_16 rfl ?_
        refine v_getR dX8_told_17 fl_RX8_23 kd_29 (ltA hA0 rfl) rfl (hF 29 3 39 rfl) ?_
        refine v_iload_n dX8_told_20 rfl ?_
        refine v_iald dX8_told_21 kd_39 (ltA hA0 rfl) (hi_21 c0 c1 c2) ?_
        refine v_goto (tgt := 26) dX8_told_22 (by decide) ?_
        exact v_iret dX8_told_26 rfl (hq_2 c0 c1 c2)
  · refine v_iload_n dX8_told_4 rfl ?_
    exact v_iret dX8_told_5 rfl (hq_3 c0)
theorem e_X8_joined {X : CX} {d nx sz : Nat} {Q : Option Value → AH → Prop} {h : AH} {x0 x1 x2 : Int32} (q : V X m_X8_joined (rm d 0 0) (ZM X Q nx sz 0 0) (nx, sz, 0, 0) 0 [some (.int x0), some (.int x1), some (.int x2)] [] h) : Mk X d m_X8_joined [.int x0, .int x1, .int x2] h nx sz Q := by
  refine Mok.ofV mo_X8_joined (Nat.le_of_ble_eq_true rfl) (L := [some (.int x0), some (.int x1), some (.int x2)]) (lvLe_s (lvLe_s (lvLe_s lvLe_e))) (v_grow (n := 0) ?_)
  exact q
theorem c_X8_joined_0 {X : CX} {R : Room} {Q : Option Value → AH → Prop} {nx sz mc ms : Nat} {h : AH} {x0 x1 x2 : Int32} {d : Nat} {P53 P62 P71 P88 : Int32 → AH → Prop} (hR : RO R (d + 1)) (hcs : mc ≤ R.cells ∧ ms ≤ R.slots) (hq : ((x0 : Int32).toInt < 2 ∨ 9 < (x0 : Int32).toInt) → Q (some (.int (x1 ||| x2))) h) (hM : (x0 : Int32).toInt = 2 → Mk X d m_X8_bounded [.long (((x1 : Int32).toInt64) + ((x2 : Int32).toInt64))] h nx sz (RI P53)) (q : (x0 : Int32).toInt = 2 → ∀ (y : Int32) (g : AH), P53 y g → V X m_X8_joined R (ZM X Q nx sz mc ms) (nx, sz, mc, ms) 56 [none, none, none] [.int y] g) (hM_1 : (x0 : Int32).toInt = 3 → Mk X d m_X8_bounded [.long (((x1 : Int32).toInt64) - ((x2 : Int32).toInt64))] h nx sz (RI P62)) (q_1 : (x0 : Int32).toInt = 3 → ∀ (y : Int32) (g : AH), P62 y g → V X m_X8_joined R (ZM X Q nx sz mc ms) (nx, sz, mc, ms) 65 [none, none, none] [.int y] g) (hM_2 : (x0 : Int32).toInt = 4 → Mk X d m_X8_bounded [.long (((x1 : Int32).toInt64) * ((x2 : Int32).toInt64))] h nx sz (RI P71)) (q_2 : (x0 : Int32).toInt = 4 → ∀ (y : Int32) (g : AH), P71 y g → V X m_X8_joined R (ZM X Q nx sz mc ms) (nx, sz, mc, ms) 74 [none, none, none] [.int y] g) (hz_87 : (x0 : Int32).toInt = 5 → ¬ x2 = 0 → ¬ ((x2 : Int32).toInt64) = 0) (hM_3 : (x0 : Int32).toInt = 5 → ¬ x2 = 0 → Mk X d m_X8_bounded [.long (((x1 : Int32).toInt64) / ((x2 : Int32).toInt64))] h nx sz (RI P88)) (q_3 : (x0 : Int32).toInt = 5 → ¬ x2 = 0 → ∀ (y : Int32) (g : AH), P88 y g → V X m_X8_joined R (ZM X Q nx sz mc ms) (nx, sz, mc, ms) 91 [none, none, none] [.int y] g) (q_4 : (x0 : Int32).toInt = 5 → x2 = 0 → V X m_X8_joined R (ZM X Q nx sz mc ms) (nx, sz, mc, ms) 91 [none, none, none] [.int 0] h) (hq_1 : (x0 : Int32).toInt = 6 → ¬ x1 = x2 → Q (some (.int 0)) h) (hq_2 : (x0 : Int32).toInt = 6 → x1 = x2 → Q (some (.int 1)) h) (hq_3 : (x0 : Int32).toInt = 7 → x2 ≤ x1 → Q (some (.int 0)) h) (hq_4 : (x0 : Int32).toInt = 7 → ¬ x2 ≤ x1 → Q (some (.int 1)) h) (hq_5 : (x0 : Int32).toInt = 8 → x1 ≤ x2 → Q (some (.int 0)) h) (hq_6 : (x0 : Int32).toInt = 8 → ¬ x1 ≤ x2 → Q (some (.int 1)) h) (hq_7 : (x0 : Int32).toInt = 9 → Q (some (.int (x1 &&& x2))) h) : V X m_X8_joined R (ZM X Q nx sz mc ms) (nx, sz, mc, ms) 0 [some (.int x0), some (.int x1), some (.int x2)] [] h := by
  refine v_iload_n dX8_joined_0 rfl ?_
  rcases (by omega : ((x0 : Int32).toInt < 2 ∨ 9 < (x0 : Int32).toInt) ∨ (x0 : Int32).toInt = 2 ∨ (x0 : Int32).toInt = 3 ∨ (x0 : Int32).toInt = 4 ∨ (x0 : Int32).toInt = 5 ∨ (x0 : Int32).toInt = 6 ∨ (x0 : Int32).toInt = 7 ∨ (x0 : Int32).toInt = 8 ∨ (x0 : Int32).toInt = 9) with c0 | c0 | c0 | c0 | c0 | c0 | c0 | c0 | c0
  · refine v_tableOut (tgt := 129) dX8_joined_1 c0 (by decide) ?_
    refine v_iload_n dX8_joined_129 rfl ?_
    refine v_iload_n dX8_joined_130 rfl ?_
    refine v_ior dX8_joined_131 ?_
    exact v_iret dX8_joined_132 rfl (hq c0)
  · refine v_tableIn (tgt := 48) (off := 47) dX8_joined_1 (by rw [c0]; decide) (by rw [c0]; decide) (by rw [c0]; rfl) (by decide) ?_
    refine v_iload_n dX8_joined_48 rfl ?_
    refine v_i2l dX8_joined_49 ?_
    refine v_iload_n dX8_joined_50 rfl ?_
    refine v_i2l dX8_joined_51 ?_
    refine v_ladd dX8_joined_52 ?_
    exact v_cSI (mt := m_X8_joined) mo_X8_bounded ml_RX8_50 mz_X8_bounded rfl hR hcs (Nat.le_of_ble_eq_true rfl) dX8_joined_53 rfl (hM c0) (fun y g hp => (v_drop (lvLe_n (lvLe_n (lvLe_n lvLe_e))) ((q c0) y g hp)))
  · refine v_tableIn (tgt := 57) (off := 56) dX8_joined_1 (by rw [c0]; decide) (by rw [c0]; decide) (by rw [c0]; rfl) (by decide) ?_
    refine v_iload_n dX8_joined_57 rfl ?_
    refine v_i2l dX8_joined_58 ?_
    refine v_iload_n dX8_joined_59 rfl ?_
    refine v_i2l dX8_joined_60 ?_
    refine v_lsub dX8_joined_61 ?_
    exact v_cSI (mt := m_X8_joined) mo_X8_bounded ml_RX8_50 mz_X8_bounded rfl hR hcs (Nat.le_of_ble_eq_true rfl) dX8_joined_62 rfl (hM_1 c0) (fun y g hp => (v_drop (lvLe_n (lvLe_n (lvLe_n lvLe_e))) ((q_1 c0) y g hp)))
  · refine v_tableIn (tgt := 66) (off := 65) dX8_joined_1 (by rw [c0]; decide) (by rw [c0]; decide) (by rw [c0]; rfl) (by decide) ?_
    refine v_iload_n dX8_joined_66 rfl ?_
    refine v_i2l dX8_joined_67 ?_
    refine v_iload_n dX8_joined_68 rfl ?_
    refine v_i2l dX8_joined_69 ?_
    refine v_lmul dX8_joined_70 ?_
    exact v_cSI (mt := m_X8_joined) mo_X8_bounded ml_RX8_50 mz_X8_bounded rfl hR hcs (Nat.le_of_ble_eq_true rfl) dX8_joined_71 rfl (hM_2 c0) (fun y g hp => (v_drop (lvLe_n (lvLe_n (lvLe_n lvLe_e))) ((q_2 c0) y g hp)))
  · refine v_tableIn (tgt := 75) (off := 74) dX8_joined_1 (by rw [c0]; decide) (by rw [c0]; decide) (by rw [c0]; rfl) (by decide) ?_
    refine v_iload_n dX8_joined_75 rfl ?_
    refine v_if_ne (tgt := 83) dX8_joined_76 (by decide) (fun c1 => ?_) (fun c1 => ?_)
    · refine v_iload_n dX8_joined_83 rfl ?_
      refine v_i2l dX8_joined_84 ?_
      refine v_iload_n dX8_joined_85 rfl ?_
      refine v_i2l dX8_joined_86 ?_
      refine v_ldiv dX8_joined_87 (hz_87 c0 c1) ?_
      exact v_cSI (mt := m_X8_joined) mo_X8_bounded ml_RX8_50 mz_X8_bounded rfl hR hcs (Nat.le_of_ble_eq_true rfl) dX8_joined_88 rfl (hM_3 c0 c1) (fun y g hp => (v_drop (lvLe_n (lvLe_n (lvLe_n lvLe_e))) ((q_3 c0 c1) y g hp)))
    · refine v_iconst dX8_joined_79 ci_0 ?_
      refine v_goto (tgt := 91) dX8_joined_80 (by decide) ?_
      exact (v_drop (lvLe_n (lvLe_n (lvLe_n lvLe_e))) (q_4 c0 c1))
  · refine v_tableIn (tgt := 92) (off := 91) dX8_joined_1 (by rw [c0]; decide) (by rw [c0]; decide) (by rw [c0]; rfl) (by decide) ?_
    refine v_iload_n dX8_joined_92 rfl ?_
    refine v_iload_n dX8_joined_93 rfl ?_
    refine v_icmp_ne (tgt := 101) dX8_joined_94 (by decide) (fun c1 => ?_) (fun c1 => ?_)
    · refine v_iconst dX8_joined_101 ci_0 ?_
      exact v_iret dX8_joined_102 rfl (hq_1 c0 c1)
    · refine v_iconst dX8_joined_97 ci_1 ?_
      refine v_goto (tgt := 102) dX8_joined_98 (by decide) ?_
      exact v_iret dX8_joined_102 rfl (hq_2 c0 c1)
  · refine v_tableIn (tgt := 103) (off := 102) dX8_joined_1 (by rw [c0]; decide) (by rw [c0]; decide) (by rw [c0]; rfl) (by decide) ?_
    refine v_iload_n dX8_joined_103 rfl ?_
    refine v_iload_n dX8_joined_104 rfl ?_
    refine v_icmp_ge (tgt := 112) dX8_joined_105 (by decide) (fun c1 => ?_) (fun c1 => ?_)
    · refine v_iconst dX8_joined_112 ci_0 ?_
      exact v_iret dX8_joined_113 rfl (hq_3 c0 c1)
    · refine v_iconst dX8_joined_108 ci_1 ?_
      refine v_goto (tgt := 113) dX8_joined_109 (by decide) ?_
      exact v_iret dX8_joined_113 rfl (hq_4 c0 c1)
  · refine v_tableIn (tgt := 114) (off := 113) dX8_joined_1 (by rw [c0]; decide) (by rw [c0]; decide) (by rw [c0]; rfl) (by decide) ?_
    refine v_iload_n dX8_joined_114 rfl ?_
    refine v_iload_n dX8_joined_115 rfl ?_
    refine v_icmp_le (tgt := 123) dX8_joined_116 (by decide) (fun c1 => ?_) (fun c1 => ?_)
    · refine v_iconst dX8_joined_123 ci_0 ?_
      exact v_iret dX8_joined_124 rfl (hq_5 c0 c1)
    · refine v_iconst dX8_joined_119 ci_1 ?_
      refine v_goto (tgt := 124) dX8_joined_120 (by decide) ?_
      exact v_iret dX8_joined_124 rfl (hq_6 c0 c1)
  · refine v_tableIn (tgt := 125) (off := 124) dX8_joined_1 (by rw [c0]; decide) (by rw [c0]; decide) (by rw [c0]; rfl) (by decide) ?_
    refine v_iload_n dX8_joined_125 rfl ?_
    refine v_iload_n dX8_joined_126 rfl ?_
    refine v_iand dX8_joined_127 ?_
    exact v_iret dX8_joined_128 rfl (hq_7 c0)
theorem c_X8_joined_56 {X : CX} {R : Room} {Q : Option Value → AH → Prop} {nx sz mc ms : Nat} {h : AH} {s0 : Int32} (hq : Q (some (.int s0)) h) : V X m_X8_joined R (ZM X Q nx sz mc ms) (nx, sz, mc, ms) 56 [none, none, none] [.int s0] h := by
  exact v_iret dX8_joined_56 rfl hq
theorem c_X8_joined_65 {X : CX} {R : Room} {Q : Option Value → AH → Prop} {nx sz mc ms : Nat} {h : AH} {s0 : Int32} (hq : Q (some (.int s0)) h) : V X m_X8_joined R (ZM X Q nx sz mc ms) (nx, sz, mc, ms) 65 [none, none, none] [.int s0] h := by
  exact v_iret dX8_joined_65 rfl hq
theorem c_X8_joined_74 {X : CX} {R : Room} {Q : Option Value → AH → Prop} {nx sz mc ms : Nat} {h : AH} {s0 : Int32} (hq : Q (some (.int s0)) h) : V X m_X8_joined R (ZM X Q nx sz mc ms) (nx, sz, mc, ms) 74 [none, none, none] [.int s0] h := by
  exact v_iret dX8_joined_74 rfl hq
theorem c_X8_joined_91 {X : CX} {R : Room} {Q : Option Value → AH → Prop} {nx sz mc ms : Nat} {h : AH} {s0 : Int32} (hq : Q (some (.int s0)) h) : V X m_X8_joined R (ZM X Q nx sz mc ms) (nx, sz, mc, ms) 91 [none, none, none] [.int s0] h := by
  exact v_iret dX8_joined_91 rfl hq
theorem e_X8_bounded {X : CX} {d nx sz : Nat} {Q : Option Value → AH → Prop} {h : AH} {j0 : Int64} (q : V X m_X8_bounded (rm d 0 0) (ZM X Q nx sz 0 0) (nx, sz, 0, 0) 0 [some (.long j0), none] [] h) : Mk X d m_X8_bounded [.long j0] h nx sz Q := by
  refine Mok.ofV mo_X8_bounded (Nat.le_of_ble_eq_true rfl) (L := [some (.long j0), none]) (lvLe_s (lvLe_n lvLe_e)) (v_grow (n := 0) ?_)
  exact q
theorem c_X8_bounded_0 {X : CX} {R : Room} {Q : Option Value → AH → Prop} {nx sz mc ms : Nat} {h : AH} {j0 : Int64} (hq : (lg_cmp j0 1000000) ≤ 0 → 0 ≤ (lg_cmp j0 (-1000000)) → Q (some (.int ((j0 : Int64).toInt32))) h) (hq_1 : (lg_cmp j0 1000000) ≤ 0 → ¬ 0 ≤ (lg_cmp j0 (-1000000)) → Q (some (.int (-1000000))) h) (hq_2 : ¬ (lg_cmp j0 1000000) ≤ 0 → Q (some (.int 1000000)) h) : V X m_X8_bounded R (ZM X Q nx sz mc ms) (nx, sz, mc, ms) 0 [some (.long j0), none] [] h := by
  refine v_lload_n dX8_bounded_0 rfl ?_
  refine v_ldc2 dX8_bounded_1 kl_RX8_54 ?_
  refine v_lcmp dX8_bounded_4 ?_
  refine v_if_le (tgt := 11) dX8_bounded_5 (by decide) (fun c0 => ?_) (fun c0 => ?_)
  · refine v_lload_n dX8_bounded_11 rfl ?_
    refine v_ldc2 dX8_bounded_12 kl_RX8_57 ?_
    refine v_lcmp dX8_bounded_15 ?_
    refine v_if_ge (tgt := 24) dX8_bounded_16 (by decide) (fun c1 => ?_) (fun c1 => ?_)
    · refine v_lload_n dX8_bounded_24 rfl ?_
      refine v_l2i dX8_bounded_25 ?_
      exact v_iret dX8_bounded_26 rfl (hq c0 c1)
    · refine v_ldc dX8_bounded_19 kc_RX8_59 ?_
      refine v_goto (tgt := 26) dX8_bounded_21 (by decide) ?_
      exact v_iret dX8_bounded_26 rfl (hq_1 c0 c1)
  · refine v_ldc dX8_bounded_8 kc_RX8_56 ?_
    exact v_iret dX8_bounded_10 rfl (hq_2 c0)
theorem e_X10_filled {X : CX} {d nx sz : Nat} {Q : Option Value → AH → Prop} {h : AH} {x0 : Int32} (q : V X m_X10_filled (rm d 0 0) (ZM X Q nx sz 0 0) (nx, sz, 0, 0) 0 [some (.int x0), none, none] [] h) : Mk X d m_X10_filled [.int x0] h nx sz Q := by
  refine Mok.ofV mo_X10_filled (Nat.le_of_ble_eq_true rfl) (L := [some (.int x0)]) (lvLe_s lvLe_e) (v_grow (n := 2) ?_)
  exact q
theorem c_X10_filled_0 {X : CX} {R : Room} {Z : ZX} {A : AX} {h : AH} {x0 : Int32} (q : V X m_X10_filled R Z A 5 [some (.int x0), some (.int 0), some (.int 24)] [] h) : V X m_X10_filled R Z A 0 [some (.int x0), none, none] [] h := by
  refine v_iconst dX10_filled_0 ci_0 ?_
  refine v_istore_n dX10_filled_1 (by decide) (L' := [some (.int x0), some (.int 0), none]) rfl ?_
  refine v_bipush dX10_filled_2 cb_24 ?_
  refine v_istore_n dX10_filled_4 (by decide) (L' := [some (.int x0), some (.int 0), some (.int 24)]) rfl ?_
  exact q
theorem c_X10_filled_5 {X : CX} {R : Room} {Q : Option Value → AH → Prop} {nx sz mc ms : Nat} {h : AH} {x0 x1 x2 : Int32} (hq : x2 < 0 → Q (some (.int x1)) h) (q : ¬ x2 < 0 → (((x0 : Int32).toUInt32 >>> ((x2 : Int32).toUInt32 &&& Int32.toUInt32 31)).toInt32 &&& 255) = 0 → V X m_X10_filled R (ZM X Q nx sz mc ms) (nx, sz, mc, ms) 5 [some (.int x0), some (.int (x1 + 0)), some (.int (x2 + (-8)))] [] h) (q_1 : ¬ x2 < 0 → ¬ (((x0 : Int32).toUInt32 >>> ((x2 : Int32).toUInt32 &&& Int32.toUInt32 31)).toInt32 &&& 255) = 0 → V X m_X10_filled R (ZM X Q nx sz mc ms) (nx, sz, mc, ms) 5 [some (.int x0), some (.int (x1 + 1)), some (.int (x2 + (-8)))] [] h) : V X m_X10_filled R (ZM X Q nx sz mc ms) (nx, sz, mc, ms) 5 [some (.int x0), some (.int x1), some (.int x2)] [] h := by
  refine v_iload_n dX10_filled_5 rfl ?_
  refine v_if_lt (tgt := 33) dX10_filled_6 (by decide) (fun c0 => ?_) (fun c0 => ?_)
  · refine v_iload_n dX10_filled_33 rfl ?_
    exact v_iret dX10_filled_34 rfl (hq c0)
  · refine v_iload_n dX10_filled_9 rfl ?_
    refine v_iload_n dX10_filled_10 rfl ?_
    refine v_iload_n dX10_filled_11 rfl ?_
    refine v_iushr dX10_filled_12 ?_
    refine v_sipush dX10_filled_13 cs_255 ?_
    refine v_iand dX10_filled_16 ?_
    refine v_if_eq (tgt := 24) dX10_filled_17 (by decide) (fun c1 => ?_) (fun c1 => ?_)
    · refine v_iconst dX10_filled_24 ci_0 ?_
      refine v_iadd dX10_filled_25 ?_
      refine v_istore_n dX10_filled_26 (by decide) (L' := [some (.int x0), some (.int (x1 + 0)), some (.int x2)]) rfl ?_
      refine v_iinc (y := (x2 + (-8))) dX10_filled_27 rfl rfl (by decide) (L' := [some (.int x0), some (.int (x1 + 0)), some (.int (x2 + (-8)))]) rfl ?_
      refine v_goto (tgt := 5) dX10_filled_30 (by decide) ?_
      exact (q c0 c1)
    · refine v_iconst dX10_filled_20 ci_1 ?_
      refine v_goto (tgt := 25) dX10_filled_21 (by decide) ?_
      refine v_iadd dX10_filled_25 ?_
      refine v_istore_n dX10_filled_26 (by decide) (L' := [some (.int x0), some (.int (x1 + 1)), some (.int x2)]) rfl ?_
      refine v_iinc (y := (x2 + (-8))) dX10_filled_27 rfl rfl (by decide) (L' := [some (.int x0), some (.int (x1 + 1)), some (.int (x2 + (-8)))]) rfl ?_
      refine v_goto (tgt := 5) dX10_filled_30 (by decide) ?_
      exact (q_1 c0 c1)
theorem e_X10_add {X : CX} {d nx sz : Nat} {Q : Option Value → AH → Prop} {h : AH} {x1 : Int32} (q : V X m_X10_add (rm d 0 0) (ZM X Q nx sz 0 0) (nx, sz, 0, 0) 0 [some (.ref 23), some (.int x1), none, none] [] h) : Mk X d m_X10_add [.ref 23, .int x1] h nx sz Q := by
  refine Mok.ofV mo_X10_add (Nat.le_of_ble_eq_true rfl) (L := [some (.ref 23), some (.int x1)]) (lvLe_s (lvLe_s lvLe_e)) (v_grow (n := 2) ?_)
  exact q
theorem c_X10_add_0 {X : CX} {R : Room} {Z : ZX} {A : AX} {h : AH} {x1 : Int32} (q : V X m_X10_add R Z A 3 [some (.ref 23), some (.int x1), some (.int 24), none] [] h) : V X m_X10_add R Z A 0 [some (.ref 23), some (.int x1), none, none] [] h := by
  refine v_bipush dX10_add_0 cb_24 ?_
  refine v_istore_n dX10_add_2 (by decide) (L' := [some (.ref 23), some (.int x1), some (.int 24), none]) rfl ?_
  exact q
theorem c_X10_add_3 {X : CX} {R : Room} {Q : Option Value → AH → Prop} {nx sz mc ms : Nat} {h : AH} {x1 x2 : Int32} (hA0 : 91 ≤ nx) (hF : Fx h) (hq : x2 < 0 → Q none h) (q : ¬ x2 < 0 → (((x1 : Int32).toUInt32 >>> ((x2 : Int32).toUInt32 &&& Int32.toUInt32 31)).toInt32 &&& 255) = 0 → V X m_X10_add R (ZM X Q nx sz mc ms) (nx, sz, mc, ms) 3 [some (.ref 23), some (.int x1), some (.int (x2 + (-8))), none] [] h) (q_1 : ¬ x2 < 0 → ¬ (((x1 : Int32).toUInt32 >>> ((x2 : Int32).toUInt32 &&& Int32.toUInt32 31)).toInt32 &&& 255) = 0 → 200 ≤ (h.1 23 1) → V X m_X10_add R (ZM X Q nx sz mc ms) (nx, sz, mc, ms) 3 [some (.ref 23), some (.int x1), some (.int (x2 + (-8))), none] [] h) (hi_45 : ¬ x2 < 0 → ¬ (((x1 : Int32).toUInt32 >>> ((x2 : Int32).toUInt32 &&& Int32.toUInt32 31)).toInt32 &&& 255) = 0 → ¬ 200 ≤ (h.1 23 1) → vp_in (h.1 23 1) 200) (q_2 : ¬ x2 < 0 → ¬ (((x1 : Int32).toUInt32 >>> ((x2 : Int32).toUInt32 &&& Int32.toUInt32 31)).toInt32 &&& 255) = 0 → ¬ 200 ≤ (h.1 23 1) → V X m_X10_add R (ZM X Q nx sz mc ms) (nx, sz, mc, ms) 3 [some (.ref 23), some (.int x1), some (.int (x2 + (-8))), none] [] (setI (setI h 23 1 ((h.1 23 1) + 1)) 24 (h.1 23 1).toNatClampNeg (((x1 : Int32).toUInt32 >>> ((x2 : Int32).toUInt32 &&& Int32.toUInt32 31)).toInt32 &&& 255))) : V X m_X10_add R (ZM X Q nx sz mc ms) (nx, sz, mc, ms) 3 [some (.ref 23), some (.int x1), some (.int x2), none] [] h := by
  refine v_iload_n dX10_add_3 rfl ?_
  refine v_if_lt (tgt := 52) dX10_add_4 (by decide) (fun c0 => ?_) (fun c0 => ?_)
  · exact v_vret dX10_add_52 rfl (hq c0)
  · refine v_iload_n dX10_add_7 rfl ?_
    refine v_iload_n dX10_add_8 rfl ?_
    refine v_iushr dX10_add_9 ?_
    refine v_sipush dX10_add_10 cs_255 ?_
    refine v_iand dX10_add_13 ?_
    refine v_istore_n dX10_add_14 (by decide) (L' := [some (.ref 23), some (.int x1), some (.int x2), some (.int (((x1 : Int32).toUInt32 >>> ((x2 : Int32).toUInt32 &&& Int32.toUInt32 31)).toInt32 &&& 255))]) rfl ?_
    refine v_iload_n dX10_add_15 rfl ?_
    refine v_if_eq (tgt := 46) dX10_add_16 (by decide) (fun c1 => ?_) (fun c1 => ?_)
    · refine v_iinc (y := (x2 + (-8))) dX10_add_46 rfl rfl (by decide) (L' := [some (.ref 23), some (.int x1), some (.int (x2 + (-8))), some (.int (((x1 : Int32).toUInt32 >>> ((x2 : Int32).toUInt32 &&& Int32.toUInt32 31)).toInt32 &&& 255))]) rfl ?_
      refine v_goto (tgt := 3) dX10_add_49 (by decide) ?_
      exact (v_drop (lvLe_s (lvLe_s (lvLe_s (lvLe_n lvLe_e)))) (q c0 c1))
    · refine v_aload_n dX10_add_19 rfl ?_
      refine v_getI dX10_add_20 fl_RX10_15 kd_23 (ltA hA0 rfl) rfl ?_
      refine v_sipush dX10_add_23 cs_200 ?_
      refine v_icmp_ge (tgt := 46) dX10_add_26 (by decide) (fun c2 => ?_) (fun c2 => ?_)
      · refine v_iinc (y := (x2 + (-8))) dX10_add_46 rfl rfl (by decide) (L' := [some (.ref 23), some (.int x1), some (.int (x2 + (-8))), some (.int (((x1 : Int32).toUInt32 >>> ((x2 : Int32).toUInt32 &&& Int32.toUInt32 31)).toInt32 &&& 255))]) rfl ?_
        refine v_goto (tgt := 3) dX10_add_49 (by decide) ?_
        exact (v_drop (lvLe_s (lvLe_s (lvLe_s (lvLe_n lvLe_e)))) (q_1 c0 c1 c2))
      · refine v_aload_n dX10_add_29 rfl ?_
        refine v_getR dX10_add_30 fl_RX10_9 kd_23 (ltA hA0 rfl) rfl (hF 23 0 24 rfl) ?_
        refine v_aload_n dX10_add_33 rfl ?_
        refine v_dup dX10_add_34 rfl ?_
        refine v_getI dX10_add_35 fl_RX10_15 kd_23 (ltA hA0 rfl) rfl ?_
        refine v_dup_x1 dX10_add_38 rfl rfl ?_
        refine v_iconst dX10_add_39 ci_1 ?_
        refine v_iadd dX10_add_40 ?_
        refine v_putI rfl rfl rfl dX10_add_41 fl_RX10_15 (Or.inl rfl) kd_23 (ltA hA0 rfl) ?_
        refine v_iload_n dX10_add_44 rfl ?_
        refine v_iast dX10_add_45 kd_24 (ltA hA0 rfl) (hi_45 c0 c1 c2) ?_
        refine v_iinc (y := (x2 + (-8))) dX10_add_46 rfl rfl (by decide) (L' := [some (.ref 23), some (.int x1), some (.int (x2 + (-8))), some (.int (((x1 : Int32).toUInt32 >>> ((x2 : Int32).toUInt32 &&& Int32.toUInt32 31)).toInt32 &&& 255))]) rfl ?_
        refine v_goto (tgt := 3) dX10_add_49 (by decide) ?_
        exact (v_drop (lvLe_s (lvLe_s (lvLe_s (lvLe_n lvLe_e)))) (q_2 c0 c1 c2))
theorem e_X10_sign {X : CX} {d nx sz : Nat} {Q : Option Value → AH → Prop} {h : AH} {x1 : Int32} (q : V X m_X10_sign (rm d 0 0) (ZM X Q nx sz 0 0) (nx, sz, 0, 0) 0 [some (.ref 23), some (.int x1)] [] h) : Mk X d m_X10_sign [.ref 23, .int x1] h nx sz Q := by
  refine Mok.ofV mo_X10_sign (Nat.le_of_ble_eq_true rfl) (L := [some (.ref 23), some (.int x1)]) (lvLe_s (lvLe_s lvLe_e)) (v_grow (n := 0) ?_)
  exact q
theorem c_X10_sign_0 {X : CX} {R : Room} {Q : Option Value → AH → Prop} {nx sz mc ms : Nat} {h : AH} {x1 : Int32} (hA0 : 91 ≤ nx) (hF : Fx h) (hq : x1 < 0 → Q (some (.int 0)) h) (hq_1 : ¬ x1 < 0 → (h.1 23 1) ≤ x1 → Q (some (.int 0)) h) (hi_17 : ¬ x1 < 0 → ¬ (h.1 23 1) ≤ x1 → vp_in x1 200) (hq_2 : ¬ x1 < 0 → ¬ (h.1 23 1) ≤ x1 → Q (some (.int (h.1 24 x1.toNatClampNeg))) h) : V X m_X10_sign R (ZM X Q nx sz mc ms) (nx, sz, mc, ms) 0 [some (.ref 23), some (.int x1)] [] h := by
  refine v_iload_n dX10_sign_0 rfl ?_
  refine v_if_lt (tgt := 21) dX10_sign_1 (by decide) (fun c0 => ?_) (fun c0 => ?_)
  · refine v_iconst dX10_sign_21 ci_0 ?_
    exact v_iret dX10_sign_22 rfl (hq c0)
  · refine v_iload_n dX10_sign_4 rfl ?_
    refine v_aload_n dX10_sign_5 rfl ?_
    refine v_getI dX10_sign_6 fl_RX10_15 kd_23 (ltA hA0 rfl) rfl ?_
    refine v_icmp_ge (tgt := 21) dX10_sign_9 (by decide) (fun c1 => ?_) (fun c1 => ?_)
    · refine v_iconst dX10_sign_21 ci_0 ?_
      exact v_iret dX10_sign_22 rfl (hq_1 c0 c1)
    · refine v_aload_n dX10_sign_12 rfl ?_
      refine v_getR dX10_sign_13 fl_RX10_9 kd_23 (ltA hA0 rfl) rfl (hF 23 0 24 rfl) ?_
      refine v_iload_n dX10_sign_16 rfl ?_
      refine v_iald dX10_sign_17 kd_24 (ltA hA0 rfl) (hi_17 c0 c1) ?_
      refine v_goto (tgt := 22) dX10_sign_18 (by decide) ?_
      exact v_iret dX10_sign_22 rfl (hq_2 c0 c1)
theorem e_X10_pastBlanks {X : CX} {d nx sz : Nat} {Q : Option Value → AH → Prop} {h : AH} {x1 : Int32} (q : V X m_X10_pastBlanks (rm d 0 0) (ZM X Q nx sz 0 0) (nx, sz, 0, 0) 0 [some (.ref 23), some (.int x1), none] [] h) : Mk X d m_X10_pastBlanks [.ref 23, .int x1] h nx sz Q := by
  refine Mok.ofV mo_X10_pastBlanks (Nat.le_of_ble_eq_true rfl) (L := [some (.ref 23), some (.int x1)]) (lvLe_s (lvLe_s lvLe_e)) (v_grow (n := 1) ?_)
  exact q
theorem c_X10_pastBlanks_0 {X : CX} {R : Room} {Z : ZX} {A : AX} {h : AH} {x1 : Int32} (q : V X m_X10_pastBlanks R Z A 2 [some (.ref 23), none, some (.int x1)] [] h) : V X m_X10_pastBlanks R Z A 0 [some (.ref 23), some (.int x1), none] [] h := by
  refine v_iload_n dX10_pastBlanks_0 rfl ?_
  refine v_istore_n dX10_pastBlanks_1 (by decide) (L' := [some (.ref 23), some (.int x1), some (.int x1)]) rfl ?_
  exact (v_drop (lvLe_s (lvLe_n (lvLe_s lvLe_e))) q)
theorem c_X10_pastBlanks_2 {X : CX} {R : Room} {Q : Option Value → AH → Prop} {nx sz mc ms : Nat} {h : AH} {x2 : Int32} (hA0 : 91 ≤ nx) (hF : Fx h) (hq : x2 < 0 → Q (some (.int (h.1 23 1))) h) (hq_1 : ¬ x2 < 0 → (h.1 23 1) ≤ x2 → Q (some (.int (h.1 23 1))) h) (hi_19 : ¬ x2 < 0 → ¬ (h.1 23 1) ≤ x2 → vp_in x2 200) (q : ¬ x2 < 0 → ¬ (h.1 23 1) ≤ x2 → (h.1 24 x2.toNatClampNeg) = 32 → V X m_X10_pastBlanks R (ZM X Q nx sz mc ms) (nx, sz, mc, ms) 2 [some (.ref 23), none, some (.int (x2 + 1))] [] h) (hq_2 : ¬ x2 < 0 → ¬ (h.1 23 1) ≤ x2 → ¬ (h.1 24 x2.toNatClampNeg) = 32 → Q (some (.int x2)) h) : V X m_X10_pastBlanks R (ZM X Q nx sz mc ms) (nx, sz, mc, ms) 2 [some (.ref 23), none, some (.int x2)] [] h := by
  refine v_iload_n dX10_pastBlanks_2 rfl ?_
  refine v_if_lt (tgt := 33) dX10_pastBlanks_3 (by decide) (fun c0 => ?_) (fun c0 => ?_)
  · refine v_aload_n dX10_pastBlanks_33 rfl ?_
    refine v_getI dX10_pastBlanks_34 fl_RX10_15 kd_23 (ltA hA0 rfl) rfl ?_
    exact v_iret dX10_pastBlanks_37 rfl (hq c0)
  · refine v_iload_n dX10_pastBlanks_6 rfl ?_
    refine v_aload_n dX10_pastBlanks_7 rfl ?_
    refine v_getI dX10_pastBlanks_8 fl_RX10_15 kd_23 (ltA hA0 rfl) rfl ?_
    refine v_icmp_ge (tgt := 33) dX10_pastBlanks_11 (by decide) (fun c1 => ?_) (fun c1 => ?_)
    · refine v_aload_n dX10_pastBlanks_33 rfl ?_
      refine v_getI dX10_pastBlanks_34 fl_RX10_15 kd_23 (ltA hA0 rfl) rfl ?_
      exact v_iret dX10_pastBlanks_37 rfl (hq_1 c0 c1)
    · refine v_aload_n dX10_pastBlanks_14 rfl ?_
      refine v_getR dX10_pastBlanks_15 fl_RX10_9 kd_23 (ltA hA0 rfl) rfl (hF 23 0 24 rfl) ?_
      refine v_iload_n dX10_pastBlanks_18 rfl ?_
      refine v_iald dX10_pastBlanks_19 kd_24 (ltA hA0 rfl) (hi_19 c0 c1) ?_
      refine v_bipush dX10_pastBlanks_20 cb_32 ?_
      refine v_icmp_eq (tgt := 27) dX10_pastBlanks_22 (by decide) (fun c2 => ?_) (fun c2 => ?_)
      · refine v_iinc (y := (x2 + 1)) dX10_pastBlanks_27 rfl rfl (by decide) (L' := [some (.ref 23), none, some (.int (x2 + 1))]) rfl ?_
        refine v_goto (tgt := 2) dX10_pastBlanks_30 (by decide) ?_
        exact (q c0 c1 c2)
      · refine v_iload_n dX10_pastBlanks_25 rfl ?_
        exact v_iret dX10_pastBlanks_26 rfl (hq_2 c0 c1 c2)
