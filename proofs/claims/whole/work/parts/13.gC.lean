/-! stretches of code, by program -/
theorem e_X0_pass {X : CX} {d nx sz : Nat} {Q : Option Value → AH → Prop} {h : AH} {x1 x2 x3 : Int32} {j4 : Int64} (q : V X m_X0_pass (rm d 0 0) (ZM X Q nx sz 0 0) (nx, sz, 0, 0) 0 [some (.ref 66), some (.int x1), some (.int x2), some (.int x3), some (.long j4), none, none, none, none] [] h) : Mk X d m_X0_pass [.ref 66, .int x1, .int x2, .int x3, .long j4] h nx sz Q := by
  refine Mok.ofV mo_X0_pass (Nat.le_of_ble_eq_true rfl) (L := [some (.ref 66), some (.int x1), some (.int x2), some (.int x3), some (.long j4), none]) (lvLe_s (lvLe_s (lvLe_s (lvLe_s (lvLe_s (lvLe_n lvLe_e)))))) (v_grow (n := 3) ?_)
  exact q
theorem c_X0_pass_0 {X : CX} {R : Room} {Z : ZX} {A : AX} {h : AH} {x1 x2 x3 : Int32} {j4 : Int64} {d : Nat} {P4 : AH → Prop} (hA0 : 91 ≤ A.1) (hF : Fx h) (hR : RO R (d + 1)) (hcs : A.2.2.1 ≤ R.cells ∧ A.2.2.2 ≤ R.slots) (hM : Mk X d m_X8_forgetLetters [.ref 29] h A.1 A.2.1 (RV P4)) (q : ∀ (g : AH), P4 g → V X m_X0_pass R Z A 7 [some (.ref 66), some (.int x1), some (.int x2), some (.int x3), some (.long j4), none, none, none, none] [] g) : V X m_X0_pass R Z A 0 [some (.ref 66), some (.int x1), some (.int x2), some (.int x3), some (.long j4), none, none, none, none] [] h := by
  refine v_aload_n dX0_pass_0 rfl ?_
  refine v_getR dX0_pass_1 fl_RX0_19 kd_66 (ltA hA0 rfl) rfl (hF 66 1 29 rfl) ?_
  exact v_cVV (mt := m_X0_pass) mo_X8_forgetLetters ml_RX0_27 mi_X8_forgetLetters mv_X8_forgetLetters rfl kd_29 cl_8 rfl (ltA hA0 rfl) hR hcs (Nat.le_of_ble_eq_true rfl) dX0_pass_4 rfl hM (fun g hp => (q g hp))
theorem c_X0_pass_7 {X : CX} {R : Room} {Z : ZX} {A : AX} {h : AH} {x1 x2 x3 : Int32} {j4 : Int64} (hA0 : 91 ≤ A.1) (q : V X m_X0_pass R Z A 19 [some (.ref 66), some (.int x1), some (.int x2), some (.int x3), none, none, some (.int 0), some (.int 0), none] [] (setL h 66 4 j4)) : V X m_X0_pass R Z A 7 [some (.ref 66), some (.int x1), some (.int x2), some (.int x3), some (.long j4), none, none, none, none] [] h := by
  refine v_aload_n dX0_pass_7 rfl ?_
  refine v_lload dX0_pass_8 rfl ?_
  refine v_putL rfl dX0_pass_10 fl_RX0_32 (Or.inl rfl) kd_66 (ltA hA0 rfl) ?_
  refine v_iconst dX0_pass_13 ci_0 ?_
  refine v_istore dX0_pass_14 (by decide) (L' := [some (.ref 66), some (.int x1), some (.int x2), some (.int x3), some (.long j4), none, some (.int 0), none, none]) rfl ?_
  refine v_iconst dX0_pass_16 ci_0 ?_
  refine v_istore dX0_pass_17 (by decide) (L' := [some (.ref 66), some (.int x1), some (.int x2), some (.int x3), some (.long j4), none, some (.int 0), some (.int 0), none]) rfl ?_
  exact (v_drop (lvLe_s (lvLe_s (lvLe_s (lvLe_s (lvLe_n (lvLe_n (lvLe_s (lvLe_s (lvLe_n lvLe_e))))))))) q)
theorem c_X0_pass_19 {X : CX} {R : Room} {Q : Option Value → AH → Prop} {nx sz mc ms : Nat} {h : AH} {x1 x2 x3 x6 x7 : Int32} {d : Nat} {P29 : Int32 → AH → Prop} (hA0 : 91 ≤ nx) (hR : RO R (d + 1)) (hcs : mc ≤ R.cells ∧ ms ≤ R.slots) (hq : x3 ≤ x7 → Q (some (.int x6)) h) (hM : ¬ x3 ≤ x7 → Mk X d m_X0_dyings [.ref 66, .int x2] h nx sz (RI P29)) (q : ¬ x3 ≤ x7 → ∀ (y : Int32) (g : AH), P29 y g → V X m_X0_pass R (ZM X Q nx sz mc ms) (nx, sz, mc, ms) 32 [some (.ref 66), some (.int x1), some (.int x2), some (.int x3), none, none, none, some (.int x7), none] [.int y, .int x6] g) : V X m_X0_pass R (ZM X Q nx sz mc ms) (nx, sz, mc, ms) 19 [some (.ref 66), some (.int x1), some (.int x2), some (.int x3), none, none, some (.int x6), some (.int x7), none] [] h := by
  refine v_iload dX0_pass_19 rfl ?_
  refine v_iload_n dX0_pass_21 rfl ?_
  refine v_icmp_ge (tgt := 69) dX0_pass_22 (by decide) (fun c0 => ?_) (fun c0 => ?_)
  · refine v_iload dX0_pass_69 rfl ?_
    exact v_iret dX0_pass_71 rfl (hq c0)
  · refine v_iload dX0_pass_25 rfl ?_
    refine v_aload_n dX0_pass_27 rfl ?_
    refine v_iload_n dX0_pass_28 rfl ?_
    exact v_cVI (mt := m_X0_pass) mo_X0_dyings ml_RX0_36 mi_X0_dyings mv_X0_dyings rfl kd_66 cl_0 rfl (ltA hA0 rfl) hR hcs (Nat.le_of_ble_eq_true rfl) dX0_pass_29 rfl (hM c0) (fun y g hp => (v_drop (lvLe_s (lvLe_s (lvLe_s (lvLe_s (lvLe_n (lvLe_n (lvLe_n (lvLe_s (lvLe_n lvLe_e))))))))) ((q c0) y g hp)))
theorem c_X0_pass_32 {X : CX} {R : Room} {Z : ZX} {A : AX} {h : AH} {x1 x2 x3 x7 s0 s1 : Int32} (q : V X m_X0_pass R Z A 38 [some (.ref 66), some (.int x1), some (.int x2), some (.int x3), none, none, some (.int (s0 + s1)), some (.int x7), some (.int 0)] [] h) : V X m_X0_pass R Z A 32 [some (.ref 66), some (.int x1), some (.int x2), some (.int x3), none, none, none, some (.int x7), none] [.int s1, .int s0] h := by
  refine v_iadd dX0_pass_32 ?_
  refine v_istore dX0_pass_33 (by decide) (L' := [some (.ref 66), some (.int x1), some (.int x2), some (.int x3), none, none, some (.int (s0 + s1)), some (.int x7), none]) rfl ?_
  refine v_iconst dX0_pass_35 ci_0 ?_
  refine v_istore dX0_pass_36 (by decide) (L' := [some (.ref 66), some (.int x1), some (.int x2), some (.int x3), none, none, some (.int (s0 + s1)), some (.int x7), some (.int 0)]) rfl ?_
  exact q
theorem c_X0_pass_38 {X : CX} {R : Room} {Z : ZX} {A : AX} {h : AH} {x1 x2 x3 x6 x7 x8 : Int32} {d : Nat} {P54 : AH → Prop} (hA0 : 91 ≤ A.1) (hF : Fx h) (hR : RO R (d + 1)) (hcs : A.2.2.1 ≤ R.cells ∧ A.2.2.2 ≤ R.slots) (q : (h.1 1 0) ≤ x8 → V X m_X0_pass R Z A 19 [some (.ref 66), some (.int x1), some (.int x2), some (.int x3), none, none, some (.int x6), some (.int (x7 + 1)), none] [] h) (hM : ¬ (h.1 1 0) ≤ x8 → Mk X d m_X0_look [.ref 66, .int x1, .int x8] h A.1 A.2.1 (RV P54)) (q_1 : ¬ (h.1 1 0) ≤ x8 → ∀ (g : AH), P54 g → V X m_X0_pass R Z A 57 [some (.ref 66), some (.int x1), some (.int x2), some (.int x3), none, none, some (.int x6), some (.int x7), some (.int x8)] [] g) : V X m_X0_pass R Z A 38 [some (.ref 66), some (.int x1), some (.int x2), some (.int x3), none, none, some (.int x6), some (.int x7), some (.int x8)] [] h := by
  refine v_iload dX0_pass_38 rfl ?_
  refine v_aload_n dX0_pass_40 rfl ?_
  refine v_getR dX0_pass_41 fl_RX0_15 kd_66 (ltA hA0 rfl) rfl (hF 66 0 1 rfl) ?_
  refine v_getI dX0_pass_44 fl_RX0_40 kd_1 (ltA hA0 rfl) rfl ?_
  refine v_icmp_ge (tgt := 63) dX0_pass_47 (by decide) (fun c0 => ?_) (fun c0 => ?_)
  · refine v_iinc (y := (x7 + 1)) dX0_pass_63 rfl rfl (by decide) (L' := [some (.ref 66), some (.int x1), some (.int x2), some (.int x3), none, none, some (.int x6), some (.int (x7 + 1)), some (.int x8)]) rfl ?_
    refine v_goto (tgt := 19) dX0_pass_66 (by decide) ?_
    exact (v_drop (lvLe_s (lvLe_s (lvLe_s (lvLe_s (lvLe_n (lvLe_n (lvLe_s (lvLe_s (lvLe_n lvLe_e))))))))) (q c0))
  · refine v_aload_n dX0_pass_50 rfl ?_
    refine v_iload_n dX0_pass_51 rfl ?_
    refine v_iload dX0_pass_52 rfl ?_
    exact v_cVV (mt := m_X0_pass) mo_X0_look ml_RX0_46 mi_X0_look mv_X0_look rfl kd_66 cl_0 rfl (ltA hA0 rfl) hR hcs (Nat.le_of_ble_eq_true rfl) dX0_pass_54 rfl (hM c0) (fun g hp => ((q_1 c0) g hp))
theorem c_X0_pass_57 {X : CX} {R : Room} {Z : ZX} {A : AX} {h : AH} {x1 x2 x3 x6 x7 x8 : Int32} (q : V X m_X0_pass R Z A 38 [some (.ref 66), some (.int x1), some (.int x2), some (.int x3), none, none, some (.int x6), some (.int x7), some (.int (x8 + 1))] [] h) : V X m_X0_pass R Z A 57 [some (.ref 66), some (.int x1), some (.int x2), some (.int x3), none, none, some (.int x6), some (.int x7), some (.int x8)] [] h := by
  refine v_iinc (y := (x8 + 1)) dX0_pass_57 rfl rfl (by decide) (L' := [some (.ref 66), some (.int x1), some (.int x2), some (.int x3), none, none, some (.int x6), some (.int x7), some (.int (x8 + 1))]) rfl ?_
  refine v_goto (tgt := 38) dX0_pass_60 (by decide) ?_
  exact q
theorem e_X0_dyings {X : CX} {d nx sz : Nat} {Q : Option Value → AH → Prop} {h : AH} {x1 : Int32} (q : V X m_X0_dyings (rm d 0 0) (ZM X Q nx sz 0 0) (nx, sz, 0, 0) 0 [some (.ref 66), some (.int x1), none, none] [] h) : Mk X d m_X0_dyings [.ref 66, .int x1] h nx sz Q := by
  refine Mok.ofV mo_X0_dyings (Nat.le_of_ble_eq_true rfl) (L := [some (.ref 66), some (.int x1)]) (lvLe_s (lvLe_s lvLe_e)) (v_grow (n := 2) ?_)
  exact q
theorem c_X0_dyings_0 {X : CX} {R : Room} {Z : ZX} {A : AX} {h : AH} {x1 : Int32} (q : V X m_X0_dyings R Z A 4 [some (.ref 66), some (.int x1), some (.int 0), some (.int 0)] [] h) : V X m_X0_dyings R Z A 0 [some (.ref 66), some (.int x1), none, none] [] h := by
  refine v_iconst dX0_dyings_0 ci_0 ?_
  refine v_istore_n dX0_dyings_1 (by decide) (L' := [some (.ref 66), some (.int x1), some (.int 0), none]) rfl ?_
  refine v_iconst dX0_dyings_2 ci_0 ?_
  refine v_istore_n dX0_dyings_3 (by decide) (L' := [some (.ref 66), some (.int x1), some (.int 0), some (.int 0)]) rfl ?_
  exact q
theorem c_X0_dyings_4 {X : CX} {R : Room} {Q : Option Value → AH → Prop} {nx sz mc ms : Nat} {h : AH} {x1 x2 x3 : Int32} {d : Nat} {P50 : AH → Prop} (hA0 : 91 ≤ nx) (hF : Fx h) (hR : RO R (d + 1)) (hcs : mc ≤ R.cells ∧ ms ≤ R.slots) (hq : (h.1 1 0) ≤ x3 → Q (some (.int x2)) h) (hi_78 : ¬ (h.1 1 0) ≤ x3 → 0 ≤ (lg_cmp ((((((h.2.1 66 4) * 6364136223846793005) + 1442695040888963407) : Int64).toUInt64 >>> ((33 : Int32).toInt64.toUInt64 &&& Int64.toUInt64 63)).toInt64 - (((((h.2.1 66 4) * 6364136223846793005) + 1442695040888963407) : Int64).toUInt64 >>> ((33 : Int32).toInt64.toUInt64 &&& Int64.toUInt64 63)).toInt64 / 100 * 100) ((x1 : Int32).toInt64)) → vp_in x3 20) (hi_81 : ¬ (h.1 1 0) ≤ x3 → 0 ≤ (lg_cmp ((((((h.2.1 66 4) * 6364136223846793005) + 1442695040888963407) : Int64).toUInt64 >>> ((33 : Int32).toInt64.toUInt64 &&& Int64.toUInt64 63)).toInt64 - (((((h.2.1 66 4) * 6364136223846793005) + 1442695040888963407) : Int64).toUInt64 >>> ((33 : Int32).toInt64.toUInt64 &&& Int64.toUInt64 63)).toInt64 / 100 * 100) ((x1 : Int32).toInt64)) → vp_in x3 20) (q : ¬ (h.1 1 0) ≤ x3 → 0 ≤ (lg_cmp ((((((h.2.1 66 4) * 6364136223846793005) + 1442695040888963407) : Int64).toUInt64 >>> ((33 : Int32).toInt64.toUInt64 &&& Int64.toUInt64 63)).toInt64 - (((((h.2.1 66 4) * 6364136223846793005) + 1442695040888963407) : Int64).toUInt64 >>> ((33 : Int32).toInt64.toUInt64 &&& Int64.toUInt64 63)).toInt64 / 100 * 100) ((x1 : Int32).toInt64)) → V X m_X0_dyings R (ZM X Q nx sz mc ms) (nx, sz, mc, ms) 4 [some (.ref 66), some (.int x1), some (.int x2), some (.int (x3 + 1))] [] (setI (setL h 66 4 (((h.2.1 66 4) * 6364136223846793005) + 1442695040888963407)) 4 x3.toNatClampNeg ((h.1 4 x3.toNatClampNeg) + 1))) (hM : ¬ (h.1 1 0) ≤ x3 → ¬ 0 ≤ (lg_cmp ((((((h.2.1 66 4) * 6364136223846793005) + 1442695040888963407) : Int64).toUInt64 >>> ((33 : Int32).toInt64.toUInt64 &&& Int64.toUInt64 63)).toInt64 - (((((h.2.1 66 4) * 6364136223846793005) + 1442695040888963407) : Int64).toUInt64 >>> ((33 : Int32).toInt64.toUInt64 &&& Int64.toUInt64 63)).toInt64 / 100 * 100) ((x1 : Int32).toInt64)) → Mk X d m_X0_leave [.ref 66, .int x3] (setL h 66 4 (((h.2.1 66 4) * 6364136223846793005) + 1442695040888963407)) nx sz (RV P50)) (q_1 : ¬ (h.1 1 0) ≤ x3 → ¬ 0 ≤ (lg_cmp ((((((h.2.1 66 4) * 6364136223846793005) + 1442695040888963407) : Int64).toUInt64 >>> ((33 : Int32).toInt64.toUInt64 &&& Int64.toUInt64 63)).toInt64 - (((((h.2.1 66 4) * 6364136223846793005) + 1442695040888963407) : Int64).toUInt64 >>> ((33 : Int32).toInt64.toUInt64 &&& Int64.toUInt64 63)).toInt64 / 100 * 100) ((x1 : Int32).toInt64)) → ∀ (g : AH), P50 g → V X m_X0_dyings R (ZM X Q nx sz mc ms) (nx, sz, mc, ms) 53 [some (.ref 66), some (.int x1), some (.int x2), some (.int x3)] [] g) : V X m_X0_dyings R (ZM X Q nx sz mc ms) (nx, sz, mc, ms) 4 [some (.ref 66), some (.int x1), some (.int x2), some (.int x3)] [] h := by
  refine v_iload_n dX0_dyings_4 rfl ?_
  refine v_aload_n dX0_dyings_5 rfl ?_
  refine v_getR dX0_dyings_6 fl_RX0_15 kd_66 (ltA hA0 rfl) rfl (hF 66 0 1 rfl) ?_
  refine v_getI dX0_dyings_9 fl_RX0_40 kd_1 (ltA hA0 rfl) rfl ?_
  refine v_icmp_ge (tgt := 88) dX0_dyings_12 (by decide) (fun c0 => ?_) (fun c0 => ?_)
  · refine v_iload_n dX0_dyings_88 rfl ?_
    exact v_iret dX0_dyings_89 rfl (hq c0)
  · refine v_aload_n dX0_dyings_15 rfl ?_
    refine v_aload_n dX0_dyings_16 rfl ?_
    refine v_getL dX0_dyings_17 fl_RX0_32 kd_66 (ltA hA0 rfl) rfl ?_
    refine v_ldc2 dX0_dyings_20 kl_RX0_50 ?_
    refine v_lmul dX0_dyings_23 ?_
    refine v_ldc2 dX0_dyings_24 kl_RX0_52 ?_
    refine v_ladd dX0_dyings_27 ?_
    refine v_putL rfl dX0_dyings_28 fl_RX0_32 (Or.inl rfl) kd_66 (ltA hA0 rfl) ?_
    refine v_aload_n dX0_dyings_31 rfl ?_
    refine v_getL dX0_dyings_32 fl_RX0_32 kd_66 (ltA hA0 rfl) rfl ?_
    refine v_bipush dX0_dyings_35 cb_33 ?_
    refine v_lushr dX0_dyings_37 ?_
    refine v_ldc2 dX0_dyings_38 kl_RX0_54 ?_
    refine v_lrem dX0_dyings_41 (by decide) ?_
    refine v_iload_n dX0_dyings_42 rfl ?_
    refine v_i2l dX0_dyings_43 ?_
    refine v_lcmp dX0_dyings_44 ?_
    refine v_if_ge (tgt := 69) dX0_dyings_45 (by decide) (fun c1 => ?_) (fun c1 => ?_)
    · refine v_aload_n dX0_dyings_69 rfl ?_
      refine v_getR dX0_dyings_70 fl_RX0_15 kd_66 (ltA hA0 rfl) rfl (hF 66 0 1 rfl) ?_
      refine v_getR dX0_dyings_73 fl_RX0_60 kd_1 (ltA hA0 rfl) rfl (hF 1 4 4 rfl) ?_
      refine v_iload_n dX0_dyings_76 rfl ?_
      refine v_dup2 dX0_dyings_77 rfl rfl ?_
      refine v_iald dX0_dyings_78 kd_4 (ltA hA0 rfl) (hi_78 c0 c1) ?_
      refine v_iconst dX0_dyings_79 ci_1 ?_
      refine v_iadd dX0_dyings_80 ?_
      refine v_iast dX0_dyings_81 kd_4 (ltA hA0 rfl) (hi_81 c0 c1) ?_
      refine v_iinc (y := (x3 + 1)) dX0_dyings_82 rfl rfl (by decide) (L' := [some (.ref 66), some (.int x1), some (.int x2), some (.int (x3 + 1))]) rfl ?_
      refine v_goto (tgt := 4) dX0_dyings_85 (by decide) ?_
      exact (q c0 c1)
    · refine v_aload_n dX0_dyings_48 rfl ?_
      refine v_iload_n dX0_dyings_49 rfl ?_
      exact v_cVV (mt := m_X0_dyings) mo_X0_leave ml_RX0_56 mi_X0_leave mv_X0_leave rfl kd_66 cl_0 rfl (ltA hA0 rfl) hR hcs (Nat.le_of_ble_eq_true rfl) dX0_dyings_50 rfl (hM c0 c1) (fun g hp => ((q_1 c0 c1) g hp))
theorem c_X0_dyings_53 {X : CX} {R : Room} {Z : ZX} {A : AX} {h : AH} {x1 x2 x3 : Int32} (hA0 : 91 ≤ A.1) (hF : Fx h) (hi_62 : vp_in x3 20) (q : V X m_X0_dyings R Z A 4 [some (.ref 66), some (.int x1), some (.int (x2 + 1)), some (.int (x3 + 1))] [] (setI h 4 x3.toNatClampNeg 0)) : V X m_X0_dyings R Z A 53 [some (.ref 66), some (.int x1), some (.int x2), some (.int x3)] [] h := by
  refine v_aload_n dX0_dyings_53 rfl ?_
  refine v_getR dX0_dyings_54 fl_RX0_15 kd_66 (ltA hA0 rfl) rfl (hF 66 0 1 rfl) ?_
  refine v_getR dX0_dyings_57 fl_RX0_60 kd_1 (ltA hA0 rfl) rfl (hF 1 4 4 rfl) ?_
  refine v_iload_n dX0_dyings_60 rfl ?_
  refine v_iconst dX0_dyings_61 ci_0 ?_
  refine v_iast dX0_dyings_62 kd_4 (ltA hA0 rfl) hi_62 ?_
  refine v_iinc (y := (x2 + 1)) dX0_dyings_63 rfl rfl (by decide) (L' := [some (.ref 66), some (.int x1), some (.int (x2 + 1)), some (.int x3)]) rfl ?_
  refine v_goto (tgt := 82) dX0_dyings_66 (by decide) ?_
  refine v_iinc (y := (x3 + 1)) dX0_dyings_82 rfl rfl (by decide) (L' := [some (.ref 66), some (.int x1), some (.int (x2 + 1)), some (.int (x3 + 1))]) rfl ?_
  refine v_goto (tgt := 4) dX0_dyings_85 (by decide) ?_
  exact q
theorem e_X0_leave {X : CX} {d nx sz : Nat} {Q : Option Value → AH → Prop} {h : AH} {x1 : Int32} (q : V X m_X0_leave (rm d 0 0) (ZM X Q nx sz 0 0) (nx, sz, 0, 0) 0 [some (.ref 66), some (.int x1), none] [] h) : Mk X d m_X0_leave [.ref 66, .int x1] h nx sz Q := by
  refine Mok.ofV mo_X0_leave (Nat.le_of_ble_eq_true rfl) (L := [some (.ref 66), some (.int x1)]) (lvLe_s (lvLe_s lvLe_e)) (v_grow (n := 1) ?_)
  exact q
theorem c_X0_leave_0 {X : CX} {R : Room} {Z : ZX} {A : AX} {h : AH} {x1 : Int32} (q : V X m_X0_leave R Z A 2 [some (.ref 66), some (.int x1), some (.int 0)] [] h) : V X m_X0_leave R Z A 0 [some (.ref 66), some (.int x1), none] [] h := by
  refine v_iconst dX0_leave_0 ci_0 ?_
  refine v_istore_n dX0_leave_1 (by decide) (L' := [some (.ref 66), some (.int x1), some (.int 0)]) rfl ?_
  exact q
theorem c_X0_leave_2 {X : CX} {R : Room} {Q : Option Value → AH → Prop} {nx sz mc ms : Nat} {h : AH} {x1 x2 : Int32} {d : Nat} {P19 : AH → Prop} (hA0 : 91 ≤ nx) (hF : Fx h) (hR : RO R (d + 1)) (hcs : mc ≤ R.cells ∧ ms ≤ R.slots) (hq : (h.1 1 0) ≤ x2 → Q none h) (hM : ¬ (h.1 1 0) ≤ x2 → Mk X d m_X3_part [.ref 1, .int x1, .int x2] h nx sz (RV P19)) (q : ¬ (h.1 1 0) ≤ x2 → ∀ (g : AH), P19 g → V X m_X0_leave R (ZM X Q nx sz mc ms) (nx, sz, mc, ms) 22 [some (.ref 66), some (.int x1), some (.int x2)] [] g) : V X m_X0_leave R (ZM X Q nx sz mc ms) (nx, sz, mc, ms) 2 [some (.ref 66), some (.int x1), some (.int x2)] [] h := by
  refine v_iload_n dX0_leave_2 rfl ?_
  refine v_aload_n dX0_leave_3 rfl ?_
  refine v_getR dX0_leave_4 fl_RX0_15 kd_66 (ltA hA0 rfl) rfl (hF 66 0 1 rfl) ?_
  refine v_getI dX0_leave_7 fl_RX0_40 kd_1 (ltA hA0 rfl) rfl ?_
  refine v_icmp_ge (tgt := 28) dX0_leave_10 (by decide) (fun c0 => ?_) (fun c0 => ?_)
  · exact v_vret dX0_leave_28 rfl (hq c0)
  · refine v_aload_n dX0_leave_13 rfl ?_
    refine v_getR dX0_leave_14 fl_RX0_15 kd_66 (ltA hA0 rfl) rfl (hF 66 0 1 rfl) ?_
    refine v_iload_n dX0_leave_17 rfl ?_
    refine v_iload_n dX0_leave_18 rfl ?_
    exact v_cVV (mt := m_X0_leave) mo_X3_part ml_RX0_63 mi_X3_part mv_X3_part rfl kd_1 cl_3 rfl (ltA hA0 rfl) hR hcs (Nat.le_of_ble_eq_true rfl) dX0_leave_19 rfl (hM c0) (fun g hp => ((q c0) g hp))
theorem c_X0_leave_22 {X : CX} {R : Room} {Z : ZX} {A : AX} {h : AH} {x1 x2 : Int32} (q : V X m_X0_leave R Z A 2 [some (.ref 66), some (.int x1), some (.int (x2 + 1))] [] h) : V X m_X0_leave R Z A 22 [some (.ref 66), some (.int x1), some (.int x2)] [] h := by
  refine v_iinc (y := (x2 + 1)) dX0_leave_22 rfl rfl (by decide) (L' := [some (.ref 66), some (.int x1), some (.int (x2 + 1))]) rfl ?_
  refine v_goto (tgt := 2) dX0_leave_25 (by decide) ?_
  exact q
theorem e_X0_look {X : CX} {d nx sz : Nat} {Q : Option Value → AH → Prop} {h : AH} {x1 x2 : Int32} (q : V X m_X0_look (rm d 0 0) (ZM X Q nx sz 0 0) (nx, sz, 0, 0) 0 [some (.ref 66), some (.int x1), some (.int x2), none, none, none] [] h) : Mk X d m_X0_look [.ref 66, .int x1, .int x2] h nx sz Q := by
  refine Mok.ofV mo_X0_look (Nat.le_of_ble_eq_true rfl) (L := [some (.ref 66), some (.int x1), some (.int x2)]) (lvLe_s (lvLe_s (lvLe_s lvLe_e))) (v_grow (n := 3) ?_)
  exact q
theorem c_X0_look_0 {X : CX} {R : Room} {Z : ZX} {A : AX} {h : AH} {x1 x2 : Int32} {d : Nat} {P9 : AH → Prop} (hA0 : 91 ≤ A.1) (hF : Fx h) (hR : RO R (d + 1)) (hcs : A.2.2.1 ≤ R.cells ∧ A.2.2.2 ≤ R.slots) (hM : Mk X d m_X3_measure [.ref 1, .int x2, .ref 67] h A.1 A.2.1 (RV P9)) (q : ∀ (g : AH), P9 g → V X m_X0_look R Z A 12 [some (.ref 66), some (.int x1), some (.int x2), none, none, none] [] g) : V X m_X0_look R Z A 0 [some (.ref 66), some (.int x1), some (.int x2), none, none, none] [] h := by
  refine v_aload_n dX0_look_0 rfl ?_
  refine v_getR dX0_look_1 fl_RX0_15 kd_66 (ltA hA0 rfl) rfl (hF 66 0 1 rfl) ?_
  refine v_iload_n dX0_look_4 rfl ?_
  refine v_aload_n dX0_look_5 rfl ?_
  refine v_getR dX0_look_6 fl_RX0_9 kd_66 (ltA hA0 rfl) rfl (hF 66 3 67 rfl) ?_
  exact v_cVV (mt := m_X0_look) mo_X3_measure ml_RX0_66 mi_X3_measure mv_X3_measure rfl kd_1 cl_3 rfl (ltA hA0 rfl) hR hcs (Nat.le_of_ble_eq_true rfl) dX0_look_9 rfl hM (fun g hp => (q g hp))
theorem c_X0_look_12 {X : CX} {R : Room} {Z : ZX} {A : AX} {h : AH} {x1 x2 : Int32} {d : Nat} {P15 : Int32 → AH → Prop} (hA0 : 91 ≤ A.1) (hR : RO R (d + 1)) (hcs : A.2.2.1 ≤ R.cells ∧ A.2.2.2 ≤ R.slots) (hM : Mk X d m_X0_bestStranger [.ref 66, .int x1, .int x2] h A.1 A.2.1 (RI P15)) (q : ∀ (y : Int32) (g : AH), P15 y g → V X m_X0_look R Z A 18 [some (.ref 66), some (.int x1), some (.int x2), none, none, none] [.int y] g) : V X m_X0_look R Z A 12 [some (.ref 66), some (.int x1), some (.int x2), none, none, none] [] h := by
  refine v_aload_n dX0_look_12 rfl ?_
  refine v_iload_n dX0_look_13 rfl ?_
  refine v_iload_n dX0_look_14 rfl ?_
  exact v_cVI (mt := m_X0_look) mo_X0_bestStranger ml_RX0_70 mi_X0_bestStranger mv_X0_bestStranger rfl kd_66 cl_0 rfl (ltA hA0 rfl) hR hcs (Nat.le_of_ble_eq_true rfl) dX0_look_15 rfl hM (fun y g hp => (q y g hp))
theorem c_X0_look_18 {X : CX} {R : Room} {Q : Option Value → AH → Prop} {nx sz mc ms : Nat} {h : AH} {x1 x2 s0 : Int32} {d : Nat} {P29 : Int32 → AH → Prop} (hA0 : 91 ≤ nx) (hR : RO R (d + 1)) (hcs : mc ≤ R.cells ∧ ms ≤ R.slots) (hM : ¬ s0 = (-1) → Mk X d m_X0_worthOf [.ref 66, .int x1, .int x2, .int s0] h nx sz (RI P29)) (q : ¬ s0 = (-1) → ∀ (y : Int32) (g : AH), P29 y g → V X m_X0_look R (ZM X Q nx sz mc ms) (nx, sz, mc, ms) 32 [some (.ref 66), some (.int x1), some (.int x2), some (.int s0), none, none] [.int y] g) (hq : s0 = (-1) → Q none h) : V X m_X0_look R (ZM X Q nx sz mc ms) (nx, sz, mc, ms) 18 [some (.ref 66), some (.int x1), some (.int x2), none, none, none] [.int s0] h := by
  refine v_istore_n dX0_look_18 (by decide) (L' := [some (.ref 66), some (.int x1), some (.int x2), some (.int s0), none, none]) rfl ?_
  refine v_iload_n dX0_look_19 rfl ?_
  refine v_iconst dX0_look_20 ci_m1 ?_
  refine v_icmp_ne (tgt := 25) dX0_look_21 (by decide) (fun c0 => ?_) (fun c0 => ?_)
  · refine v_aload_n dX0_look_25 rfl ?_
    refine v_iload_n dX0_look_26 rfl ?_
    refine v_iload_n dX0_look_27 rfl ?_
    refine v_iload_n dX0_look_28 rfl ?_
    exact v_cVI (mt := m_X0_look) mo_X0_worthOf ml_RX0_74 mi_X0_worthOf mv_X0_worthOf rfl kd_66 cl_0 rfl (ltA hA0 rfl) hR hcs (Nat.le_of_ble_eq_true rfl) dX0_look_29 rfl (hM c0) (fun y g hp => ((q c0) y g hp))
  · exact v_vret dX0_look_24 rfl (hq c0)
theorem c_X0_look_32 {X : CX} {R : Room} {Z : ZX} {A : AX} {h : AH} {x1 x2 x3 s0 : Int32} {d : Nat} {P39 : Int32 → AH → Prop} (hA0 : 91 ≤ A.1) (hF : Fx h) (hR : RO R (d + 1)) (hcs : A.2.2.1 ≤ R.cells ∧ A.2.2.2 ≤ R.slots) (hM : Mk X d m_X3_full [.ref 1, .int x2] h A.1 A.2.1 (RI P39)) (q : ∀ (y : Int32) (g : AH), P39 y g → V X m_X0_look R Z A 42 [some (.ref 66), some (.int x1), some (.int x2), some (.int x3), some (.int s0), none] [.int y] g) : V X m_X0_look R Z A 32 [some (.ref 66), some (.int x1), some (.int x2), some (.int x3), none, none] [.int s0] h := by
  refine v_istore dX0_look_32 (by decide) (L' := [some (.ref 66), some (.int x1), some (.int x2), some (.int x3), some (.int s0), none]) rfl ?_
  refine v_aload_n dX0_look_34 rfl ?_
  refine v_getR dX0_look_35 fl_RX0_15 kd_66 (ltA hA0 rfl) rfl (hF 66 0 1 rfl) ?_
  refine v_iload_n dX0_look_38 rfl ?_
  exact v_cVI (mt := m_X0_look) mo_X3_full ml_RX0_78 mi_X3_full mv_X3_full rfl kd_1 cl_3 rfl (ltA hA0 rfl) hR hcs (Nat.le_of_ble_eq_true rfl) dX0_look_39 rfl hM (fun y g hp => (q y g hp))
theorem c_X0_look_42 {X : CX} {R : Room} {Z : ZX} {A : AX} {h : AH} {x1 x2 x3 x4 s0 : Int32} {d : Nat} {P63 : Int32 → AH → Prop} {P56 : AH → Prop} (hA0 : 91 ≤ A.1) (hF : Fx h) (hR : RO R (d + 1)) (hcs : A.2.2.1 ≤ R.cells ∧ A.2.2.2 ≤ R.slots) (hM : ¬ s0 = 0 → Mk X d m_X0_leastKnown [.ref 66, .int x1, .int x2] h A.1 A.2.1 (RI P63)) (q : ¬ s0 = 0 → ∀ (y : Int32) (g : AH), P63 y g → V X m_X0_look R Z A 66 [some (.ref 66), some (.int x1), some (.int x2), some (.int x3), some (.int x4), none] [.int y] g) (q_1 : s0 = 0 → x4 ≤ 0 → V X m_X0_look R Z A 59 [none, none, none, none, none, none] [] h) (hM_1 : s0 = 0 → ¬ x4 ≤ 0 → Mk X d m_X3_join [.ref 1, .int x2, .int x3] h A.1 A.2.1 (RV P56)) (q_2 : s0 = 0 → ¬ x4 ≤ 0 → ∀ (g : AH), P56 g → V X m_X0_look R Z A 59 [none, none, none, none, none, none] [] g) : V X m_X0_look R Z A 42 [some (.ref 66), some (.int x1), some (.int x2), some (.int x3), some (.int x4), none] [.int s0] h := by
  refine v_if_ne (tgt := 60) dX0_look_42 (by decide) (fun c0 => ?_) (fun c0 => ?_)
  · refine v_aload_n dX0_look_60 rfl ?_
    refine v_iload_n dX0_look_61 rfl ?_
    refine v_iload_n dX0_look_62 rfl ?_
    exact v_cVI (mt := m_X0_look) mo_X0_leastKnown ml_RX0_85 mi_X0_leastKnown mv_X0_leastKnown rfl kd_66 cl_0 rfl (ltA hA0 rfl) hR hcs (Nat.le_of_ble_eq_true rfl) dX0_look_63 rfl (hM c0) (fun y g hp => ((q c0) y g hp))
  · refine v_iload dX0_look_45 rfl ?_
    refine v_if_le (tgt := 59) dX0_look_47 (by decide) (fun c1 => ?_) (fun c1 => ?_)
    · exact (v_drop (lvLe_n (lvLe_n (lvLe_n (lvLe_n (lvLe_n (lvLe_n lvLe_e)))))) (q_1 c0 c1))
    · refine v_aload_n dX0_look_50 rfl ?_
      refine v_getR dX0_look_51 fl_RX0_15 kd_66 (ltA hA0 rfl) rfl (hF 66 0 1 rfl) ?_
      refine v_iload_n dX0_look_54 rfl ?_
      refine v_iload_n dX0_look_55 rfl ?_
      exact v_cVV (mt := m_X0_look) mo_X3_join ml_RX0_82 mi_X3_join mv_X3_join rfl kd_1 cl_3 rfl (ltA hA0 rfl) hR hcs (Nat.le_of_ble_eq_true rfl) dX0_look_56 rfl (hM_1 c0 c1) (fun g hp => (v_drop (lvLe_n (lvLe_n (lvLe_n (lvLe_n (lvLe_n (lvLe_n lvLe_e)))))) ((q_2 c0 c1) g hp)))
theorem c_X0_look_59 {X : CX} {R : Room} {Q : Option Value → AH → Prop} {nx sz mc ms : Nat} {h : AH} (hq : Q none h) : V X m_X0_look R (ZM X Q nx sz mc ms) (nx, sz, mc, ms) 59 [none, none, none, none, none, none] [] h := by
  exact v_vret dX0_look_59 rfl hq
theorem c_X0_look_66 {X : CX} {R : Room} {Z : ZX} {A : AX} {h : AH} {x1 x2 x3 x4 s0 : Int32} {d : Nat} {P81 : Int32 → AH → Prop} (hA0 : 91 ≤ A.1) (hR : RO R (d + 1)) (hcs : A.2.2.1 ≤ R.cells ∧ A.2.2.2 ≤ R.slots) (q : s0 = (-1) → V X m_X0_look R Z A 114 [none, none, none, none, none, none] [] h) (hM : ¬ s0 = (-1) → Mk X d m_X0_worthOf [.ref 66, .int x1, .int x2, .int s0] h A.1 A.2.1 (RI P81)) (q_1 : ¬ s0 = (-1) → ∀ (y : Int32) (g : AH), P81 y g → V X m_X0_look R Z A 84 [some (.ref 66), none, some (.int x2), some (.int x3), none, some (.int s0)] [.int y, .int x4] g) : V X m_X0_look R Z A 66 [some (.ref 66), some (.int x1), some (.int x2), some (.int x3), some (.int x4), none] [.int s0] h := by
  refine v_istore dX0_look_66 (by decide) (L' := [some (.ref 66), some (.int x1), some (.int x2), some (.int x3), some (.int x4), some (.int s0)]) rfl ?_
  refine v_iload dX0_look_68 rfl ?_
  refine v_iconst dX0_look_70 ci_m1 ?_
  refine v_icmp_eq (tgt := 114) dX0_look_71 (by decide) (fun c0 => ?_) (fun c0 => ?_)
  · exact (v_drop (lvLe_n (lvLe_n (lvLe_n (lvLe_n (lvLe_n (lvLe_n lvLe_e)))))) (q c0))
  · refine v_iload dX0_look_74 rfl ?_
    refine v_aload_n dX0_look_76 rfl ?_
    refine v_iload_n dX0_look_77 rfl ?_
    refine v_iload_n dX0_look_78 rfl ?_
    refine v_iload dX0_look_79 rfl ?_
    exact v_cVI (mt := m_X0_look) mo_X0_worthOf ml_RX0_74 mi_X0_worthOf mv_X0_worthOf rfl kd_66 cl_0 rfl (ltA hA0 rfl) hR hcs (Nat.le_of_ble_eq_true rfl) dX0_look_81 rfl (hM c0) (fun y g hp => (v_drop (lvLe_s (lvLe_n (lvLe_s (lvLe_s (lvLe_n (lvLe_s lvLe_e)))))) ((q_1 c0) y g hp)))
theorem c_X0_look_84 {X : CX} {R : Room} {Z : ZX} {A : AX} {h : AH} {x2 x3 x5 s0 s1 : Int32} {d : Nat} {P102 : AH → Prop} (hA0 : 91 ≤ A.1) (hF : Fx h) (hR : RO R (d + 1)) (hcs : A.2.2.1 ≤ R.cells ∧ A.2.2.2 ≤ R.slots) (q : s0 ≤ (s1 + (h.1 40 4)) → V X m_X0_look R Z A 114 [none, none, none, none, none, none] [] h) (hM : ¬ s0 ≤ (s1 + (h.1 40 4)) → Mk X d m_X3_part [.ref 1, .int x2, .int x5] h A.1 A.2.1 (RV P102)) (q_1 : ¬ s0 ≤ (s1 + (h.1 40 4)) → ∀ (g : AH), P102 g → V X m_X0_look R Z A 105 [some (.ref 66), none, some (.int x2), some (.int x3), none, none] [] g) : V X m_X0_look R Z A 84 [some (.ref 66), none, some (.int x2), some (.int x3), none, some (.int x5)] [.int s1, .int s0] h := by
  refine v_aload_n dX0_look_84 rfl ?_
  refine v_getR dX0_look_85 fl_RX0_23 kd_66 (ltA hA0 rfl) rfl (hF 66 2 40 rfl) ?_
  refine v_getI dX0_look_88 fl_RX0_88 kd_40 (ltA hA0 rfl) rfl ?_
  refine v_iadd dX0_look_91 ?_
  refine v_icmp_le (tgt := 114) dX0_look_92 (by decide) (fun c0 => ?_) (fun c0 => ?_)
  · exact (v_drop (lvLe_n (lvLe_n (lvLe_n (lvLe_n (lvLe_n (lvLe_n lvLe_e)))))) (q c0))
  · refine v_aload_n dX0_look_95 rfl ?_
    refine v_getR dX0_look_96 fl_RX0_15 kd_66 (ltA hA0 rfl) rfl (hF 66 0 1 rfl) ?_
    refine v_iload_n dX0_look_99 rfl ?_
    refine v_iload dX0_look_100 rfl ?_
    exact v_cVV (mt := m_X0_look) mo_X3_part ml_RX0_63 mi_X3_part mv_X3_part rfl kd_1 cl_3 rfl (ltA hA0 rfl) hR hcs (Nat.le_of_ble_eq_true rfl) dX0_look_102 rfl (hM c0) (fun g hp => (v_drop (lvLe_s (lvLe_n (lvLe_s (lvLe_s (lvLe_n (lvLe_n lvLe_e)))))) ((q_1 c0) g hp)))
theorem c_X0_look_105 {X : CX} {R : Room} {Z : ZX} {A : AX} {h : AH} {x2 x3 : Int32} {d : Nat} {P111 : AH → Prop} (hA0 : 91 ≤ A.1) (hF : Fx h) (hR : RO R (d + 1)) (hcs : A.2.2.1 ≤ R.cells ∧ A.2.2.2 ≤ R.slots) (hM : Mk X d m_X3_join [.ref 1, .int x2, .int x3] h A.1 A.2.1 (RV P111)) (q : ∀ (g : AH), P111 g → V X m_X0_look R Z A 114 [none, none, none, none, none, none] [] g) : V X m_X0_look R Z A 105 [some (.ref 66), none, some (.int x2), some (.int x3), none, none] [] h := by
  refine v_aload_n dX0_look_105 rfl ?_
  refine v_getR dX0_look_106 fl_RX0_15 kd_66 (ltA hA0 rfl) rfl (hF 66 0 1 rfl) ?_
  refine v_iload_n dX0_look_109 rfl ?_
  refine v_iload_n dX0_look_110 rfl ?_
  exact v_cVV (mt := m_X0_look) mo_X3_join ml_RX0_82 mi_X3_join mv_X3_join rfl kd_1 cl_3 rfl (ltA hA0 rfl) hR hcs (Nat.le_of_ble_eq_true rfl) dX0_look_111 rfl hM (fun g hp => (v_drop (lvLe_n (lvLe_n (lvLe_n (lvLe_n (lvLe_n (lvLe_n lvLe_e)))))) (q g hp)))
theorem c_X0_look_114 {X : CX} {R : Room} {Q : Option Value → AH → Prop} {nx sz mc ms : Nat} {h : AH} (hq : Q none h) : V X m_X0_look R (ZM X Q nx sz mc ms) (nx, sz, mc, ms) 114 [none, none, none, none, none, none] [] h := by
  exact v_vret dX0_look_114 rfl hq
theorem e_X0_bestStranger {X : CX} {d nx sz : Nat} {Q : Option Value → AH → Prop} {h : AH} {x1 x2 : Int32} (q : V X m_X0_bestStranger (rm d 0 0) (ZM X Q nx sz 0 0) (nx, sz, 0, 0) 0 [some (.ref 66), some (.int x1), some (.int x2), none, none, none, none] [] h) : Mk X d m_X0_bestStranger [.ref 66, .int x1, .int x2] h nx sz Q := by
  refine Mok.ofV mo_X0_bestStranger (Nat.le_of_ble_eq_true rfl) (L := [some (.ref 66), some (.int x1), some (.int x2)]) (lvLe_s (lvLe_s (lvLe_s lvLe_e))) (v_grow (n := 4) ?_)
  exact q
theorem c_X0_bestStranger_0 {X : CX} {R : Room} {Z : ZX} {A : AX} {h : AH} {x1 x2 : Int32} (q : V X m_X0_bestStranger R Z A 8 [some (.ref 66), some (.int x1), some (.int x2), some (.int (-1)), some (.int 0), some (.int 0), none] [] h) : V X m_X0_bestStranger R Z A 0 [some (.ref 66), some (.int x1), some (.int x2), none, none, none, none] [] h := by
  refine v_iconst dX0_bestStranger_0 ci_m1 ?_
  refine v_istore_n dX0_bestStranger_1 (by decide) (L' := [some (.ref 66), some (.int x1), some (.int x2), some (.int (-1)), none, none, none]) rfl ?_
  refine v_iconst dX0_bestStranger_2 ci_0 ?_
  refine v_istore dX0_bestStranger_3 (by decide) (L' := [some (.ref 66), some (.int x1), some (.int x2), some (.int (-1)), some (.int 0), none, none]) rfl ?_
  refine v_iconst dX0_bestStranger_5 ci_0 ?_
  refine v_istore dX0_bestStranger_6 (by decide) (L' := [some (.ref 66), some (.int x1), some (.int x2), some (.int (-1)), some (.int 0), some (.int 0), none]) rfl ?_
  exact q
theorem c_X0_bestStranger_8 {X : CX} {R : Room} {Q : Option Value → AH → Prop} {nx sz mc ms : Nat} {h : AH} {x1 x2 x3 x4 x5 : Int32} {d : Nat} {P33 : Int32 → AH → Prop} (hA0 : 91 ≤ nx) (hF : Fx h) (hR : RO R (d + 1)) (hcs : mc ≤ R.cells ∧ ms ≤ R.slots) (hq : (h.1 1 0) ≤ x5 → Q (some (.int x3)) h) (q : ¬ (h.1 1 0) ≤ x5 → x5 = x2 → V X m_X0_bestStranger R (ZM X Q nx sz mc ms) (nx, sz, mc, ms) 8 [some (.ref 66), some (.int x1), some (.int x2), some (.int x3), some (.int x4), some (.int (x5 + 1)), none] [] h) (hM : ¬ (h.1 1 0) ≤ x5 → ¬ x5 = x2 → Mk X d m_X3_tied [.ref 1, .int x2, .int x5] h nx sz (RI P33)) (q_1 : ¬ (h.1 1 0) ≤ x5 → ¬ x5 = x2 → ∀ (y : Int32) (g : AH), P33 y g → V X m_X0_bestStranger R (ZM X Q nx sz mc ms) (nx, sz, mc, ms) 36 [some (.ref 66), some (.int x1), some (.int x2), some (.int x3), some (.int x4), some (.int x5), none] [.int y] g) : V X m_X0_bestStranger R (ZM X Q nx sz mc ms) (nx, sz, mc, ms) 8 [some (.ref 66), some (.int x1), some (.int x2), some (.int x3), some (.int x4), some (.int x5), none] [] h := by
  refine v_iload dX0_bestStranger_8 rfl ?_
  refine v_aload_n dX0_bestStranger_10 rfl ?_
  refine v_getR dX0_bestStranger_11 fl_RX0_15 kd_66 (ltA hA0 rfl) rfl (hF 66 0 1 rfl) ?_
  refine v_getI dX0_bestStranger_14 fl_RX0_40 kd_1 (ltA hA0 rfl) rfl ?_
  refine v_icmp_ge (tgt := 86) dX0_bestStranger_17 (by decide) (fun c0 => ?_) (fun c0 => ?_)
  · refine v_iload_n dX0_bestStranger_86 rfl ?_
    exact v_iret dX0_bestStranger_87 rfl (hq c0)
  · refine v_iload dX0_bestStranger_20 rfl ?_
    refine v_iload_n dX0_bestStranger_22 rfl ?_
    refine v_icmp_eq (tgt := 80) dX0_bestStranger_23 (by decide) (fun c1 => ?_) (fun c1 => ?_)
    · refine v_iinc (y := (x5 + 1)) dX0_bestStranger_80 rfl rfl (by decide) (L' := [some (.ref 66), some (.int x1), some (.int x2), some (.int x3), some (.int x4), some (.int (x5 + 1)), none]) rfl ?_
      refine v_goto (tgt := 8) dX0_bestStranger_83 (by decide) ?_
      exact (q c0 c1)
    · refine v_aload_n dX0_bestStranger_26 rfl ?_
      refine v_getR dX0_bestStranger_27 fl_RX0_15 kd_66 (ltA hA0 rfl) rfl (hF 66 0 1 rfl) ?_
      refine v_iload_n dX0_bestStranger_30 rfl ?_
      refine v_iload dX0_bestStranger_31 rfl ?_
      exact v_cVI (mt := m_X0_bestStranger) mo_X3_tied ml_RX0_93 mi_X3_tied mv_X3_tied rfl kd_1 cl_3 rfl (ltA hA0 rfl) hR hcs (Nat.le_of_ble_eq_true rfl) dX0_bestStranger_33 rfl (hM c0 c1) (fun y g hp => ((q_1 c0 c1) y g hp))
theorem c_X0_bestStranger_36 {X : CX} {R : Room} {Z : ZX} {A : AX} {h : AH} {x1 x2 x3 x4 x5 s0 : Int32} {d : Nat} {P45 : Int32 → AH → Prop} (hA0 : 91 ≤ A.1) (hF : Fx h) (hR : RO R (d + 1)) (hcs : A.2.2.1 ≤ R.cells ∧ A.2.2.2 ≤ R.slots) (q : ¬ s0 = 0 → V X m_X0_bestStranger R Z A 8 [some (.ref 66), some (.int x1), some (.int x2), some (.int x3), some (.int x4), some (.int (x5 + 1)), none] [] h) (hM : s0 = 0 → Mk X d m_X3_full [.ref 1, .int x5] h A.1 A.2.1 (RI P45)) (q_1 : s0 = 0 → ∀ (y : Int32) (g : AH), P45 y g → V X m_X0_bestStranger R Z A 48 [some (.ref 66), some (.int x1), some (.int x2), some (.int x3), some (.int x4), some (.int x5), none] [.int y] g) : V X m_X0_bestStranger R Z A 36 [some (.ref 66), some (.int x1), some (.int x2), some (.int x3), some (.int x4), some (.int x5), none] [.int s0] h := by
  refine v_if_ne (tgt := 80) dX0_bestStranger_36 (by decide) (fun c0 => ?_) (fun c0 => ?_)
  · refine v_iinc (y := (x5 + 1)) dX0_bestStranger_80 rfl rfl (by decide) (L' := [some (.ref 66), some (.int x1), some (.int x2), some (.int x3), some (.int x4), some (.int (x5 + 1)), none]) rfl ?_
    refine v_goto (tgt := 8) dX0_bestStranger_83 (by decide) ?_
    exact (q c0)
  · refine v_aload_n dX0_bestStranger_39 rfl ?_
    refine v_getR dX0_bestStranger_40 fl_RX0_15 kd_66 (ltA hA0 rfl) rfl (hF 66 0 1 rfl) ?_
    refine v_iload dX0_bestStranger_43 rfl ?_
    exact v_cVI (mt := m_X0_bestStranger) mo_X3_full ml_RX0_78 mi_X3_full mv_X3_full rfl kd_1 cl_3 rfl (ltA hA0 rfl) hR hcs (Nat.le_of_ble_eq_true rfl) dX0_bestStranger_45 rfl (hM c0) (fun y g hp => ((q_1 c0) y g hp))
theorem c_X0_bestStranger_48 {X : CX} {R : Room} {Z : ZX} {A : AX} {h : AH} {x1 x2 x3 x4 x5 s0 : Int32} {d : Nat} {P56 : Int32 → AH → Prop} (hA0 : 91 ≤ A.1) (hR : RO R (d + 1)) (hcs : A.2.2.1 ≤ R.cells ∧ A.2.2.2 ≤ R.slots) (q : ¬ s0 = 0 → V X m_X0_bestStranger R Z A 8 [some (.ref 66), some (.int x1), some (.int x2), some (.int x3), some (.int x4), some (.int (x5 + 1)), none] [] h) (hM : s0 = 0 → Mk X d m_X0_worthOf [.ref 66, .int x1, .int x2, .int x5] h A.1 A.2.1 (RI P56)) (q_1 : s0 = 0 → ∀ (y : Int32) (g : AH), P56 y g → V X m_X0_bestStranger R Z A 59 [some (.ref 66), some (.int x1), some (.int x2), some (.int x3), some (.int x4), some (.int x5), none] [.int y] g) : V X m_X0_bestStranger R Z A 48 [some (.ref 66), some (.int x1), some (.int x2), some (.int x3), some (.int x4), some (.int x5), none] [.int s0] h := by
  refine v_if_ne (tgt := 80) dX0_bestStranger_48 (by decide) (fun c0 => ?_) (fun c0 => ?_)
  · refine v_iinc (y := (x5 + 1)) dX0_bestStranger_80 rfl rfl (by decide) (L' := [some (.ref 66), some (.int x1), some (.int x2), some (.int x3), some (.int x4), some (.int (x5 + 1)), none]) rfl ?_
    refine v_goto (tgt := 8) dX0_bestStranger_83 (by decide) ?_
    exact (q c0)
  · refine v_aload_n dX0_bestStranger_51 rfl ?_
    refine v_iload_n dX0_bestStranger_52 rfl ?_
    refine v_iload_n dX0_bestStranger_53 rfl ?_
    refine v_iload dX0_bestStranger_54 rfl ?_
    exact v_cVI (mt := m_X0_bestStranger) mo_X0_worthOf ml_RX0_74 mi_X0_worthOf mv_X0_worthOf rfl kd_66 cl_0 rfl (ltA hA0 rfl) hR hcs (Nat.le_of_ble_eq_true rfl) dX0_bestStranger_56 rfl (hM c0) (fun y g hp => ((q_1 c0) y g hp))
theorem c_X0_bestStranger_59 {X : CX} {R : Room} {Z : ZX} {A : AX} {h : AH} {x1 x2 x3 x4 x5 s0 : Int32} (q : x3 = (-1) → V X m_X0_bestStranger R Z A 8 [some (.ref 66), some (.int x1), some (.int x2), some (.int x5), some (.int s0), some (.int (x5 + 1)), none] [] h) (q_1 : ¬ x3 = (-1) → s0 ≤ x4 → V X m_X0_bestStranger R Z A 8 [some (.ref 66), some (.int x1), some (.int x2), some (.int x3), some (.int x4), some (.int (x5 + 1)), none] [] h) (q_2 : ¬ x3 = (-1) → ¬ s0 ≤ x4 → V X m_X0_bestStranger R Z A 8 [some (.ref 66), some (.int x1), some (.int x2), some (.int x5), some (.int s0), some (.int (x5 + 1)), none] [] h) : V X m_X0_bestStranger R Z A 59 [some (.ref 66), some (.int x1), some (.int x2), some (.int x3), some (.int x4), some (.int x5), none] [.int s0] h := by
  refine v_istore dX0_bestStranger_59 (by decide) (L' := [some (.ref 66), some (.int x1), some (.int x2), some (.int x3), some (.int x4), some (.int x5), some (.int s0)]) rfl ?_
  refine v_iload_n dX0_bestStranger_61 rfl ?_
  refine v_iconst dX0_bestStranger_62 ci_m1 ?_
  refine v_icmp_eq (tgt := 73) dX0_bestStranger_63 (by decide) (fun c0 => ?_) (fun c0 => ?_)
  · refine v_iload dX0_bestStranger_73 rfl ?_
    refine v_istore_n dX0_bestStranger_75 (by decide) (L' := [some (.ref 66), some (.int x1), some (.int x2), some (.int x5), some (.int x4), some (.int x5), some (.int s0)]) rfl ?_
    refine v_iload dX0_bestStranger_76 rfl ?_
    refine v_istore dX0_bestStranger_78 (by decide) (L' := [some (.ref 66), some (.int x1), some (.int x2), some (.int x5), some (.int s0), some (.int x5), some (.int s0)]) rfl ?_
    refine v_iinc (y := (x5 + 1)) dX0_bestStranger_80 rfl rfl (by decide) (L' := [some (.ref 66), some (.int x1), some (.int x2), some (.int x5), some (.int s0), some (.int (x5 + 1)), some (.int s0)]) rfl ?_
    refine v_goto (tgt := 8) dX0_bestStranger_83 (by decide) ?_
    exact (v_drop (lvLe_s (lvLe_s (lvLe_s (lvLe_s (lvLe_s (lvLe_s (lvLe_n lvLe_e))))))) (q c0))
  · refine v_iload dX0_bestStranger_66 rfl ?_
    refine v_iload dX0_bestStranger_68 rfl ?_
    refine v_icmp_le (tgt := 80) dX0_bestStranger_70 (by decide) (fun c1 => ?_) (fun c1 => ?_)
    · refine v_iinc (y := (x5 + 1)) dX0_bestStranger_80 rfl rfl (by decide) (L' := [some (.ref 66), some (.int x1), some (.int x2), some (.int x3), some (.int x4), some (.int (x5 + 1)), some (.int s0)]) rfl ?_
      refine v_goto (tgt := 8) dX0_bestStranger_83 (by decide) ?_
      exact (v_drop (lvLe_s (lvLe_s (lvLe_s (lvLe_s (lvLe_s (lvLe_s (lvLe_n lvLe_e))))))) (q_1 c0 c1))
    · refine v_iload dX0_bestStranger_73 rfl ?_
      refine v_istore_n dX0_bestStranger_75 (by decide) (L' := [some (.ref 66), some (.int x1), some (.int x2), some (.int x5), some (.int x4), some (.int x5), some (.int s0)]) rfl ?_
      refine v_iload dX0_bestStranger_76 rfl ?_
      refine v_istore dX0_bestStranger_78 (by decide) (L' := [some (.ref 66), some (.int x1), some (.int x2), some (.int x5), some (.int s0), some (.int x5), some (.int s0)]) rfl ?_
      refine v_iinc (y := (x5 + 1)) dX0_bestStranger_80 rfl rfl (by decide) (L' := [some (.ref 66), some (.int x1), some (.int x2), some (.int x5), some (.int s0), some (.int (x5 + 1)), some (.int s0)]) rfl ?_
      refine v_goto (tgt := 8) dX0_bestStranger_83 (by decide) ?_
      exact (v_drop (lvLe_s (lvLe_s (lvLe_s (lvLe_s (lvLe_s (lvLe_s (lvLe_n lvLe_e))))))) (q_2 c0 c1))
theorem e_X0_leastKnown {X : CX} {d nx sz : Nat} {Q : Option Value → AH → Prop} {h : AH} {x1 x2 : Int32} (q : V X m_X0_leastKnown (rm d 0 0) (ZM X Q nx sz 0 0) (nx, sz, 0, 0) 0 [some (.ref 66), some (.int x1), some (.int x2), none, none, none, none] [] h) : Mk X d m_X0_leastKnown [.ref 66, .int x1, .int x2] h nx sz Q := by
  refine Mok.ofV mo_X0_leastKnown (Nat.le_of_ble_eq_true rfl) (L := [some (.ref 66), some (.int x1), some (.int x2)]) (lvLe_s (lvLe_s (lvLe_s lvLe_e))) (v_grow (n := 4) ?_)
  exact q
theorem c_X0_leastKnown_0 {X : CX} {R : Room} {Z : ZX} {A : AX} {h : AH} {x1 x2 : Int32} (q : V X m_X0_leastKnown R Z A 8 [some (.ref 66), some (.int x1), some (.int x2), some (.int (-1)), some (.int 0), some (.int 0), none] [] h) : V X m_X0_leastKnown R Z A 0 [some (.ref 66), some (.int x1), some (.int x2), none, none, none, none] [] h := by
  refine v_iconst dX0_leastKnown_0 ci_m1 ?_
  refine v_istore_n dX0_leastKnown_1 (by decide) (L' := [some (.ref 66), some (.int x1), some (.int x2), some (.int (-1)), none, none, none]) rfl ?_
  refine v_iconst dX0_leastKnown_2 ci_0 ?_
  refine v_istore dX0_leastKnown_3 (by decide) (L' := [some (.ref 66), some (.int x1), some (.int x2), some (.int (-1)), some (.int 0), none, none]) rfl ?_
  refine v_iconst dX0_leastKnown_5 ci_0 ?_
  refine v_istore dX0_leastKnown_6 (by decide) (L' := [some (.ref 66), some (.int x1), some (.int x2), some (.int (-1)), some (.int 0), some (.int 0), none]) rfl ?_
  exact q
theorem c_X0_leastKnown_8 {X : CX} {R : Room} {Q : Option Value → AH → Prop} {nx sz mc ms : Nat} {h : AH} {x1 x2 x3 x4 x5 : Int32} {d : Nat} {P27 : Int32 → AH → Prop} (hA0 : 91 ≤ nx) (hF : Fx h) (hR : RO R (d + 1)) (hcs : mc ≤ R.cells ∧ ms ≤ R.slots) (hq : (h.1 1 0) ≤ x5 → Q (some (.int x3)) h) (hM : ¬ (h.1 1 0) ≤ x5 → Mk X d m_X3_tied [.ref 1, .int x2, .int x5] h nx sz (RI P27)) (q : ¬ (h.1 1 0) ≤ x5 → ∀ (y : Int32) (g : AH), P27 y g → V X m_X0_leastKnown R (ZM X Q nx sz mc ms) (nx, sz, mc, ms) 30 [some (.ref 66), some (.int x1), some (.int x2), some (.int x3), some (.int x4), some (.int x5), none] [.int y] g) : V X m_X0_leastKnown R (ZM X Q nx sz mc ms) (nx, sz, mc, ms) 8 [some (.ref 66), some (.int x1), some (.int x2), some (.int x3), some (.int x4), some (.int x5), none] [] h := by
  refine v_iload dX0_leastKnown_8 rfl ?_
  refine v_aload_n dX0_leastKnown_10 rfl ?_
  refine v_getR dX0_leastKnown_11 fl_RX0_15 kd_66 (ltA hA0 rfl) rfl (hF 66 0 1 rfl) ?_
  refine v_getI dX0_leastKnown_14 fl_RX0_40 kd_1 (ltA hA0 rfl) rfl ?_
  refine v_icmp_ge (tgt := 68) dX0_leastKnown_17 (by decide) (fun c0 => ?_) (fun c0 => ?_)
  · refine v_iload_n dX0_leastKnown_68 rfl ?_
    exact v_iret dX0_leastKnown_69 rfl (hq c0)
  · refine v_aload_n dX0_leastKnown_20 rfl ?_
    refine v_getR dX0_leastKnown_21 fl_RX0_15 kd_66 (ltA hA0 rfl) rfl (hF 66 0 1 rfl) ?_
    refine v_iload_n dX0_leastKnown_24 rfl ?_
    refine v_iload dX0_leastKnown_25 rfl ?_
    exact v_cVI (mt := m_X0_leastKnown) mo_X3_tied ml_RX0_93 mi_X3_tied mv_X3_tied rfl kd_1 cl_3 rfl (ltA hA0 rfl) hR hcs (Nat.le_of_ble_eq_true rfl) dX0_leastKnown_27 rfl (hM c0) (fun y g hp => ((q c0) y g hp))
theorem c_X0_leastKnown_30 {X : CX} {R : Room} {Z : ZX} {A : AX} {h : AH} {x1 x2 x3 x4 x5 s0 : Int32} {d : Nat} {P38 : Int32 → AH → Prop} (hA0 : 91 ≤ A.1) (hR : RO R (d + 1)) (hcs : A.2.2.1 ≤ R.cells ∧ A.2.2.2 ≤ R.slots) (q : s0 = 0 → V X m_X0_leastKnown R Z A 8 [some (.ref 66), some (.int x1), some (.int x2), some (.int x3), some (.int x4), some (.int (x5 + 1)), none] [] h) (hM : ¬ s0 = 0 → Mk X d m_X0_worthOf [.ref 66, .int x1, .int x2, .int x5] h A.1 A.2.1 (RI P38)) (q_1 : ¬ s0 = 0 → ∀ (y : Int32) (g : AH), P38 y g → V X m_X0_leastKnown R Z A 41 [some (.ref 66), some (.int x1), some (.int x2), some (.int x3), some (.int x4), some (.int x5), none] [.int y] g) : V X m_X0_leastKnown R Z A 30 [some (.ref 66), some (.int x1), some (.int x2), some (.int x3), some (.int x4), some (.int x5), none] [.int s0] h := by
  refine v_if_eq (tgt := 62) dX0_leastKnown_30 (by decide) (fun c0 => ?_) (fun c0 => ?_)
  · refine v_iinc (y := (x5 + 1)) dX0_leastKnown_62 rfl rfl (by decide) (L' := [some (.ref 66), some (.int x1), some (.int x2), some (.int x3), some (.int x4), some (.int (x5 + 1)), none]) rfl ?_
    refine v_goto (tgt := 8) dX0_leastKnown_65 (by decide) ?_
    exact (q c0)
  · refine v_aload_n dX0_leastKnown_33 rfl ?_
    refine v_iload_n dX0_leastKnown_34 rfl ?_
    refine v_iload_n dX0_leastKnown_35 rfl ?_
    refine v_iload dX0_leastKnown_36 rfl ?_
    exact v_cVI (mt := m_X0_leastKnown) mo_X0_worthOf ml_RX0_74 mi_X0_worthOf mv_X0_worthOf rfl kd_66 cl_0 rfl (ltA hA0 rfl) hR hcs (Nat.le_of_ble_eq_true rfl) dX0_leastKnown_38 rfl (hM c0) (fun y g hp => ((q_1 c0) y g hp))
theorem c_X0_leastKnown_41 {X : CX} {R : Room} {Z : ZX} {A : AX} {h : AH} {x1 x2 x3 x4 x5 s0 : Int32} (q : x3 = (-1) → V X m_X0_leastKnown R Z A 8 [some (.ref 66), some (.int x1), some (.int x2), some (.int x5), some (.int s0), some (.int (x5 + 1)), none] [] h) (q_1 : ¬ x3 = (-1) → x4 ≤ s0 → V X m_X0_leastKnown R Z A 8 [some (.ref 66), some (.int x1), some (.int x2), some (.int x3), some (.int x4), some (.int (x5 + 1)), none] [] h) (q_2 : ¬ x3 = (-1) → ¬ x4 ≤ s0 → V X m_X0_leastKnown R Z A 8 [some (.ref 66), some (.int x1), some (.int x2), some (.int x5), some (.int s0), some (.int (x5 + 1)), none] [] h) : V X m_X0_leastKnown R Z A 41 [some (.ref 66), some (.int x1), some (.int x2), some (.int x3), some (.int x4), some (.int x5), none] [.int s0] h := by
  refine v_istore dX0_leastKnown_41 (by decide) (L' := [some (.ref 66), some (.int x1), some (.int x2), some (.int x3), some (.int x4), some (.int x5), some (.int s0)]) rfl ?_
  refine v_iload_n dX0_leastKnown_43 rfl ?_
  refine v_iconst dX0_leastKnown_44 ci_m1 ?_
  refine v_icmp_eq (tgt := 55) dX0_leastKnown_45 (by decide) (fun c0 => ?_) (fun c0 => ?_)
  · refine v_iload dX0_leastKnown_55 rfl ?_
    refine v_istore_n dX0_leastKnown_57 (by decide) (L' := [some (.ref 66), some (.int x1), some (.int x2), some (.int x5), some (.int x4), some (.int x5), some (.int s0)]) rfl ?_
    refine v_iload dX0_leastKnown_58 rfl ?_
    refine v_istore dX0_leastKnown_60 (by decide) (L' := [some (.ref 66), some (.int x1), some (.int x2), some (.int x5), some (.int s0), some (.int x5), some (.int s0)]) rfl ?_
    refine v_iinc (y := (x5 + 1)) dX0_leastKnown_62 rfl rfl (by decide) (L' := [some (.ref 66), some (.int x1), some (.int x2), some (.int x5), some (.int s0), some (.int (x5 + 1)), some (.int s0)]) rfl ?_
    refine v_goto (tgt := 8) dX0_leastKnown_65 (by decide) ?_
    exact (v_drop (lvLe_s (lvLe_s (lvLe_s (lvLe_s (lvLe_s (lvLe_s (lvLe_n lvLe_e))))))) (q c0))
  · refine v_iload dX0_leastKnown_48 rfl ?_
    refine v_iload dX0_leastKnown_50 rfl ?_
    refine v_icmp_ge (tgt := 62) dX0_leastKnown_52 (by decide) (fun c1 => ?_) (fun c1 => ?_)
    · refine v_iinc (y := (x5 + 1)) dX0_leastKnown_62 rfl rfl (by decide) (L' := [some (.ref 66), some (.int x1), some (.int x2), some (.int x3), some (.int x4), some (.int (x5 + 1)), some (.int s0)]) rfl ?_
      refine v_goto (tgt := 8) dX0_leastKnown_65 (by decide) ?_
      exact (v_drop (lvLe_s (lvLe_s (lvLe_s (lvLe_s (lvLe_s (lvLe_s (lvLe_n lvLe_e))))))) (q_1 c0 c1))
    · refine v_iload dX0_leastKnown_55 rfl ?_
      refine v_istore_n dX0_leastKnown_57 (by decide) (L' := [some (.ref 66), some (.int x1), some (.int x2), some (.int x5), some (.int x4), some (.int x5), some (.int s0)]) rfl ?_
      refine v_iload dX0_leastKnown_58 rfl ?_
      refine v_istore dX0_leastKnown_60 (by decide) (L' := [some (.ref 66), some (.int x1), some (.int x2), some (.int x5), some (.int s0), some (.int x5), some (.int s0)]) rfl ?_
      refine v_iinc (y := (x5 + 1)) dX0_leastKnown_62 rfl rfl (by decide) (L' := [some (.ref 66), some (.int x1), some (.int x2), some (.int x5), some (.int s0), some (.int (x5 + 1)), some (.int s0)]) rfl ?_
      refine v_goto (tgt := 8) dX0_leastKnown_65 (by decide) ?_
      exact (v_drop (lvLe_s (lvLe_s (lvLe_s (lvLe_s (lvLe_s (lvLe_s (lvLe_n lvLe_e))))))) (q_2 c0 c1))
theorem e_X0_worthOf {X : CX} {d nx sz : Nat} {Q : Option Value → AH → Prop} {h : AH} {x1 x2 x3 : Int32} (q : V X m_X0_worthOf (rm d 0 0) (ZM X Q nx sz 0 0) (nx, sz, 0, 0) 0 [some (.ref 66), some (.int x1), some (.int x2), some (.int x3), none] [] h) : Mk X d m_X0_worthOf [.ref 66, .int x1, .int x2, .int x3] h nx sz Q := by
  refine Mok.ofV mo_X0_worthOf (Nat.le_of_ble_eq_true rfl) (L := [some (.ref 66), some (.int x1), some (.int x2), some (.int x3)]) (lvLe_s (lvLe_s (lvLe_s (lvLe_s lvLe_e)))) (v_grow (n := 1) ?_)
  exact q
theorem c_X0_worthOf_0 {X : CX} {R : Room} {Z : ZX} {A : AX} {h : AH} {x1 x2 x3 : Int32} {d : Nat} {P42 P42_1 : Int32 → AH → Prop} (hA0 : 91 ≤ A.1) (hF : Fx h) (hR : RO R (d + 1)) (hcs : A.2.2.1 ≤ R.cells ∧ A.2.2.2 ≤ R.slots) (hi_18 : vp_in x3 20) (hi_32 : ¬ (h.1 67 x3.toNatClampNeg) = (-1) → vp_in x3 20) (hM : ¬ (h.1 67 x3.toNatClampNeg) = (-1) → Mk X d m_X3_degree [.ref 1, .int x3] (setI h 39 6 (h.1 67 x3.toNatClampNeg)) A.1 A.2.1 (RI P42)) (q : ¬ (h.1 67 x3.toNatClampNeg) = (-1) → ∀ (y : Int32) (g : AH), P42 y g → V X m_X0_worthOf R Z A 45 [some (.ref 66), some (.int x1), some (.int x2), some (.int x3), some (.ref 39)] [.int y, .int 2, .ref 39] g) (hM_1 : (h.1 67 x3.toNatClampNeg) = (-1) → Mk X d m_X3_degree [.ref 1, .int x3] (setI h 39 6 0) A.1 A.2.1 (RI P42_1)) (q_1 : (h.1 67 x3.toNatClampNeg) = (-1) → ∀ (y : Int32) (g : AH), P42_1 y g → V X m_X0_worthOf R Z A 45 [some (.ref 66), some (.int x1), some (.int x2), some (.int x3), some (.ref 39)] [.int y, .int 2, .ref 39] g) : V X m_X0_worthOf R Z A 0 [some (.ref 66), some (.int x1), some (.int x2), some (.int x3), none] [] h := by
  refine v_aload_n dX0_worthOf_0 rfl ?_
  refine v_getR dX0_worthOf_1 fl_RX0_19 kd_66 (ltA hA0 rfl) rfl (hF 66 1 29 rfl) ?_
  refine v_getR dX0_worthOf_4 fl_RX0_97 kd_29 (ltA hA0 rfl) rfl (hF 29 3 39 rfl) ?_
  refine v_astore dX0_worthOf_7 (by decide) (L' := [some (.ref 66), some (.int x1), some (.int x2), some (.int x3), some (.ref 39)]) rfl ?_
  refine v_aload dX0_worthOf_9 rfl ?_
  refine v_bipush dX0_worthOf_11 cb_6 ?_
  refine v_aload_n dX0_worthOf_13 rfl ?_
  refine v_getR dX0_worthOf_14 fl_RX0_9 kd_66 (ltA hA0 rfl) rfl (hF 66 3 67 rfl) ?_
  refine v_iload_n dX0_worthOf_17 rfl ?_
  refine v_iald dX0_worthOf_18 kd_67 (ltA hA0 rfl) hi_18 ?_
  refine v_iconst dX0_worthOf_19 ci_m1 ?_
  refine v_icmp_ne (tgt := 27) dX0_worthOf_20 (by decide) (fun c0 => ?_) (fun c0 => ?_)
  · refine v_aload_n dX0_worthOf_27 rfl ?_
    refine v_getR dX0_worthOf_28 fl_RX0_9 kd_66 (ltA hA0 rfl) rfl (hF 66 3 67 rfl) ?_
    refine v_iload_n dX0_worthOf_31 rfl ?_
    refine v_iald dX0_worthOf_32 kd_67 (ltA hA0 rfl) (hi_32 c0) ?_
    refine v_iast dX0_worthOf_33 kd_39 (ltA hA0 rfl) (vp_lit (by decide)) ?_
    refine v_aload dX0_worthOf_34 rfl ?_
    refine v_iconst dX0_worthOf_36 ci_2 ?_
    refine v_aload_n dX0_worthOf_37 rfl ?_
    refine v_getR dX0_worthOf_38 fl_RX0_15 kd_66 (ltA hA0 rfl) rfl (hF 66 0 1 rfl) ?_
    refine v_iload_n dX0_worthOf_41 rfl ?_
    exact v_cVI (mt := m_X0_worthOf) mo_X3_degree ml_RX0_100 mi_X3_degree mv_X3_degree rfl kd_1 cl_3 rfl (ltA hA0 rfl) hR hcs (Nat.le_of_ble_eq_true rfl) dX0_worthOf_42 rfl (hM c0) (fun y g hp => ((q c0) y g hp))
  · refine v_iconst dX0_worthOf_23 ci_0 ?_
    refine v_goto (tgt := 33) dX0_worthOf_24 (by decide) ?_
    refine v_iast dX0_worthOf_33 kd_39 (ltA hA0 rfl) (vp_lit (by decide)) ?_
    refine v_aload dX0_worthOf_34 rfl ?_
    refine v_iconst dX0_worthOf_36 ci_2 ?_
    refine v_aload_n dX0_worthOf_37 rfl ?_
    refine v_getR dX0_worthOf_38 fl_RX0_15 kd_66 (ltA hA0 rfl) rfl (hF 66 0 1 rfl) ?_
    refine v_iload_n dX0_worthOf_41 rfl ?_
    exact v_cVI (mt := m_X0_worthOf) mo_X3_degree ml_RX0_100 mi_X3_degree mv_X3_degree rfl kd_1 cl_3 rfl (ltA hA0 rfl) hR hcs (Nat.le_of_ble_eq_true rfl) dX0_worthOf_42 rfl (hM_1 c0) (fun y g hp => ((q_1 c0) y g hp))
theorem c_X0_worthOf_45 {X : CX} {R : Room} {Z : ZX} {A : AX} {h : AH} {x1 x2 x3 s1 s2 : Int32} {d : Nat} {P55 : Int32 → AH → Prop} (hA0 : 91 ≤ A.1) (hF : Fx h) (hR : RO R (d + 1)) (hcs : A.2.2.1 ≤ R.cells ∧ A.2.2.2 ≤ R.slots) (hi_45 : vp_in s1 9) (hM : Mk X d m_X3_inCommon [.ref 1, .int x2, .int x3] (setI h 39 s1.toNatClampNeg s2) A.1 A.2.1 (RI P55)) (q : ∀ (y : Int32) (g : AH), P55 y g → V X m_X0_worthOf R Z A 58 [some (.ref 66), some (.int x1), none, some (.int x3), some (.ref 39)] [.int y, .int 3, .ref 39] g) : V X m_X0_worthOf R Z A 45 [some (.ref 66), some (.int x1), some (.int x2), some (.int x3), some (.ref 39)] [.int s2, .int s1, .ref 39] h := by
  refine v_iast dX0_worthOf_45 kd_39 (ltA hA0 rfl) hi_45 ?_
  refine v_aload dX0_worthOf_46 rfl ?_
  refine v_iconst dX0_worthOf_48 ci_3 ?_
  refine v_aload_n dX0_worthOf_49 rfl ?_
  refine v_getR dX0_worthOf_50 fl_RX0_15 kd_66 (ltA hA0 rfl) rfl (hF 66 0 1 rfl) ?_
  refine v_iload_n dX0_worthOf_53 rfl ?_
  refine v_iload_n dX0_worthOf_54 rfl ?_
  exact v_cVI (mt := m_X0_worthOf) mo_X3_inCommon ml_RX0_103 mi_X3_inCommon mv_X3_inCommon rfl kd_1 cl_3 rfl (ltA hA0 rfl) hR hcs (Nat.le_of_ble_eq_true rfl) dX0_worthOf_55 rfl hM (fun y g hp => (v_drop (lvLe_s (lvLe_s (lvLe_n (lvLe_s (lvLe_s lvLe_e))))) (q y g hp)))
theorem c_X0_worthOf_58 {X : CX} {R : Room} {Z : ZX} {A : AX} {h : AH} {x1 x3 s1 s2 : Int32} {d : Nat} {P91 : Int32 → AH → Prop} (hA0 : 91 ≤ A.1) (hF : Fx h) (hR : RO R (d + 1)) (hcs : A.2.2.1 ≤ R.cells ∧ A.2.2.2 ≤ R.slots) (hi_58 : vp_in s1 9) (hi_71 : vp_in x3 20) (hi_85 : vp_in x3 20) (hM : Mk X d m_X3_degree [.ref 1, .int x3] (setI (setI h 39 s1.toNatClampNeg s2) 39 7 (h.1 4 x3.toNatClampNeg)) A.1 A.2.1 (RI P91)) (q : ∀ (y : Int32) (g : AH), P91 y g → V X m_X0_worthOf R Z A 94 [some (.ref 66), some (.int x1), none, none, none] [.int y, .int (h.1 3 x3.toNatClampNeg), .int 8, .ref 39] g) : V X m_X0_worthOf R Z A 58 [some (.ref 66), some (.int x1), none, some (.int x3), some (.ref 39)] [.int s2, .int s1, .ref 39] h := by
  refine v_iast dX0_worthOf_58 kd_39 (ltA hA0 rfl) hi_58 ?_
  refine v_aload dX0_worthOf_59 rfl ?_
  refine v_bipush dX0_worthOf_61 cb_7 ?_
  refine v_aload_n dX0_worthOf_63 rfl ?_
  refine v_getR dX0_worthOf_64 fl_RX0_15 kd_66 (ltA hA0 rfl) rfl (hF 66 0 1 rfl) ?_
  refine v_getR dX0_worthOf_67 fl_RX0_60 kd_1 (ltA hA0 rfl) rfl (hF 1 4 4 rfl) ?_
  refine v_iload_n dX0_worthOf_70 rfl ?_
  refine v_iald dX0_worthOf_71 kd_4 (ltA hA0 rfl) hi_71 ?_
  refine v_iast dX0_worthOf_72 kd_39 (ltA hA0 rfl) (vp_lit (by decide)) ?_
  refine v_aload dX0_worthOf_73 rfl ?_
  refine v_bipush dX0_worthOf_75 cb_8 ?_
  refine v_aload_n dX0_worthOf_77 rfl ?_
  refine v_getR dX0_worthOf_78 fl_RX0_15 kd_66 (ltA hA0 rfl) rfl (hF 66 0 1 rfl) ?_
  refine v_getR dX0_worthOf_81 fl_RX0_106 kd_1 (ltA hA0 rfl) rfl (hF 1 3 3 rfl) ?_
  refine v_iload_n dX0_worthOf_84 rfl ?_
  refine v_iald dX0_worthOf_85 kd_3 (ltA hA0 rfl) hi_85 ?_
  refine v_aload_n dX0_worthOf_86 rfl ?_
  refine v_getR dX0_worthOf_87 fl_RX0_15 kd_66 (ltA hA0 rfl) rfl (hF 66 0 1 rfl) ?_
  refine v_iload_n dX0_worthOf_90 rfl ?_
  exact v_cVI (mt := m_X0_worthOf) mo_X3_degree ml_RX0_100 mi_X3_degree mv_X3_degree rfl kd_1 cl_3 rfl (ltA hA0 rfl) hR hcs (Nat.le_of_ble_eq_true rfl) dX0_worthOf_91 rfl hM (fun y g hp => (v_drop (lvLe_s (lvLe_s (lvLe_n (lvLe_n (lvLe_n lvLe_e))))) (q y g hp)))
theorem c_X0_worthOf_94 {X : CX} {R : Room} {Z : ZX} {A : AX} {h : AH} {x1 s1 s2 s3 : Int32} {d : Nat} {P101 : Int32 → AH → Prop} (hA0 : 91 ≤ A.1) (hF : Fx h) (hR : RO R (d + 1)) (hcs : A.2.2.1 ≤ R.cells ∧ A.2.2.2 ≤ R.slots) (hi_95 : vp_in s1 9) (hM : Mk X d m_X8_worth [.ref 29, .int x1] (setI h 39 s1.toNatClampNeg (s2 - s3)) A.1 A.2.1 (RI P101)) (q : ∀ (y : Int32) (g : AH), P101 y g → V X m_X0_worthOf R Z A 104 [none, none, none, none, none] [.int y] g) : V X m_X0_worthOf R Z A 94 [some (.ref 66), some (.int x1), none, none, none] [.int s3, .int s2, .int s1, .ref 39] h := by
  refine v_isub dX0_worthOf_94 ?_
  refine v_iast dX0_worthOf_95 kd_39 (ltA hA0 rfl) hi_95 ?_
  refine v_aload_n dX0_worthOf_96 rfl ?_
  refine v_getR dX0_worthOf_97 fl_RX0_19 kd_66 (ltA hA0 rfl) rfl (hF 66 1 29 rfl) ?_
  refine v_iload_n dX0_worthOf_100 rfl ?_
  exact v_cVI (mt := m_X0_worthOf) mo_X8_worth ml_RX0_109 mi_X8_worth mv_X8_worth rfl kd_29 cl_8 rfl (ltA hA0 rfl) hR hcs (Nat.le_of_ble_eq_true rfl) dX0_worthOf_101 rfl hM (fun y g hp => (v_drop (lvLe_n (lvLe_n (lvLe_n (lvLe_n (lvLe_n lvLe_e))))) (q y g hp)))
theorem c_X0_worthOf_104 {X : CX} {R : Room} {Q : Option Value → AH → Prop} {nx sz mc ms : Nat} {h : AH} {s0 : Int32} (hq : Q (some (.int s0)) h) : V X m_X0_worthOf R (ZM X Q nx sz mc ms) (nx, sz, mc, ms) 104 [none, none, none, none, none] [.int s0] h := by
  exact v_iret dX0_worthOf_104 rfl hq
theorem e_X2_putNeed {X : CX} {d nx sz : Nat} {Q : Option Value → AH → Prop} {h : AH} {x1 x2 x3 : Int32} (q : V X m_X2_putNeed (rm d 0 0) (ZM X Q nx sz 0 0) (nx, sz, 0, 0) 0 [some (.ref 40), some (.int x1), some (.int x2), some (.int x3), none] [] h) : Mk X d m_X2_putNeed [.ref 40, .int x1, .int x2, .int x3] h nx sz Q := by
  refine Mok.ofV mo_X2_putNeed (Nat.le_of_ble_eq_true rfl) (L := [some (.ref 40), some (.int x1), some (.int x2), some (.int x3)]) (lvLe_s (lvLe_s (lvLe_s (lvLe_s lvLe_e)))) (v_grow (n := 1) ?_)
  exact q
theorem c_X2_putNeed_0 {X : CX} {R : Room} {Q : Option Value → AH → Prop} {nx sz mc ms : Nat} {h : AH} {x1 x2 x3 : Int32} {ra5 : Nat} (hA0 : 91 ≤ nx) (hF : Fx h) (hk_ra5 : kd X ra5 = (20, 20)) (hl_ra5 : ra5 < nx) (hi_5 : vp_in x1 20) (hr_5 : h.2.2 41 x1.toNatClampNeg = some ra5) (hi_7 : vp_in x2 20) (q : (h.1 ra5 x2.toNatClampNeg) ≤ 0 → x3 ≤ 0 → V X m_X2_putNeed R (ZM X Q nx sz mc ms) (nx, sz, mc, ms) 38 [some (.ref 40), some (.int x1), some (.int x2), some (.int x3), some (.int 0)] [] h) (q_1 : (h.1 ra5 x2.toNatClampNeg) ≤ 0 → ¬ x3 ≤ 0 → (h.1 40 3) < 60 → V X m_X2_putNeed R (ZM X Q nx sz mc ms) (nx, sz, mc, ms) 38 [some (.ref 40), some (.int x1), some (.int x2), some (.int x3), some (.int 0)] [] h) (hq : (h.1 ra5 x2.toNatClampNeg) ≤ 0 → ¬ x3 ≤ 0 → ¬ (h.1 40 3) < 60 → Q (some (.int 0)) h) (q_2 : ¬ (h.1 ra5 x2.toNatClampNeg) ≤ 0 → V X m_X2_putNeed R (ZM X Q nx sz mc ms) (nx, sz, mc, ms) 38 [some (.ref 40), some (.int x1), some (.int x2), some (.int x3), some (.int 1)] [] h) : V X m_X2_putNeed R (ZM X Q nx sz mc ms) (nx, sz, mc, ms) 0 [some (.ref 40), some (.int x1), some (.int x2), some (.int x3), none] [] h := by
  refine v_aload_n dX2_putNeed_0 rfl ?_
  refine v_getR dX2_putNeed_1 fl_RX2_11 kd_40 (ltA hA0 rfl) rfl (hF 40 1 41 rfl) ?_
  refine v_iload_n dX2_putNeed_4 rfl ?_
  refine v_aald dX2_putNeed_5 kd_41 (ltA hA0 rfl) hi_5 hr_5 ?_
  refine v_iload_n dX2_putNeed_6 rfl ?_
  refine v_iald dX2_putNeed_7 hk_ra5 hl_ra5 hi_7 ?_
  refine v_if_le (tgt := 15) dX2_putNeed_8 (by decide) (fun c0 => ?_) (fun c0 => ?_)
  · refine v_iconst dX2_putNeed_15 ci_0 ?_
    refine v_istore dX2_putNeed_16 (by decide) (L' := [some (.ref 40), some (.int x1), some (.int x2), some (.int x3), some (.int 0)]) rfl ?_
    refine v_iload dX2_putNeed_18 rfl ?_
    refine v_if_ne (tgt := 38) dX2_putNeed_20 (by decide) (fun z => absurd (show ¬ (0 : Int32) = 0 from z) (by decide)) (fun _ => ?_)
    refine v_iload_n dX2_putNeed_23 rfl ?_
    refine v_if_le (tgt := 38) dX2_putNeed_24 (by decide) (fun c1 => ?_) (fun c1 => ?_)
    · exact (q c0 c1)
    · refine v_aload_n dX2_putNeed_27 rfl ?_
      refine v_getI dX2_putNeed_28 fl_RX2_24 kd_40 (ltA hA0 rfl) rfl ?_
      refine v_bipush dX2_putNeed_31 cb_60 ?_
      refine v_icmp_lt (tgt := 38) dX2_putNeed_33 (by decide) (fun c2 => ?_) (fun c2 => ?_)
      · exact (q_1 c0 c1 c2)
      · refine v_iconst dX2_putNeed_36 ci_0 ?_
        exact v_zret (ty := .boolean) dX2_putNeed_37 rfl rfl (hq c0 c1 c2)
  · refine v_iconst dX2_putNeed_11 ci_1 ?_
    refine v_goto (tgt := 16) dX2_putNeed_12 (by decide) ?_
    refine v_istore dX2_putNeed_16 (by decide) (L' := [some (.ref 40), some (.int x1), some (.int x2), some (.int x3), some (.int 1)]) rfl ?_
    refine v_iload dX2_putNeed_18 rfl ?_
    refine v_if_ne (tgt := 38) dX2_putNeed_20 (by decide) (fun _ => ?_) (fun z => absurd (show (1 : Int32) = 0 from z) (by decide))
    exact (q_2 c0)
theorem c_X2_putNeed_38 {X : CX} {R : Room} {Q : Option Value → AH → Prop} {nx sz mc ms : Nat} {h : AH} {x1 x2 x3 x4 : Int32} {ra72 : Nat} (hA0 : 91 ≤ nx) (hF : Fx h) (hk_ra72 : kd X ra72 = (20, 20)) (hl_ra72 : ra72 < nx) (hi_72 : x3 ≤ 0 → x4 = 0 → vp_in x1 20) (hr_72 : x3 ≤ 0 → x4 = 0 → h.2.2 41 x1.toNatClampNeg = some ra72) (hi_75 : x3 ≤ 0 → x4 = 0 → vp_in x2 20) (hi_103 : x3 ≤ 0 → x4 = 0 → x3 ≤ 0 → vp_in x1 20) (hi_110 : x3 ≤ 0 → x4 = 0 → x3 ≤ 0 → vp_in x1 20) (hq : x3 ≤ 0 → x4 = 0 → x3 ≤ 0 → Q (some (.int 1)) (setI (setI (setI h 40 3 ((h.1 40 3) + (0 - 0))) ra72 x2.toNatClampNeg x3) 62 x1.toNatClampNeg (((setI (setI h 40 3 ((h.1 40 3) + (0 - 0))) ra72 x2.toNatClampNeg x3).1 62 x1.toNatClampNeg) &&& (((1 : Int32) <<< ((x2 : Int32) &&& 31)) ^^^ (-1))))) (hi_90 : x3 ≤ 0 → x4 = 0 → ¬ x3 ≤ 0 → vp_in x1 20) (hi_110_1 : x3 ≤ 0 → x4 = 0 → ¬ x3 ≤ 0 → vp_in x1 20) (hq_1 : x3 ≤ 0 → x4 = 0 → ¬ x3 ≤ 0 → Q (some (.int 1)) (setI (setI (setI h 40 3 ((h.1 40 3) + (0 - 0))) ra72 x2.toNatClampNeg x3) 62 x1.toNatClampNeg (((setI (setI h 40 3 ((h.1 40 3) + (0 - 0))) ra72 x2.toNatClampNeg x3).1 62 x1.toNatClampNeg) ||| ((1 : Int32) <<< ((x2 : Int32) &&& 31))))) (hi_72_1 : x3 ≤ 0 → ¬ x4 = 0 → vp_in x1 20) (hr_72_1 : x3 ≤ 0 → ¬ x4 = 0 → h.2.2 41 x1.toNatClampNeg = some ra72) (hi_75_1 : x3 ≤ 0 → ¬ x4 = 0 → vp_in x2 20) (hi_103_1 : x3 ≤ 0 → ¬ x4 = 0 → x3 ≤ 0 → vp_in x1 20) (hi_110_2 : x3 ≤ 0 → ¬ x4 = 0 → x3 ≤ 0 → vp_in x1 20) (hq_2 : x3 ≤ 0 → ¬ x4 = 0 → x3 ≤ 0 → Q (some (.int 1)) (setI (setI (setI h 40 3 ((h.1 40 3) + (0 - 1))) ra72 x2.toNatClampNeg x3) 62 x1.toNatClampNeg (((setI (setI h 40 3 ((h.1 40 3) + (0 - 1))) ra72 x2.toNatClampNeg x3).1 62 x1.toNatClampNeg) &&& (((1 : Int32) <<< ((x2 : Int32) &&& 31)) ^^^ (-1))))) (hi_90_1 : x3 ≤ 0 → ¬ x4 = 0 → ¬ x3 ≤ 0 → vp_in x1 20) (hi_110_3 : x3 ≤ 0 → ¬ x4 = 0 → ¬ x3 ≤ 0 → vp_in x1 20) (hq_3 : x3 ≤ 0 → ¬ x4 = 0 → ¬ x3 ≤ 0 → Q (some (.int 1)) (setI (setI (setI h 40 3 ((h.1 40 3) + (0 - 1))) ra72 x2.toNatClampNeg x3) 62 x1.toNatClampNeg (((setI (setI h 40 3 ((h.1 40 3) + (0 - 1))) ra72 x2.toNatClampNeg x3).1 62 x1.toNatClampNeg) ||| ((1 : Int32) <<< ((x2 : Int32) &&& 31))))) (hi_72_2 : ¬ x3 ≤ 0 → x4 = 0 → vp_in x1 20) (hr_72_2 : ¬ x3 ≤ 0 → x4 = 0 → h.2.2 41 x1.toNatClampNeg = some ra72) (hi_75_2 : ¬ x3 ≤ 0 → x4 = 0 → vp_in x2 20) (hi_103_2 : ¬ x3 ≤ 0 → x4 = 0 → x3 ≤ 0 → vp_in x1 20) (hi_110_4 : ¬ x3 ≤ 0 → x4 = 0 → x3 ≤ 0 → vp_in x1 20) (hq_4 : ¬ x3 ≤ 0 → x4 = 0 → x3 ≤ 0 → Q (some (.int 1)) (setI (setI (setI h 40 3 ((h.1 40 3) + (1 - 0))) ra72 x2.toNatClampNeg x3) 62 x1.toNatClampNeg (((setI (setI h 40 3 ((h.1 40 3) + (1 - 0))) ra72 x2.toNatClampNeg x3).1 62 x1.toNatClampNeg) &&& (((1 : Int32) <<< ((x2 : Int32) &&& 31)) ^^^ (-1))))) (hi_90_2 : ¬ x3 ≤ 0 → x4 = 0 → ¬ x3 ≤ 0 → vp_in x1 20) (hi_110_5 : ¬ x3 ≤ 0 → x4 = 0 → ¬ x3 ≤ 0 → vp_in x1 20) (hq_5 : ¬ x3 ≤ 0 → x4 = 0 → ¬ x3 ≤ 0 → Q (some (.int 1)) (setI (setI (setI h 40 3 ((h.1 40 3) + (1 - 0))) ra72 x2.toNatClampNeg x3) 62 x1.toNatClampNeg (((setI (setI h 40 3 ((h.1 40 3) + (1 - 0))) ra72 x2.toNatClampNeg x3).1 62 x1.toNatClampNeg) ||| ((1 : Int32) <<< ((x2 : Int32) &&& 31))))) (hi_72_3 : ¬ x3 ≤ 0 → ¬ x4 = 0 → vp_in x1 20) (hr_72_3 : ¬ x3 ≤ 0 → ¬ x4 = 0 → h.2.2 41 x1.toNatClampNeg = some ra72) (hi_75_3 : ¬ x3 ≤ 0 → ¬ x4 = 0 → vp_in x2 20) (hi_103_3 : ¬ x3 ≤ 0 → ¬ x4 = 0 → x3 ≤ 0 → vp_in x1 20) (hi_110_6 : ¬ x3 ≤ 0 → ¬ x4 = 0 → x3 ≤ 0 → vp_in x1 20) (hq_6 : ¬ x3 ≤ 0 → ¬ x4 = 0 → x3 ≤ 0 → Q (some (.int 1)) (setI (setI (setI h 40 3 ((h.1 40 3) + (1 - 1))) ra72 x2.toNatClampNeg x3) 62 x1.toNatClampNeg (((setI (setI h 40 3 ((h.1 40 3) + (1 - 1))) ra72 x2.toNatClampNeg x3).1 62 x1.toNatClampNeg) &&& (((1 : Int32) <<< ((x2 : Int32) &&& 31)) ^^^ (-1))))) (hi_90_3 : ¬ x3 ≤ 0 → ¬ x4 = 0 → ¬ x3 ≤ 0 → vp_in x1 20) (hi_110_7 : ¬ x3 ≤ 0 → ¬ x4 = 0 → ¬ x3 ≤ 0 → vp_in x1 20) (hq_7 : ¬ x3 ≤ 0 → ¬ x4 = 0 → ¬ x3 ≤ 0 → Q (some (.int 1)) (setI (setI (setI h 40 3 ((h.1 40 3) + (1 - 1))) ra72 x2.toNatClampNeg x3) 62 x1.toNatClampNeg (((setI (setI h 40 3 ((h.1 40 3) + (1 - 1))) ra72 x2.toNatClampNeg x3).1 62 x1.toNatClampNeg) ||| ((1 : Int32) <<< ((x2 : Int32) &&& 31))))) : V X m_X2_putNeed R (ZM X Q nx sz mc ms) (nx, sz, mc, ms) 38 [some (.ref 40), some (.int x1), some (.int x2), some (.int x3), some (.int x4)] [] h := by
  refine v_aload_n dX2_putNeed_38 rfl ?_
  refine v_dup dX2_putNeed_39 rfl ?_
  refine v_getI dX2_putNeed_40 fl_RX2_24 kd_40 (ltA hA0 rfl) rfl ?_
  refine v_iload_n dX2_putNeed_43 rfl ?_
  refine v_if_le (tgt := 51) dX2_putNeed_44 (by decide) (fun c0 => ?_) (fun c0 => ?_)
  · refine v_iconst dX2_putNeed_51 ci_0 ?_
    refine v_iload dX2_putNeed_52 rfl ?_
    refine v_if_eq (tgt := 61) dX2_putNeed_54 (by decide) (fun c1 => ?_) (fun c1 => ?_)
    · refine v_iconst dX2_putNeed_61 ci_0 ?_
      refine v_isub dX2_putNeed_62 ?_
      refine v_iadd dX2_putNeed_63 ?_
      refine v_putI rfl rfl rfl dX2_putNeed_64 fl_RX2_24 (Or.inl rfl) kd_40 (ltA hA0 rfl) ?_
      refine v_aload_n dX2_putNeed_67 rfl ?_
      refine v_getR dX2_putNeed_68 fl_RX2_11 kd_40 (ltA hA0 rfl) rfl (hF 40 1 41 rfl) ?_
      refine v_iload_n dX2_putNeed_71 rfl ?_
      refine v_aald dX2_putNeed_72 kd_41 (ltA hA0 rfl) (hi_72 c0 c1) (hr_72 c0 c1) ?_
      refine v_iload_n dX2_putNeed_73 rfl ?_
      refine v_iload_n dX2_putNeed_74 rfl ?_
      refine v_iast dX2_putNeed_75 hk_ra72 hl_ra72 (hi_75 c0 c1) ?_
      refine v_aload_n dX2_putNeed_76 rfl ?_
      refine v_getR dX2_putNeed_77 fl_RX2_16 kd_40 (ltA hA0 rfl) rfl (hF 40 2 62 rfl) ?_
      refine v_iload_n dX2_putNeed_80 rfl ?_
      refine v_iload_n dX2_putNeed_81 rfl ?_
      refine v_if_le (tgt := 98) dX2_putNeed_82 (by decide) (fun c2 => ?_) (fun c2 => ?_)
      · refine v_aload_n dX2_putNeed_98 rfl ?_
        refine v_getR dX2_putNeed_99 fl_RX2_16 kd_40 (ltA hA0 rfl) rfl (hF 40 2 62 rfl) ?_
        refine v_iload_n dX2_putNeed_102 rfl ?_
        refine v_iald dX2_putNeed_103 kd_62 (ltA hA0 rfl) (hi_103 c0 c1 c2) ?_
        refine v_iconst dX2_putNeed_104 ci_1 ?_
        refine v_iload_n dX2_putNeed_105 rfl ?_
        refine v_ishl dX2_putNeed_106 ?_
        refine v_iconst dX2_putNeed_107 ci_m1 ?_
        refine v_ixor dX2_putNeed_108 ?_
        refine v_iand dX2_putNeed_109 ?_
        refine v_iast dX2_putNeed_110 kd_62 (ltA hA0 rfl) (hi_110 c0 c1 c2) ?_
        refine v_iconst dX2_putNeed_111 ci_1 ?_
        exact v_zret (ty := .boolean) dX2_putNeed_112 rfl rfl (hq c0 c1 c2)
      · refine v_aload_n dX2_putNeed_85 rfl ?_
        refine v_getR dX2_putNeed_86 fl_RX2_16 kd_40 (ltA hA0 rfl) rfl (hF 40 2 62 rfl) ?_
        refine v_iload_n dX2_putNeed_89 rfl ?_
        refine v_iald dX2_putNeed_90 kd_62 (ltA hA0 rfl) (hi_90 c0 c1 c2) ?_
        refine v_iconst dX2_putNeed_91 ci_1 ?_
        refine v_iload_n dX2_putNeed_92 rfl ?_
        refine v_ishl dX2_putNeed_93 ?_
        refine v_ior dX2_putNeed_94 ?_
        refine v_goto (tgt := 110) dX2_putNeed_95 (by decide) ?_
        refine v_iast dX2_putNeed_110 kd_62 (ltA hA0 rfl) (hi_110_1 c0 c1 c2) ?_
        refine v_iconst dX2_putNeed_111 ci_1 ?_
        exact v_zret (ty := .boolean) dX2_putNeed_112 rfl rfl (hq_1 c0 c1 c2)
    · refine v_iconst dX2_putNeed_57 ci_1 ?_
      refine v_goto (tgt := 62) dX2_putNeed_58 (by decide) ?_
      refine v_isub dX2_putNeed_62 ?_
      refine v_iadd dX2_putNeed_63 ?_
      refine v_putI rfl rfl rfl dX2_putNeed_64 fl_RX2_24 (Or.inl rfl) kd_40 (ltA hA0 rfl) ?_
      refine v_aload_n dX2_putNeed_67 rfl ?_
      refine v_getR dX2_putNeed_68 fl_RX2_11 kd_40 (ltA hA0 rfl) rfl (hF 40 1 41 rfl) ?_
      refine v_iload_n dX2_putNeed_71 rfl ?_
      refine v_aald dX2_putNeed_72 kd_41 (ltA hA0 rfl) (hi_72_1 c0 c1) (hr_72_1 c0 c1) ?_
      refine v_iload_n dX2_putNeed_73 rfl ?_
      refine v_iload_n dX2_putNeed_74 rfl ?_
      refine v_iast dX2_putNeed_75 hk_ra72 hl_ra72 (hi_75_1 c0 c1) ?_
      refine v_aload_n dX2_putNeed_76 rfl ?_
      refine v_getR dX2_putNeed_77 fl_RX2_16 kd_40 (ltA hA0 rfl) rfl (hF 40 2 62 rfl) ?_
      refine v_iload_n dX2_putNeed_80 rfl ?_
      refine v_iload_n dX2_putNeed_81 rfl ?_
      refine v_if_le (tgt := 98) dX2_putNeed_82 (by decide) (fun c2 => ?_) (fun c2 => ?_)
      · refine v_aload_n dX2_putNeed_98 rfl ?_
        refine v_getR dX2_putNeed_99 fl_RX2_16 kd_40 (ltA hA0 rfl) rfl (hF 40 2 62 rfl) ?_
        refine v_iload_n dX2_putNeed_102 rfl ?_
        refine v_iald dX2_putNeed_103 kd_62 (ltA hA0 rfl) (hi_103_1 c0 c1 c2) ?_
        refine v_iconst dX2_putNeed_104 ci_1 ?_
        refine v_iload_n dX2_putNeed_105 rfl ?_
        refine v_ishl dX2_putNeed_106 ?_
        refine v_iconst dX2_putNeed_107 ci_m1 ?_
        refine v_ixor dX2_putNeed_108 ?_
        refine v_iand dX2_putNeed_109 ?_
        refine v_iast dX2_putNeed_110 kd_62 (ltA hA0 rfl) (hi_110_2 c0 c1 c2) ?_
        refine v_iconst dX2_putNeed_111 ci_1 ?_
        exact v_zret (ty := .boolean) dX2_putNeed_112 rfl rfl (hq_2 c0 c1 c2)
      · refine v_aload_n dX2_putNeed_85 rfl ?_
        refine v_getR dX2_putNeed_86 fl_RX2_16 kd_40 (ltA hA0 rfl) rfl (hF 40 2 62 rfl) ?_
        refine v_iload_n dX2_putNeed_89 rfl ?_
        refine v_iald dX2_putNeed_90 kd_62 (ltA hA0 rfl) (hi_90_1 c0 c1 c2) ?_
        refine v_iconst dX2_putNeed_91 ci_1 ?_
        refine v_iload_n dX2_putNeed_92 rfl ?_
        refine v_ishl dX2_putNeed_93 ?_
        refine v_ior dX2_putNeed_94 ?_
        refine v_goto (tgt := 110) dX2_putNeed_95 (by decide) ?_
        refine v_iast dX2_putNeed_110 kd_62 (ltA hA0 rfl) (hi_110_3 c0 c1 c2) ?_
        refine v_iconst dX2_putNeed_111 ci_1 ?_
        exact v_zret (ty := .boolean) dX2_putNeed_112 rfl rfl (hq_3 c0 c1 c2)
  · refine v_iconst dX2_putNeed_47 ci_1 ?_
    refine v_goto (tgt := 52) dX2_putNeed_48 (by decide) ?_
    refine v_iload dX2_putNeed_52 rfl ?_
    refine v_if_eq (tgt := 61) dX2_putNeed_54 (by decide) (fun c1 => ?_) (fun c1 => ?_)
    · refine v_iconst dX2_putNeed_61 ci_0 ?_
      refine v_isub dX2_putNeed_62 ?_
      refine v_iadd dX2_putNeed_63 ?_
      refine v_putI rfl rfl rfl dX2_putNeed_64 fl_RX2_24 (Or.inl rfl) kd_40 (ltA hA0 rfl) ?_
      refine v_aload_n dX2_putNeed_67 rfl ?_
      refine v_getR dX2_putNeed_68 fl_RX2_11 kd_40 (ltA hA0 rfl) rfl (hF 40 1 41 rfl) ?_
      refine v_iload_n dX2_putNeed_71 rfl ?_
      refine v_aald dX2_putNeed_72 kd_41 (ltA hA0 rfl) (hi_72_2 c0 c1) (hr_72_2 c0 c1) ?_
      refine v_iload_n dX2_putNeed_73 rfl ?_
      refine v_iload_n dX2_putNeed_74 rfl ?_
      refine v_iast dX2_putNeed_75 hk_ra72 hl_ra72 (hi_75_2 c0 c1) ?_
      refine v_aload_n dX2_putNeed_76 rfl ?_
      refine v_getR dX2_putNeed_77 fl_RX2_16 kd_40 (ltA hA0 rfl) rfl (hF 40 2 62 rfl) ?_
      refine v_iload_n dX2_putNeed_80 rfl ?_
      refine v_iload_n dX2_putNeed_81 rfl ?_
      refine v_if_le (tgt := 98) dX2_putNeed_82 (by decide) (fun c2 => ?_) (fun c2 => ?_)
      · refine v_aload_n dX2_putNeed_98 rfl ?_
        refine v_getR dX2_putNeed_99 fl_RX2_16 kd_40 (ltA hA0 rfl) rfl (hF 40 2 62 rfl) ?_
        refine v_iload_n dX2_putNeed_102 rfl ?_
        refine v_iald dX2_putNeed_103 kd_62 (ltA hA0 rfl) (hi_103_2 c0 c1 c2) ?_
        refine v_iconst dX2_putNeed_104 ci_1 ?_
        refine v_iload_n dX2_putNeed_105 rfl ?_
        refine v_ishl dX2_putNeed_106 ?_
        refine v_iconst dX2_putNeed_107 ci_m1 ?_
        refine v_ixor dX2_putNeed_108 ?_
        refine v_iand dX2_putNeed_109 ?_
        refine v_iast dX2_putNeed_110 kd_62 (ltA hA0 rfl) (hi_110_4 c0 c1 c2) ?_
        refine v_iconst dX2_putNeed_111 ci_1 ?_
        exact v_zret (ty := .boolean) dX2_putNeed_112 rfl rfl (hq_4 c0 c1 c2)
      · refine v_aload_n dX2_putNeed_85 rfl ?_
        refine v_getR dX2_putNeed_86 fl_RX2_16 kd_40 (ltA hA0 rfl) rfl (hF 40 2 62 rfl) ?_
        refine v_iload_n dX2_putNeed_89 rfl ?_
        refine v_iald dX2_putNeed_90 kd_62 (ltA hA0 rfl) (hi_90_2 c0 c1 c2) ?_
        refine v_iconst dX2_putNeed_91 ci_1 ?_
        refine v_iload_n dX2_putNeed_92 rfl ?_
        refine v_ishl dX2_putNeed_93 ?_
        refine v_ior dX2_putNeed_94 ?_
        refine v_goto (tgt := 110) dX2_putNeed_95 (by decide) ?_
        refine v_iast dX2_putNeed_110 kd_62 (ltA hA0 rfl) (hi_110_5 c0 c1 c2) ?_
        refine v_iconst dX2_putNeed_111 ci_1 ?_
        exact v_zret (ty := .boolean) dX2_putNeed_112 rfl rfl (hq_5 c0 c1 c2)
    · refine v_iconst dX2_putNeed_57 ci_1 ?_
      refine v_goto (tgt := 62) dX2_putNeed_58 (by decide) ?_
      refine v_isub dX2_putNeed_62 ?_
      refine v_iadd dX2_putNeed_63 ?_
      refine v_putI rfl rfl rfl dX2_putNeed_64 fl_RX2_24 (Or.inl rfl) kd_40 (ltA hA0 rfl) ?_
      refine v_aload_n dX2_putNeed_67 rfl ?_
      refine v_getR dX2_putNeed_68 fl_RX2_11 kd_40 (ltA hA0 rfl) rfl (hF 40 1 41 rfl) ?_
      refine v_iload_n dX2_putNeed_71 rfl ?_
      refine v_aald dX2_putNeed_72 kd_41 (ltA hA0 rfl) (hi_72_3 c0 c1) (hr_72_3 c0 c1) ?_
      refine v_iload_n dX2_putNeed_73 rfl ?_
      refine v_iload_n dX2_putNeed_74 rfl ?_
      refine v_iast dX2_putNeed_75 hk_ra72 hl_ra72 (hi_75_3 c0 c1) ?_
      refine v_aload_n dX2_putNeed_76 rfl ?_
      refine v_getR dX2_putNeed_77 fl_RX2_16 kd_40 (ltA hA0 rfl) rfl (hF 40 2 62 rfl) ?_
      refine v_iload_n dX2_putNeed_80 rfl ?_
      refine v_iload_n dX2_putNeed_81 rfl ?_
      refine v_if_le (tgt := 98) dX2_putNeed_82 (by decide) (fun c2 => ?_) (fun c2 => ?_)
      · refine v_aload_n dX2_putNeed_98 rfl ?_
        refine v_getR dX2_putNeed_99 fl_RX2_16 kd_40 (ltA hA0 rfl) rfl (hF 40 2 62 rfl) ?_
        refine v_iload_n dX2_putNeed_102 rfl ?_
        refine v_iald dX2_putNeed_103 kd_62 (ltA hA0 rfl) (hi_103_3 c0 c1 c2) ?_
        refine v_iconst dX2_putNeed_104 ci_1 ?_
        refine v_iload_n dX2_putNeed_105 rfl ?_
        refine v_ishl dX2_putNeed_106 ?_
        refine v_iconst dX2_putNeed_107 ci_m1 ?_
        refine v_ixor dX2_putNeed_108 ?_
        refine v_iand dX2_putNeed_109 ?_
        refine v_iast dX2_putNeed_110 kd_62 (ltA hA0 rfl) (hi_110_6 c0 c1 c2) ?_
        refine v_iconst dX2_putNeed_111 ci_1 ?_
        exact v_zret (ty := .boolean) dX2_putNeed_112 rfl rfl (hq_6 c0 c1 c2)
      · refine v_aload_n dX2_putNeed_85 rfl ?_
        refine v_getR dX2_putNeed_86 fl_RX2_16 kd_40 (ltA hA0 rfl) rfl (hF 40 2 62 rfl) ?_
        refine v_iload_n dX2_putNeed_89 rfl ?_
        refine v_iald dX2_putNeed_90 kd_62 (ltA hA0 rfl) (hi_90_3 c0 c1 c2) ?_
        refine v_iconst dX2_putNeed_91 ci_1 ?_
        refine v_iload_n dX2_putNeed_92 rfl ?_
        refine v_ishl dX2_putNeed_93 ?_
        refine v_ior dX2_putNeed_94 ?_
        refine v_goto (tgt := 110) dX2_putNeed_95 (by decide) ?_
        refine v_iast dX2_putNeed_110 kd_62 (ltA hA0 rfl) (hi_110_7 c0 c1 c2) ?_
        refine v_iconst dX2_putNeed_111 ci_1 ?_
        exact v_zret (ty := .boolean) dX2_putNeed_112 rfl rfl (hq_7 c0 c1 c2)
theorem e_X2_valueOf {X : CX} {d nx sz : Nat} {Q : Option Value → AH → Prop} {h : AH} {x1 : Int32} (q : V X m_X2_valueOf (rm d 0 0) (ZM X Q nx sz 0 0) (nx, sz, 0, 0) 0 [some (.ref 40), some (.int x1), none, none, none, none] [] h) : Mk X d m_X2_valueOf [.ref 40, .int x1] h nx sz Q := by
  refine Mok.ofV mo_X2_valueOf (Nat.le_of_ble_eq_true rfl) (L := [some (.ref 40), some (.int x1)]) (lvLe_s (lvLe_s lvLe_e)) (v_grow (n := 4) ?_)
  exact q
theorem c_X2_valueOf_0 {X : CX} {R : Room} {Z : ZX} {A : AX} {h : AH} {x1 : Int32} (q : V X m_X2_valueOf R Z A 12 [some (.ref 40), some (.int x1), some (.int ((1 : Int32) <<< ((x1 : Int32) &&& 31))), some (.int ((1 : Int32) <<< ((x1 : Int32) &&& 31))), some (.int 0), some (.int 1)] [] h) : V X m_X2_valueOf R Z A 0 [some (.ref 40), some (.int x1), none, none, none, none] [] h := by
  refine v_iconst dX2_valueOf_0 ci_1 ?_
  refine v_iload_n dX2_valueOf_1 rfl ?_
  refine v_ishl dX2_valueOf_2 ?_
  refine v_istore_n dX2_valueOf_3 (by decide) (L' := [some (.ref 40), some (.int x1), some (.int ((1 : Int32) <<< ((x1 : Int32) &&& 31))), none, none, none]) rfl ?_
  refine v_iload_n dX2_valueOf_4 rfl ?_
  refine v_istore_n dX2_valueOf_5 (by decide) (L' := [some (.ref 40), some (.int x1), some (.int ((1 : Int32) <<< ((x1 : Int32) &&& 31))), some (.int ((1 : Int32) <<< ((x1 : Int32) &&& 31))), none, none]) rfl ?_
  refine v_iconst dX2_valueOf_6 ci_0 ?_
  refine v_istore dX2_valueOf_7 (by decide) (L' := [some (.ref 40), some (.int x1), some (.int ((1 : Int32) <<< ((x1 : Int32) &&& 31))), some (.int ((1 : Int32) <<< ((x1 : Int32) &&& 31))), some (.int 0), none]) rfl ?_
  refine v_iconst dX2_valueOf_9 ci_1 ?_
  refine v_istore dX2_valueOf_10 (by decide) (L' := [some (.ref 40), some (.int x1), some (.int ((1 : Int32) <<< ((x1 : Int32) &&& 31))), some (.int ((1 : Int32) <<< ((x1 : Int32) &&& 31))), some (.int 0), some (.int 1)]) rfl ?_
  exact q
theorem c_X2_valueOf_12 {X : CX} {R : Room} {Q : Option Value → AH → Prop} {nx sz mc ms : Nat} {h : AH} {x1 x2 x3 x4 x5 : Int32} {d : Nat} {P60 : Int32 → AH → Prop} (hA0 : 91 ≤ nx) (hF : Fx h) (hR : RO R (d + 1)) (hcs : mc ≤ R.cells ∧ ms ≤ R.slots) (hq : (h.1 1 0) ≤ x5 → Q (some (.int x4)) h) (hq_1 : ¬ (h.1 1 0) ≤ x5 → x3 = 0 → Q (some (.int x4)) h) (hi_33 : ¬ (h.1 1 0) ≤ x5 → ¬ x3 = 0 → vp_in x1 20) (hM : ¬ (h.1 1 0) ≤ x5 → ¬ x3 = 0 → ¬ ((h.1 62 x1.toNatClampNeg) &&& (x2 ^^^ (-1))) = 0 → Mk X d m_X3_around [.ref 1, .int x3, .int ((h.1 1 1) &&& (x2 ^^^ (-1)))] h nx sz (RI P60)) (q : ¬ (h.1 1 0) ≤ x5 → ¬ x3 = 0 → ¬ ((h.1 62 x1.toNatClampNeg) &&& (x2 ^^^ (-1))) = 0 → ∀ (y : Int32) (g : AH), P60 y g → V X m_X2_valueOf R (ZM X Q nx sz mc ms) (nx, sz, mc, ms) 63 [some (.ref 40), some (.int x1), some (.int x2), none, some (.int x4), some (.int x5)] [.int y] g) (hq_2 : ¬ (h.1 1 0) ≤ x5 → ¬ x3 = 0 → ((h.1 62 x1.toNatClampNeg) &&& (x2 ^^^ (-1))) = 0 → Q (some (.int x4)) h) : V X m_X2_valueOf R (ZM X Q nx sz mc ms) (nx, sz, mc, ms) 12 [some (.ref 40), some (.int x1), some (.int x2), some (.int x3), some (.int x4), some (.int x5)] [] h := by
  refine v_iload dX2_valueOf_12 rfl ?_
  refine v_aload_n dX2_valueOf_14 rfl ?_
  refine v_getR dX2_valueOf_15 fl_RX2_20 kd_40 (ltA hA0 rfl) rfl (hF 40 0 1 rfl) ?_
  refine v_getI dX2_valueOf_18 fl_RX2_28 kd_1 (ltA hA0 rfl) rfl ?_
  refine v_icmp_ge (tgt := 96) dX2_valueOf_21 (by decide) (fun c0 => ?_) (fun c0 => ?_)
  · refine v_iload dX2_valueOf_96 rfl ?_
    exact v_iret dX2_valueOf_98 rfl (hq c0)
  · refine v_iload_n dX2_valueOf_24 rfl ?_
    refine v_if_eq (tgt := 96) dX2_valueOf_25 (by decide) (fun c1 => ?_) (fun c1 => ?_)
    · refine v_iload dX2_valueOf_96 rfl ?_
      exact v_iret dX2_valueOf_98 rfl (hq_1 c0 c1)
    · refine v_aload_n dX2_valueOf_28 rfl ?_
      refine v_getR dX2_valueOf_29 fl_RX2_16 kd_40 (ltA hA0 rfl) rfl (hF 40 2 62 rfl) ?_
      refine v_iload_n dX2_valueOf_32 rfl ?_
      refine v_iald dX2_valueOf_33 kd_62 (ltA hA0 rfl) (hi_33 c0 c1) ?_
      refine v_iload_n dX2_valueOf_34 rfl ?_
      refine v_iconst dX2_valueOf_35 ci_m1 ?_
      refine v_ixor dX2_valueOf_36 ?_
      refine v_iand dX2_valueOf_37 ?_
      refine v_if_ne (tgt := 44) dX2_valueOf_38 (by decide) (fun c2 => ?_) (fun c2 => ?_)
      · refine v_aload_n dX2_valueOf_44 rfl ?_
        refine v_getR dX2_valueOf_45 fl_RX2_20 kd_40 (ltA hA0 rfl) rfl (hF 40 0 1 rfl) ?_
        refine v_iload_n dX2_valueOf_48 rfl ?_
        refine v_aload_n dX2_valueOf_49 rfl ?_
        refine v_getR dX2_valueOf_50 fl_RX2_20 kd_40 (ltA hA0 rfl) rfl (hF 40 0 1 rfl) ?_
        refine v_getI dX2_valueOf_53 fl_RX2_33 kd_1 (ltA hA0 rfl) rfl ?_
        refine v_iload_n dX2_valueOf_56 rfl ?_
        refine v_iconst dX2_valueOf_57 ci_m1 ?_
        refine v_ixor dX2_valueOf_58 ?_
        refine v_iand dX2_valueOf_59 ?_
        exact v_cVI (mt := m_X2_valueOf) mo_X3_around ml_RX2_36 mi_X3_around mv_X3_around rfl kd_1 cl_3 rfl (ltA hA0 rfl) hR hcs (Nat.le_of_ble_eq_true rfl) dX2_valueOf_60 rfl (hM c0 c1 c2) (fun y g hp => (v_drop (lvLe_s (lvLe_s (lvLe_s (lvLe_n (lvLe_s (lvLe_s lvLe_e)))))) ((q c0 c1 c2) y g hp)))
      · refine v_iload dX2_valueOf_41 rfl ?_
        exact v_iret dX2_valueOf_43 rfl (hq_2 c0 c1 c2)
theorem c_X2_valueOf_63 {X : CX} {R : Room} {Z : ZX} {A : AX} {h : AH} {x1 x2 x4 x5 s0 : Int32} {d : Nat} {P80 : Int32 → AH → Prop} (hA0 : 91 ≤ A.1) (hF : Fx h) (hR : RO R (d + 1)) (hcs : A.2.2.1 ≤ R.cells ∧ A.2.2.2 ≤ R.slots) (hi_74 : vp_in x1 20) (hM : Mk X d m_X2_valueAmong [.ref 40, .int x1, .int (s0 &&& (h.1 62 x1.toNatClampNeg)), .int (x5 - 1)] h A.1 A.2.1 (RI P80)) (q : ∀ (y : Int32) (g : AH), P80 y g → V X m_X2_valueOf R Z A 83 [some (.ref 40), some (.int x1), some (.int x2), some (.int s0), none, some (.int x5)] [.int y, .int x4] g) : V X m_X2_valueOf R Z A 63 [some (.ref 40), some (.int x1), some (.int x2), none, some (.int x4), some (.int x5)] [.int s0] h := by
  refine v_istore_n dX2_valueOf_63 (by decide) (L' := [some (.ref 40), some (.int x1), some (.int x2), some (.int s0), some (.int x4), some (.int x5)]) rfl ?_
  refine v_iload dX2_valueOf_64 rfl ?_
  refine v_aload_n dX2_valueOf_66 rfl ?_
  refine v_iload_n dX2_valueOf_67 rfl ?_
  refine v_iload_n dX2_valueOf_68 rfl ?_
  refine v_aload_n dX2_valueOf_69 rfl ?_
  refine v_getR dX2_valueOf_70 fl_RX2_16 kd_40 (ltA hA0 rfl) rfl (hF 40 2 62 rfl) ?_
  refine v_iload_n dX2_valueOf_73 rfl ?_
  refine v_iald dX2_valueOf_74 kd_62 (ltA hA0 rfl) hi_74 ?_
  refine v_iand dX2_valueOf_75 ?_
  refine v_iload dX2_valueOf_76 rfl ?_
  refine v_iconst dX2_valueOf_78 ci_1 ?_
  refine v_isub dX2_valueOf_79 ?_
  exact v_cVI (mt := m_X2_valueOf) mo_X2_valueAmong ml_RX2_40 mi_X2_valueAmong mv_X2_valueAmong rfl kd_40 cl_2 rfl (ltA hA0 rfl) hR hcs (Nat.le_of_ble_eq_true rfl) dX2_valueOf_80 rfl hM (fun y g hp => (v_drop (lvLe_s (lvLe_s (lvLe_s (lvLe_s (lvLe_n (lvLe_s lvLe_e)))))) (q y g hp)))
theorem c_X2_valueOf_83 {X : CX} {R : Room} {Z : ZX} {A : AX} {h : AH} {x1 x2 x3 x5 s0 s1 : Int32} (q : V X m_X2_valueOf R Z A 12 [some (.ref 40), some (.int x1), some (.int (x2 ||| x3)), some (.int x3), some (.int (s0 + s1)), some (.int (x5 + 1))] [] h) : V X m_X2_valueOf R Z A 83 [some (.ref 40), some (.int x1), some (.int x2), some (.int x3), none, some (.int x5)] [.int s1, .int s0] h := by
  refine v_iadd dX2_valueOf_83 ?_
  refine v_istore dX2_valueOf_84 (by decide) (L' := [some (.ref 40), some (.int x1), some (.int x2), some (.int x3), some (.int (s0 + s1)), some (.int x5)]) rfl ?_
  refine v_iload_n dX2_valueOf_86 rfl ?_
  refine v_iload_n dX2_valueOf_87 rfl ?_
  refine v_ior dX2_valueOf_88 ?_
  refine v_istore_n dX2_valueOf_89 (by decide) (L' := [some (.ref 40), some (.int x1), some (.int (x2 ||| x3)), some (.int x3), some (.int (s0 + s1)), some (.int x5)]) rfl ?_
  refine v_iinc (y := (x5 + 1)) dX2_valueOf_90 rfl rfl (by decide) (L' := [some (.ref 40), some (.int x1), some (.int (x2 ||| x3)), some (.int x3), some (.int (s0 + s1)), some (.int (x5 + 1))]) rfl ?_
  refine v_goto (tgt := 12) dX2_valueOf_93 (by decide) ?_
  exact q
theorem e_X2_valueAmong {X : CX} {d nx sz : Nat} {Q : Option Value → AH → Prop} {h : AH} {x1 x2 x3 : Int32} (q : V X m_X2_valueAmong (rm d 0 0) (ZM X Q nx sz 0 0) (nx, sz, 0, 0) 0 [some (.ref 40), some (.int x1), some (.int x2), some (.int x3), none, none] [] h) : Mk X d m_X2_valueAmong [.ref 40, .int x1, .int x2, .int x3] h nx sz Q := by
  refine Mok.ofV mo_X2_valueAmong (Nat.le_of_ble_eq_true rfl) (L := [some (.ref 40), some (.int x1), some (.int x2), some (.int x3)]) (lvLe_s (lvLe_s (lvLe_s (lvLe_s lvLe_e)))) (v_grow (n := 2) ?_)
  exact q
theorem c_X2_valueAmong_0 {X : CX} {R : Room} {Z : ZX} {A : AX} {h : AH} {x1 x2 x3 : Int32} (q : V X m_X2_valueAmong R Z A 6 [some (.ref 40), some (.int x1), some (.int x2), some (.int x3), some (.int 0), some (.int 0)] [] h) : V X m_X2_valueAmong R Z A 0 [some (.ref 40), some (.int x1), some (.int x2), some (.int x3), none, none] [] h := by
  refine v_iconst dX2_valueAmong_0 ci_0 ?_
  refine v_istore dX2_valueAmong_1 (by decide) (L' := [some (.ref 40), some (.int x1), some (.int x2), some (.int x3), some (.int 0), none]) rfl ?_
  refine v_iconst dX2_valueAmong_3 ci_0 ?_
  refine v_istore dX2_valueAmong_4 (by decide) (L' := [some (.ref 40), some (.int x1), some (.int x2), some (.int x3), some (.int 0), some (.int 0)]) rfl ?_
  exact q
theorem c_X2_valueAmong_6 {X : CX} {R : Room} {Q : Option Value → AH → Prop} {nx sz mc ms : Nat} {h : AH} {x1 x2 x3 x4 x5 : Int32} {ra38 : Nat} (hA0 : 91 ≤ nx) (hF : Fx h) (hk_ra38 : kd X ra38 = (20, 20)) (hl_ra38 : ra38 < nx) (hq : (h.1 1 0) ≤ x5 → Q (some (.int x4)) h) (hq_1 : ¬ (h.1 1 0) ≤ x5 → x2 = 0 → Q (some (.int x4)) h) (q : ¬ (h.1 1 0) ≤ x5 → ¬ x2 = 0 → ((x2 >>> (x5 &&& 31)) &&& 1) = 0 → V X m_X2_valueAmong R (ZM X Q nx sz mc ms) (nx, sz, mc, ms) 6 [some (.ref 40), some (.int x1), some (.int x2), some (.int x3), some (.int x4), some (.int (x5 + 1))] [] h) (hi_38 : ¬ (h.1 1 0) ≤ x5 → ¬ x2 = 0 → ¬ ((x2 >>> (x5 &&& 31)) &&& 1) = 0 → vp_in x1 20) (hr_38 : ¬ (h.1 1 0) ≤ x5 → ¬ x2 = 0 → ¬ ((x2 >>> (x5 &&& 31)) &&& 1) = 0 → h.2.2 41 x1.toNatClampNeg = some ra38) (hi_41 : ¬ (h.1 1 0) ≤ x5 → ¬ x2 = 0 → ¬ ((x2 >>> (x5 &&& 31)) &&& 1) = 0 → vp_in x5 20) (q_1 : ¬ (h.1 1 0) ≤ x5 → ¬ x2 = 0 → ¬ ((x2 >>> (x5 &&& 31)) &&& 1) = 0 → V X m_X2_valueAmong R (ZM X Q nx sz mc ms) (nx, sz, mc, ms) 6 [some (.ref 40), some (.int x1), some (.int x2), some (.int x3), some (.int (x4 + ((h.1 ra38 x5.toNatClampNeg) >>> (x3 &&& 31)))), some (.int (x5 + 1))] [] h) : V X m_X2_valueAmong R (ZM X Q nx sz mc ms) (nx, sz, mc, ms) 6 [some (.ref 40), some (.int x1), some (.int x2), some (.int x3), some (.int x4), some (.int x5)] [] h := by
  refine v_iload dX2_valueAmong_6 rfl ?_
  refine v_aload_n dX2_valueAmong_8 rfl ?_
  refine v_getR dX2_valueAmong_9 fl_RX2_20 kd_40 (ltA hA0 rfl) rfl (hF 40 0 1 rfl) ?_
  refine v_getI dX2_valueAmong_12 fl_RX2_28 kd_1 (ltA hA0 rfl) rfl ?_
  refine v_icmp_ge (tgt := 53) dX2_valueAmong_15 (by decide) (fun c0 => ?_) (fun c0 => ?_)
  · refine v_iload dX2_valueAmong_53 rfl ?_
    exact v_iret dX2_valueAmong_55 rfl (hq c0)
  · refine v_iload_n dX2_valueAmong_18 rfl ?_
    refine v_if_eq (tgt := 53) dX2_valueAmong_19 (by decide) (fun c1 => ?_) (fun c1 => ?_)
    · refine v_iload dX2_valueAmong_53 rfl ?_
      exact v_iret dX2_valueAmong_55 rfl (hq_1 c0 c1)
    · refine v_iload_n dX2_valueAmong_22 rfl ?_
      refine v_iload dX2_valueAmong_23 rfl ?_
      refine v_ishr dX2_valueAmong_25 ?_
      refine v_iconst dX2_valueAmong_26 ci_1 ?_
      refine v_iand dX2_valueAmong_27 ?_
      refine v_if_eq (tgt := 47) dX2_valueAmong_28 (by decide) (fun c2 => ?_) (fun c2 => ?_)
      · refine v_iinc (y := (x5 + 1)) dX2_valueAmong_47 rfl rfl (by decide) (L' := [some (.ref 40), some (.int x1), some (.int x2), some (.int x3), some (.int x4), some (.int (x5 + 1))]) rfl ?_
        refine v_goto (tgt := 6) dX2_valueAmong_50 (by decide) ?_
        exact (q c0 c1 c2)
      · refine v_iload dX2_valueAmong_31 rfl ?_
        refine v_aload_n dX2_valueAmong_33 rfl ?_
        refine v_getR dX2_valueAmong_34 fl_RX2_11 kd_40 (ltA hA0 rfl) rfl (hF 40 1 41 rfl) ?_
        refine v_iload_n dX2_valueAmong_37 rfl ?_
        refine v_aald dX2_valueAmong_38 kd_41 (ltA hA0 rfl) (hi_38 c0 c1 c2) (hr_38 c0 c1 c2) ?_
        refine v_iload dX2_valueAmong_39 rfl ?_
        refine v_iald dX2_valueAmong_41 hk_ra38 hl_ra38 (hi_41 c0 c1 c2) ?_
        refine v_iload_n dX2_valueAmong_42 rfl ?_
        refine v_ishr dX2_valueAmong_43 ?_
        refine v_iadd dX2_valueAmong_44 ?_
        refine v_istore dX2_valueAmong_45 (by decide) (L' := [some (.ref 40), some (.int x1), some (.int x2), some (.int x3), some (.int (x4 + ((h.1 ra38 x5.toNatClampNeg) >>> (x3 &&& 31)))), some (.int x5)]) rfl ?_
        refine v_iinc (y := (x5 + 1)) dX2_valueAmong_47 rfl rfl (by decide) (L' := [some (.ref 40), some (.int x1), some (.int x2), some (.int x3), some (.int (x4 + ((h.1 ra38 x5.toNatClampNeg) >>> (x3 &&& 31)))), some (.int (x5 + 1))]) rfl ?_
        refine v_goto (tgt := 6) dX2_valueAmong_50 (by decide) ?_
        exact (q_1 c0 c1 c2)
theorem e_X2_canBe {X : CX} {d nx sz : Nat} {Q : Option Value → AH → Prop} {h : AH} {x1 x2 x3 x4 : Int32} (q : V X m_X2_canBe (rm d 0 0) (ZM X Q nx sz 0 0) (nx, sz, 0, 0) 0 [some (.ref 40), some (.int x1), some (.int x2), some (.int x3), some (.int x4)] [] h) : Mk X d m_X2_canBe [.ref 40, .int x1, .int x2, .int x3, .int x4] h nx sz Q := by
  refine Mok.ofV mo_X2_canBe (Nat.le_of_ble_eq_true rfl) (L := [some (.ref 40), some (.int x1), some (.int x2), some (.int x3), some (.int x4)]) (lvLe_s (lvLe_s (lvLe_s (lvLe_s (lvLe_s lvLe_e))))) (v_grow (n := 0) ?_)
  exact q
theorem c_X2_canBe_0 {X : CX} {R : Room} {Z : ZX} {A : AX} {h : AH} {x1 x2 x3 x4 : Int32} {d : Nat} {P6 : Int32 → AH → Prop} (hA0 : 91 ≤ A.1) (hF : Fx h) (hR : RO R (d + 1)) (hcs : A.2.2.1 ≤ R.cells ∧ A.2.2.2 ≤ R.slots) (hM : Mk X d m_X3_hasTwo [.ref 1, .int x1, .int x3] h A.1 A.2.1 (RI P6)) (q : ∀ (y : Int32) (g : AH), P6 y g → V X m_X2_canBe R Z A 9 [some (.ref 40), some (.int x1), some (.int x2), some (.int x3), some (.int x4)] [.int y] g) : V X m_X2_canBe R Z A 0 [some (.ref 40), some (.int x1), some (.int x2), some (.int x3), some (.int x4)] [] h := by
  refine v_aload_n dX2_canBe_0 rfl ?_
  refine v_getR dX2_canBe_1 fl_RX2_20 kd_40 (ltA hA0 rfl) rfl (hF 40 0 1 rfl) ?_
  refine v_iload_n dX2_canBe_4 rfl ?_
  refine v_iload_n dX2_canBe_5 rfl ?_
  exact v_cVI (mt := m_X2_canBe) mo_X3_hasTwo ml_RX2_44 mi_X3_hasTwo mv_X3_hasTwo rfl kd_1 cl_3 rfl (ltA hA0 rfl) hR hcs (Nat.le_of_ble_eq_true rfl) dX2_canBe_6 rfl hM (fun y g hp => (q y g hp))
theorem c_X2_canBe_9 {X : CX} {R : Room} {Q : Option Value → AH → Prop} {nx sz mc ms : Nat} {h : AH} {x1 x2 x3 x4 s0 : Int32} {d : Nat} {P18 : Int32 → AH → Prop} (hA0 : 91 ≤ nx) (hF : Fx h) (hR : RO R (d + 1)) (hcs : mc ≤ R.cells ∧ ms ≤ R.slots) (hq : s0 = 0 → Q (some (.int 0)) h) (hM : ¬ s0 = 0 → Mk X d m_X3_tied [.ref 1, .int x1, .int x3] h nx sz (RI P18)) (q : ¬ s0 = 0 → ∀ (y : Int32) (g : AH), P18 y g → V X m_X2_canBe R (ZM X Q nx sz mc ms) (nx, sz, mc, ms) 21 [some (.ref 40), some (.int x1), some (.int x2), some (.int x3), some (.int x4)] [.int y] g) : V X m_X2_canBe R (ZM X Q nx sz mc ms) (nx, sz, mc, ms) 9 [some (.ref 40), some (.int x1), some (.int x2), some (.int x3), some (.int x4)] [.int s0] h := by
  refine v_if_eq (tgt := 47) dX2_canBe_9 (by decide) (fun c0 => ?_) (fun c0 => ?_)
  · refine v_iconst dX2_canBe_47 ci_0 ?_
    exact v_zret (ty := .boolean) dX2_canBe_48 rfl rfl (hq c0)
  · refine v_aload_n dX2_canBe_12 rfl ?_
    refine v_getR dX2_canBe_13 fl_RX2_20 kd_40 (ltA hA0 rfl) rfl (hF 40 0 1 rfl) ?_
    refine v_iload_n dX2_canBe_16 rfl ?_
    refine v_iload_n dX2_canBe_17 rfl ?_
    exact v_cVI (mt := m_X2_canBe) mo_X3_tied ml_RX2_48 mi_X3_tied mv_X3_tied rfl kd_1 cl_3 rfl (ltA hA0 rfl) hR hcs (Nat.le_of_ble_eq_true rfl) dX2_canBe_18 rfl (hM c0) (fun y g hp => ((q c0) y g hp))
theorem c_X2_canBe_21 {X : CX} {R : Room} {Q : Option Value → AH → Prop} {nx sz mc ms : Nat} {h : AH} {x1 x2 x3 x4 s0 : Int32} {d : Nat} {P27 : Int32 → AH → Prop} (hA0 : 91 ≤ nx) (hR : RO R (d + 1)) (hcs : mc ≤ R.cells ∧ ms ≤ R.slots) (hq : ¬ s0 = 0 → Q (some (.int 0)) h) (hM : s0 = 0 → Mk X d m_X2_mayDrop [.ref 40, .int x1, .int x2] h nx sz (RI P27)) (q : s0 = 0 → ∀ (y : Int32) (g : AH), P27 y g → V X m_X2_canBe R (ZM X Q nx sz mc ms) (nx, sz, mc, ms) 30 [some (.ref 40), none, none, some (.int x3), some (.int x4)] [.int y] g) : V X m_X2_canBe R (ZM X Q nx sz mc ms) (nx, sz, mc, ms) 21 [some (.ref 40), some (.int x1), some (.int x2), some (.int x3), some (.int x4)] [.int s0] h := by
  refine v_if_ne (tgt := 47) dX2_canBe_21 (by decide) (fun c0 => ?_) (fun c0 => ?_)
  · refine v_iconst dX2_canBe_47 ci_0 ?_
    exact v_zret (ty := .boolean) dX2_canBe_48 rfl rfl (hq c0)
  · refine v_aload_n dX2_canBe_24 rfl ?_
    refine v_iload_n dX2_canBe_25 rfl ?_
    refine v_iload_n dX2_canBe_26 rfl ?_
    exact v_cVI (mt := m_X2_canBe) mo_X2_mayDrop ml_RX2_51 mi_X2_mayDrop mv_X2_mayDrop rfl kd_40 cl_2 rfl (ltA hA0 rfl) hR hcs (Nat.le_of_ble_eq_true rfl) dX2_canBe_27 rfl (hM c0) (fun y g hp => (v_drop (lvLe_s (lvLe_n (lvLe_n (lvLe_s (lvLe_s lvLe_e))))) ((q c0) y g hp)))
theorem c_X2_canBe_30 {X : CX} {R : Room} {Q : Option Value → AH → Prop} {nx sz mc ms : Nat} {h : AH} {x3 x4 s0 : Int32} {d : Nat} {P37 : Int32 → AH → Prop} (hA0 : 91 ≤ nx) (hR : RO R (d + 1)) (hcs : mc ≤ R.cells ∧ ms ≤ R.slots) (hq : s0 = 0 → Q (some (.int 0)) h) (hM : ¬ s0 = 0 → Mk X d m_X2_mayDrop [.ref 40, .int x3, .int x4] h nx sz (RI P37)) (q : ¬ s0 = 0 → ∀ (y : Int32) (g : AH), P37 y g → V X m_X2_canBe R (ZM X Q nx sz mc ms) (nx, sz, mc, ms) 40 [none, none, none, none, none] [.int y] g) : V X m_X2_canBe R (ZM X Q nx sz mc ms) (nx, sz, mc, ms) 30 [some (.ref 40), none, none, some (.int x3), some (.int x4)] [.int s0] h := by
  refine v_if_eq (tgt := 47) dX2_canBe_30 (by decide) (fun c0 => ?_) (fun c0 => ?_)
  · refine v_iconst dX2_canBe_47 ci_0 ?_
    exact v_zret (ty := .boolean) dX2_canBe_48 rfl rfl (hq c0)
  · refine v_aload_n dX2_canBe_33 rfl ?_
    refine v_iload_n dX2_canBe_34 rfl ?_
    refine v_iload dX2_canBe_35 rfl ?_
    exact v_cVI (mt := m_X2_canBe) mo_X2_mayDrop ml_RX2_51 mi_X2_mayDrop mv_X2_mayDrop rfl kd_40 cl_2 rfl (ltA hA0 rfl) hR hcs (Nat.le_of_ble_eq_true rfl) dX2_canBe_37 rfl (hM c0) (fun y g hp => (v_drop (lvLe_n (lvLe_n (lvLe_n (lvLe_n (lvLe_n lvLe_e))))) ((q c0) y g hp)))
theorem c_X2_canBe_40 {X : CX} {R : Room} {Q : Option Value → AH → Prop} {nx sz mc ms : Nat} {h : AH} {s0 : Int32} (hq : s0 = 0 → Q (some (.int 0)) h) (hq_1 : ¬ s0 = 0 → Q (some (.int 1)) h) : V X m_X2_canBe R (ZM X Q nx sz mc ms) (nx, sz, mc, ms) 40 [none, none, none, none, none] [.int s0] h := by
  refine v_if_eq (tgt := 47) dX2_canBe_40 (by decide) (fun c0 => ?_) (fun c0 => ?_)
  · refine v_iconst dX2_canBe_47 ci_0 ?_
    exact v_zret (ty := .boolean) dX2_canBe_48 rfl rfl (hq c0)
  · refine v_iconst dX2_canBe_43 ci_1 ?_
    refine v_goto (tgt := 48) dX2_canBe_44 (by decide) ?_
    exact v_zret (ty := .boolean) dX2_canBe_48 rfl rfl (hq_1 c0)
theorem e_X2_mayDrop {X : CX} {d nx sz : Nat} {Q : Option Value → AH → Prop} {h : AH} {x1 x2 : Int32} (q : V X m_X2_mayDrop (rm d 0 0) (ZM X Q nx sz 0 0) (nx, sz, 0, 0) 0 [some (.ref 40), some (.int x1), some (.int x2)] [] h) : Mk X d m_X2_mayDrop [.ref 40, .int x1, .int x2] h nx sz Q := by
  refine Mok.ofV mo_X2_mayDrop (Nat.le_of_ble_eq_true rfl) (L := [some (.ref 40), some (.int x1), some (.int x2)]) (lvLe_s (lvLe_s (lvLe_s lvLe_e))) (v_grow (n := 0) ?_)
  exact q
theorem c_X2_mayDrop_0 {X : CX} {R : Room} {Z : ZX} {A : AX} {h : AH} {x1 x2 : Int32} {d : Nat} {P30 P10 : Int32 → AH → Prop} (hA0 : 91 ≤ A.1) (hF : Fx h) (hR : RO R (d + 1)) (hcs : A.2.2.1 ≤ R.cells ∧ A.2.2.2 ≤ R.slots) (hM : ¬ x2 = (-1) → Mk X d m_X3_tied [.ref 1, .int x1, .int x2] h A.1 A.2.1 (RI P30)) (q : ¬ x2 = (-1) → ∀ (y : Int32) (g : AH), P30 y g → V X m_X2_mayDrop R Z A 33 [none, none, none] [.int y] g) (hM_1 : x2 = (-1) → Mk X d m_X3_full [.ref 1, .int x1] h A.1 A.2.1 (RI P10)) (q_1 : x2 = (-1) → ∀ (y : Int32) (g : AH), P10 y g → V X m_X2_mayDrop R Z A 13 [none, none, none] [.int y] g) : V X m_X2_mayDrop R Z A 0 [some (.ref 40), some (.int x1), some (.int x2)] [] h := by
  refine v_iload_n dX2_mayDrop_0 rfl ?_
  refine v_iconst dX2_mayDrop_1 ci_m1 ?_
  refine v_icmp_ne (tgt := 24) dX2_mayDrop_2 (by decide) (fun c0 => ?_) (fun c0 => ?_)
  · refine v_aload_n dX2_mayDrop_24 rfl ?_
    refine v_getR dX2_mayDrop_25 fl_RX2_20 kd_40 (ltA hA0 rfl) rfl (hF 40 0 1 rfl) ?_
    refine v_iload_n dX2_mayDrop_28 rfl ?_
    refine v_iload_n dX2_mayDrop_29 rfl ?_
    exact v_cVI (mt := m_X2_mayDrop) mo_X3_tied ml_RX2_48 mi_X3_tied mv_X3_tied rfl kd_1 cl_3 rfl (ltA hA0 rfl) hR hcs (Nat.le_of_ble_eq_true rfl) dX2_mayDrop_30 rfl (hM c0) (fun y g hp => (v_drop (lvLe_n (lvLe_n (lvLe_n lvLe_e))) ((q c0) y g hp)))
  · refine v_aload_n dX2_mayDrop_5 rfl ?_
    refine v_getR dX2_mayDrop_6 fl_RX2_20 kd_40 (ltA hA0 rfl) rfl (hF 40 0 1 rfl) ?_
    refine v_iload_n dX2_mayDrop_9 rfl ?_
    exact v_cVI (mt := m_X2_mayDrop) mo_X3_full ml_RX2_54 mi_X3_full mv_X3_full rfl kd_1 cl_3 rfl (ltA hA0 rfl) hR hcs (Nat.le_of_ble_eq_true rfl) dX2_mayDrop_10 rfl (hM_1 c0) (fun y g hp => (v_drop (lvLe_n (lvLe_n (lvLe_n lvLe_e))) ((q_1 c0) y g hp)))
theorem c_X2_mayDrop_13 {X : CX} {R : Room} {Z : ZX} {A : AX} {h : AH} {s0 : Int32} (q : ¬ s0 = 0 → V X m_X2_mayDrop R Z A 33 [none, none, none] [.int 0] h) (q_1 : s0 = 0 → V X m_X2_mayDrop R Z A 33 [none, none, none] [.int 1] h) : V X m_X2_mayDrop R Z A 13 [none, none, none] [.int s0] h := by
  refine v_if_ne (tgt := 20) dX2_mayDrop_13 (by decide) (fun c0 => ?_) (fun c0 => ?_)
  · refine v_iconst dX2_mayDrop_20 ci_0 ?_
    refine v_goto (tgt := 33) dX2_mayDrop_21 (by decide) ?_
    exact (q c0)
  · refine v_iconst dX2_mayDrop_16 ci_1 ?_
    refine v_goto (tgt := 33) dX2_mayDrop_17 (by decide) ?_
    exact (q_1 c0)
theorem c_X2_mayDrop_33 {X : CX} {R : Room} {Q : Option Value → AH → Prop} {nx sz mc ms : Nat} {h : AH} {s0 : Int32} (hq : Q (some (.int s0)) h) (hb_33 : narrow .boolean (.int s0) = .int s0) : V X m_X2_mayDrop R (ZM X Q nx sz mc ms) (nx, sz, mc, ms) 33 [none, none, none] [.int s0] h := by
  exact v_zret (ty := .boolean) dX2_mayDrop_33 rfl hb_33 hq
theorem e_X2_make {X : CX} {d nx sz : Nat} {Q : Option Value → AH → Prop} {h : AH} {x1 x2 x3 x4 : Int32} (q : V X m_X2_make (rm d 0 0) (ZM X Q nx sz 0 0) (nx, sz, 0, 0) 0 [some (.ref 40), some (.int x1), some (.int x2), some (.int x3), some (.int x4)] [] h) : Mk X d m_X2_make [.ref 40, .int x1, .int x2, .int x3, .int x4] h nx sz Q := by
  refine Mok.ofV mo_X2_make (Nat.le_of_ble_eq_true rfl) (L := [some (.ref 40), some (.int x1), some (.int x2), some (.int x3), some (.int x4)]) (lvLe_s (lvLe_s (lvLe_s (lvLe_s (lvLe_s lvLe_e))))) (v_grow (n := 0) ?_)
  exact q
theorem c_X2_make_0 {X : CX} {R : Room} {Z : ZX} {A : AX} {h : AH} {x1 x2 x3 x4 : Int32} {d : Nat} {P11 : AH → Prop} (hA0 : 91 ≤ A.1) (hF : Fx h) (hR : RO R (d + 1)) (hcs : A.2.2.1 ≤ R.cells ∧ A.2.2.2 ≤ R.slots) (q : x2 = (-1) → V X m_X2_make R Z A 14 [some (.ref 40), some (.int x1), none, some (.int x3), some (.int x4)] [] h) (hM : ¬ x2 = (-1) → Mk X d m_X3_part [.ref 1, .int x1, .int x2] h A.1 A.2.1 (RV P11)) (q_1 : ¬ x2 = (-1) → ∀ (g : AH), P11 g → V X m_X2_make R Z A 14 [some (.ref 40), some (.int x1), none, some (.int x3), some (.int x4)] [] g) : V X m_X2_make R Z A 0 [some (.ref 40), some (.int x1), some (.int x2), some (.int x3), some (.int x4)] [] h := by
  refine v_iload_n dX2_make_0 rfl ?_
  refine v_iconst dX2_make_1 ci_m1 ?_
  refine v_icmp_eq (tgt := 14) dX2_make_2 (by decide) (fun c0 => ?_) (fun c0 => ?_)
  · exact (v_drop (lvLe_s (lvLe_s (lvLe_n (lvLe_s (lvLe_s lvLe_e))))) (q c0))
  · refine v_aload_n dX2_make_5 rfl ?_
    refine v_getR dX2_make_6 fl_RX2_20 kd_40 (ltA hA0 rfl) rfl (hF 40 0 1 rfl) ?_
    refine v_iload_n dX2_make_9 rfl ?_
    refine v_iload_n dX2_make_10 rfl ?_
    exact v_cVV (mt := m_X2_make) mo_X3_part ml_RX2_58 mi_X3_part mv_X3_part rfl kd_1 cl_3 rfl (ltA hA0 rfl) hR hcs (Nat.le_of_ble_eq_true rfl) dX2_make_11 rfl (hM c0) (fun g hp => (v_drop (lvLe_s (lvLe_s (lvLe_n (lvLe_s (lvLe_s lvLe_e))))) ((q_1 c0) g hp)))
theorem c_X2_make_14 {X : CX} {R : Room} {Z : ZX} {A : AX} {h : AH} {x1 x3 x4 : Int32} {d : Nat} {P27 : AH → Prop} (hA0 : 91 ≤ A.1) (hF : Fx h) (hR : RO R (d + 1)) (hcs : A.2.2.1 ≤ R.cells ∧ A.2.2.2 ≤ R.slots) (q : x4 = (-1) → V X m_X2_make R Z A 30 [some (.ref 40), some (.int x1), none, some (.int x3), none] [] h) (hM : ¬ x4 = (-1) → Mk X d m_X3_part [.ref 1, .int x3, .int x4] h A.1 A.2.1 (RV P27)) (q_1 : ¬ x4 = (-1) → ∀ (g : AH), P27 g → V X m_X2_make R Z A 30 [some (.ref 40), some (.int x1), none, some (.int x3), none] [] g) : V X m_X2_make R Z A 14 [some (.ref 40), some (.int x1), none, some (.int x3), some (.int x4)] [] h := by
  refine v_iload dX2_make_14 rfl ?_
  refine v_iconst dX2_make_16 ci_m1 ?_
  refine v_icmp_eq (tgt := 30) dX2_make_17 (by decide) (fun c0 => ?_) (fun c0 => ?_)
  · exact (v_drop (lvLe_s (lvLe_s (lvLe_n (lvLe_s (lvLe_n lvLe_e))))) (q c0))
  · refine v_aload_n dX2_make_20 rfl ?_
    refine v_getR dX2_make_21 fl_RX2_20 kd_40 (ltA hA0 rfl) rfl (hF 40 0 1 rfl) ?_
    refine v_iload_n dX2_make_24 rfl ?_
    refine v_iload dX2_make_25 rfl ?_
    exact v_cVV (mt := m_X2_make) mo_X3_part ml_RX2_58 mi_X3_part mv_X3_part rfl kd_1 cl_3 rfl (ltA hA0 rfl) hR hcs (Nat.le_of_ble_eq_true rfl) dX2_make_27 rfl (hM c0) (fun g hp => (v_drop (lvLe_s (lvLe_s (lvLe_n (lvLe_s (lvLe_n lvLe_e))))) ((q_1 c0) g hp)))
theorem c_X2_make_30 {X : CX} {R : Room} {Z : ZX} {A : AX} {h : AH} {x1 x3 : Int32} {d : Nat} {P36 : AH → Prop} (hA0 : 91 ≤ A.1) (hF : Fx h) (hR : RO R (d + 1)) (hcs : A.2.2.1 ≤ R.cells ∧ A.2.2.2 ≤ R.slots) (hM : Mk X d m_X3_join [.ref 1, .int x1, .int x3] h A.1 A.2.1 (RV P36)) (q : ∀ (g : AH), P36 g → V X m_X2_make R Z A 39 [none, none, none, none, none] [] g) : V X m_X2_make R Z A 30 [some (.ref 40), some (.int x1), none, some (.int x3), none] [] h := by
  refine v_aload_n dX2_make_30 rfl ?_
  refine v_getR dX2_make_31 fl_RX2_20 kd_40 (ltA hA0 rfl) rfl (hF 40 0 1 rfl) ?_
  refine v_iload_n dX2_make_34 rfl ?_
  refine v_iload_n dX2_make_35 rfl ?_
  exact v_cVV (mt := m_X2_make) mo_X3_join ml_RX2_62 mi_X3_join mv_X3_join rfl kd_1 cl_3 rfl (ltA hA0 rfl) hR hcs (Nat.le_of_ble_eq_true rfl) dX2_make_36 rfl hM (fun g hp => (v_drop (lvLe_n (lvLe_n (lvLe_n (lvLe_n (lvLe_n lvLe_e))))) (q g hp)))
theorem c_X2_make_39 {X : CX} {R : Room} {Q : Option Value → AH → Prop} {nx sz mc ms : Nat} {h : AH} (hq : Q none h) : V X m_X2_make R (ZM X Q nx sz mc ms) (nx, sz, mc, ms) 39 [none, none, none, none, none] [] h := by
  exact v_vret dX2_make_39 rfl hq
theorem e_X2_unmake {X : CX} {d nx sz : Nat} {Q : Option Value → AH → Prop} {h : AH} {x1 x2 x3 x4 : Int32} (q : V X m_X2_unmake (rm d 0 0) (ZM X Q nx sz 0 0) (nx, sz, 0, 0) 0 [some (.ref 40), some (.int x1), some (.int x2), some (.int x3), some (.int x4)] [] h) : Mk X d m_X2_unmake [.ref 40, .int x1, .int x2, .int x3, .int x4] h nx sz Q := by
  refine Mok.ofV mo_X2_unmake (Nat.le_of_ble_eq_true rfl) (L := [some (.ref 40), some (.int x1), some (.int x2), some (.int x3), some (.int x4)]) (lvLe_s (lvLe_s (lvLe_s (lvLe_s (lvLe_s lvLe_e))))) (v_grow (n := 0) ?_)
  exact q
theorem c_X2_unmake_0 {X : CX} {R : Room} {Z : ZX} {A : AX} {h : AH} {x1 x2 x3 x4 : Int32} {d : Nat} {P6 : AH → Prop} (hA0 : 91 ≤ A.1) (hF : Fx h) (hR : RO R (d + 1)) (hcs : A.2.2.1 ≤ R.cells ∧ A.2.2.2 ≤ R.slots) (hM : Mk X d m_X3_part [.ref 1, .int x1, .int x3] h A.1 A.2.1 (RV P6)) (q : ∀ (g : AH), P6 g → V X m_X2_unmake R Z A 9 [some (.ref 40), some (.int x1), some (.int x2), some (.int x3), some (.int x4)] [] g) : V X m_X2_unmake R Z A 0 [some (.ref 40), some (.int x1), some (.int x2), some (.int x3), some (.int x4)] [] h := by
  refine v_aload_n dX2_unmake_0 rfl ?_
  refine v_getR dX2_unmake_1 fl_RX2_20 kd_40 (ltA hA0 rfl) rfl (hF 40 0 1 rfl) ?_
  refine v_iload_n dX2_unmake_4 rfl ?_
  refine v_iload_n dX2_unmake_5 rfl ?_
  exact v_cVV (mt := m_X2_unmake) mo_X3_part ml_RX2_58 mi_X3_part mv_X3_part rfl kd_1 cl_3 rfl (ltA hA0 rfl) hR hcs (Nat.le_of_ble_eq_true rfl) dX2_unmake_6 rfl hM (fun g hp => (q g hp))
theorem c_X2_unmake_9 {X : CX} {R : Room} {Z : ZX} {A : AX} {h : AH} {x1 x2 x3 x4 : Int32} {d : Nat} {P20 : AH → Prop} (hA0 : 91 ≤ A.1) (hF : Fx h) (hR : RO R (d + 1)) (hcs : A.2.2.1 ≤ R.cells ∧ A.2.2.2 ≤ R.slots) (q : x2 = (-1) → V X m_X2_unmake R Z A 23 [some (.ref 40), none, none, some (.int x3), some (.int x4)] [] h) (hM : ¬ x2 = (-1) → Mk X d m_X3_join [.ref 1, .int x1, .int x2] h A.1 A.2.1 (RV P20)) (q_1 : ¬ x2 = (-1) → ∀ (g : AH), P20 g → V X m_X2_unmake R Z A 23 [some (.ref 40), none, none, some (.int x3), some (.int x4)] [] g) : V X m_X2_unmake R Z A 9 [some (.ref 40), some (.int x1), some (.int x2), some (.int x3), some (.int x4)] [] h := by
  refine v_iload_n dX2_unmake_9 rfl ?_
  refine v_iconst dX2_unmake_10 ci_m1 ?_
  refine v_icmp_eq (tgt := 23) dX2_unmake_11 (by decide) (fun c0 => ?_) (fun c0 => ?_)
  · exact (v_drop (lvLe_s (lvLe_n (lvLe_n (lvLe_s (lvLe_s lvLe_e))))) (q c0))
  · refine v_aload_n dX2_unmake_14 rfl ?_
    refine v_getR dX2_unmake_15 fl_RX2_20 kd_40 (ltA hA0 rfl) rfl (hF 40 0 1 rfl) ?_
    refine v_iload_n dX2_unmake_18 rfl ?_
    refine v_iload_n dX2_unmake_19 rfl ?_
    exact v_cVV (mt := m_X2_unmake) mo_X3_join ml_RX2_62 mi_X3_join mv_X3_join rfl kd_1 cl_3 rfl (ltA hA0 rfl) hR hcs (Nat.le_of_ble_eq_true rfl) dX2_unmake_20 rfl (hM c0) (fun g hp => (v_drop (lvLe_s (lvLe_n (lvLe_n (lvLe_s (lvLe_s lvLe_e))))) ((q_1 c0) g hp)))
theorem c_X2_unmake_23 {X : CX} {R : Room} {Z : ZX} {A : AX} {h : AH} {x3 x4 : Int32} {d : Nat} {P36 : AH → Prop} (hA0 : 91 ≤ A.1) (hF : Fx h) (hR : RO R (d + 1)) (hcs : A.2.2.1 ≤ R.cells ∧ A.2.2.2 ≤ R.slots) (q : x4 = (-1) → V X m_X2_unmake R Z A 39 [none, none, none, none, none] [] h) (hM : ¬ x4 = (-1) → Mk X d m_X3_join [.ref 1, .int x3, .int x4] h A.1 A.2.1 (RV P36)) (q_1 : ¬ x4 = (-1) → ∀ (g : AH), P36 g → V X m_X2_unmake R Z A 39 [none, none, none, none, none] [] g) : V X m_X2_unmake R Z A 23 [some (.ref 40), none, none, some (.int x3), some (.int x4)] [] h := by
  refine v_iload dX2_unmake_23 rfl ?_
  refine v_iconst dX2_unmake_25 ci_m1 ?_
  refine v_icmp_eq (tgt := 39) dX2_unmake_26 (by decide) (fun c0 => ?_) (fun c0 => ?_)
  · exact (v_drop (lvLe_n (lvLe_n (lvLe_n (lvLe_n (lvLe_n lvLe_e))))) (q c0))
  · refine v_aload_n dX2_unmake_29 rfl ?_
    refine v_getR dX2_unmake_30 fl_RX2_20 kd_40 (ltA hA0 rfl) rfl (hF 40 0 1 rfl) ?_
    refine v_iload_n dX2_unmake_33 rfl ?_
    refine v_iload dX2_unmake_34 rfl ?_
    exact v_cVV (mt := m_X2_unmake) mo_X3_join ml_RX2_62 mi_X3_join mv_X3_join rfl kd_1 cl_3 rfl (ltA hA0 rfl) hR hcs (Nat.le_of_ble_eq_true rfl) dX2_unmake_36 rfl (hM c0) (fun g hp => (v_drop (lvLe_n (lvLe_n (lvLe_n (lvLe_n (lvLe_n lvLe_e))))) ((q_1 c0) g hp)))
theorem c_X2_unmake_39 {X : CX} {R : Room} {Q : Option Value → AH → Prop} {nx sz mc ms : Nat} {h : AH} (hq : Q none h) : V X m_X2_unmake R (ZM X Q nx sz mc ms) (nx, sz, mc, ms) 39 [none, none, none, none, none] [] h := by
  exact v_vret dX2_unmake_39 rfl hq
theorem e_X2_gainOf {X : CX} {d nx sz : Nat} {Q : Option Value → AH → Prop} {h : AH} {x1 x2 x3 x4 x5 : Int32} (q : V X m_X2_gainOf (rm d 0 0) (ZM X Q nx sz 0 0) (nx, sz, 0, 0) 0 [some (.ref 40), some (.int x1), some (.int x2), some (.int x3), some (.int x4), some (.int x5), none, none, none, none] [] h) : Mk X d m_X2_gainOf [.ref 40, .int x1, .int x2, .int x3, .int x4, .int x5] h nx sz Q := by
  refine Mok.ofV mo_X2_gainOf (Nat.le_of_ble_eq_true rfl) (L := [some (.ref 40), some (.int x1), some (.int x2), some (.int x3), some (.int x4), some (.int x5)]) (lvLe_s (lvLe_s (lvLe_s (lvLe_s (lvLe_s (lvLe_s lvLe_e)))))) (v_grow (n := 4) ?_)
  exact q
theorem c_X2_gainOf_0 {X : CX} {R : Room} {Z : ZX} {A : AX} {h : AH} {x1 x2 x3 x4 x5 : Int32} {d : Nat} {P40 P40_1 P40_2 P40_3 P40_4 P40_5 P40_6 P40_7 : Int32 → AH → Prop} (hA0 : 91 ≤ A.1) (hR : RO R (d + 1)) (hcs : A.2.2.1 ≤ R.cells ∧ A.2.2.2 ≤ R.slots) (hM : x5 = 0 → x5 = 0 → ¬ x4 = (-1) → Mk X d m_X2_valueOf [.ref 40, .int x3] h A.1 A.2.1 (RI P40)) (q : x5 = 0 → x5 = 0 → ¬ x4 = (-1) → ∀ (y : Int32) (g : AH), P40 y g → V X m_X2_gainOf R Z A 43 [some (.ref 40), some (.int x1), some (.int x2), some (.int x3), some (.int x4), none, some (.int x3), some (.int (h.1 40 4)), none, none] [.int y] g) (hM_1 : x5 = 0 → x5 = 0 → x4 = (-1) → Mk X d m_X2_valueOf [.ref 40, .int x3] h A.1 A.2.1 (RI P40_1)) (q_1 : x5 = 0 → x5 = 0 → x4 = (-1) → ∀ (y : Int32) (g : AH), P40_1 y g → V X m_X2_gainOf R Z A 43 [some (.ref 40), some (.int x1), some (.int x2), some (.int x3), some (.int x4), none, some (.int x3), some (.int 0), none, none] [.int y] g) (hM_2 : x5 = 0 → ¬ x5 = 0 → ¬ x2 = (-1) → Mk X d m_X2_valueOf [.ref 40, .int x3] h A.1 A.2.1 (RI P40_2)) (q_2 : x5 = 0 → ¬ x5 = 0 → ¬ x2 = (-1) → ∀ (y : Int32) (g : AH), P40_2 y g → V X m_X2_gainOf R Z A 43 [some (.ref 40), some (.int x1), some (.int x2), some (.int x3), some (.int x4), none, some (.int x3), some (.int (h.1 40 4)), none, none] [.int y] g) (hM_3 : x5 = 0 → ¬ x5 = 0 → x2 = (-1) → Mk X d m_X2_valueOf [.ref 40, .int x3] h A.1 A.2.1 (RI P40_3)) (q_3 : x5 = 0 → ¬ x5 = 0 → x2 = (-1) → ∀ (y : Int32) (g : AH), P40_3 y g → V X m_X2_gainOf R Z A 43 [some (.ref 40), some (.int x1), some (.int x2), some (.int x3), some (.int x4), none, some (.int x3), some (.int 0), none, none] [.int y] g) (hM_4 : ¬ x5 = 0 → x5 = 0 → ¬ x4 = (-1) → Mk X d m_X2_valueOf [.ref 40, .int x1] h A.1 A.2.1 (RI P40_4)) (q_4 : ¬ x5 = 0 → x5 = 0 → ¬ x4 = (-1) → ∀ (y : Int32) (g : AH), P40_4 y g → V X m_X2_gainOf R Z A 43 [some (.ref 40), some (.int x1), some (.int x2), some (.int x3), some (.int x4), none, some (.int x1), some (.int (h.1 40 4)), none, none] [.int y] g) (hM_5 : ¬ x5 = 0 → x5 = 0 → x4 = (-1) → Mk X d m_X2_valueOf [.ref 40, .int x1] h A.1 A.2.1 (RI P40_5)) (q_5 : ¬ x5 = 0 → x5 = 0 → x4 = (-1) → ∀ (y : Int32) (g : AH), P40_5 y g → V X m_X2_gainOf R Z A 43 [some (.ref 40), some (.int x1), some (.int x2), some (.int x3), some (.int x4), none, some (.int x1), some (.int 0), none, none] [.int y] g) (hM_6 : ¬ x5 = 0 → ¬ x5 = 0 → ¬ x2 = (-1) → Mk X d m_X2_valueOf [.ref 40, .int x1] h A.1 A.2.1 (RI P40_6)) (q_6 : ¬ x5 = 0 → ¬ x5 = 0 → ¬ x2 = (-1) → ∀ (y : Int32) (g : AH), P40_6 y g → V X m_X2_gainOf R Z A 43 [some (.ref 40), some (.int x1), some (.int x2), some (.int x3), some (.int x4), none, some (.int x1), some (.int (h.1 40 4)), none, none] [.int y] g) (hM_7 : ¬ x5 = 0 → ¬ x5 = 0 → x2 = (-1) → Mk X d m_X2_valueOf [.ref 40, .int x1] h A.1 A.2.1 (RI P40_7)) (q_7 : ¬ x5 = 0 → ¬ x5 = 0 → x2 = (-1) → ∀ (y : Int32) (g : AH), P40_7 y g → V X m_X2_gainOf R Z A 43 [some (.ref 40), some (.int x1), some (.int x2), some (.int x3), some (.int x4), none, some (.int x1), some (.int 0), none, none] [.int y] g) : V X m_X2_gainOf R Z A 0 [some (.ref 40), some (.int x1), some (.int x2), some (.int x3), some (.int x4), some (.int x5), none, none, none, none] [] h := by
  refine v_iload dX2_gainOf_0 rfl ?_
  refine v_if_eq (tgt := 9) dX2_gainOf_2 (by decide) (fun c0 => ?_) (fun c0 => ?_)
  · refine v_iload_n dX2_gainOf_9 rfl ?_
    refine v_istore dX2_gainOf_10 (by decide) (L' := [some (.ref 40), some (.int x1), some (.int x2), some (.int x3), some (.int x4), some (.int x5), some (.int x3), none, none, none]) rfl ?_
    refine v_iload dX2_gainOf_12 rfl ?_
    refine v_if_eq (tgt := 21) dX2_gainOf_14 (by decide) (fun c1 => ?_) (fun c1 => ?_)
    · refine v_iload dX2_gainOf_21 rfl ?_
      refine v_iconst dX2_gainOf_23 ci_m1 ?_
      refine v_icmp_ne (tgt := 31) dX2_gainOf_24 (by decide) (fun c2 => ?_) (fun c2 => ?_)
      · refine v_aload_n dX2_gainOf_31 rfl ?_
        refine v_getI dX2_gainOf_32 fl_RX2_65 kd_40 (ltA hA0 rfl) rfl ?_
        refine v_istore dX2_gainOf_35 (by decide) (L' := [some (.ref 40), some (.int x1), some (.int x2), some (.int x3), some (.int x4), some (.int x5), some (.int x3), some (.int (h.1 40 4)), none, none]) rfl ?_
        refine v_aload_n dX2_gainOf_37 rfl ?_
        refine v_iload dX2_gainOf_38 rfl ?_
        exact v_cVI (mt := m_X2_gainOf) mo_X2_valueOf ml_RX2_68 mi_X2_valueOf mv_X2_valueOf rfl kd_40 cl_2 rfl (ltA hA0 rfl) hR hcs (Nat.le_of_ble_eq_true rfl) dX2_gainOf_40 rfl (hM c0 c1 c2) (fun y g hp => (v_drop (lvLe_s (lvLe_s (lvLe_s (lvLe_s (lvLe_s (lvLe_n (lvLe_s (lvLe_s (lvLe_n (lvLe_n lvLe_e)))))))))) ((q c0 c1 c2) y g hp)))
      · refine v_iconst dX2_gainOf_27 ci_0 ?_
        refine v_goto (tgt := 35) dX2_gainOf_28 (by decide) ?_
        refine v_istore dX2_gainOf_35 (by decide) (L' := [some (.ref 40), some (.int x1), some (.int x2), some (.int x3), some (.int x4), some (.int x5), some (.int x3), some (.int 0), none, none]) rfl ?_
        refine v_aload_n dX2_gainOf_37 rfl ?_
        refine v_iload dX2_gainOf_38 rfl ?_
        exact v_cVI (mt := m_X2_gainOf) mo_X2_valueOf ml_RX2_68 mi_X2_valueOf mv_X2_valueOf rfl kd_40 cl_2 rfl (ltA hA0 rfl) hR hcs (Nat.le_of_ble_eq_true rfl) dX2_gainOf_40 rfl (hM_1 c0 c1 c2) (fun y g hp => (v_drop (lvLe_s (lvLe_s (lvLe_s (lvLe_s (lvLe_s (lvLe_n (lvLe_s (lvLe_s (lvLe_n (lvLe_n lvLe_e)))))))))) ((q_1 c0 c1 c2) y g hp)))
    · refine v_iload_n dX2_gainOf_17 rfl ?_
      refine v_goto (tgt := 23) dX2_gainOf_18 (by decide) ?_
      refine v_iconst dX2_gainOf_23 ci_m1 ?_
      refine v_icmp_ne (tgt := 31) dX2_gainOf_24 (by decide) (fun c2 => ?_) (fun c2 => ?_)
      · refine v_aload_n dX2_gainOf_31 rfl ?_
        refine v_getI dX2_gainOf_32 fl_RX2_65 kd_40 (ltA hA0 rfl) rfl ?_
        refine v_istore dX2_gainOf_35 (by decide) (L' := [some (.ref 40), some (.int x1), some (.int x2), some (.int x3), some (.int x4), some (.int x5), some (.int x3), some (.int (h.1 40 4)), none, none]) rfl ?_
        refine v_aload_n dX2_gainOf_37 rfl ?_
        refine v_iload dX2_gainOf_38 rfl ?_
        exact v_cVI (mt := m_X2_gainOf) mo_X2_valueOf ml_RX2_68 mi_X2_valueOf mv_X2_valueOf rfl kd_40 cl_2 rfl (ltA hA0 rfl) hR hcs (Nat.le_of_ble_eq_true rfl) dX2_gainOf_40 rfl (hM_2 c0 c1 c2) (fun y g hp => (v_drop (lvLe_s (lvLe_s (lvLe_s (lvLe_s (lvLe_s (lvLe_n (lvLe_s (lvLe_s (lvLe_n (lvLe_n lvLe_e)))))))))) ((q_2 c0 c1 c2) y g hp)))
      · refine v_iconst dX2_gainOf_27 ci_0 ?_
        refine v_goto (tgt := 35) dX2_gainOf_28 (by decide) ?_
        refine v_istore dX2_gainOf_35 (by decide) (L' := [some (.ref 40), some (.int x1), some (.int x2), some (.int x3), some (.int x4), some (.int x5), some (.int x3), some (.int 0), none, none]) rfl ?_
        refine v_aload_n dX2_gainOf_37 rfl ?_
        refine v_iload dX2_gainOf_38 rfl ?_
        exact v_cVI (mt := m_X2_gainOf) mo_X2_valueOf ml_RX2_68 mi_X2_valueOf mv_X2_valueOf rfl kd_40 cl_2 rfl (ltA hA0 rfl) hR hcs (Nat.le_of_ble_eq_true rfl) dX2_gainOf_40 rfl (hM_3 c0 c1 c2) (fun y g hp => (v_drop (lvLe_s (lvLe_s (lvLe_s (lvLe_s (lvLe_s (lvLe_n (lvLe_s (lvLe_s (lvLe_n (lvLe_n lvLe_e)))))))))) ((q_3 c0 c1 c2) y g hp)))
  · refine v_iload_n dX2_gainOf_5 rfl ?_
    refine v_goto (tgt := 10) dX2_gainOf_6 (by decide) ?_
    refine v_istore dX2_gainOf_10 (by decide) (L' := [some (.ref 40), some (.int x1), some (.int x2), some (.int x3), some (.int x4), some (.int x5), some (.int x1), none, none, none]) rfl ?_
    refine v_iload dX2_gainOf_12 rfl ?_
    refine v_if_eq (tgt := 21) dX2_gainOf_14 (by decide) (fun c1 => ?_) (fun c1 => ?_)
    · refine v_iload dX2_gainOf_21 rfl ?_
      refine v_iconst dX2_gainOf_23 ci_m1 ?_
      refine v_icmp_ne (tgt := 31) dX2_gainOf_24 (by decide) (fun c2 => ?_) (fun c2 => ?_)
      · refine v_aload_n dX2_gainOf_31 rfl ?_
        refine v_getI dX2_gainOf_32 fl_RX2_65 kd_40 (ltA hA0 rfl) rfl ?_
        refine v_istore dX2_gainOf_35 (by decide) (L' := [some (.ref 40), some (.int x1), some (.int x2), some (.int x3), some (.int x4), some (.int x5), some (.int x1), some (.int (h.1 40 4)), none, none]) rfl ?_
        refine v_aload_n dX2_gainOf_37 rfl ?_
        refine v_iload dX2_gainOf_38 rfl ?_
        exact v_cVI (mt := m_X2_gainOf) mo_X2_valueOf ml_RX2_68 mi_X2_valueOf mv_X2_valueOf rfl kd_40 cl_2 rfl (ltA hA0 rfl) hR hcs (Nat.le_of_ble_eq_true rfl) dX2_gainOf_40 rfl (hM_4 c0 c1 c2) (fun y g hp => (v_drop (lvLe_s (lvLe_s (lvLe_s (lvLe_s (lvLe_s (lvLe_n (lvLe_s (lvLe_s (lvLe_n (lvLe_n lvLe_e)))))))))) ((q_4 c0 c1 c2) y g hp)))
      · refine v_iconst dX2_gainOf_27 ci_0 ?_
        refine v_goto (tgt := 35) dX2_gainOf_28 (by decide) ?_
        refine v_istore dX2_gainOf_35 (by decide) (L' := [some (.ref 40), some (.int x1), some (.int x2), some (.int x3), some (.int x4), some (.int x5), some (.int x1), some (.int 0), none, none]) rfl ?_
        refine v_aload_n dX2_gainOf_37 rfl ?_
        refine v_iload dX2_gainOf_38 rfl ?_
        exact v_cVI (mt := m_X2_gainOf) mo_X2_valueOf ml_RX2_68 mi_X2_valueOf mv_X2_valueOf rfl kd_40 cl_2 rfl (ltA hA0 rfl) hR hcs (Nat.le_of_ble_eq_true rfl) dX2_gainOf_40 rfl (hM_5 c0 c1 c2) (fun y g hp => (v_drop (lvLe_s (lvLe_s (lvLe_s (lvLe_s (lvLe_s (lvLe_n (lvLe_s (lvLe_s (lvLe_n (lvLe_n lvLe_e)))))))))) ((q_5 c0 c1 c2) y g hp)))
    · refine v_iload_n dX2_gainOf_17 rfl ?_
      refine v_goto (tgt := 23) dX2_gainOf_18 (by decide) ?_
      refine v_iconst dX2_gainOf_23 ci_m1 ?_
      refine v_icmp_ne (tgt := 31) dX2_gainOf_24 (by decide) (fun c2 => ?_) (fun c2 => ?_)
      · refine v_aload_n dX2_gainOf_31 rfl ?_
        refine v_getI dX2_gainOf_32 fl_RX2_65 kd_40 (ltA hA0 rfl) rfl ?_
        refine v_istore dX2_gainOf_35 (by decide) (L' := [some (.ref 40), some (.int x1), some (.int x2), some (.int x3), some (.int x4), some (.int x5), some (.int x1), some (.int (h.1 40 4)), none, none]) rfl ?_
        refine v_aload_n dX2_gainOf_37 rfl ?_
        refine v_iload dX2_gainOf_38 rfl ?_
        exact v_cVI (mt := m_X2_gainOf) mo_X2_valueOf ml_RX2_68 mi_X2_valueOf mv_X2_valueOf rfl kd_40 cl_2 rfl (ltA hA0 rfl) hR hcs (Nat.le_of_ble_eq_true rfl) dX2_gainOf_40 rfl (hM_6 c0 c1 c2) (fun y g hp => (v_drop (lvLe_s (lvLe_s (lvLe_s (lvLe_s (lvLe_s (lvLe_n (lvLe_s (lvLe_s (lvLe_n (lvLe_n lvLe_e)))))))))) ((q_6 c0 c1 c2) y g hp)))
      · refine v_iconst dX2_gainOf_27 ci_0 ?_
        refine v_goto (tgt := 35) dX2_gainOf_28 (by decide) ?_
        refine v_istore dX2_gainOf_35 (by decide) (L' := [some (.ref 40), some (.int x1), some (.int x2), some (.int x3), some (.int x4), some (.int x5), some (.int x1), some (.int 0), none, none]) rfl ?_
        refine v_aload_n dX2_gainOf_37 rfl ?_
        refine v_iload dX2_gainOf_38 rfl ?_
        exact v_cVI (mt := m_X2_gainOf) mo_X2_valueOf ml_RX2_68 mi_X2_valueOf mv_X2_valueOf rfl kd_40 cl_2 rfl (ltA hA0 rfl) hR hcs (Nat.le_of_ble_eq_true rfl) dX2_gainOf_40 rfl (hM_7 c0 c1 c2) (fun y g hp => (v_drop (lvLe_s (lvLe_s (lvLe_s (lvLe_s (lvLe_s (lvLe_n (lvLe_s (lvLe_s (lvLe_n (lvLe_n lvLe_e)))))))))) ((q_7 c0 c1 c2) y g hp)))
theorem c_X2_gainOf_43 {X : CX} {R : Room} {Z : ZX} {A : AX} {h : AH} {x1 x2 x3 x4 x6 x7 s0 : Int32} {d : Nat} {P51 : AH → Prop} (hA0 : 91 ≤ A.1) (hR : RO R (d + 1)) (hcs : A.2.2.1 ≤ R.cells ∧ A.2.2.2 ≤ R.slots) (hM : Mk X d m_X2_make [.ref 40, .int x1, .int x2, .int x3, .int x4] h A.1 A.2.1 (RV P51)) (q : ∀ (g : AH), P51 g → V X m_X2_gainOf R Z A 54 [some (.ref 40), some (.int x1), some (.int x2), some (.int x3), some (.int x4), none, some (.int x6), some (.int x7), some (.int s0), none] [] g) : V X m_X2_gainOf R Z A 43 [some (.ref 40), some (.int x1), some (.int x2), some (.int x3), some (.int x4), none, some (.int x6), some (.int x7), none, none] [.int s0] h := by
  refine v_istore dX2_gainOf_43 (by decide) (L' := [some (.ref 40), some (.int x1), some (.int x2), some (.int x3), some (.int x4), none, some (.int x6), some (.int x7), some (.int s0), none]) rfl ?_
  refine v_aload_n dX2_gainOf_45 rfl ?_
  refine v_iload_n dX2_gainOf_46 rfl ?_
  refine v_iload_n dX2_gainOf_47 rfl ?_
  refine v_iload_n dX2_gainOf_48 rfl ?_
  refine v_iload dX2_gainOf_49 rfl ?_
  exact v_cVV (mt := m_X2_gainOf) mo_X2_make ml_RX2_72 mi_X2_make mv_X2_make rfl kd_40 cl_2 rfl (ltA hA0 rfl) hR hcs (Nat.le_of_ble_eq_true rfl) dX2_gainOf_51 rfl hM (fun g hp => (q g hp))
theorem c_X2_gainOf_54 {X : CX} {R : Room} {Z : ZX} {A : AX} {h : AH} {x1 x2 x3 x4 x6 x7 x8 : Int32} {d : Nat} {P57 : Int32 → AH → Prop} (hA0 : 91 ≤ A.1) (hR : RO R (d + 1)) (hcs : A.2.2.1 ≤ R.cells ∧ A.2.2.2 ≤ R.slots) (hM : Mk X d m_X2_valueOf [.ref 40, .int x6] h A.1 A.2.1 (RI P57)) (q : ∀ (y : Int32) (g : AH), P57 y g → V X m_X2_gainOf R Z A 60 [some (.ref 40), some (.int x1), some (.int x2), some (.int x3), some (.int x4), none, none, some (.int x7), some (.int x8), none] [.int y] g) : V X m_X2_gainOf R Z A 54 [some (.ref 40), some (.int x1), some (.int x2), some (.int x3), some (.int x4), none, some (.int x6), some (.int x7), some (.int x8), none] [] h := by
  refine v_aload_n dX2_gainOf_54 rfl ?_
  refine v_iload dX2_gainOf_55 rfl ?_
  exact v_cVI (mt := m_X2_gainOf) mo_X2_valueOf ml_RX2_68 mi_X2_valueOf mv_X2_valueOf rfl kd_40 cl_2 rfl (ltA hA0 rfl) hR hcs (Nat.le_of_ble_eq_true rfl) dX2_gainOf_57 rfl hM (fun y g hp => (v_drop (lvLe_s (lvLe_s (lvLe_s (lvLe_s (lvLe_s (lvLe_n (lvLe_n (lvLe_s (lvLe_s (lvLe_n lvLe_e)))))))))) (q y g hp)))
theorem c_X2_gainOf_60 {X : CX} {R : Room} {Z : ZX} {A : AX} {h : AH} {x1 x2 x3 x4 x7 x8 s0 : Int32} {d : Nat} {P68 : AH → Prop} (hA0 : 91 ≤ A.1) (hR : RO R (d + 1)) (hcs : A.2.2.1 ≤ R.cells ∧ A.2.2.2 ≤ R.slots) (hM : Mk X d m_X2_unmake [.ref 40, .int x1, .int x2, .int x3, .int x4] h A.1 A.2.1 (RV P68)) (q : ∀ (g : AH), P68 g → V X m_X2_gainOf R Z A 71 [none, none, none, none, none, none, none, some (.int x7), some (.int x8), some (.int s0)] [] g) : V X m_X2_gainOf R Z A 60 [some (.ref 40), some (.int x1), some (.int x2), some (.int x3), some (.int x4), none, none, some (.int x7), some (.int x8), none] [.int s0] h := by
  refine v_istore dX2_gainOf_60 (by decide) (L' := [some (.ref 40), some (.int x1), some (.int x2), some (.int x3), some (.int x4), none, none, some (.int x7), some (.int x8), some (.int s0)]) rfl ?_
  refine v_aload_n dX2_gainOf_62 rfl ?_
  refine v_iload_n dX2_gainOf_63 rfl ?_
  refine v_iload_n dX2_gainOf_64 rfl ?_
  refine v_iload_n dX2_gainOf_65 rfl ?_
  refine v_iload dX2_gainOf_66 rfl ?_
  exact v_cVV (mt := m_X2_gainOf) mo_X2_unmake ml_RX2_76 mi_X2_unmake mv_X2_unmake rfl kd_40 cl_2 rfl (ltA hA0 rfl) hR hcs (Nat.le_of_ble_eq_true rfl) dX2_gainOf_68 rfl hM (fun g hp => (v_drop (lvLe_n (lvLe_n (lvLe_n (lvLe_n (lvLe_n (lvLe_n (lvLe_n (lvLe_s (lvLe_s (lvLe_s lvLe_e)))))))))) (q g hp)))
theorem c_X2_gainOf_71 {X : CX} {R : Room} {Q : Option Value → AH → Prop} {nx sz mc ms : Nat} {h : AH} {x7 x8 x9 : Int32} (hq : Q (some (.int ((x9 - x8) - x7))) h) : V X m_X2_gainOf R (ZM X Q nx sz mc ms) (nx, sz, mc, ms) 71 [none, none, none, none, none, none, none, some (.int x7), some (.int x8), some (.int x9)] [] h := by
  refine v_iload dX2_gainOf_71 rfl ?_
  refine v_iload dX2_gainOf_73 rfl ?_
  refine v_isub dX2_gainOf_75 ?_
  refine v_iload dX2_gainOf_76 rfl ?_
  refine v_isub dX2_gainOf_78 ?_
  exact v_iret dX2_gainOf_79 rfl hq
theorem e_X2_wanted {X : CX} {d nx sz : Nat} {Q : Option Value → AH → Prop} {h : AH} {x1 x2 x3 x4 : Int32} (q : V X m_X2_wanted (rm d 0 0) (ZM X Q nx sz 0 0) (nx, sz, 0, 0) 0 [some (.ref 40), some (.int x1), some (.int x2), some (.int x3), some (.int x4)] [] h) : Mk X d m_X2_wanted [.ref 40, .int x1, .int x2, .int x3, .int x4] h nx sz Q := by
  refine Mok.ofV mo_X2_wanted (Nat.le_of_ble_eq_true rfl) (L := [some (.ref 40), some (.int x1), some (.int x2), some (.int x3), some (.int x4)]) (lvLe_s (lvLe_s (lvLe_s (lvLe_s (lvLe_s lvLe_e))))) (v_grow (n := 0) ?_)
  exact q
theorem c_X2_wanted_0 {X : CX} {R : Room} {Z : ZX} {A : AX} {h : AH} {x1 x2 x3 x4 : Int32} {d : Nat} {P7 : Int32 → AH → Prop} (hA0 : 91 ≤ A.1) (hR : RO R (d + 1)) (hcs : A.2.2.1 ≤ R.cells ∧ A.2.2.2 ≤ R.slots) (hM : Mk X d m_X2_gainOf [.ref 40, .int x1, .int x2, .int x3, .int x4, .int 1] h A.1 A.2.1 (RI P7)) (q : ∀ (y : Int32) (g : AH), P7 y g → V X m_X2_wanted R Z A 10 [some (.ref 40), some (.int x1), some (.int x2), some (.int x3), some (.int x4)] [.int y] g) : V X m_X2_wanted R Z A 0 [some (.ref 40), some (.int x1), some (.int x2), some (.int x3), some (.int x4)] [] h := by
  refine v_aload_n dX2_wanted_0 rfl ?_
  refine v_iload_n dX2_wanted_1 rfl ?_
  refine v_iload_n dX2_wanted_2 rfl ?_
  refine v_iload_n dX2_wanted_3 rfl ?_
  refine v_iload dX2_wanted_4 rfl ?_
  refine v_iconst dX2_wanted_6 ci_1 ?_
  exact v_cVI (mt := m_X2_wanted) mo_X2_gainOf ml_RX2_79 mi_X2_gainOf mv_X2_gainOf rfl kd_40 cl_2 rfl (ltA hA0 rfl) hR hcs (Nat.le_of_ble_eq_true rfl) dX2_wanted_7 rfl hM (fun y g hp => (q y g hp))
theorem c_X2_wanted_10 {X : CX} {R : Room} {Q : Option Value → AH → Prop} {nx sz mc ms : Nat} {h : AH} {x1 x2 x3 x4 s0 : Int32} {d : Nat} {P20 : Int32 → AH → Prop} (hA0 : 91 ≤ nx) (hR : RO R (d + 1)) (hcs : mc ≤ R.cells ∧ ms ≤ R.slots) (hq : s0 ≤ 0 → Q (some (.int 0)) h) (hM : ¬ s0 ≤ 0 → Mk X d m_X2_gainOf [.ref 40, .int x1, .int x2, .int x3, .int x4, .int 0] h nx sz (RI P20)) (q : ¬ s0 ≤ 0 → ∀ (y : Int32) (g : AH), P20 y g → V X m_X2_wanted R (ZM X Q nx sz mc ms) (nx, sz, mc, ms) 23 [none, none, none, none, none] [.int y] g) : V X m_X2_wanted R (ZM X Q nx sz mc ms) (nx, sz, mc, ms) 10 [some (.ref 40), some (.int x1), some (.int x2), some (.int x3), some (.int x4)] [.int s0] h := by
  refine v_if_le (tgt := 30) dX2_wanted_10 (by decide) (fun c0 => ?_) (fun c0 => ?_)
  · refine v_iconst dX2_wanted_30 ci_0 ?_
    exact v_zret (ty := .boolean) dX2_wanted_31 rfl rfl (hq c0)
  · refine v_aload_n dX2_wanted_13 rfl ?_
    refine v_iload_n dX2_wanted_14 rfl ?_
    refine v_iload_n dX2_wanted_15 rfl ?_
    refine v_iload_n dX2_wanted_16 rfl ?_
    refine v_iload dX2_wanted_17 rfl ?_
    refine v_iconst dX2_wanted_19 ci_0 ?_
    exact v_cVI (mt := m_X2_wanted) mo_X2_gainOf ml_RX2_79 mi_X2_gainOf mv_X2_gainOf rfl kd_40 cl_2 rfl (ltA hA0 rfl) hR hcs (Nat.le_of_ble_eq_true rfl) dX2_wanted_20 rfl (hM c0) (fun y g hp => (v_drop (lvLe_n (lvLe_n (lvLe_n (lvLe_n (lvLe_n lvLe_e))))) ((q c0) y g hp)))
theorem c_X2_wanted_23 {X : CX} {R : Room} {Q : Option Value → AH → Prop} {nx sz mc ms : Nat} {h : AH} {s0 : Int32} (hq : s0 ≤ 0 → Q (some (.int 0)) h) (hq_1 : ¬ s0 ≤ 0 → Q (some (.int 1)) h) : V X m_X2_wanted R (ZM X Q nx sz mc ms) (nx, sz, mc, ms) 23 [none, none, none, none, none] [.int s0] h := by
  refine v_if_le (tgt := 30) dX2_wanted_23 (by decide) (fun c0 => ?_) (fun c0 => ?_)
  · refine v_iconst dX2_wanted_30 ci_0 ?_
    exact v_zret (ty := .boolean) dX2_wanted_31 rfl rfl (hq c0)
  · refine v_iconst dX2_wanted_26 ci_1 ?_
    refine v_goto (tgt := 31) dX2_wanted_27 (by decide) ?_
    exact v_zret (ty := .boolean) dX2_wanted_31 rfl rfl (hq_1 c0)
theorem e_X2_findBest {X : CX} {d nx sz : Nat} {Q : Option Value → AH → Prop} {h : AH} {x1 : Int32} (q : V X m_X2_findBest (rm d 0 0) (ZM X Q nx sz 0 0) (nx, sz, 0, 0) 0 [some (.ref 40), some (.int x1), none] [] h) : Mk X d m_X2_findBest [.ref 40, .int x1] h nx sz Q := by
  refine Mok.ofV mo_X2_findBest (Nat.le_of_ble_eq_true rfl) (L := [some (.ref 40), some (.int x1)]) (lvLe_s (lvLe_s lvLe_e)) (v_grow (n := 1) ?_)
  exact q
theorem c_X2_findBest_0 {X : CX} {R : Room} {Q : Option Value → AH → Prop} {nx sz mc ms : Nat} {h : AH} {x1 : Int32} (hA0 : 91 ≤ nx) (hF : Fx h) (hi_10 : vp_in x1 20) (q : ¬ (h.1 62 x1.toNatClampNeg) = 0 → V X m_X2_findBest R (ZM X Q nx sz mc ms) (nx, sz, mc, ms) 18 [some (.ref 40), some (.int x1), some (.int 0)] [] (setI h 40 8 0)) (hq : (h.1 62 x1.toNatClampNeg) = 0 → Q (some (.int 0)) (setI h 40 8 0)) : V X m_X2_findBest R (ZM X Q nx sz mc ms) (nx, sz, mc, ms) 0 [some (.ref 40), some (.int x1), none] [] h := by
  refine v_aload_n dX2_findBest_0 rfl ?_
  refine v_iconst dX2_findBest_1 ci_0 ?_
  refine v_putI rfl rfl rfl dX2_findBest_2 fl_RX2_83 (Or.inl rfl) kd_40 (ltA hA0 rfl) ?_
  refine v_aload_n dX2_findBest_5 rfl ?_
  refine v_getR dX2_findBest_6 fl_RX2_16 kd_40 (ltA hA0 rfl) rfl (hF 40 2 62 rfl) ?_
  refine v_iload_n dX2_findBest_9 rfl ?_
  refine v_iald dX2_findBest_10 kd_62 (ltA hA0 rfl) hi_10 ?_
  refine v_if_ne (tgt := 16) dX2_findBest_11 (by decide) (fun c0 => ?_) (fun c0 => ?_)
  · refine v_iconst dX2_findBest_16 ci_0 ?_
    refine v_istore_n dX2_findBest_17 (by decide) (L' := [some (.ref 40), some (.int x1), some (.int 0)]) rfl ?_
    exact (q c0)
  · refine v_iconst dX2_findBest_14 ci_0 ?_
    exact v_zret (ty := .boolean) dX2_findBest_15 rfl rfl (hq c0)
theorem c_X2_findBest_18 {X : CX} {R : Room} {Q : Option Value → AH → Prop} {nx sz mc ms : Nat} {h : AH} {x1 x2 : Int32} {d : Nat} {P49 : Int32 → AH → Prop} (hA0 : 91 ≤ nx) (hF : Fx h) (hR : RO R (d + 1)) (hcs : mc ≤ R.cells ∧ ms ≤ R.slots) (hq : (h.1 1 0) ≤ x2 → (h.1 40 8) ≤ 0 → Q (some (.int 0)) h) (hq_1 : (h.1 1 0) ≤ x2 → ¬ (h.1 40 8) ≤ 0 → Q (some (.int 1)) h) (q : ¬ (h.1 1 0) ≤ x2 → x2 = x1 → V X m_X2_findBest R (ZM X Q nx sz mc ms) (nx, sz, mc, ms) 61 [some (.ref 40), some (.int x1), some (.int x2)] [] h) (hi_39 : ¬ (h.1 1 0) ≤ x2 → ¬ x2 = x1 → vp_in x2 20) (q_1 : ¬ (h.1 1 0) ≤ x2 → ¬ x2 = x1 → (h.1 62 x2.toNatClampNeg) = 0 → V X m_X2_findBest R (ZM X Q nx sz mc ms) (nx, sz, mc, ms) 61 [some (.ref 40), some (.int x1), some (.int x2)] [] h) (hM : ¬ (h.1 1 0) ≤ x2 → ¬ x2 = x1 → ¬ (h.1 62 x2.toNatClampNeg) = 0 → Mk X d m_X3_tied [.ref 1, .int x1, .int x2] h nx sz (RI P49)) (q_2 : ¬ (h.1 1 0) ≤ x2 → ¬ x2 = x1 → ¬ (h.1 62 x2.toNatClampNeg) = 0 → ∀ (y : Int32) (g : AH), P49 y g → V X m_X2_findBest R (ZM X Q nx sz mc ms) (nx, sz, mc, ms) 52 [some (.ref 40), some (.int x1), some (.int x2)] [.int y] g) : V X m_X2_findBest R (ZM X Q nx sz mc ms) (nx, sz, mc, ms) 18 [some (.ref 40), some (.int x1), some (.int x2)] [] h := by
  refine v_iload_n dX2_findBest_18 rfl ?_
  refine v_aload_n dX2_findBest_19 rfl ?_
  refine v_getR dX2_findBest_20 fl_RX2_20 kd_40 (ltA hA0 rfl) rfl (hF 40 0 1 rfl) ?_
  refine v_getI dX2_findBest_23 fl_RX2_28 kd_1 (ltA hA0 rfl) rfl ?_
  refine v_icmp_ge (tgt := 67) dX2_findBest_26 (by decide) (fun c0 => ?_) (fun c0 => ?_)
  · refine v_aload_n dX2_findBest_67 rfl ?_
    refine v_getI dX2_findBest_68 fl_RX2_83 kd_40 (ltA hA0 rfl) rfl ?_
    refine v_if_le (tgt := 78) dX2_findBest_71 (by decide) (fun c1 => ?_) (fun c1 => ?_)
    · refine v_iconst dX2_findBest_78 ci_0 ?_
      exact v_zret (ty := .boolean) dX2_findBest_79 rfl rfl (hq c0 c1)
    · refine v_iconst dX2_findBest_74 ci_1 ?_
      refine v_goto (tgt := 79) dX2_findBest_75 (by decide) ?_
      exact v_zret (ty := .boolean) dX2_findBest_79 rfl rfl (hq_1 c0 c1)
  · refine v_iload_n dX2_findBest_29 rfl ?_
    refine v_iload_n dX2_findBest_30 rfl ?_
    refine v_icmp_eq (tgt := 61) dX2_findBest_31 (by decide) (fun c1 => ?_) (fun c1 => ?_)
    · exact (q c0 c1)
    · refine v_aload_n dX2_findBest_34 rfl ?_
      refine v_getR dX2_findBest_35 fl_RX2_16 kd_40 (ltA hA0 rfl) rfl (hF 40 2 62 rfl) ?_
      refine v_iload_n dX2_findBest_38 rfl ?_
      refine v_iald dX2_findBest_39 kd_62 (ltA hA0 rfl) (hi_39 c0 c1) ?_
      refine v_if_eq (tgt := 61) dX2_findBest_40 (by decide) (fun c2 => ?_) (fun c2 => ?_)
      · exact (q_1 c0 c1 c2)
      · refine v_aload_n dX2_findBest_43 rfl ?_
        refine v_getR dX2_findBest_44 fl_RX2_20 kd_40 (ltA hA0 rfl) rfl (hF 40 0 1 rfl) ?_
        refine v_iload_n dX2_findBest_47 rfl ?_
        refine v_iload_n dX2_findBest_48 rfl ?_
        exact v_cVI (mt := m_X2_findBest) mo_X3_tied ml_RX2_48 mi_X3_tied mv_X3_tied rfl kd_1 cl_3 rfl (ltA hA0 rfl) hR hcs (Nat.le_of_ble_eq_true rfl) dX2_findBest_49 rfl (hM c0 c1 c2) (fun y g hp => ((q_2 c0 c1 c2) y g hp))
theorem c_X2_findBest_52 {X : CX} {R : Room} {Z : ZX} {A : AX} {h : AH} {x1 x2 s0 : Int32} {d : Nat} {P58 : AH → Prop} (hA0 : 91 ≤ A.1) (hR : RO R (d + 1)) (hcs : A.2.2.1 ≤ R.cells ∧ A.2.2.2 ≤ R.slots) (q : ¬ s0 = 0 → V X m_X2_findBest R Z A 61 [some (.ref 40), some (.int x1), some (.int x2)] [] h) (hM : s0 = 0 → Mk X d m_X2_tryTaking [.ref 40, .int x1, .int x2] h A.1 A.2.1 (RV P58)) (q_1 : s0 = 0 → ∀ (g : AH), P58 g → V X m_X2_findBest R Z A 61 [some (.ref 40), some (.int x1), some (.int x2)] [] g) : V X m_X2_findBest R Z A 52 [some (.ref 40), some (.int x1), some (.int x2)] [.int s0] h := by
  refine v_if_ne (tgt := 61) dX2_findBest_52 (by decide) (fun c0 => ?_) (fun c0 => ?_)
  · exact (q c0)
  · refine v_aload_n dX2_findBest_55 rfl ?_
    refine v_iload_n dX2_findBest_56 rfl ?_
    refine v_iload_n dX2_findBest_57 rfl ?_
    exact v_cVV (mt := m_X2_findBest) mo_X2_tryTaking ml_RX2_86 mi_X2_tryTaking mv_X2_tryTaking rfl kd_40 cl_2 rfl (ltA hA0 rfl) hR hcs (Nat.le_of_ble_eq_true rfl) dX2_findBest_58 rfl (hM c0) (fun g hp => ((q_1 c0) g hp))
theorem c_X2_findBest_61 {X : CX} {R : Room} {Z : ZX} {A : AX} {h : AH} {x1 x2 : Int32} (q : V X m_X2_findBest R Z A 18 [some (.ref 40), some (.int x1), some (.int (x2 + 1))] [] h) : V X m_X2_findBest R Z A 61 [some (.ref 40), some (.int x1), some (.int x2)] [] h := by
  refine v_iinc (y := (x2 + 1)) dX2_findBest_61 rfl rfl (by decide) (L' := [some (.ref 40), some (.int x1), some (.int (x2 + 1))]) rfl ?_
  refine v_goto (tgt := 18) dX2_findBest_64 (by decide) ?_
  exact q
theorem e_X2_tryTaking {X : CX} {d nx sz : Nat} {Q : Option Value → AH → Prop} {h : AH} {x1 x2 : Int32} (q : V X m_X2_tryTaking (rm d 0 0) (ZM X Q nx sz 0 0) (nx, sz, 0, 0) 0 [some (.ref 40), some (.int x1), some (.int x2), none] [] h) : Mk X d m_X2_tryTaking [.ref 40, .int x1, .int x2] h nx sz Q := by
  refine Mok.ofV mo_X2_tryTaking (Nat.le_of_ble_eq_true rfl) (L := [some (.ref 40), some (.int x1), some (.int x2)]) (lvLe_s (lvLe_s (lvLe_s lvLe_e))) (v_grow (n := 1) ?_)
  exact q
theorem c_X2_tryTaking_0 {X : CX} {R : Room} {Z : ZX} {A : AX} {h : AH} {x1 x2 : Int32} (q : V X m_X2_tryTaking R Z A 2 [some (.ref 40), some (.int x1), some (.int x2), some (.int (-1))] [] h) : V X m_X2_tryTaking R Z A 0 [some (.ref 40), some (.int x1), some (.int x2), none] [] h := by
  refine v_iconst dX2_tryTaking_0 ci_m1 ?_
  refine v_istore_n dX2_tryTaking_1 (by decide) (L' := [some (.ref 40), some (.int x1), some (.int x2), some (.int (-1))]) rfl ?_
  exact q
theorem c_X2_tryTaking_2 {X : CX} {R : Room} {Q : Option Value → AH → Prop} {nx sz mc ms : Nat} {h : AH} {x1 x2 x3 : Int32} {d : Nat} {P16 : Int32 → AH → Prop} (hA0 : 91 ≤ nx) (hF : Fx h) (hR : RO R (d + 1)) (hcs : mc ≤ R.cells ∧ ms ≤ R.slots) (hq : (h.1 1 0) ≤ x3 → Q none h) (hM : ¬ (h.1 1 0) ≤ x3 → Mk X d m_X2_mayDrop [.ref 40, .int x1, .int x3] h nx sz (RI P16)) (q : ¬ (h.1 1 0) ≤ x3 → ∀ (y : Int32) (g : AH), P16 y g → V X m_X2_tryTaking R (ZM X Q nx sz mc ms) (nx, sz, mc, ms) 19 [some (.ref 40), some (.int x1), some (.int x2), some (.int x3)] [.int y] g) : V X m_X2_tryTaking R (ZM X Q nx sz mc ms) (nx, sz, mc, ms) 2 [some (.ref 40), some (.int x1), some (.int x2), some (.int x3)] [] h := by
  refine v_iload_n dX2_tryTaking_2 rfl ?_
  refine v_aload_n dX2_tryTaking_3 rfl ?_
  refine v_getR dX2_tryTaking_4 fl_RX2_20 kd_40 (ltA hA0 rfl) rfl (hF 40 0 1 rfl) ?_
  refine v_getI dX2_tryTaking_7 fl_RX2_28 kd_1 (ltA hA0 rfl) rfl ?_
  refine v_icmp_ge (tgt := 51) dX2_tryTaking_10 (by decide) (fun c0 => ?_) (fun c0 => ?_)
  · exact v_vret dX2_tryTaking_51 rfl (hq c0)
  · refine v_aload_n dX2_tryTaking_13 rfl ?_
    refine v_iload_n dX2_tryTaking_14 rfl ?_
    refine v_iload_n dX2_tryTaking_15 rfl ?_
    exact v_cVI (mt := m_X2_tryTaking) mo_X2_mayDrop ml_RX2_51 mi_X2_mayDrop mv_X2_mayDrop rfl kd_40 cl_2 rfl (ltA hA0 rfl) hR hcs (Nat.le_of_ble_eq_true rfl) dX2_tryTaking_16 rfl (hM c0) (fun y g hp => ((q c0) y g hp))
theorem c_X2_tryTaking_19 {X : CX} {R : Room} {Z : ZX} {A : AX} {h : AH} {x1 x2 x3 s0 : Int32} {d : Nat} {P28 : Int32 → AH → Prop} (hA0 : 91 ≤ A.1) (hR : RO R (d + 1)) (hcs : A.2.2.1 ≤ R.cells ∧ A.2.2.2 ≤ R.slots) (q : s0 = 0 → V X m_X2_tryTaking R Z A 45 [some (.ref 40), some (.int x1), some (.int x2), some (.int x3)] [] h) (hM : ¬ s0 = 0 → Mk X d m_X2_gainOf [.ref 40, .int x1, .int x3, .int x2, .int (-1), .int 1] h A.1 A.2.1 (RI P28)) (q_1 : ¬ s0 = 0 → ∀ (y : Int32) (g : AH), P28 y g → V X m_X2_tryTaking R Z A 31 [some (.ref 40), some (.int x1), some (.int x2), some (.int x3)] [.int y] g) : V X m_X2_tryTaking R Z A 19 [some (.ref 40), some (.int x1), some (.int x2), some (.int x3)] [.int s0] h := by
  refine v_if_eq (tgt := 45) dX2_tryTaking_19 (by decide) (fun c0 => ?_) (fun c0 => ?_)
  · exact (q c0)
  · refine v_aload_n dX2_tryTaking_22 rfl ?_
    refine v_iload_n dX2_tryTaking_23 rfl ?_
    refine v_iload_n dX2_tryTaking_24 rfl ?_
    refine v_iload_n dX2_tryTaking_25 rfl ?_
    refine v_iconst dX2_tryTaking_26 ci_m1 ?_
    refine v_iconst dX2_tryTaking_27 ci_1 ?_
    exact v_cVI (mt := m_X2_tryTaking) mo_X2_gainOf ml_RX2_79 mi_X2_gainOf mv_X2_gainOf rfl kd_40 cl_2 rfl (ltA hA0 rfl) hR hcs (Nat.le_of_ble_eq_true rfl) dX2_tryTaking_28 rfl (hM c0) (fun y g hp => ((q_1 c0) y g hp))
theorem c_X2_tryTaking_31 {X : CX} {R : Room} {Z : ZX} {A : AX} {h : AH} {x1 x2 x3 s0 : Int32} {d : Nat} {P42 : AH → Prop} (hA0 : 91 ≤ A.1) (hR : RO R (d + 1)) (hcs : A.2.2.1 ≤ R.cells ∧ A.2.2.2 ≤ R.slots) (q : s0 ≤ (h.1 40 8) → V X m_X2_tryTaking R Z A 45 [some (.ref 40), some (.int x1), some (.int x2), some (.int x3)] [] h) (hM : ¬ s0 ≤ (h.1 40 8) → Mk X d m_X2_tryDropping [.ref 40, .int x1, .int x3, .int x2] h A.1 A.2.1 (RV P42)) (q_1 : ¬ s0 ≤ (h.1 40 8) → ∀ (g : AH), P42 g → V X m_X2_tryTaking R Z A 45 [some (.ref 40), some (.int x1), some (.int x2), some (.int x3)] [] g) : V X m_X2_tryTaking R Z A 31 [some (.ref 40), some (.int x1), some (.int x2), some (.int x3)] [.int s0] h := by
  refine v_aload_n dX2_tryTaking_31 rfl ?_
  refine v_getI dX2_tryTaking_32 fl_RX2_83 kd_40 (ltA hA0 rfl) rfl ?_
  refine v_icmp_le (tgt := 45) dX2_tryTaking_35 (by decide) (fun c0 => ?_) (fun c0 => ?_)
  · exact (q c0)
  · refine v_aload_n dX2_tryTaking_38 rfl ?_
    refine v_iload_n dX2_tryTaking_39 rfl ?_
    refine v_iload_n dX2_tryTaking_40 rfl ?_
    refine v_iload_n dX2_tryTaking_41 rfl ?_
    exact v_cVV (mt := m_X2_tryTaking) mo_X2_tryDropping ml_RX2_89 mi_X2_tryDropping mv_X2_tryDropping rfl kd_40 cl_2 rfl (ltA hA0 rfl) hR hcs (Nat.le_of_ble_eq_true rfl) dX2_tryTaking_42 rfl (hM c0) (fun g hp => ((q_1 c0) g hp))
theorem c_X2_tryTaking_45 {X : CX} {R : Room} {Z : ZX} {A : AX} {h : AH} {x1 x2 x3 : Int32} (q : V X m_X2_tryTaking R Z A 2 [some (.ref 40), some (.int x1), some (.int x2), some (.int (x3 + 1))] [] h) : V X m_X2_tryTaking R Z A 45 [some (.ref 40), some (.int x1), some (.int x2), some (.int x3)] [] h := by
  refine v_iinc (y := (x3 + 1)) dX2_tryTaking_45 rfl rfl (by decide) (L' := [some (.ref 40), some (.int x1), some (.int x2), some (.int (x3 + 1))]) rfl ?_
  refine v_goto (tgt := 2) dX2_tryTaking_48 (by decide) ?_
  exact q
theorem e_X2_tryDropping {X : CX} {d nx sz : Nat} {Q : Option Value → AH → Prop} {h : AH} {x1 x2 x3 : Int32} (q : V X m_X2_tryDropping (rm d 0 0) (ZM X Q nx sz 0 0) (nx, sz, 0, 0) 0 [some (.ref 40), some (.int x1), some (.int x2), some (.int x3), none, none] [] h) : Mk X d m_X2_tryDropping [.ref 40, .int x1, .int x2, .int x3] h nx sz Q := by
  refine Mok.ofV mo_X2_tryDropping (Nat.le_of_ble_eq_true rfl) (L := [some (.ref 40), some (.int x1), some (.int x2), some (.int x3)]) (lvLe_s (lvLe_s (lvLe_s (lvLe_s lvLe_e)))) (v_grow (n := 2) ?_)
  exact q
theorem c_X2_tryDropping_0 {X : CX} {R : Room} {Z : ZX} {A : AX} {h : AH} {x1 x2 x3 : Int32} (q : V X m_X2_tryDropping R Z A 3 [some (.ref 40), some (.int x1), some (.int x2), some (.int x3), some (.int (-1)), none] [] h) : V X m_X2_tryDropping R Z A 0 [some (.ref 40), some (.int x1), some (.int x2), some (.int x3), none, none] [] h := by
  refine v_iconst dX2_tryDropping_0 ci_m1 ?_
  refine v_istore dX2_tryDropping_1 (by decide) (L' := [some (.ref 40), some (.int x1), some (.int x2), some (.int x3), some (.int (-1)), none]) rfl ?_
  exact q
theorem c_X2_tryDropping_3 {X : CX} {R : Room} {Q : Option Value → AH → Prop} {nx sz mc ms : Nat} {h : AH} {x1 x2 x3 x4 : Int32} {d : Nat} {P19 : Int32 → AH → Prop} (hA0 : 91 ≤ nx) (hF : Fx h) (hR : RO R (d + 1)) (hcs : mc ≤ R.cells ∧ ms ≤ R.slots) (hq : (h.1 1 0) ≤ x4 → Q none h) (hM : ¬ (h.1 1 0) ≤ x4 → Mk X d m_X2_mayDrop [.ref 40, .int x3, .int x4] h nx sz (RI P19)) (q : ¬ (h.1 1 0) ≤ x4 → ∀ (y : Int32) (g : AH), P19 y g → V X m_X2_tryDropping R (ZM X Q nx sz mc ms) (nx, sz, mc, ms) 22 [some (.ref 40), some (.int x1), some (.int x2), some (.int x3), some (.int x4), none] [.int y] g) : V X m_X2_tryDropping R (ZM X Q nx sz mc ms) (nx, sz, mc, ms) 3 [some (.ref 40), some (.int x1), some (.int x2), some (.int x3), some (.int x4), none] [] h := by
  refine v_iload dX2_tryDropping_3 rfl ?_
  refine v_aload_n dX2_tryDropping_5 rfl ?_
  refine v_getR dX2_tryDropping_6 fl_RX2_20 kd_40 (ltA hA0 rfl) rfl (hF 40 0 1 rfl) ?_
  refine v_getI dX2_tryDropping_9 fl_RX2_28 kd_1 (ltA hA0 rfl) rfl ?_
  refine v_icmp_ge (tgt := 87) dX2_tryDropping_12 (by decide) (fun c0 => ?_) (fun c0 => ?_)
  · exact v_vret dX2_tryDropping_87 rfl (hq c0)
  · refine v_aload_n dX2_tryDropping_15 rfl ?_
    refine v_iload_n dX2_tryDropping_16 rfl ?_
    refine v_iload dX2_tryDropping_17 rfl ?_
    exact v_cVI (mt := m_X2_tryDropping) mo_X2_mayDrop ml_RX2_51 mi_X2_mayDrop mv_X2_mayDrop rfl kd_40 cl_2 rfl (ltA hA0 rfl) hR hcs (Nat.le_of_ble_eq_true rfl) dX2_tryDropping_19 rfl (hM c0) (fun y g hp => ((q c0) y g hp))
theorem c_X2_tryDropping_22 {X : CX} {R : Room} {Z : ZX} {A : AX} {h : AH} {x1 x2 x3 x4 s0 : Int32} {d : Nat} {P32 : Int32 → AH → Prop} (hA0 : 91 ≤ A.1) (hR : RO R (d + 1)) (hcs : A.2.2.1 ≤ R.cells ∧ A.2.2.2 ≤ R.slots) (q : s0 = 0 → V X m_X2_tryDropping R Z A 3 [some (.ref 40), some (.int x1), some (.int x2), some (.int x3), some (.int (x4 + 1)), none] [] h) (hM : ¬ s0 = 0 → Mk X d m_X2_gainOf [.ref 40, .int x1, .int x2, .int x3, .int x4, .int 1] h A.1 A.2.1 (RI P32)) (q_1 : ¬ s0 = 0 → ∀ (y : Int32) (g : AH), P32 y g → V X m_X2_tryDropping R Z A 35 [some (.ref 40), some (.int x1), some (.int x2), some (.int x3), some (.int x4), none] [.int y] g) : V X m_X2_tryDropping R Z A 22 [some (.ref 40), some (.int x1), some (.int x2), some (.int x3), some (.int x4), none] [.int s0] h := by
  refine v_if_eq (tgt := 81) dX2_tryDropping_22 (by decide) (fun c0 => ?_) (fun c0 => ?_)
  · refine v_iinc (y := (x4 + 1)) dX2_tryDropping_81 rfl rfl (by decide) (L' := [some (.ref 40), some (.int x1), some (.int x2), some (.int x3), some (.int (x4 + 1)), none]) rfl ?_
    refine v_goto (tgt := 3) dX2_tryDropping_84 (by decide) ?_
    exact (q c0)
  · refine v_aload_n dX2_tryDropping_25 rfl ?_
    refine v_iload_n dX2_tryDropping_26 rfl ?_
    refine v_iload_n dX2_tryDropping_27 rfl ?_
    refine v_iload_n dX2_tryDropping_28 rfl ?_
    refine v_iload dX2_tryDropping_29 rfl ?_
    refine v_iconst dX2_tryDropping_31 ci_1 ?_
    exact v_cVI (mt := m_X2_tryDropping) mo_X2_gainOf ml_RX2_79 mi_X2_gainOf mv_X2_gainOf rfl kd_40 cl_2 rfl (ltA hA0 rfl) hR hcs (Nat.le_of_ble_eq_true rfl) dX2_tryDropping_32 rfl (hM c0) (fun y g hp => ((q_1 c0) y g hp))
theorem c_X2_tryDropping_35 {X : CX} {R : Room} {Z : ZX} {A : AX} {h : AH} {x1 x2 x3 x4 s0 : Int32} {d : Nat} {P53 : Int32 → AH → Prop} (hA0 : 91 ≤ A.1) (hR : RO R (d + 1)) (hcs : A.2.2.1 ≤ R.cells ∧ A.2.2.2 ≤ R.slots) (q : s0 ≤ (h.1 40 8) → V X m_X2_tryDropping R Z A 3 [some (.ref 40), some (.int x1), some (.int x2), some (.int x3), some (.int (x4 + 1)), none] [] h) (hM : ¬ s0 ≤ (h.1 40 8) → Mk X d m_X2_gainOf [.ref 40, .int x1, .int x2, .int x3, .int x4, .int 0] h A.1 A.2.1 (RI P53)) (q_1 : ¬ s0 ≤ (h.1 40 8) → ∀ (y : Int32) (g : AH), P53 y g → V X m_X2_tryDropping R Z A 56 [some (.ref 40), some (.int x1), some (.int x2), some (.int x3), some (.int x4), some (.int s0)] [.int y] g) : V X m_X2_tryDropping R Z A 35 [some (.ref 40), some (.int x1), some (.int x2), some (.int x3), some (.int x4), none] [.int s0] h := by
  refine v_istore dX2_tryDropping_35 (by decide) (L' := [some (.ref 40), some (.int x1), some (.int x2), some (.int x3), some (.int x4), some (.int s0)]) rfl ?_
  refine v_iload dX2_tryDropping_37 rfl ?_
  refine v_aload_n dX2_tryDropping_39 rfl ?_
  refine v_getI dX2_tryDropping_40 fl_RX2_83 kd_40 (ltA hA0 rfl) rfl ?_
  refine v_icmp_le (tgt := 81) dX2_tryDropping_43 (by decide) (fun c0 => ?_) (fun c0 => ?_)
  · refine v_iinc (y := (x4 + 1)) dX2_tryDropping_81 rfl rfl (by decide) (L' := [some (.ref 40), some (.int x1), some (.int x2), some (.int x3), some (.int (x4 + 1)), some (.int s0)]) rfl ?_
    refine v_goto (tgt := 3) dX2_tryDropping_84 (by decide) ?_
    exact (v_drop (lvLe_s (lvLe_s (lvLe_s (lvLe_s (lvLe_s (lvLe_n lvLe_e)))))) (q c0))
  · refine v_aload_n dX2_tryDropping_46 rfl ?_
    refine v_iload_n dX2_tryDropping_47 rfl ?_
    refine v_iload_n dX2_tryDropping_48 rfl ?_
    refine v_iload_n dX2_tryDropping_49 rfl ?_
    refine v_iload dX2_tryDropping_50 rfl ?_
    refine v_iconst dX2_tryDropping_52 ci_0 ?_
    exact v_cVI (mt := m_X2_tryDropping) mo_X2_gainOf ml_RX2_79 mi_X2_gainOf mv_X2_gainOf rfl kd_40 cl_2 rfl (ltA hA0 rfl) hR hcs (Nat.le_of_ble_eq_true rfl) dX2_tryDropping_53 rfl (hM c0) (fun y g hp => ((q_1 c0) y g hp))
theorem c_X2_tryDropping_56 {X : CX} {R : Room} {Z : ZX} {A : AX} {h : AH} {x1 x2 x3 x4 x5 s0 : Int32} (hA0 : 91 ≤ A.1) (q : s0 ≤ 0 → V X m_X2_tryDropping R Z A 3 [some (.ref 40), some (.int x1), some (.int x2), some (.int x3), some (.int (x4 + 1)), none] [] h) (q_1 : ¬ s0 ≤ 0 → V X m_X2_tryDropping R Z A 3 [some (.ref 40), some (.int x1), some (.int x2), some (.int x3), some (.int (x4 + 1)), none] [] (setI (setI (setI (setI h 40 5 x3) 40 6 x2) 40 7 x4) 40 8 x5)) : V X m_X2_tryDropping R Z A 56 [some (.ref 40), some (.int x1), some (.int x2), some (.int x3), some (.int x4), some (.int x5)] [.int s0] h := by
  refine v_if_le (tgt := 81) dX2_tryDropping_56 (by decide) (fun c0 => ?_) (fun c0 => ?_)
  · refine v_iinc (y := (x4 + 1)) dX2_tryDropping_81 rfl rfl (by decide) (L' := [some (.ref 40), some (.int x1), some (.int x2), some (.int x3), some (.int (x4 + 1)), some (.int x5)]) rfl ?_
    refine v_goto (tgt := 3) dX2_tryDropping_84 (by decide) ?_
    exact (v_drop (lvLe_s (lvLe_s (lvLe_s (lvLe_s (lvLe_s (lvLe_n lvLe_e)))))) (q c0))
  · refine v_aload_n dX2_tryDropping_59 rfl ?_
    refine v_iload_n dX2_tryDropping_60 rfl ?_
    refine v_putI rfl rfl rfl dX2_tryDropping_61 fl_RX2_93 (Or.inl rfl) kd_40 (ltA hA0 rfl) ?_
    refine v_aload_n dX2_tryDropping_64 rfl ?_
    refine v_iload_n dX2_tryDropping_65 rfl ?_
    refine v_putI rfl rfl rfl dX2_tryDropping_66 fl_RX2_96 (Or.inl rfl) kd_40 (ltA hA0 rfl) ?_
    refine v_aload_n dX2_tryDropping_69 rfl ?_
    refine v_iload dX2_tryDropping_70 rfl ?_
    refine v_putI rfl rfl rfl dX2_tryDropping_72 fl_RX2_99 (Or.inl rfl) kd_40 (ltA hA0 rfl) ?_
    refine v_aload_n dX2_tryDropping_75 rfl ?_
    refine v_iload dX2_tryDropping_76 rfl ?_
    refine v_putI rfl rfl rfl dX2_tryDropping_78 fl_RX2_83 (Or.inl rfl) kd_40 (ltA hA0 rfl) ?_
    refine v_iinc (y := (x4 + 1)) dX2_tryDropping_81 rfl rfl (by decide) (L' := [some (.ref 40), some (.int x1), some (.int x2), some (.int x3), some (.int (x4 + 1)), some (.int x5)]) rfl ?_
    refine v_goto (tgt := 3) dX2_tryDropping_84 (by decide) ?_
    exact (v_drop (lvLe_s (lvLe_s (lvLe_s (lvLe_s (lvLe_s (lvLe_n lvLe_e)))))) (q_1 c0))
theorem e_X2_makeTurns {X : CX} {d nx sz : Nat} {Q : Option Value → AH → Prop} {h : AH} (q : V X m_X2_makeTurns (rm d 0 0) (ZM X Q nx sz 0 0) (nx, sz, 0, 0) 0 [some (.ref 40), none, none, none, none] [] h) : Mk X d m_X2_makeTurns [.ref 40] h nx sz Q := by
  refine Mok.ofV mo_X2_makeTurns (Nat.le_of_ble_eq_true rfl) (L := [some (.ref 40)]) (lvLe_s lvLe_e) (v_grow (n := 4) ?_)
  exact q
theorem c_X2_makeTurns_0 {X : CX} {R : Room} {Z : ZX} {A : AX} {h : AH} (q : V X m_X2_makeTurns R Z A 4 [some (.ref 40), some (.int 0), some (.int 0), none, none] [] h) : V X m_X2_makeTurns R Z A 0 [some (.ref 40), none, none, none, none] [] h := by
  refine v_iconst dX2_makeTurns_0 ci_0 ?_
  refine v_istore_n dX2_makeTurns_1 (by decide) (L' := [some (.ref 40), some (.int 0), none, none, none]) rfl ?_
  refine v_iconst dX2_makeTurns_2 ci_0 ?_
  refine v_istore_n dX2_makeTurns_3 (by decide) (L' := [some (.ref 40), some (.int 0), some (.int 0), none, none]) rfl ?_
  exact q
theorem c_X2_makeTurns_4 {X : CX} {R : Room} {Q : Option Value → AH → Prop} {nx sz mc ms : Nat} {h : AH} {x1 x2 : Int32} (hq : 40 < x2 → Q (some (.int (-1))) h) (q : ¬ 40 < x2 → V X m_X2_makeTurns R (ZM X Q nx sz mc ms) (nx, sz, mc, ms) 15 [some (.ref 40), some (.int x1), some (.int x2), some (.int x1), some (.int 0)] [] h) : V X m_X2_makeTurns R (ZM X Q nx sz mc ms) (nx, sz, mc, ms) 4 [some (.ref 40), some (.int x1), some (.int x2), none, none] [] h := by
  refine v_iload_n dX2_makeTurns_4 rfl ?_
  refine v_bipush dX2_makeTurns_5 cb_40 ?_
  refine v_icmp_gt (tgt := 84) dX2_makeTurns_7 (by decide) (fun c0 => ?_) (fun c0 => ?_)
  · refine v_iconst dX2_makeTurns_84 ci_m1 ?_
    exact v_iret dX2_makeTurns_85 rfl (hq c0)
  · refine v_iload_n dX2_makeTurns_10 rfl ?_
    refine v_istore_n dX2_makeTurns_11 (by decide) (L' := [some (.ref 40), some (.int x1), some (.int x2), some (.int x1), none]) rfl ?_
    refine v_iconst dX2_makeTurns_12 ci_0 ?_
    refine v_istore dX2_makeTurns_13 (by decide) (L' := [some (.ref 40), some (.int x1), some (.int x2), some (.int x1), some (.int 0)]) rfl ?_
    exact (q c0)
theorem c_X2_makeTurns_15 {X : CX} {R : Room} {Q : Option Value → AH → Prop} {nx sz mc ms : Nat} {h : AH} {x1 x2 x3 x4 : Int32} {d : Nat} {P30 : Int32 → AH → Prop} (hA0 : 91 ≤ nx) (hF : Fx h) (hR : RO R (d + 1)) (hcs : mc ≤ R.cells ∧ ms ≤ R.slots) (q : (h.1 1 0) ≤ x4 → ¬ x1 = x3 → V X m_X2_makeTurns R (ZM X Q nx sz mc ms) (nx, sz, mc, ms) 4 [some (.ref 40), some (.int x1), some (.int (x2 + 1)), none, none] [] h) (hq : (h.1 1 0) ≤ x4 → x1 = x3 → Q (some (.int x1)) h) (hM : ¬ (h.1 1 0) ≤ x4 → Mk X d m_X2_findBest [.ref 40, .int x4] h nx sz (RI P30)) (q_1 : ¬ (h.1 1 0) ≤ x4 → ∀ (y : Int32) (g : AH), P30 y g → V X m_X2_makeTurns R (ZM X Q nx sz mc ms) (nx, sz, mc, ms) 33 [some (.ref 40), some (.int x1), some (.int x2), some (.int x3), some (.int x4)] [.int y] g) : V X m_X2_makeTurns R (ZM X Q nx sz mc ms) (nx, sz, mc, ms) 15 [some (.ref 40), some (.int x1), some (.int x2), some (.int x3), some (.int x4)] [] h := by
  refine v_iload dX2_makeTurns_15 rfl ?_
  refine v_aload_n dX2_makeTurns_17 rfl ?_
  refine v_getR dX2_makeTurns_18 fl_RX2_20 kd_40 (ltA hA0 rfl) rfl (hF 40 0 1 rfl) ?_
  refine v_getI dX2_makeTurns_21 fl_RX2_28 kd_1 (ltA hA0 rfl) rfl ?_
  refine v_icmp_ge (tgt := 71) dX2_makeTurns_24 (by decide) (fun c0 => ?_) (fun c0 => ?_)
  · refine v_iload_n dX2_makeTurns_71 rfl ?_
    refine v_iload_n dX2_makeTurns_72 rfl ?_
    refine v_icmp_ne (tgt := 78) dX2_makeTurns_73 (by decide) (fun c1 => ?_) (fun c1 => ?_)
    · refine v_iinc (y := (x2 + 1)) dX2_makeTurns_78 rfl rfl (by decide) (L' := [some (.ref 40), some (.int x1), some (.int (x2 + 1)), some (.int x3), some (.int x4)]) rfl ?_
      refine v_goto (tgt := 4) dX2_makeTurns_81 (by decide) ?_
      exact (v_drop (lvLe_s (lvLe_s (lvLe_s (lvLe_n (lvLe_n lvLe_e))))) (q c0 c1))
    · refine v_iload_n dX2_makeTurns_76 rfl ?_
      exact v_iret dX2_makeTurns_77 rfl (hq c0 c1)
  · refine v_aload_n dX2_makeTurns_27 rfl ?_
    refine v_iload dX2_makeTurns_28 rfl ?_
    exact v_cVI (mt := m_X2_makeTurns) mo_X2_findBest ml_RX2_102 mi_X2_findBest mv_X2_findBest rfl kd_40 cl_2 rfl (ltA hA0 rfl) hR hcs (Nat.le_of_ble_eq_true rfl) dX2_makeTurns_30 rfl (hM c0) (fun y g hp => ((q_1 c0) y g hp))
theorem c_X2_makeTurns_33 {X : CX} {R : Room} {Q : Option Value → AH → Prop} {nx sz mc ms : Nat} {h : AH} {x1 x2 x3 x4 s0 : Int32} {d : Nat} {P59 : AH → Prop} (hA0 : 91 ≤ nx) (hR : RO R (d + 1)) (hcs : mc ≤ R.cells ∧ ms ≤ R.slots) (q : s0 = 0 → V X m_X2_makeTurns R (ZM X Q nx sz mc ms) (nx, sz, mc, ms) 15 [some (.ref 40), some (.int x1), some (.int x2), some (.int x3), some (.int (x4 + 1))] [] h) (hM : ¬ s0 = 0 → ¬ x1 = 40 → Mk X d m_X2_make [.ref 40, .int x4, .int (h.1 40 6), .int (h.1 40 5), .int (h.1 40 7)] h nx sz (RV P59)) (q_1 : ¬ s0 = 0 → ¬ x1 = 40 → ∀ (g : AH), P59 g → V X m_X2_makeTurns R (ZM X Q nx sz mc ms) (nx, sz, mc, ms) 62 [some (.ref 40), some (.int x1), some (.int x2), some (.int x3), some (.int x4)] [] g) (hq : ¬ s0 = 0 → x1 = 40 → Q (some (.int (-1))) h) : V X m_X2_makeTurns R (ZM X Q nx sz mc ms) (nx, sz, mc, ms) 33 [some (.ref 40), some (.int x1), some (.int x2), some (.int x3), some (.int x4)] [.int s0] h := by
  refine v_if_eq (tgt := 65) dX2_makeTurns_33 (by decide) (fun c0 => ?_) (fun c0 => ?_)
  · refine v_iinc (y := (x4 + 1)) dX2_makeTurns_65 rfl rfl (by decide) (L' := [some (.ref 40), some (.int x1), some (.int x2), some (.int x3), some (.int (x4 + 1))]) rfl ?_
    refine v_goto (tgt := 15) dX2_makeTurns_68 (by decide) ?_
    exact (q c0)
  · refine v_iload_n dX2_makeTurns_36 rfl ?_
    refine v_bipush dX2_makeTurns_37 cb_40 ?_
    refine v_icmp_ne (tgt := 44) dX2_makeTurns_39 (by decide) (fun c1 => ?_) (fun c1 => ?_)
    · refine v_aload_n dX2_makeTurns_44 rfl ?_
      refine v_iload dX2_makeTurns_45 rfl ?_
      refine v_aload_n dX2_makeTurns_47 rfl ?_
      refine v_getI dX2_makeTurns_48 fl_RX2_96 kd_40 (ltA hA0 rfl) rfl ?_
      refine v_aload_n dX2_makeTurns_51 rfl ?_
      refine v_getI dX2_makeTurns_52 fl_RX2_93 kd_40 (ltA hA0 rfl) rfl ?_
      refine v_aload_n dX2_makeTurns_55 rfl ?_
      refine v_getI dX2_makeTurns_56 fl_RX2_99 kd_40 (ltA hA0 rfl) rfl ?_
      exact v_cVV (mt := m_X2_makeTurns) mo_X2_make ml_RX2_72 mi_X2_make mv_X2_make rfl kd_40 cl_2 rfl (ltA hA0 rfl) hR hcs (Nat.le_of_ble_eq_true rfl) dX2_makeTurns_59 rfl (hM c0 c1) (fun g hp => ((q_1 c0 c1) g hp))
    · refine v_iconst dX2_makeTurns_42 ci_m1 ?_
      exact v_iret dX2_makeTurns_43 rfl (hq c0 c1)
theorem c_X2_makeTurns_62 {X : CX} {R : Room} {Z : ZX} {A : AX} {h : AH} {x1 x2 x3 x4 : Int32} (q : V X m_X2_makeTurns R Z A 15 [some (.ref 40), some (.int (x1 + 1)), some (.int x2), some (.int x3), some (.int (x4 + 1))] [] h) : V X m_X2_makeTurns R Z A 62 [some (.ref 40), some (.int x1), some (.int x2), some (.int x3), some (.int x4)] [] h := by
  refine v_iinc (y := (x1 + 1)) dX2_makeTurns_62 rfl rfl (by decide) (L' := [some (.ref 40), some (.int (x1 + 1)), some (.int x2), some (.int x3), some (.int x4)]) rfl ?_
  refine v_iinc (y := (x4 + 1)) dX2_makeTurns_65 rfl rfl (by decide) (L' := [some (.ref 40), some (.int (x1 + 1)), some (.int x2), some (.int x3), some (.int (x4 + 1))]) rfl ?_
  refine v_goto (tgt := 15) dX2_makeTurns_68 (by decide) ?_
  exact q
theorem e_X6_carry {X : CX} {d nx sz : Nat} {Q : Option Value → AH → Prop} {h : AH} {x1 x2 x3 : Int32} (q : V X m_X6_carry (rm d 0 0) (ZM X Q nx sz 0 0) (nx, sz, 0, 0) 0 [some (.ref 63), some (.int x1), some (.int x2), some (.int x3), none, none] [] h) : Mk X d m_X6_carry [.ref 63, .int x1, .int x2, .int x3] h nx sz Q := by
  refine Mok.ofV mo_X6_carry (Nat.le_of_ble_eq_true rfl) (L := [some (.ref 63), some (.int x1), some (.int x2), some (.int x3)]) (lvLe_s (lvLe_s (lvLe_s (lvLe_s lvLe_e)))) (v_grow (n := 2) ?_)
  exact q
theorem c_X6_carry_0 {X : CX} {R : Room} {Z : ZX} {A : AX} {h : AH} {x1 x2 x3 : Int32} {d : Nat} {P4 : AH → Prop} (hA0 : 91 ≤ A.1) (hF : Fx h) (hR : RO R (d + 1)) (hcs : A.2.2.1 ≤ R.cells ∧ A.2.2.2 ≤ R.slots) (hM : Mk X d m_X8_forgetLetters [.ref 29] h A.1 A.2.1 (RV P4)) (q : ∀ (g : AH), P4 g → V X m_X6_carry R Z A 7 [some (.ref 63), some (.int x1), some (.int x2), some (.int x3), none, none] [] g) : V X m_X6_carry R Z A 0 [some (.ref 63), some (.int x1), some (.int x2), some (.int x3), none, none] [] h := by
  refine v_aload_n dX6_carry_0 rfl ?_
  refine v_getR dX6_carry_1 fl_RX6_22 kd_63 (ltA hA0 rfl) rfl (hF 63 1 29 rfl) ?_
  exact v_cVV (mt := m_X6_carry) mo_X8_forgetLetters ml_RX6_26 mi_X8_forgetLetters mv_X8_forgetLetters rfl kd_29 cl_8 rfl (ltA hA0 rfl) hR hcs (Nat.le_of_ble_eq_true rfl) dX6_carry_4 rfl hM (fun g hp => (q g hp))
theorem c_X6_carry_7 {X : CX} {R : Room} {Z : ZX} {A : AX} {h : AH} {x1 x2 x3 : Int32} {d : Nat} {P12 : AH → Prop} (hA0 : 91 ≤ A.1) (hF : Fx h) (hR : RO R (d + 1)) (hcs : A.2.2.1 ≤ R.cells ∧ A.2.2.2 ≤ R.slots) (hM : Mk X d m_J7_fill_53178 [.ref 64, .int 0] h A.1 A.2.1 (RV P12)) (q : ∀ (g : AH), P12 g → V X m_X6_carry R Z A 15 [some (.ref 63), some (.int x1), some (.int x2), some (.int x3), none, none] [] g) : V X m_X6_carry R Z A 7 [some (.ref 63), some (.int x1), some (.int x2), some (.int x3), none, none] [] h := by
  refine v_aload_n dX6_carry_7 rfl ?_
  refine v_getR dX6_carry_8 fl_RX6_9 kd_63 (ltA hA0 rfl) rfl (hF 63 2 64 rfl) ?_
  refine v_iconst dX6_carry_11 ci_0 ?_
  exact v_cSV (mt := m_X6_carry) mo_J7_fill_53178 ml_RX6_31 mz_J7_fill_53178 rfl hR hcs (Nat.le_of_ble_eq_true rfl) dX6_carry_12 rfl hM (fun g hp => (q g hp))
theorem c_X6_carry_15 {X : CX} {R : Room} {Z : ZX} {A : AX} {h : AH} {x1 x2 x3 : Int32} (hA0 : 91 ≤ A.1) (hF : Fx h) (hi_21 : vp_in x2 20) (q : V X m_X6_carry R Z A 37 [some (.ref 63), some (.int x1), none, some (.int x3), some (.int 0), none] [] (setI (setI (setI h 64 x2.toNatClampNeg 1) 65 0 x2) 63 4 0)) : V X m_X6_carry R Z A 15 [some (.ref 63), some (.int x1), some (.int x2), some (.int x3), none, none] [] h := by
  refine v_aload_n dX6_carry_15 rfl ?_
  refine v_getR dX6_carry_16 fl_RX6_9 kd_63 (ltA hA0 rfl) rfl (hF 63 2 64 rfl) ?_
  refine v_iload_n dX6_carry_19 rfl ?_
  refine v_iconst dX6_carry_20 ci_1 ?_
  refine v_iast dX6_carry_21 kd_64 (ltA hA0 rfl) hi_21 ?_
  refine v_aload_n dX6_carry_22 rfl ?_
  refine v_getR dX6_carry_23 fl_RX6_15 kd_63 (ltA hA0 rfl) rfl (hF 63 3 65 rfl) ?_
  refine v_iconst dX6_carry_26 ci_0 ?_
  refine v_iload_n dX6_carry_27 rfl ?_
  refine v_iast dX6_carry_28 kd_65 (ltA hA0 rfl) (vp_lit (by decide)) ?_
  refine v_aload_n dX6_carry_29 rfl ?_
  refine v_iconst dX6_carry_30 ci_0 ?_
  refine v_putI rfl rfl rfl dX6_carry_31 fl_RX6_37 (Or.inl rfl) kd_63 (ltA hA0 rfl) ?_
  refine v_iconst dX6_carry_34 ci_0 ?_
  refine v_istore dX6_carry_35 (by decide) (L' := [some (.ref 63), some (.int x1), some (.int x2), some (.int x3), some (.int 0), none]) rfl ?_
  exact (v_drop (lvLe_s (lvLe_s (lvLe_n (lvLe_s (lvLe_s (lvLe_n lvLe_e)))))) q)
theorem c_X6_carry_37 {X : CX} {R : Room} {Q : Option Value → AH → Prop} {nx sz mc ms : Nat} {h : AH} {x1 x3 x4 : Int32} {d : Nat} {P54 : Int32 → AH → Prop} (hA0 : 91 ≤ nx) (hF : Fx h) (hR : RO R (d + 1)) (hcs : mc ≤ R.cells ∧ ms ≤ R.slots) (hq : 60 ≤ x4 → Q (some (.int 0)) h) (hi_52 : ¬ 60 ≤ x4 → vp_in x4 61) (hM : ¬ 60 ≤ x4 → Mk X d m_X6_heir [.ref 63, .int x1, .int (h.1 65 x4.toNatClampNeg), .int x3] h nx sz (RI P54)) (q : ¬ 60 ≤ x4 → ∀ (y : Int32) (g : AH), P54 y g → V X m_X6_carry R (ZM X Q nx sz mc ms) (nx, sz, mc, ms) 57 [some (.ref 63), some (.int x1), none, some (.int x3), some (.int x4), none] [.int y] g) : V X m_X6_carry R (ZM X Q nx sz mc ms) (nx, sz, mc, ms) 37 [some (.ref 63), some (.int x1), none, some (.int x3), some (.int x4), none] [] h := by
  refine v_iload dX6_carry_37 rfl ?_
  refine v_bipush dX6_carry_39 cb_60 ?_
  refine v_icmp_ge (tgt := 113) dX6_carry_41 (by decide) (fun c0 => ?_) (fun c0 => ?_)
  · refine v_iconst dX6_carry_113 ci_0 ?_
    exact v_zret (ty := .boolean) dX6_carry_114 rfl rfl (hq c0)
  · refine v_aload_n dX6_carry_44 rfl ?_
    refine v_iload_n dX6_carry_45 rfl ?_
    refine v_aload_n dX6_carry_46 rfl ?_
    refine v_getR dX6_carry_47 fl_RX6_15 kd_63 (ltA hA0 rfl) rfl (hF 63 3 65 rfl) ?_
    refine v_iload dX6_carry_50 rfl ?_
    refine v_iald dX6_carry_52 kd_65 (ltA hA0 rfl) (hi_52 c0) ?_
    refine v_iload_n dX6_carry_53 rfl ?_
    exact v_cVI (mt := m_X6_carry) mo_X6_heir ml_RX6_41 mi_X6_heir mv_X6_heir rfl kd_63 cl_6 rfl (ltA hA0 rfl) hR hcs (Nat.le_of_ble_eq_true rfl) dX6_carry_54 rfl (hM c0) (fun y g hp => ((q c0) y g hp))
theorem c_X6_carry_57 {X : CX} {R : Room} {Q : Option Value → AH → Prop} {nx sz mc ms : Nat} {h : AH} {x1 x3 x4 s0 : Int32} (hA0 : 91 ≤ nx) (hF : Fx h) (hi_74 : ¬ s0 = (-1) → vp_in s0 20) (hi_77 : ¬ s0 = (-1) → vp_in s0 20) (hi_88 : ¬ s0 = (-1) → vp_in (x4 + 1) 61) (q : ¬ s0 = (-1) → ¬ s0 = x3 → V X m_X6_carry R (ZM X Q nx sz mc ms) (nx, sz, mc, ms) 37 [some (.ref 63), some (.int x1), none, some (.int x3), some (.int (x4 + 1)), none] [] (setI (setI (setI h 64 s0.toNatClampNeg ((h.1 64 s0.toNatClampNeg) + 1)) 65 (x4 + 1).toNatClampNeg s0) 63 4 ((h.1 63 4) + 1))) (hq : ¬ s0 = (-1) → s0 = x3 → Q (some (.int 1)) (setI (setI (setI h 64 s0.toNatClampNeg ((h.1 64 s0.toNatClampNeg) + 1)) 65 (x4 + 1).toNatClampNeg s0) 63 4 ((h.1 63 4) + 1))) (hq_1 : s0 = (-1) → Q (some (.int 0)) h) : V X m_X6_carry R (ZM X Q nx sz mc ms) (nx, sz, mc, ms) 57 [some (.ref 63), some (.int x1), none, some (.int x3), some (.int x4), none] [.int s0] h := by
  refine v_istore dX6_carry_57 (by decide) (L' := [some (.ref 63), some (.int x1), none, some (.int x3), some (.int x4), some (.int s0)]) rfl ?_
  refine v_iload dX6_carry_59 rfl ?_
  refine v_iconst dX6_carry_61 ci_m1 ?_
  refine v_icmp_ne (tgt := 67) dX6_carry_62 (by decide) (fun c0 => ?_) (fun c0 => ?_)
  · refine v_aload_n dX6_carry_67 rfl ?_
    refine v_getR dX6_carry_68 fl_RX6_9 kd_63 (ltA hA0 rfl) rfl (hF 63 2 64 rfl) ?_
    refine v_iload dX6_carry_71 rfl ?_
    refine v_dup2 dX6_carry_73 rfl rfl ?_
    refine v_iald dX6_carry_74 kd_64 (ltA hA0 rfl) (hi_74 c0) ?_
    refine v_iconst dX6_carry_75 ci_1 ?_
    refine v_iadd dX6_carry_76 ?_
    refine v_iast dX6_carry_77 kd_64 (ltA hA0 rfl) (hi_77 c0) ?_
    refine v_aload_n dX6_carry_78 rfl ?_
    refine v_getR dX6_carry_79 fl_RX6_15 kd_63 (ltA hA0 rfl) rfl (hF 63 3 65 rfl) ?_
    refine v_iload dX6_carry_82 rfl ?_
    refine v_iconst dX6_carry_84 ci_1 ?_
    refine v_iadd dX6_carry_85 ?_
    refine v_iload dX6_carry_86 rfl ?_
    refine v_iast dX6_carry_88 kd_65 (ltA hA0 rfl) (hi_88 c0) ?_
    refine v_aload_n dX6_carry_89 rfl ?_
    refine v_dup dX6_carry_90 rfl ?_
    refine v_getI dX6_carry_91 fl_RX6_37 kd_63 (ltA hA0 rfl) rfl ?_
    refine v_iconst dX6_carry_94 ci_1 ?_
    refine v_iadd dX6_carry_95 ?_
    refine v_putI rfl rfl rfl dX6_carry_96 fl_RX6_37 (Or.inl rfl) kd_63 (ltA hA0 rfl) ?_
    refine v_iload dX6_carry_99 rfl ?_
    refine v_iload_n dX6_carry_101 rfl ?_
    refine v_icmp_ne (tgt := 107) dX6_carry_102 (by decide) (fun c1 => ?_) (fun c1 => ?_)
    · refine v_iinc (y := (x4 + 1)) dX6_carry_107 rfl rfl (by decide) (L' := [some (.ref 63), some (.int x1), none, some (.int x3), some (.int (x4 + 1)), some (.int s0)]) rfl ?_
      refine v_goto (tgt := 37) dX6_carry_110 (by decide) ?_
      exact (v_drop (lvLe_s (lvLe_s (lvLe_n (lvLe_s (lvLe_s (lvLe_n lvLe_e)))))) (q c0 c1))
    · refine v_iconst dX6_carry_105 ci_1 ?_
      exact v_zret (ty := .boolean) dX6_carry_106 rfl rfl (hq c0 c1)
  · refine v_iconst dX6_carry_65 ci_0 ?_
    exact v_zret (ty := .boolean) dX6_carry_66 rfl rfl (hq_1 c0)
theorem e_X6_heir {X : CX} {d nx sz : Nat} {Q : Option Value → AH → Prop} {h : AH} {x1 x2 x3 : Int32} (q : V X m_X6_heir (rm d 0 0) (ZM X Q nx sz 0 0) (nx, sz, 0, 0) 0 [some (.ref 63), some (.int x1), some (.int x2), some (.int x3), none, none, none, none] [] h) : Mk X d m_X6_heir [.ref 63, .int x1, .int x2, .int x3] h nx sz Q := by
  refine Mok.ofV mo_X6_heir (Nat.le_of_ble_eq_true rfl) (L := [some (.ref 63), some (.int x1), some (.int x2), some (.int x3)]) (lvLe_s (lvLe_s (lvLe_s (lvLe_s lvLe_e)))) (v_grow (n := 4) ?_)
  exact q
theorem c_X6_heir_0 {X : CX} {R : Room} {Z : ZX} {A : AX} {h : AH} {x1 x2 x3 : Int32} (q : V X m_X6_heir R Z A 9 [some (.ref 63), some (.int x1), some (.int x2), some (.int x3), some (.int (-1)), some (.int 0), some (.int 0), none] [] h) : V X m_X6_heir R Z A 0 [some (.ref 63), some (.int x1), some (.int x2), some (.int x3), none, none, none, none] [] h := by
  refine v_iconst dX6_heir_0 ci_m1 ?_
  refine v_istore dX6_heir_1 (by decide) (L' := [some (.ref 63), some (.int x1), some (.int x2), some (.int x3), some (.int (-1)), none, none, none]) rfl ?_
  refine v_iconst dX6_heir_3 ci_0 ?_
  refine v_istore dX6_heir_4 (by decide) (L' := [some (.ref 63), some (.int x1), some (.int x2), some (.int x3), some (.int (-1)), some (.int 0), none, none]) rfl ?_
  refine v_iconst dX6_heir_6 ci_0 ?_
  refine v_istore dX6_heir_7 (by decide) (L' := [some (.ref 63), some (.int x1), some (.int x2), some (.int x3), some (.int (-1)), some (.int 0), some (.int 0), none]) rfl ?_
  exact q
theorem c_X6_heir_9 {X : CX} {R : Room} {Q : Option Value → AH → Prop} {nx sz mc ms : Nat} {h : AH} {x1 x2 x3 x4 x5 x6 : Int32} {d : Nat} {P43 : AH → Prop} (hA0 : 91 ≤ nx) (hF : Fx h) (hR : RO R (d + 1)) (hcs : mc ≤ R.cells ∧ ms ≤ R.slots) (hq : (h.1 1 0) ≤ x6 → Q (some (.int x4)) h) (hi_29 : ¬ (h.1 1 0) ≤ x6 → vp_in x2 20) (q : ¬ (h.1 1 0) ≤ x6 → (((h.1 2 x2.toNatClampNeg) >>> (x6 &&& 31)) &&& 1) = 0 → V X m_X6_heir R (ZM X Q nx sz mc ms) (nx, sz, mc, ms) 9 [some (.ref 63), some (.int x1), some (.int x2), some (.int x3), some (.int x4), some (.int x5), some (.int (x6 + 1)), none] [] h) (hM : ¬ (h.1 1 0) ≤ x6 → ¬ (((h.1 2 x2.toNatClampNeg) >>> (x6 &&& 31)) &&& 1) = 0 → Mk X d m_X6_tellLetters [.ref 63, .int x2, .int x6, .int x3] h nx sz (RV P43)) (q_1 : ¬ (h.1 1 0) ≤ x6 → ¬ (((h.1 2 x2.toNatClampNeg) >>> (x6 &&& 31)) &&& 1) = 0 → ∀ (g : AH), P43 g → V X m_X6_heir R (ZM X Q nx sz mc ms) (nx, sz, mc, ms) 46 [some (.ref 63), some (.int x1), some (.int x2), some (.int x3), some (.int x4), some (.int x5), some (.int x6), none] [] g) : V X m_X6_heir R (ZM X Q nx sz mc ms) (nx, sz, mc, ms) 9 [some (.ref 63), some (.int x1), some (.int x2), some (.int x3), some (.int x4), some (.int x5), some (.int x6), none] [] h := by
  refine v_iload dX6_heir_9 rfl ?_
  refine v_aload_n dX6_heir_11 rfl ?_
  refine v_getR dX6_heir_12 fl_RX6_18 kd_63 (ltA hA0 rfl) rfl (hF 63 0 1 rfl) ?_
  refine v_getI dX6_heir_15 fl_RX6_45 kd_1 (ltA hA0 rfl) rfl ?_
  refine v_icmp_ge (tgt := 83) dX6_heir_18 (by decide) (fun c0 => ?_) (fun c0 => ?_)
  · refine v_iload dX6_heir_83 rfl ?_
    exact v_iret dX6_heir_85 rfl (hq c0)
  · refine v_aload_n dX6_heir_21 rfl ?_
    refine v_getR dX6_heir_22 fl_RX6_18 kd_63 (ltA hA0 rfl) rfl (hF 63 0 1 rfl) ?_
    refine v_getR dX6_heir_25 fl_RX6_50 kd_1 (ltA hA0 rfl) rfl (hF 1 2 2 rfl) ?_
    refine v_iload_n dX6_heir_28 rfl ?_
    refine v_iald dX6_heir_29 kd_2 (ltA hA0 rfl) (hi_29 c0) ?_
    refine v_iload dX6_heir_30 rfl ?_
    refine v_ishr dX6_heir_32 ?_
    refine v_iconst dX6_heir_33 ci_1 ?_
    refine v_iand dX6_heir_34 ?_
    refine v_if_eq (tgt := 77) dX6_heir_35 (by decide) (fun c1 => ?_) (fun c1 => ?_)
    · refine v_iinc (y := (x6 + 1)) dX6_heir_77 rfl rfl (by decide) (L' := [some (.ref 63), some (.int x1), some (.int x2), some (.int x3), some (.int x4), some (.int x5), some (.int (x6 + 1)), none]) rfl ?_
      refine v_goto (tgt := 9) dX6_heir_80 (by decide) ?_
      exact (q c0 c1)
    · refine v_aload_n dX6_heir_38 rfl ?_
      refine v_iload_n dX6_heir_39 rfl ?_
      refine v_iload dX6_heir_40 rfl ?_
      refine v_iload_n dX6_heir_42 rfl ?_
      exact v_cVV (mt := m_X6_heir) mo_X6_tellLetters ml_RX6_53 mi_X6_tellLetters mv_X6_tellLetters rfl kd_63 cl_6 rfl (ltA hA0 rfl) hR hcs (Nat.le_of_ble_eq_true rfl) dX6_heir_43 rfl (hM c0 c1) (fun g hp => ((q_1 c0 c1) g hp))
theorem c_X6_heir_46 {X : CX} {R : Room} {Z : ZX} {A : AX} {h : AH} {x1 x2 x3 x4 x5 x6 : Int32} {d : Nat} {P51 : Int32 → AH → Prop} (hA0 : 91 ≤ A.1) (hF : Fx h) (hR : RO R (d + 1)) (hcs : A.2.2.1 ≤ R.cells ∧ A.2.2.2 ≤ R.slots) (hM : Mk X d m_X8_worth [.ref 29, .int x1] h A.1 A.2.1 (RI P51)) (q : ∀ (y : Int32) (g : AH), P51 y g → V X m_X6_heir R Z A 54 [some (.ref 63), some (.int x1), some (.int x2), some (.int x3), some (.int x4), some (.int x5), some (.int x6), none] [.int y] g) : V X m_X6_heir R Z A 46 [some (.ref 63), some (.int x1), some (.int x2), some (.int x3), some (.int x4), some (.int x5), some (.int x6), none] [] h := by
  refine v_aload_n dX6_heir_46 rfl ?_
  refine v_getR dX6_heir_47 fl_RX6_22 kd_63 (ltA hA0 rfl) rfl (hF 63 1 29 rfl) ?_
  refine v_iload_n dX6_heir_50 rfl ?_
  exact v_cVI (mt := m_X6_heir) mo_X8_worth ml_RX6_57 mi_X8_worth mv_X8_worth rfl kd_29 cl_8 rfl (ltA hA0 rfl) hR hcs (Nat.le_of_ble_eq_true rfl) dX6_heir_51 rfl hM (fun y g hp => (q y g hp))
theorem c_X6_heir_54 {X : CX} {R : Room} {Z : ZX} {A : AX} {h : AH} {x1 x2 x3 x4 x5 x6 s0 : Int32} (q : x4 = (-1) → V X m_X6_heir R Z A 9 [some (.ref 63), some (.int x1), some (.int x2), some (.int x3), some (.int x6), some (.int s0), some (.int (x6 + 1)), none] [] h) (q_1 : ¬ x4 = (-1) → s0 ≤ x5 → V X m_X6_heir R Z A 9 [some (.ref 63), some (.int x1), some (.int x2), some (.int x3), some (.int x4), some (.int x5), some (.int (x6 + 1)), none] [] h) (q_2 : ¬ x4 = (-1) → ¬ s0 ≤ x5 → V X m_X6_heir R Z A 9 [some (.ref 63), some (.int x1), some (.int x2), some (.int x3), some (.int x6), some (.int s0), some (.int (x6 + 1)), none] [] h) : V X m_X6_heir R Z A 54 [some (.ref 63), some (.int x1), some (.int x2), some (.int x3), some (.int x4), some (.int x5), some (.int x6), none] [.int s0] h := by
  refine v_istore dX6_heir_54 (by decide) (L' := [some (.ref 63), some (.int x1), some (.int x2), some (.int x3), some (.int x4), some (.int x5), some (.int x6), some (.int s0)]) rfl ?_
  refine v_iload dX6_heir_56 rfl ?_
  refine v_iconst dX6_heir_58 ci_m1 ?_
  refine v_icmp_eq (tgt := 69) dX6_heir_59 (by decide) (fun c0 => ?_) (fun c0 => ?_)
  · refine v_iload dX6_heir_69 rfl ?_
    refine v_istore dX6_heir_71 (by decide) (L' := [some (.ref 63), some (.int x1), some (.int x2), some (.int x3), some (.int x6), some (.int x5), some (.int x6), some (.int s0)]) rfl ?_
    refine v_iload dX6_heir_73 rfl ?_
    refine v_istore dX6_heir_75 (by decide) (L' := [some (.ref 63), some (.int x1), some (.int x2), some (.int x3), some (.int x6), some (.int s0), some (.int x6), some (.int s0)]) rfl ?_
    refine v_iinc (y := (x6 + 1)) dX6_heir_77 rfl rfl (by decide) (L' := [some (.ref 63), some (.int x1), some (.int x2), some (.int x3), some (.int x6), some (.int s0), some (.int (x6 + 1)), some (.int s0)]) rfl ?_
    refine v_goto (tgt := 9) dX6_heir_80 (by decide) ?_
    exact (v_drop (lvLe_s (lvLe_s (lvLe_s (lvLe_s (lvLe_s (lvLe_s (lvLe_s (lvLe_n lvLe_e)))))))) (q c0))
  · refine v_iload dX6_heir_62 rfl ?_
    refine v_iload dX6_heir_64 rfl ?_
    refine v_icmp_le (tgt := 77) dX6_heir_66 (by decide) (fun c1 => ?_) (fun c1 => ?_)
    · refine v_iinc (y := (x6 + 1)) dX6_heir_77 rfl rfl (by decide) (L' := [some (.ref 63), some (.int x1), some (.int x2), some (.int x3), some (.int x4), some (.int x5), some (.int (x6 + 1)), some (.int s0)]) rfl ?_
      refine v_goto (tgt := 9) dX6_heir_80 (by decide) ?_
      exact (v_drop (lvLe_s (lvLe_s (lvLe_s (lvLe_s (lvLe_s (lvLe_s (lvLe_s (lvLe_n lvLe_e)))))))) (q_1 c0 c1))
    · refine v_iload dX6_heir_69 rfl ?_
      refine v_istore dX6_heir_71 (by decide) (L' := [some (.ref 63), some (.int x1), some (.int x2), some (.int x3), some (.int x6), some (.int x5), some (.int x6), some (.int s0)]) rfl ?_
      refine v_iload dX6_heir_73 rfl ?_
      refine v_istore dX6_heir_75 (by decide) (L' := [some (.ref 63), some (.int x1), some (.int x2), some (.int x3), some (.int x6), some (.int s0), some (.int x6), some (.int s0)]) rfl ?_
      refine v_iinc (y := (x6 + 1)) dX6_heir_77 rfl rfl (by decide) (L' := [some (.ref 63), some (.int x1), some (.int x2), some (.int x3), some (.int x6), some (.int s0), some (.int (x6 + 1)), some (.int s0)]) rfl ?_
      refine v_goto (tgt := 9) dX6_heir_80 (by decide) ?_
      exact (v_drop (lvLe_s (lvLe_s (lvLe_s (lvLe_s (lvLe_s (lvLe_s (lvLe_s (lvLe_n lvLe_e)))))))) (q_2 c0 c1))
theorem e_X6_tellLetters {X : CX} {d nx sz : Nat} {Q : Option Value → AH → Prop} {h : AH} {x1 x2 x3 : Int32} (q : V X m_X6_tellLetters (rm d 0 0) (ZM X Q nx sz 0 0) (nx, sz, 0, 0) 0 [some (.ref 63), some (.int x1), some (.int x2), some (.int x3), none] [] h) : Mk X d m_X6_tellLetters [.ref 63, .int x1, .int x2, .int x3] h nx sz Q := by
  refine Mok.ofV mo_X6_tellLetters (Nat.le_of_ble_eq_true rfl) (L := [some (.ref 63), some (.int x1), some (.int x2), some (.int x3)]) (lvLe_s (lvLe_s (lvLe_s (lvLe_s lvLe_e)))) (v_grow (n := 1) ?_)
  exact q
theorem c_X6_tellLetters_0 {X : CX} {R : Room} {Z : ZX} {A : AX} {h : AH} {x1 x2 x3 : Int32} {d : Nat} {P48 P48_1 : Int32 → AH → Prop} (hA0 : 91 ≤ A.1) (hF : Fx h) (hR : RO R (d + 1)) (hcs : A.2.2.1 ≤ R.cells ∧ A.2.2.2 ≤ R.slots) (hi_34 : ¬ x2 = x3 → vp_in x2 20) (hM : ¬ x2 = x3 → Mk X d m_X3_degree [.ref 1, .int x2] (setI (setI h 39 0 0) 39 1 (((h.1 2 x2.toNatClampNeg) >>> (x3 &&& 31)) &&& 1)) A.1 A.2.1 (RI P48)) (q : ¬ x2 = x3 → ∀ (y : Int32) (g : AH), P48 y g → V X m_X6_tellLetters R Z A 51 [some (.ref 63), some (.int x1), some (.int x2), some (.int x3), some (.ref 39)] [.int y, .int 2, .ref 39] g) (hi_34_1 : x2 = x3 → vp_in x2 20) (hM_1 : x2 = x3 → Mk X d m_X3_degree [.ref 1, .int x2] (setI (setI h 39 0 1) 39 1 (((h.1 2 x2.toNatClampNeg) >>> (x3 &&& 31)) &&& 1)) A.1 A.2.1 (RI P48_1)) (q_1 : x2 = x3 → ∀ (y : Int32) (g : AH), P48_1 y g → V X m_X6_tellLetters R Z A 51 [some (.ref 63), some (.int x1), some (.int x2), some (.int x3), some (.ref 39)] [.int y, .int 2, .ref 39] g) : V X m_X6_tellLetters R Z A 0 [some (.ref 63), some (.int x1), some (.int x2), some (.int x3), none] [] h := by
  refine v_aload_n dX6_tellLetters_0 rfl ?_
  refine v_getR dX6_tellLetters_1 fl_RX6_22 kd_63 (ltA hA0 rfl) rfl (hF 63 1 29 rfl) ?_
  refine v_getR dX6_tellLetters_4 fl_RX6_61 kd_29 (ltA hA0 rfl) rfl (hF 29 3 39 rfl) ?_
  refine v_astore dX6_tellLetters_7 (by decide) (L' := [some (.ref 63), some (.int x1), some (.int x2), some (.int x3), some (.ref 39)]) rfl ?_
  refine v_aload dX6_tellLetters_9 rfl ?_
  refine v_iconst dX6_tellLetters_11 ci_0 ?_
  refine v_iload_n dX6_tellLetters_12 rfl ?_
  refine v_iload_n dX6_tellLetters_13 rfl ?_
  refine v_icmp_ne (tgt := 21) dX6_tellLetters_14 (by decide) (fun c0 => ?_) (fun c0 => ?_)
  · refine v_iconst dX6_tellLetters_21 ci_0 ?_
    refine v_iast dX6_tellLetters_22 kd_39 (ltA hA0 rfl) (vp_lit (by decide)) ?_
    refine v_aload dX6_tellLetters_23 rfl ?_
    refine v_iconst dX6_tellLetters_25 ci_1 ?_
    refine v_aload_n dX6_tellLetters_26 rfl ?_
    refine v_getR dX6_tellLetters_27 fl_RX6_18 kd_63 (ltA hA0 rfl) rfl (hF 63 0 1 rfl) ?_
    refine v_getR dX6_tellLetters_30 fl_RX6_50 kd_1 (ltA hA0 rfl) rfl (hF 1 2 2 rfl) ?_
    refine v_iload_n dX6_tellLetters_33 rfl ?_
    refine v_iald dX6_tellLetters_34 kd_2 (ltA hA0 rfl) (hi_34 c0) ?_
    refine v_iload_n dX6_tellLetters_35 rfl ?_
    refine v_ishr dX6_tellLetters_36 ?_
    refine v_iconst dX6_tellLetters_37 ci_1 ?_
    refine v_iand dX6_tellLetters_38 ?_
    refine v_iast dX6_tellLetters_39 kd_39 (ltA hA0 rfl) (vp_lit (by decide)) ?_
    refine v_aload dX6_tellLetters_40 rfl ?_
    refine v_iconst dX6_tellLetters_42 ci_2 ?_
    refine v_aload_n dX6_tellLetters_43 rfl ?_
    refine v_getR dX6_tellLetters_44 fl_RX6_18 kd_63 (ltA hA0 rfl) rfl (hF 63 0 1 rfl) ?_
    refine v_iload_n dX6_tellLetters_47 rfl ?_
    exact v_cVI (mt := m_X6_tellLetters) mo_X3_degree ml_RX6_64 mi_X3_degree mv_X3_degree rfl kd_1 cl_3 rfl (ltA hA0 rfl) hR hcs (Nat.le_of_ble_eq_true rfl) dX6_tellLetters_48 rfl (hM c0) (fun y g hp => ((q c0) y g hp))
  · refine v_iconst dX6_tellLetters_17 ci_1 ?_
    refine v_goto (tgt := 22) dX6_tellLetters_18 (by decide) ?_
    refine v_iast dX6_tellLetters_22 kd_39 (ltA hA0 rfl) (vp_lit (by decide)) ?_
    refine v_aload dX6_tellLetters_23 rfl ?_
    refine v_iconst dX6_tellLetters_25 ci_1 ?_
    refine v_aload_n dX6_tellLetters_26 rfl ?_
    refine v_getR dX6_tellLetters_27 fl_RX6_18 kd_63 (ltA hA0 rfl) rfl (hF 63 0 1 rfl) ?_
    refine v_getR dX6_tellLetters_30 fl_RX6_50 kd_1 (ltA hA0 rfl) rfl (hF 1 2 2 rfl) ?_
    refine v_iload_n dX6_tellLetters_33 rfl ?_
    refine v_iald dX6_tellLetters_34 kd_2 (ltA hA0 rfl) (hi_34_1 c0) ?_
    refine v_iload_n dX6_tellLetters_35 rfl ?_
    refine v_ishr dX6_tellLetters_36 ?_
    refine v_iconst dX6_tellLetters_37 ci_1 ?_
    refine v_iand dX6_tellLetters_38 ?_
    refine v_iast dX6_tellLetters_39 kd_39 (ltA hA0 rfl) (vp_lit (by decide)) ?_
    refine v_aload dX6_tellLetters_40 rfl ?_
    refine v_iconst dX6_tellLetters_42 ci_2 ?_
    refine v_aload_n dX6_tellLetters_43 rfl ?_
    refine v_getR dX6_tellLetters_44 fl_RX6_18 kd_63 (ltA hA0 rfl) rfl (hF 63 0 1 rfl) ?_
    refine v_iload_n dX6_tellLetters_47 rfl ?_
    exact v_cVI (mt := m_X6_tellLetters) mo_X3_degree ml_RX6_64 mi_X3_degree mv_X3_degree rfl kd_1 cl_3 rfl (ltA hA0 rfl) hR hcs (Nat.le_of_ble_eq_true rfl) dX6_tellLetters_48 rfl (hM_1 c0) (fun y g hp => ((q_1 c0) y g hp))
theorem c_X6_tellLetters_51 {X : CX} {R : Room} {Z : ZX} {A : AX} {h : AH} {x1 x2 x3 s1 s2 : Int32} {d : Nat} {P61 : Int32 → AH → Prop} (hA0 : 91 ≤ A.1) (hF : Fx h) (hR : RO R (d + 1)) (hcs : A.2.2.1 ≤ R.cells ∧ A.2.2.2 ≤ R.slots) (hi_51 : vp_in s1 9) (hM : Mk X d m_X3_inCommon [.ref 1, .int x1, .int x2] (setI h 39 s1.toNatClampNeg s2) A.1 A.2.1 (RI P61)) (q : ∀ (y : Int32) (g : AH), P61 y g → V X m_X6_tellLetters R Z A 64 [some (.ref 63), none, some (.int x2), some (.int x3), some (.ref 39)] [.int y, .int 3, .ref 39] g) : V X m_X6_tellLetters R Z A 51 [some (.ref 63), some (.int x1), some (.int x2), some (.int x3), some (.ref 39)] [.int s2, .int s1, .ref 39] h := by
  refine v_iast dX6_tellLetters_51 kd_39 (ltA hA0 rfl) hi_51 ?_
  refine v_aload dX6_tellLetters_52 rfl ?_
  refine v_iconst dX6_tellLetters_54 ci_3 ?_
  refine v_aload_n dX6_tellLetters_55 rfl ?_
  refine v_getR dX6_tellLetters_56 fl_RX6_18 kd_63 (ltA hA0 rfl) rfl (hF 63 0 1 rfl) ?_
  refine v_iload_n dX6_tellLetters_59 rfl ?_
  refine v_iload_n dX6_tellLetters_60 rfl ?_
  exact v_cVI (mt := m_X6_tellLetters) mo_X3_inCommon ml_RX6_67 mi_X3_inCommon mv_X3_inCommon rfl kd_1 cl_3 rfl (ltA hA0 rfl) hR hcs (Nat.le_of_ble_eq_true rfl) dX6_tellLetters_61 rfl hM (fun y g hp => (v_drop (lvLe_s (lvLe_n (lvLe_s (lvLe_s (lvLe_s lvLe_e))))) (q y g hp)))
theorem c_X6_tellLetters_64 {X : CX} {R : Room} {Q : Option Value → AH → Prop} {nx sz mc ms : Nat} {h : AH} {x2 x3 s1 s2 : Int32} {d : Nat} (hA0 : 91 ≤ nx) (hF : Fx h) (hR : RO R (d + 1)) (hcs : mc ≤ R.cells ∧ ms ≤ R.slots) (hi_64 : vp_in s1 9) (hi_73 : vp_in x2 20) (hq : Q none (setI (setI (setI h 39 s1.toNatClampNeg s2) 39 4 (h.1 64 x2.toNatClampNeg)) 39 5 (if 0 ≤ (x2 - x3) then (x2 - x3) else 0 - (x2 - x3)))) : V X m_X6_tellLetters R (ZM X Q nx sz mc ms) (nx, sz, mc, ms) 64 [some (.ref 63), none, some (.int x2), some (.int x3), some (.ref 39)] [.int s2, .int s1, .ref 39] h := by
  refine v_iast dX6_tellLetters_64 kd_39 (ltA hA0 rfl) hi_64 ?_
  refine v_aload dX6_tellLetters_65 rfl ?_
  refine v_iconst dX6_tellLetters_67 ci_4 ?_
  refine v_aload_n dX6_tellLetters_68 rfl ?_
  refine v_getR dX6_tellLetters_69 fl_RX6_9 kd_63 (ltA hA0 rfl) rfl (hF 63 2 64 rfl) ?_
  refine v_iload_n dX6_tellLetters_72 rfl ?_
  refine v_iald dX6_tellLetters_73 kd_64 (ltA hA0 rfl) hi_73 ?_
  refine v_iast dX6_tellLetters_74 kd_39 (ltA hA0 rfl) (vp_lit (by decide)) ?_
  refine v_aload dX6_tellLetters_75 rfl ?_
  refine v_iconst dX6_tellLetters_77 ci_5 ?_
  refine v_iload_n dX6_tellLetters_78 rfl ?_
  refine v_iload_n dX6_tellLetters_79 rfl ?_
  refine v_isub dX6_tellLetters_80 ?_
  refine v_mabs dX6_tellLetters_81 ml_RX6_71 mz_mabs in_math mc_mabs (RO_1 hR) hcs (Nat.le_of_ble_eq_true rfl) ?_
  refine v_iast dX6_tellLetters_84 kd_39 (ltA hA0 rfl) (vp_lit (by decide)) ?_
  exact v_vret dX6_tellLetters_85 rfl hq
theorem e_X6_carryAll {X : CX} {d nx sz : Nat} {Q : Option Value → AH → Prop} {h : AH} {x1 x2 : Int32} (q : V X m_X6_carryAll (rm d 0 0) (ZM X Q nx sz 0 0) (nx, sz, 0, 0) 0 [some (.ref 63), some (.int x1), some (.int x2), none, none, none] [] h) : Mk X d m_X6_carryAll [.ref 63, .int x1, .int x2] h nx sz Q := by
  refine Mok.ofV mo_X6_carryAll (Nat.le_of_ble_eq_true rfl) (L := [some (.ref 63), some (.int x1), some (.int x2)]) (lvLe_s (lvLe_s (lvLe_s lvLe_e))) (v_grow (n := 3) ?_)
  exact q
theorem c_X6_carryAll_0 {X : CX} {R : Room} {Z : ZX} {A : AX} {h : AH} {x1 x2 : Int32} (q : V X m_X6_carryAll R Z A 5 [some (.ref 63), some (.int x1), some (.int x2), some (.int 0), some (.int 0), none] [] h) : V X m_X6_carryAll R Z A 0 [some (.ref 63), some (.int x1), some (.int x2), none, none, none] [] h := by
  refine v_iconst dX6_carryAll_0 ci_0 ?_
  refine v_istore_n dX6_carryAll_1 (by decide) (L' := [some (.ref 63), some (.int x1), some (.int x2), some (.int 0), none, none]) rfl ?_
  refine v_iconst dX6_carryAll_2 ci_0 ?_
  refine v_istore dX6_carryAll_3 (by decide) (L' := [some (.ref 63), some (.int x1), some (.int x2), some (.int 0), some (.int 0), none]) rfl ?_
  exact q
theorem c_X6_carryAll_5 {X : CX} {R : Room} {Q : Option Value → AH → Prop} {nx sz mc ms : Nat} {h : AH} {x1 x2 x3 x4 : Int32} (hA0 : 91 ≤ nx) (hF : Fx h) (hq : (h.1 1 0) ≤ x4 → Q (some (.int x3)) h) (q : ¬ (h.1 1 0) ≤ x4 → V X m_X6_carryAll R (ZM X Q nx sz mc ms) (nx, sz, mc, ms) 20 [some (.ref 63), some (.int x1), some (.int x2), some (.int x3), some (.int x4), some (.int 0)] [] h) : V X m_X6_carryAll R (ZM X Q nx sz mc ms) (nx, sz, mc, ms) 5 [some (.ref 63), some (.int x1), some (.int x2), some (.int x3), some (.int x4), none] [] h := by
  refine v_iload dX6_carryAll_5 rfl ?_
  refine v_aload_n dX6_carryAll_7 rfl ?_
  refine v_getR dX6_carryAll_8 fl_RX6_18 kd_63 (ltA hA0 rfl) rfl (hF 63 0 1 rfl) ?_
  refine v_getI dX6_carryAll_11 fl_RX6_45 kd_1 (ltA hA0 rfl) rfl ?_
  refine v_icmp_ge (tgt := 78) dX6_carryAll_14 (by decide) (fun c0 => ?_) (fun c0 => ?_)
  · refine v_iload_n dX6_carryAll_78 rfl ?_
    exact v_iret dX6_carryAll_79 rfl (hq c0)
  · refine v_iconst dX6_carryAll_17 ci_0 ?_
    refine v_istore dX6_carryAll_18 (by decide) (L' := [some (.ref 63), some (.int x1), some (.int x2), some (.int x3), some (.int x4), some (.int 0)]) rfl ?_
    exact (q c0)
theorem c_X6_carryAll_20 {X : CX} {R : Room} {Z : ZX} {A : AX} {h : AH} {x1 x2 x3 x4 x5 : Int32} {d : Nat} {P45 : Int32 → AH → Prop} (hA0 : 91 ≤ A.1) (hF : Fx h) (hR : RO R (d + 1)) (hcs : A.2.2.1 ≤ R.cells ∧ A.2.2.2 ≤ R.slots) (q : (h.1 1 0) ≤ x5 → V X m_X6_carryAll R Z A 5 [some (.ref 63), some (.int x1), some (.int x2), some (.int x3), some (.int (x4 + 1)), none] [] h) (q_1 : ¬ (h.1 1 0) ≤ x5 → x4 = x5 → V X m_X6_carryAll R Z A 20 [some (.ref 63), some (.int x1), some (.int x2), some (.int x3), some (.int x4), some (.int (x5 + 1))] [] h) (hM : ¬ (h.1 1 0) ≤ x5 → ¬ x4 = x5 → Mk X d m_X6_carry [.ref 63, .int x1, .int x4, .int x5] h A.1 A.2.1 (RI P45)) (q_2 : ¬ (h.1 1 0) ≤ x5 → ¬ x4 = x5 → ∀ (y : Int32) (g : AH), P45 y g → V X m_X6_carryAll R Z A 48 [some (.ref 63), some (.int x1), some (.int x2), some (.int x3), some (.int x4), some (.int x5)] [.int y] g) : V X m_X6_carryAll R Z A 20 [some (.ref 63), some (.int x1), some (.int x2), some (.int x3), some (.int x4), some (.int x5)] [] h := by
  refine v_iload dX6_carryAll_20 rfl ?_
  refine v_aload_n dX6_carryAll_22 rfl ?_
  refine v_getR dX6_carryAll_23 fl_RX6_18 kd_63 (ltA hA0 rfl) rfl (hF 63 0 1 rfl) ?_
  refine v_getI dX6_carryAll_26 fl_RX6_45 kd_1 (ltA hA0 rfl) rfl ?_
  refine v_icmp_ge (tgt := 72) dX6_carryAll_29 (by decide) (fun c0 => ?_) (fun c0 => ?_)
  · refine v_iinc (y := (x4 + 1)) dX6_carryAll_72 rfl rfl (by decide) (L' := [some (.ref 63), some (.int x1), some (.int x2), some (.int x3), some (.int (x4 + 1)), some (.int x5)]) rfl ?_
    refine v_goto (tgt := 5) dX6_carryAll_75 (by decide) ?_
    exact (v_drop (lvLe_s (lvLe_s (lvLe_s (lvLe_s (lvLe_s (lvLe_n lvLe_e)))))) (q c0))
  · refine v_iload dX6_carryAll_32 rfl ?_
    refine v_iload dX6_carryAll_34 rfl ?_
    refine v_icmp_eq (tgt := 66) dX6_carryAll_36 (by decide) (fun c1 => ?_) (fun c1 => ?_)
    · refine v_iinc (y := (x5 + 1)) dX6_carryAll_66 rfl rfl (by decide) (L' := [some (.ref 63), some (.int x1), some (.int x2), some (.int x3), some (.int x4), some (.int (x5 + 1))]) rfl ?_
      refine v_goto (tgt := 20) dX6_carryAll_69 (by decide) ?_
      exact (q_1 c0 c1)
    · refine v_aload_n dX6_carryAll_39 rfl ?_
      refine v_iload_n dX6_carryAll_40 rfl ?_
      refine v_iload dX6_carryAll_41 rfl ?_
      refine v_iload dX6_carryAll_43 rfl ?_
      exact v_cVI (mt := m_X6_carryAll) mo_X6_carry ml_RX6_76 mi_X6_carry mv_X6_carry rfl kd_63 cl_6 rfl (ltA hA0 rfl) hR hcs (Nat.le_of_ble_eq_true rfl) dX6_carryAll_45 rfl (hM c0 c1) (fun y g hp => ((q_2 c0 c1) y g hp))
theorem c_X6_carryAll_48 {X : CX} {R : Room} {Z : ZX} {A : AX} {h : AH} {x1 x2 x3 x4 x5 s0 : Int32} (hA0 : 91 ≤ A.1) (q : s0 = 0 → V X m_X6_carryAll R Z A 20 [some (.ref 63), some (.int x1), some (.int x2), some (.int x3), some (.int x4), some (.int (x5 + 1))] [] h) (q_1 : ¬ s0 = 0 → x2 = 0 → V X m_X6_carryAll R Z A 20 [some (.ref 63), some (.int x1), some (.int x2), some (.int (x3 + 1)), some (.int x4), some (.int (x5 + 1))] [] h) (q_2 : ¬ s0 = 0 → ¬ x2 = 0 → V X m_X6_carryAll R Z A 20 [some (.ref 63), some (.int x1), some (.int x2), some (.int (x3 + (h.1 63 4))), some (.int x4), some (.int (x5 + 1))] [] h) : V X m_X6_carryAll R Z A 48 [some (.ref 63), some (.int x1), some (.int x2), some (.int x3), some (.int x4), some (.int x5)] [.int s0] h := by
  refine v_if_eq (tgt := 66) dX6_carryAll_48 (by decide) (fun c0 => ?_) (fun c0 => ?_)
  · refine v_iinc (y := (x5 + 1)) dX6_carryAll_66 rfl rfl (by decide) (L' := [some (.ref 63), some (.int x1), some (.int x2), some (.int x3), some (.int x4), some (.int (x5 + 1))]) rfl ?_
    refine v_goto (tgt := 20) dX6_carryAll_69 (by decide) ?_
    exact (q c0)
  · refine v_iload_n dX6_carryAll_51 rfl ?_
    refine v_iload_n dX6_carryAll_52 rfl ?_
    refine v_if_eq (tgt := 63) dX6_carryAll_53 (by decide) (fun c1 => ?_) (fun c1 => ?_)
    · refine v_iconst dX6_carryAll_63 ci_1 ?_
      refine v_iadd dX6_carryAll_64 ?_
      refine v_istore_n dX6_carryAll_65 (by decide) (L' := [some (.ref 63), some (.int x1), some (.int x2), some (.int (x3 + 1)), some (.int x4), some (.int x5)]) rfl ?_
      refine v_iinc (y := (x5 + 1)) dX6_carryAll_66 rfl rfl (by decide) (L' := [some (.ref 63), some (.int x1), some (.int x2), some (.int (x3 + 1)), some (.int x4), some (.int (x5 + 1))]) rfl ?_
      refine v_goto (tgt := 20) dX6_carryAll_69 (by decide) ?_
      exact (q_1 c0 c1)
    · refine v_aload_n dX6_carryAll_56 rfl ?_
      refine v_getI dX6_carryAll_57 fl_RX6_37 kd_63 (ltA hA0 rfl) rfl ?_
      refine v_goto (tgt := 64) dX6_carryAll_60 (by decide) ?_
      refine v_iadd dX6_carryAll_64 ?_
      refine v_istore_n dX6_carryAll_65 (by decide) (L' := [some (.ref 63), some (.int x1), some (.int x2), some (.int (x3 + (h.1 63 4))), some (.int x4), some (.int x5)]) rfl ?_
      refine v_iinc (y := (x5 + 1)) dX6_carryAll_66 rfl rfl (by decide) (L' := [some (.ref 63), some (.int x1), some (.int x2), some (.int (x3 + (h.1 63 4))), some (.int x4), some (.int (x5 + 1))]) rfl ?_
      refine v_goto (tgt := 20) dX6_carryAll_69 (by decide) ?_
      exact (q_2 c0 c1)
theorem e_X11_feed {X : CX} {d nx sz : Nat} {Q : Option Value → AH → Prop} {h : AH} {x1 x2 x3 x4 x5 : Int32} (q : V X m_X11_feed (rm d 0 0) (ZM X Q nx sz 0 0) (nx, sz, 0, 0) 0 [some (.ref 0), some (.int x1), some (.int x2), some (.int x3), some (.int x4), some (.int x5), none] [] h) : Mk X d m_X11_feed [.ref 0, .int x1, .int x2, .int x3, .int x4, .int x5] h nx sz Q := by
  refine Mok.ofV mo_X11_feed (Nat.le_of_ble_eq_true rfl) (L := [some (.ref 0), some (.int x1), some (.int x2), some (.int x3), some (.int x4), some (.int x5)]) (lvLe_s (lvLe_s (lvLe_s (lvLe_s (lvLe_s (lvLe_s lvLe_e)))))) (v_grow (n := 1) ?_)
  exact q
theorem c_X11_feed_0 {X : CX} {R : Room} {Z : ZX} {A : AX} {h : AH} {x1 x2 x3 x4 x5 : Int32} {d : Nat} {P1 : Int32 → AH → Prop} (hR : RO R (d + 1)) (hcs : A.2.2.1 ≤ R.cells ∧ A.2.2.2 ≤ R.slots) (hM : Mk X d m_X10_filled [.int x1] h A.1 A.2.1 (RI P1)) (q : ∀ (y : Int32) (g : AH), P1 y g → V X m_X11_feed R Z A 4 [some (.ref 0), some (.int x1), some (.int x2), some (.int x3), some (.int x4), some (.int x5), none] [.int y] g) : V X m_X11_feed R Z A 0 [some (.ref 0), some (.int x1), some (.int x2), some (.int x3), some (.int x4), some (.int x5), none] [] h := by
  refine v_iload_n dX11_feed_0 rfl ?_
  exact v_cSI (mt := m_X11_feed) mo_X10_filled ml_RX11_117 mz_X10_filled rfl hR hcs (Nat.le_of_ble_eq_true rfl) dX11_feed_1 rfl hM (fun y g hp => (q y g hp))
theorem c_X11_feed_4 {X : CX} {R : Room} {Z : ZX} {A : AX} {h : AH} {x1 x2 x3 x4 x5 s0 : Int32} {d : Nat} {P5 : Int32 → AH → Prop} (hR : RO R (d + 1)) (hcs : A.2.2.1 ≤ R.cells ∧ A.2.2.2 ≤ R.slots) (hM : Mk X d m_X10_filled [.int x2] h A.1 A.2.1 (RI P5)) (q : ∀ (y : Int32) (g : AH), P5 y g → V X m_X11_feed R Z A 8 [some (.ref 0), some (.int x1), some (.int x2), some (.int x3), some (.int x4), some (.int x5), none] [.int y, .int s0] g) : V X m_X11_feed R Z A 4 [some (.ref 0), some (.int x1), some (.int x2), some (.int x3), some (.int x4), some (.int x5), none] [.int s0] h := by
  refine v_iload_n dX11_feed_4 rfl ?_
  exact v_cSI (mt := m_X11_feed) mo_X10_filled ml_RX11_117 mz_X10_filled rfl hR hcs (Nat.le_of_ble_eq_true rfl) dX11_feed_5 rfl hM (fun y g hp => (q y g hp))
theorem c_X11_feed_8 {X : CX} {R : Room} {Z : ZX} {A : AX} {h : AH} {x1 x2 x3 x4 x5 s0 s1 : Int32} {d : Nat} {P10 : Int32 → AH → Prop} (hR : RO R (d + 1)) (hcs : A.2.2.1 ≤ R.cells ∧ A.2.2.2 ≤ R.slots) (hM : Mk X d m_X10_filled [.int x3] h A.1 A.2.1 (RI P10)) (q : ∀ (y : Int32) (g : AH), P10 y g → V X m_X11_feed R Z A 13 [some (.ref 0), some (.int x1), some (.int x2), some (.int x3), some (.int x4), some (.int x5), none] [.int y, .int (s0 + s1)] g) : V X m_X11_feed R Z A 8 [some (.ref 0), some (.int x1), some (.int x2), some (.int x3), some (.int x4), some (.int x5), none] [.int s1, .int s0] h := by
  refine v_iadd dX11_feed_8 ?_
  refine v_iload_n dX11_feed_9 rfl ?_
  exact v_cSI (mt := m_X11_feed) mo_X10_filled ml_RX11_117 mz_X10_filled rfl hR hcs (Nat.le_of_ble_eq_true rfl) dX11_feed_10 rfl hM (fun y g hp => (q y g hp))
theorem c_X11_feed_13 {X : CX} {R : Room} {Z : ZX} {A : AX} {h : AH} {x1 x2 x3 x4 x5 s0 s1 : Int32} {d : Nat} {P16 : Int32 → AH → Prop} (hR : RO R (d + 1)) (hcs : A.2.2.1 ≤ R.cells ∧ A.2.2.2 ≤ R.slots) (hM : Mk X d m_X10_filled [.int x4] h A.1 A.2.1 (RI P16)) (q : ∀ (y : Int32) (g : AH), P16 y g → V X m_X11_feed R Z A 19 [some (.ref 0), some (.int x1), some (.int x2), some (.int x3), some (.int x4), some (.int x5), none] [.int y, .int (s0 + s1)] g) : V X m_X11_feed R Z A 13 [some (.ref 0), some (.int x1), some (.int x2), some (.int x3), some (.int x4), some (.int x5), none] [.int s1, .int s0] h := by
  refine v_iadd dX11_feed_13 ?_
  refine v_iload dX11_feed_14 rfl ?_
  exact v_cSI (mt := m_X11_feed) mo_X10_filled ml_RX11_117 mz_X10_filled rfl hR hcs (Nat.le_of_ble_eq_true rfl) dX11_feed_16 rfl hM (fun y g hp => (q y g hp))
theorem c_X11_feed_19 {X : CX} {R : Room} {Z : ZX} {A : AX} {h : AH} {x1 x2 x3 x4 x5 s0 s1 : Int32} {d : Nat} {P22 : Int32 → AH → Prop} (hR : RO R (d + 1)) (hcs : A.2.2.1 ≤ R.cells ∧ A.2.2.2 ≤ R.slots) (hM : Mk X d m_X10_filled [.int x5] h A.1 A.2.1 (RI P22)) (q : ∀ (y : Int32) (g : AH), P22 y g → V X m_X11_feed R Z A 25 [some (.ref 0), some (.int x1), some (.int x2), some (.int x3), some (.int x4), some (.int x5), none] [.int y, .int (s0 + s1)] g) : V X m_X11_feed R Z A 19 [some (.ref 0), some (.int x1), some (.int x2), some (.int x3), some (.int x4), some (.int x5), none] [.int s1, .int s0] h := by
  refine v_iadd dX11_feed_19 ?_
  refine v_iload dX11_feed_20 rfl ?_
  exact v_cSI (mt := m_X11_feed) mo_X10_filled ml_RX11_117 mz_X10_filled rfl hR hcs (Nat.le_of_ble_eq_true rfl) dX11_feed_22 rfl hM (fun y g hp => (q y g hp))
theorem c_X11_feed_25 {X : CX} {R : Room} {Q : Option Value → AH → Prop} {nx sz mc ms : Nat} {h : AH} {x1 x2 x3 x4 x5 s0 s1 : Int32} {d : Nat} {P51 : AH → Prop} (hA0 : 91 ≤ nx) (hF : Fx h) (hR : RO R (d + 1)) (hcs : mc ≤ R.cells ∧ ms ≤ R.slots) (hM : ((h.1 23 1) + (s0 + s1)) ≤ 200 → Mk X d m_X10_add [.ref 23, .int x1] h nx sz (RV P51)) (q : ((h.1 23 1) + (s0 + s1)) ≤ 200 → ∀ (g : AH), P51 g → V X m_X11_feed R (ZM X Q nx sz mc ms) (nx, sz, mc, ms) 54 [some (.ref 0), none, some (.int x2), some (.int x3), some (.int x4), some (.int x5), none] [] g) (hq : ¬ ((h.1 23 1) + (s0 + s1)) ≤ 200 → Q (some (.int (-1))) h) : V X m_X11_feed R (ZM X Q nx sz mc ms) (nx, sz, mc, ms) 25 [some (.ref 0), some (.int x1), some (.int x2), some (.int x3), some (.int x4), some (.int x5), none] [.int s1, .int s0] h := by
  refine v_iadd dX11_feed_25 ?_
  refine v_istore dX11_feed_26 (by decide) (L' := [some (.ref 0), some (.int x1), some (.int x2), some (.int x3), some (.int x4), some (.int x5), some (.int (s0 + s1))]) rfl ?_
  refine v_aload_n dX11_feed_28 rfl ?_
  refine v_getR dX11_feed_29 fl_RX11_63 kd_0 (ltA hA0 rfl) rfl (hF 0 7 23 rfl) ?_
  refine v_getI dX11_feed_32 fl_RX11_121 kd_23 (ltA hA0 rfl) rfl ?_
  refine v_iload dX11_feed_35 rfl ?_
  refine v_iadd dX11_feed_37 ?_
  refine v_sipush dX11_feed_38 cs_200 ?_
  refine v_icmp_le (tgt := 46) dX11_feed_41 (by decide) (fun c0 => ?_) (fun c0 => ?_)
  · refine v_aload_n dX11_feed_46 rfl ?_
    refine v_getR dX11_feed_47 fl_RX11_63 kd_0 (ltA hA0 rfl) rfl (hF 0 7 23 rfl) ?_
    refine v_iload_n dX11_feed_50 rfl ?_
    exact v_cVV (mt := m_X11_feed) mo_X10_add ml_RX11_124 mi_X10_add mv_X10_add rfl kd_23 cl_10 rfl (ltA hA0 rfl) hR hcs (Nat.le_of_ble_eq_true rfl) dX11_feed_51 rfl (hM c0) (fun g hp => (v_drop (lvLe_s (lvLe_n (lvLe_s (lvLe_s (lvLe_s (lvLe_s (lvLe_n lvLe_e))))))) ((q c0) g hp)))
  · refine v_iconst dX11_feed_44 ci_m1 ?_
    exact v_iret dX11_feed_45 rfl (hq c0)
theorem c_X11_feed_54 {X : CX} {R : Room} {Z : ZX} {A : AX} {h : AH} {x2 x3 x4 x5 : Int32} {d : Nat} {P59 : AH → Prop} (hA0 : 91 ≤ A.1) (hF : Fx h) (hR : RO R (d + 1)) (hcs : A.2.2.1 ≤ R.cells ∧ A.2.2.2 ≤ R.slots) (hM : Mk X d m_X10_add [.ref 23, .int x2] h A.1 A.2.1 (RV P59)) (q : ∀ (g : AH), P59 g → V X m_X11_feed R Z A 62 [some (.ref 0), none, none, some (.int x3), some (.int x4), some (.int x5), none] [] g) : V X m_X11_feed R Z A 54 [some (.ref 0), none, some (.int x2), some (.int x3), some (.int x4), some (.int x5), none] [] h := by
  refine v_aload_n dX11_feed_54 rfl ?_
  refine v_getR dX11_feed_55 fl_RX11_63 kd_0 (ltA hA0 rfl) rfl (hF 0 7 23 rfl) ?_
  refine v_iload_n dX11_feed_58 rfl ?_
  exact v_cVV (mt := m_X11_feed) mo_X10_add ml_RX11_124 mi_X10_add mv_X10_add rfl kd_23 cl_10 rfl (ltA hA0 rfl) hR hcs (Nat.le_of_ble_eq_true rfl) dX11_feed_59 rfl hM (fun g hp => (v_drop (lvLe_s (lvLe_n (lvLe_n (lvLe_s (lvLe_s (lvLe_s (lvLe_n lvLe_e))))))) (q g hp)))
theorem c_X11_feed_62 {X : CX} {R : Room} {Z : ZX} {A : AX} {h : AH} {x3 x4 x5 : Int32} {d : Nat} {P67 : AH → Prop} (hA0 : 91 ≤ A.1) (hF : Fx h) (hR : RO R (d + 1)) (hcs : A.2.2.1 ≤ R.cells ∧ A.2.2.2 ≤ R.slots) (hM : Mk X d m_X10_add [.ref 23, .int x3] h A.1 A.2.1 (RV P67)) (q : ∀ (g : AH), P67 g → V X m_X11_feed R Z A 70 [some (.ref 0), none, none, none, some (.int x4), some (.int x5), none] [] g) : V X m_X11_feed R Z A 62 [some (.ref 0), none, none, some (.int x3), some (.int x4), some (.int x5), none] [] h := by
  refine v_aload_n dX11_feed_62 rfl ?_
  refine v_getR dX11_feed_63 fl_RX11_63 kd_0 (ltA hA0 rfl) rfl (hF 0 7 23 rfl) ?_
  refine v_iload_n dX11_feed_66 rfl ?_
  exact v_cVV (mt := m_X11_feed) mo_X10_add ml_RX11_124 mi_X10_add mv_X10_add rfl kd_23 cl_10 rfl (ltA hA0 rfl) hR hcs (Nat.le_of_ble_eq_true rfl) dX11_feed_67 rfl hM (fun g hp => (v_drop (lvLe_s (lvLe_n (lvLe_n (lvLe_n (lvLe_s (lvLe_s (lvLe_n lvLe_e))))))) (q g hp)))
theorem c_X11_feed_70 {X : CX} {R : Room} {Z : ZX} {A : AX} {h : AH} {x4 x5 : Int32} {d : Nat} {P76 : AH → Prop} (hA0 : 91 ≤ A.1) (hF : Fx h) (hR : RO R (d + 1)) (hcs : A.2.2.1 ≤ R.cells ∧ A.2.2.2 ≤ R.slots) (hM : Mk X d m_X10_add [.ref 23, .int x4] h A.1 A.2.1 (RV P76)) (q : ∀ (g : AH), P76 g → V X m_X11_feed R Z A 79 [some (.ref 0), none, none, none, none, some (.int x5), none] [] g) : V X m_X11_feed R Z A 70 [some (.ref 0), none, none, none, some (.int x4), some (.int x5), none] [] h := by
  refine v_aload_n dX11_feed_70 rfl ?_
  refine v_getR dX11_feed_71 fl_RX11_63 kd_0 (ltA hA0 rfl) rfl (hF 0 7 23 rfl) ?_
  refine v_iload dX11_feed_74 rfl ?_
  exact v_cVV (mt := m_X11_feed) mo_X10_add ml_RX11_124 mi_X10_add mv_X10_add rfl kd_23 cl_10 rfl (ltA hA0 rfl) hR hcs (Nat.le_of_ble_eq_true rfl) dX11_feed_76 rfl hM (fun g hp => (v_drop (lvLe_s (lvLe_n (lvLe_n (lvLe_n (lvLe_n (lvLe_s (lvLe_n lvLe_e))))))) (q g hp)))
theorem c_X11_feed_79 {X : CX} {R : Room} {Z : ZX} {A : AX} {h : AH} {x5 : Int32} {d : Nat} {P85 : AH → Prop} (hA0 : 91 ≤ A.1) (hF : Fx h) (hR : RO R (d + 1)) (hcs : A.2.2.1 ≤ R.cells ∧ A.2.2.2 ≤ R.slots) (hM : Mk X d m_X10_add [.ref 23, .int x5] h A.1 A.2.1 (RV P85)) (q : ∀ (g : AH), P85 g → V X m_X11_feed R Z A 88 [some (.ref 0), none, none, none, none, none, none] [] g) : V X m_X11_feed R Z A 79 [some (.ref 0), none, none, none, none, some (.int x5), none] [] h := by
  refine v_aload_n dX11_feed_79 rfl ?_
  refine v_getR dX11_feed_80 fl_RX11_63 kd_0 (ltA hA0 rfl) rfl (hF 0 7 23 rfl) ?_
  refine v_iload dX11_feed_83 rfl ?_
  exact v_cVV (mt := m_X11_feed) mo_X10_add ml_RX11_124 mi_X10_add mv_X10_add rfl kd_23 cl_10 rfl (ltA hA0 rfl) hR hcs (Nat.le_of_ble_eq_true rfl) dX11_feed_85 rfl hM (fun g hp => (v_drop (lvLe_s (lvLe_n (lvLe_n (lvLe_n (lvLe_n (lvLe_n (lvLe_n lvLe_e))))))) (q g hp)))
theorem c_X11_feed_88 {X : CX} {R : Room} {Q : Option Value → AH → Prop} {nx sz mc ms : Nat} {h : AH} (hA0 : 91 ≤ nx) (hF : Fx h) (hq : Q (some (.int (h.1 23 1))) h) : V X m_X11_feed R (ZM X Q nx sz mc ms) (nx, sz, mc, ms) 88 [some (.ref 0), none, none, none, none, none, none] [] h := by
  refine v_aload_n dX11_feed_88 rfl ?_
  refine v_getR dX11_feed_89 fl_RX11_63 kd_0 (ltA hA0 rfl) rfl (hF 0 7 23 rfl) ?_
  refine v_getI dX11_feed_92 fl_RX11_121 kd_23 (ltA hA0 rfl) rfl ?_
  exact v_iret dX11_feed_95 rfl hq
theorem e_X11_end {X : CX} {d nx sz : Nat} {Q : Option Value → AH → Prop} {h : AH} {x1 : Int32} (q : V X m_X11_end (rm d 0 0) (ZM X Q nx sz 0 0) (nx, sz, 0, 0) 0 [some (.ref 0), some (.int x1)] [] h) : Mk X d m_X11_end [.ref 0, .int x1] h nx sz Q := by
  refine Mok.ofV mo_X11_end (Nat.le_of_ble_eq_true rfl) (L := [some (.ref 0), some (.int x1)]) (lvLe_s (lvLe_s lvLe_e)) (v_grow (n := 0) ?_)
  exact q
theorem c_X11_end_0 {X : CX} {R : Room} {Q : Option Value → AH → Prop} {nx sz mc ms : Nat} {h : AH} {x1 : Int32} (hA0 : 91 ≤ nx) (hF : Fx h) (hq : x1 < 0 → Q (some (.int 0)) h) (hq_1 : ¬ x1 < 0 → x1 ≤ (h.1 23 1) → Q (some (.int 1)) (setI h 23 1 x1)) (hq_2 : ¬ x1 < 0 → ¬ x1 ≤ (h.1 23 1) → Q (some (.int 0)) h) : V X m_X11_end R (ZM X Q nx sz mc ms) (nx, sz, mc, ms) 0 [some (.ref 0), some (.int x1)] [] h := by
  refine v_iload_n dX11_end_0 rfl ?_
  refine v_if_lt (tgt := 15) dX11_end_1 (by decide) (fun c0 => ?_) (fun c0 => ?_)
  · refine v_iconst dX11_end_15 ci_0 ?_
    exact v_zret (ty := .boolean) dX11_end_16 rfl rfl (hq c0)
  · refine v_iload_n dX11_end_4 rfl ?_
    refine v_aload_n dX11_end_5 rfl ?_
    refine v_getR dX11_end_6 fl_RX11_63 kd_0 (ltA hA0 rfl) rfl (hF 0 7 23 rfl) ?_
    refine v_getI dX11_end_9 fl_RX11_121 kd_23 (ltA hA0 rfl) rfl ?_
    refine v_icmp_le (tgt := 17) dX11_end_12 (by decide) (fun c1 => ?_) (fun c1 => ?_)
    · refine v_aload_n dX11_end_17 rfl ?_
      refine v_getR dX11_end_18 fl_RX11_63 kd_0 (ltA hA0 rfl) rfl (hF 0 7 23 rfl) ?_
      refine v_iload_n dX11_end_21 rfl ?_
      refine v_putI rfl rfl rfl dX11_end_22 fl_RX11_121 (Or.inl rfl) kd_23 (ltA hA0 rfl) ?_
      refine v_iconst dX11_end_25 ci_1 ?_
      exact v_zret (ty := .boolean) dX11_end_26 rfl rfl (hq_1 c0 c1)
    · refine v_iconst dX11_end_15 ci_0 ?_
      exact v_zret (ty := .boolean) dX11_end_16 rfl rfl (hq_2 c0 c1)
theorem e_X11_fault {X : CX} {d nx sz : Nat} {Q : Option Value → AH → Prop} {h : AH} {x1 : Int32} (q : V X m_X11_fault (rm d 0 0) (ZM X Q nx sz 0 0) (nx, sz, 0, 0) 0 [some (.ref 0), some (.int x1)] [] h) : Mk X d m_X11_fault [.ref 0, .int x1] h nx sz Q := by
  refine Mok.ofV mo_X11_fault (Nat.le_of_ble_eq_true rfl) (L := [some (.ref 0), some (.int x1)]) (lvLe_s (lvLe_s lvLe_e)) (v_grow (n := 0) ?_)
  exact q
theorem c_X11_fault_0 {X : CX} {R : Room} {Q : Option Value → AH → Prop} {nx sz mc ms : Nat} {h : AH} {x1 : Int32} {d : Nat} {P21 P8 : Int32 → AH → Prop} (hA0 : 91 ≤ nx) (hF : Fx h) (hR : RO R (d + 1)) (hcs : mc ≤ R.cells ∧ ms ≤ R.slots) (hq : ¬ x1 = 0 → ¬ x1 = 1 → Q (some (.int (-2))) h) (hM : ¬ x1 = 0 → x1 = 1 → Mk X d m_X7_read [.ref 27] h nx sz (RI P21)) (q : ¬ x1 = 0 → x1 = 1 → ∀ (y : Int32) (g : AH), P21 y g → V X m_X11_fault R (ZM X Q nx sz mc ms) (nx, sz, mc, ms) 24 [none, none] [.int y] g) (hM_1 : x1 = 0 → Mk X d m_X4_read [.ref 25] h nx sz (RI P8)) (q_1 : x1 = 0 → ∀ (y : Int32) (g : AH), P8 y g → V X m_X11_fault R (ZM X Q nx sz mc ms) (nx, sz, mc, ms) 11 [none, none] [.int y] g) : V X m_X11_fault R (ZM X Q nx sz mc ms) (nx, sz, mc, ms) 0 [some (.ref 0), some (.int x1)] [] h := by
  refine v_iload_n dX11_fault_0 rfl ?_
  refine v_if_ne (tgt := 12) dX11_fault_1 (by decide) (fun c0 => ?_) (fun c0 => ?_)
  · refine v_iload_n dX11_fault_12 rfl ?_
    refine v_iconst dX11_fault_13 ci_1 ?_
    refine v_icmp_ne (tgt := 27) dX11_fault_14 (by decide) (fun c1 => ?_) (fun c1 => ?_)
    · refine v_bipush dX11_fault_27 cb_m2 ?_
      exact v_iret dX11_fault_29 rfl (hq c0 c1)
    · refine v_aload_n dX11_fault_17 rfl ?_
      refine v_getR dX11_fault_18 fl_RX11_81 kd_0 (ltA hA0 rfl) rfl (hF 0 9 27 rfl) ?_
      exact v_cVI (mt := m_X11_fault) mo_X7_read ml_RX11_131 mi_X7_read mv_X7_read rfl kd_27 cl_7 rfl (ltA hA0 rfl) hR hcs (Nat.le_of_ble_eq_true rfl) dX11_fault_21 rfl (hM c0 c1) (fun y g hp => (v_drop (lvLe_n (lvLe_n lvLe_e)) ((q c0 c1) y g hp)))
  · refine v_aload_n dX11_fault_4 rfl ?_
    refine v_getR dX11_fault_5 fl_RX11_72 kd_0 (ltA hA0 rfl) rfl (hF 0 8 25 rfl) ?_
    exact v_cVI (mt := m_X11_fault) mo_X4_read ml_RX11_127 mi_X4_read mv_X4_read rfl kd_25 cl_4 rfl (ltA hA0 rfl) hR hcs (Nat.le_of_ble_eq_true rfl) dX11_fault_8 rfl (hM_1 c0) (fun y g hp => (v_drop (lvLe_n (lvLe_n lvLe_e)) ((q_1 c0) y g hp)))
theorem c_X11_fault_11 {X : CX} {R : Room} {Q : Option Value → AH → Prop} {nx sz mc ms : Nat} {h : AH} {s0 : Int32} (hq : Q (some (.int s0)) h) : V X m_X11_fault R (ZM X Q nx sz mc ms) (nx, sz, mc, ms) 11 [none, none] [.int s0] h := by
  exact v_iret dX11_fault_11 rfl hq
theorem c_X11_fault_24 {X : CX} {R : Room} {Q : Option Value → AH → Prop} {nx sz mc ms : Nat} {h : AH} {s0 : Int32} (hq : Q (some (.int s0)) h) : V X m_X11_fault R (ZM X Q nx sz mc ms) (nx, sz, mc, ms) 24 [none, none] [.int s0] h := by
  refine v_goto (tgt := 29) dX11_fault_24 (by decide) ?_
  exact v_iret dX11_fault_29 rfl hq
theorem e_X11_text {X : CX} {d nx sz : Nat} {Q : Option Value → AH → Prop} {h : AH} {x1 : Int32} (q : V X m_X11_text (rm d 0 0) (ZM X Q nx sz 0 0) (nx, sz, 0, 0) 0 [some (.ref 0), some (.int x1)] [] h) : Mk X d m_X11_text [.ref 0, .int x1] h nx sz Q := by
  refine Mok.ofV mo_X11_text (Nat.le_of_ble_eq_true rfl) (L := [some (.ref 0), some (.int x1)]) (lvLe_s (lvLe_s lvLe_e)) (v_grow (n := 0) ?_)
  exact q
theorem c_X11_text_0 {X : CX} {R : Room} {Q : Option Value → AH → Prop} {nx sz mc ms : Nat} {h : AH} {x1 : Int32} {d : Nat} {P73 P8 : Int32 → AH → Prop} (hA0 : 91 ≤ nx) (hF : Fx h) (hR : RO R (d + 1)) (hcs : mc ≤ R.cells ∧ ms ≤ R.slots) (hq : ¬ x1 = 0 → ¬ x1 = 1 → Q (some (.int (-1))) h) (hq_1 : ¬ x1 = 0 → x1 = 1 → 6 ≤ (h.1 29 4) → Q (some (.int (-1))) h) (hM : ¬ x1 = 0 → x1 = 1 → ¬ 6 ≤ (h.1 29 4) → Mk X d m_X7_read [.ref 27] h nx sz (RI P73)) (q : ¬ x1 = 0 → x1 = 1 → ¬ 6 ≤ (h.1 29 4) → ∀ (y : Int32) (g : AH), P73 y g → V X m_X11_text R (ZM X Q nx sz mc ms) (nx, sz, mc, ms) 76 [some (.ref 0), none] [.int y] g) (hM_1 : x1 = 0 → Mk X d m_X4_read [.ref 25] h nx sz (RI P8)) (q_1 : x1 = 0 → ∀ (y : Int32) (g : AH), P8 y g → V X m_X11_text R (ZM X Q nx sz mc ms) (nx, sz, mc, ms) 11 [some (.ref 0), some (.int x1)] [.int y] g) : V X m_X11_text R (ZM X Q nx sz mc ms) (nx, sz, mc, ms) 0 [some (.ref 0), some (.int x1)] [] h := by
  refine v_iload_n dX11_text_0 rfl ?_
  refine v_if_ne (tgt := 52) dX11_text_1 (by decide) (fun c0 => ?_) (fun c0 => ?_)
  · refine v_iload_n dX11_text_52 rfl ?_
    refine v_iconst dX11_text_53 ci_1 ?_
    refine v_icmp_ne (tgt := 110) dX11_text_54 (by decide) (fun c1 => ?_) (fun c1 => ?_)
    · refine v_iconst dX11_text_110 ci_m1 ?_
      exact v_iret dX11_text_111 rfl (hq c0 c1)
    · refine v_aload_n dX11_text_57 rfl ?_
      refine v_getR dX11_text_58 fl_RX11_88 kd_0 (ltA hA0 rfl) rfl (hF 0 10 29 rfl) ?_
      refine v_getI dX11_text_61 fl_RX11_148 kd_29 (ltA hA0 rfl) rfl ?_
      refine v_bipush dX11_text_64 cb_6 ?_
      refine v_icmp_ge (tgt := 110) dX11_text_66 (by decide) (fun c2 => ?_) (fun c2 => ?_)
      · refine v_iconst dX11_text_110 ci_m1 ?_
        exact v_iret dX11_text_111 rfl (hq_1 c0 c1 c2)
      · refine v_aload_n dX11_text_69 rfl ?_
        refine v_getR dX11_text_70 fl_RX11_81 kd_0 (ltA hA0 rfl) rfl (hF 0 9 27 rfl) ?_
        exact v_cVI (mt := m_X11_text) mo_X7_read ml_RX11_131 mi_X7_read mv_X7_read rfl kd_27 cl_7 rfl (ltA hA0 rfl) hR hcs (Nat.le_of_ble_eq_true rfl) dX11_text_73 rfl (hM c0 c1 c2) (fun y g hp => (v_drop (lvLe_s (lvLe_n lvLe_e)) ((q c0 c1 c2) y g hp)))
  · refine v_aload_n dX11_text_4 rfl ?_
    refine v_getR dX11_text_5 fl_RX11_72 kd_0 (ltA hA0 rfl) rfl (hF 0 8 25 rfl) ?_
    exact v_cVI (mt := m_X11_text) mo_X4_read ml_RX11_127 mi_X4_read mv_X4_read rfl kd_25 cl_4 rfl (ltA hA0 rfl) hR hcs (Nat.le_of_ble_eq_true rfl) dX11_text_8 rfl (hM_1 c0) (fun y g hp => ((q_1 c0) y g hp))
theorem c_X11_text_11 {X : CX} {R : Room} {Q : Option Value → AH → Prop} {nx sz mc ms : Nat} {h : AH} {x1 s0 : Int32} {d : Nat} {P73 P48 : Int32 → AH → Prop} (hA0 : 91 ≤ nx) (hF : Fx h) (hR : RO R (d + 1)) (hcs : mc ≤ R.cells ∧ ms ≤ R.slots) (hq : ¬ s0 = (-1) → ¬ x1 = 1 → Q (some (.int (-1))) h) (hq_1 : ¬ s0 = (-1) → x1 = 1 → 6 ≤ (h.1 29 4) → Q (some (.int (-1))) h) (hM : ¬ s0 = (-1) → x1 = 1 → ¬ 6 ≤ (h.1 29 4) → Mk X d m_X7_read [.ref 27] h nx sz (RI P73)) (q : ¬ s0 = (-1) → x1 = 1 → ¬ 6 ≤ (h.1 29 4) → ∀ (y : Int32) (g : AH), P73 y g → V X m_X11_text R (ZM X Q nx sz mc ms) (nx, sz, mc, ms) 76 [some (.ref 0), none] [.int y] g) (hM_1 : s0 = (-1) → Mk X d m_X3_tieCount [.ref 1] (setA (setI h 23 1 0) 2 (va_cpy ((setI h 23 1 0).1 26) ((setI h 23 1 0).1 2) 0 0 20)) nx sz (RI P48)) (q_1 : s0 = (-1) → ∀ (y : Int32) (g : AH), P48 y g → V X m_X11_text R (ZM X Q nx sz mc ms) (nx, sz, mc, ms) 51 [none, none] [.int y] g) : V X m_X11_text R (ZM X Q nx sz mc ms) (nx, sz, mc, ms) 11 [some (.ref 0), some (.int x1)] [.int s0] h := by
  refine v_iconst dX11_text_11 ci_m1 ?_
  refine v_icmp_ne (tgt := 52) dX11_text_12 (by decide) (fun c0 => ?_) (fun c0 => ?_)
  · refine v_iload_n dX11_text_52 rfl ?_
    refine v_iconst dX11_text_53 ci_1 ?_
    refine v_icmp_ne (tgt := 110) dX11_text_54 (by decide) (fun c1 => ?_) (fun c1 => ?_)
    · refine v_iconst dX11_text_110 ci_m1 ?_
      exact v_iret dX11_text_111 rfl (hq c0 c1)
    · refine v_aload_n dX11_text_57 rfl ?_
      refine v_getR dX11_text_58 fl_RX11_88 kd_0 (ltA hA0 rfl) rfl (hF 0 10 29 rfl) ?_
      refine v_getI dX11_text_61 fl_RX11_148 kd_29 (ltA hA0 rfl) rfl ?_
      refine v_bipush dX11_text_64 cb_6 ?_
      refine v_icmp_ge (tgt := 110) dX11_text_66 (by decide) (fun c2 => ?_) (fun c2 => ?_)
      · refine v_iconst dX11_text_110 ci_m1 ?_
        exact v_iret dX11_text_111 rfl (hq_1 c0 c1 c2)
      · refine v_aload_n dX11_text_69 rfl ?_
        refine v_getR dX11_text_70 fl_RX11_81 kd_0 (ltA hA0 rfl) rfl (hF 0 9 27 rfl) ?_
        exact v_cVI (mt := m_X11_text) mo_X7_read ml_RX11_131 mi_X7_read mv_X7_read rfl kd_27 cl_7 rfl (ltA hA0 rfl) hR hcs (Nat.le_of_ble_eq_true rfl) dX11_text_73 rfl (hM c0 c1 c2) (fun y g hp => (v_drop (lvLe_s (lvLe_n lvLe_e)) ((q c0 c1 c2) y g hp)))
  · refine v_aload_n dX11_text_15 rfl ?_
    refine v_getR dX11_text_16 fl_RX11_63 kd_0 (ltA hA0 rfl) rfl (hF 0 7 23 rfl) ?_
    refine v_iconst dX11_text_19 ci_0 ?_
    refine v_putI rfl rfl rfl dX11_text_20 fl_RX11_121 (Or.inl rfl) kd_23 (ltA hA0 rfl) ?_
    refine v_aload_n dX11_text_23 rfl ?_
    refine v_getR dX11_text_24 fl_RX11_72 kd_0 (ltA hA0 rfl) rfl (hF 0 8 25 rfl) ?_
    refine v_getR dX11_text_27 fl_RX11_132 kd_25 (ltA hA0 rfl) rfl (hF 25 2 26 rfl) ?_
    refine v_iconst dX11_text_30 ci_0 ?_
    refine v_aload_n dX11_text_31 rfl ?_
    refine v_getR dX11_text_32 fl_RX11_27 kd_0 (ltA hA0 rfl) rfl (hF 0 1 1 rfl) ?_
    refine v_getR dX11_text_35 fl_RX11_136 kd_1 (ltA hA0 rfl) rfl (hF 1 2 2 rfl) ?_
    refine v_iconst dX11_text_38 ci_0 ?_
    refine v_bipush dX11_text_39 cb_20 ?_
    refine v_acopy dX11_text_41 ml_RX11_139 nat_ac mz_ac in_sys kd_26 kd_2 (ltA hA0 rfl) (ltA hA0 rfl) (by decide) (by decide) (by decide) (by decide) (by decide) (RO_1 hR) (Nat.le_of_ble_eq_true rfl) ?_
    refine v_aload_n dX11_text_44 rfl ?_
    refine v_getR dX11_text_45 fl_RX11_27 kd_0 (ltA hA0 rfl) rfl (hF 0 1 1 rfl) ?_
    exact v_cVI (mt := m_X11_text) mo_X3_tieCount ml_RX11_145 mi_X3_tieCount mv_X3_tieCount rfl kd_1 cl_3 rfl (ltA hA0 rfl) hR hcs (Nat.le_of_ble_eq_true rfl) dX11_text_48 rfl (hM_1 c0) (fun y g hp => (v_drop (lvLe_n (lvLe_n lvLe_e)) ((q_1 c0) y g hp)))
theorem c_X11_text_51 {X : CX} {R : Room} {Q : Option Value → AH → Prop} {nx sz mc ms : Nat} {h : AH} {s0 : Int32} (hq : Q (some (.int s0)) h) : V X m_X11_text R (ZM X Q nx sz mc ms) (nx, sz, mc, ms) 51 [none, none] [.int s0] h := by
  exact v_iret dX11_text_51 rfl hq
theorem c_X11_text_76 {X : CX} {R : Room} {Q : Option Value → AH → Prop} {nx sz mc ms : Nat} {h : AH} {s0 : Int32} {d : Nat} {P106 : Int32 → AH → Prop} (hA0 : 91 ≤ nx) (hF : Fx h) (hR : RO R (d + 1)) (hcs : mc ≤ R.cells ∧ ms ≤ R.slots) (hq : ¬ s0 = (-1) → Q (some (.int (-1))) h) (hM : s0 = (-1) → Mk X d m_X8_add [.ref 29, .ref 28, .int (h.1 27 2)] (setI h 23 1 0) nx sz (RI P106)) (q : s0 = (-1) → ∀ (y : Int32) (g : AH), P106 y g → V X m_X11_text R (ZM X Q nx sz mc ms) (nx, sz, mc, ms) 109 [none, none] [.int y] g) : V X m_X11_text R (ZM X Q nx sz mc ms) (nx, sz, mc, ms) 76 [some (.ref 0), none] [.int s0] h := by
  refine v_iconst dX11_text_76 ci_m1 ?_
  refine v_icmp_ne (tgt := 110) dX11_text_77 (by decide) (fun c0 => ?_) (fun c0 => ?_)
  · refine v_iconst dX11_text_110 ci_m1 ?_
    exact v_iret dX11_text_111 rfl (hq c0)
  · refine v_aload_n dX11_text_80 rfl ?_
    refine v_getR dX11_text_81 fl_RX11_63 kd_0 (ltA hA0 rfl) rfl (hF 0 7 23 rfl) ?_
    refine v_iconst dX11_text_84 ci_0 ?_
    refine v_putI rfl rfl rfl dX11_text_85 fl_RX11_121 (Or.inl rfl) kd_23 (ltA hA0 rfl) ?_
    refine v_aload_n dX11_text_88 rfl ?_
    refine v_getR dX11_text_89 fl_RX11_88 kd_0 (ltA hA0 rfl) rfl (hF 0 10 29 rfl) ?_
    refine v_aload_n dX11_text_92 rfl ?_
    refine v_getR dX11_text_93 fl_RX11_81 kd_0 (ltA hA0 rfl) rfl (hF 0 9 27 rfl) ?_
    refine v_getR dX11_text_96 fl_RX11_151 kd_27 (ltA hA0 rfl) rfl (hF 27 1 28 rfl) ?_
    refine v_aload_n dX11_text_99 rfl ?_
    refine v_getR dX11_text_100 fl_RX11_81 kd_0 (ltA hA0 rfl) rfl (hF 0 9 27 rfl) ?_
    refine v_getI dX11_text_103 fl_RX11_154 kd_27 (ltA hA0 rfl) rfl ?_
    exact v_cVI (mt := m_X11_text) mo_X8_add ml_RX11_157 mi_X8_add mv_X8_add rfl kd_29 cl_8 rfl (ltA hA0 rfl) hR hcs (Nat.le_of_ble_eq_true rfl) dX11_text_106 rfl (hM c0) (fun y g hp => (v_drop (lvLe_n (lvLe_n lvLe_e)) ((q c0) y g hp)))
theorem c_X11_text_109 {X : CX} {R : Room} {Q : Option Value → AH → Prop} {nx sz mc ms : Nat} {h : AH} {s0 : Int32} (hq : Q (some (.int s0)) h) : V X m_X11_text R (ZM X Q nx sz mc ms) (nx, sz, mc, ms) 109 [none, none] [.int s0] h := by
  exact v_iret dX11_text_109 rfl hq
theorem e_X11_most {X : CX} {d nx sz : Nat} {Q : Option Value → AH → Prop} {h : AH} {x1 x2 : Int32} (q : V X m_X11_most (rm d 0 0) (ZM X Q nx sz 0 0) (nx, sz, 0, 0) 0 [some (.ref 0), some (.int x1), some (.int x2)] [] h) : Mk X d m_X11_most [.ref 0, .int x1, .int x2] h nx sz Q := by
  refine Mok.ofV mo_X11_most (Nat.le_of_ble_eq_true rfl) (L := [some (.ref 0), some (.int x1), some (.int x2)]) (lvLe_s (lvLe_s (lvLe_s lvLe_e))) (v_grow (n := 0) ?_)
  exact q
theorem c_X11_most_0 {X : CX} {R : Room} {Z : ZX} {A : AX} {h : AH} {x1 x2 : Int32} {d : Nat} {P5 : Int32 → AH → Prop} (hA0 : 91 ≤ A.1) (hF : Fx h) (hR : RO R (d + 1)) (hcs : A.2.2.1 ≤ R.cells ∧ A.2.2.2 ≤ R.slots) (hM : Mk X d m_X3_has [.ref 1, .int x1] h A.1 A.2.1 (RI P5)) (q : ∀ (y : Int32) (g : AH), P5 y g → V X m_X11_most R Z A 8 [some (.ref 0), some (.int x1), some (.int x2)] [.int y] g) : V X m_X11_most R Z A 0 [some (.ref 0), some (.int x1), some (.int x2)] [] h := by
  refine v_aload_n dX11_most_0 rfl ?_
  refine v_getR dX11_most_1 fl_RX11_27 kd_0 (ltA hA0 rfl) rfl (hF 0 1 1 rfl) ?_
  refine v_iload_n dX11_most_4 rfl ?_
  exact v_cVI (mt := m_X11_most) mo_X3_has ml_RX11_160 mi_X3_has mv_X3_has rfl kd_1 cl_3 rfl (ltA hA0 rfl) hR hcs (Nat.le_of_ble_eq_true rfl) dX11_most_5 rfl hM (fun y g hp => (q y g hp))
theorem c_X11_most_8 {X : CX} {R : Room} {Q : Option Value → AH → Prop} {nx sz mc ms : Nat} {h : AH} {x1 x2 s0 : Int32} {d : Nat} {P27 : Int32 → AH → Prop} (hA0 : 91 ≤ nx) (hF : Fx h) (hR : RO R (d + 1)) (hcs : mc ≤ R.cells ∧ ms ≤ R.slots) (hq : s0 = 0 → Q (some (.int 0)) h) (hq_1 : ¬ s0 = 0 → x2 < 0 → Q (some (.int 0)) h) (hq_2 : ¬ s0 = 0 → ¬ x2 < 0 → 9 < x2 → Q (some (.int 0)) h) (hM : ¬ s0 = 0 → ¬ x2 < 0 → ¬ 9 < x2 → Mk X d m_X3_degree [.ref 1, .int x1] h nx sz (RI P27)) (q : ¬ s0 = 0 → ¬ x2 < 0 → ¬ 9 < x2 → ∀ (y : Int32) (g : AH), P27 y g → V X m_X11_most R (ZM X Q nx sz mc ms) (nx, sz, mc, ms) 30 [some (.ref 0), some (.int x1), some (.int x2)] [.int y, .int x2] g) : V X m_X11_most R (ZM X Q nx sz mc ms) (nx, sz, mc, ms) 8 [some (.ref 0), some (.int x1), some (.int x2)] [.int s0] h := by
  refine v_if_eq (tgt := 33) dX11_most_8 (by decide) (fun c0 => ?_) (fun c0 => ?_)
  · refine v_iconst dX11_most_33 ci_0 ?_
    exact v_zret (ty := .boolean) dX11_most_34 rfl rfl (hq c0)
  · refine v_iload_n dX11_most_11 rfl ?_
    refine v_if_lt (tgt := 33) dX11_most_12 (by decide) (fun c1 => ?_) (fun c1 => ?_)
    · refine v_iconst dX11_most_33 ci_0 ?_
      exact v_zret (ty := .boolean) dX11_most_34 rfl rfl (hq_1 c0 c1)
    · refine v_iload_n dX11_most_15 rfl ?_
      refine v_bipush dX11_most_16 cb_9 ?_
      refine v_icmp_gt (tgt := 33) dX11_most_18 (by decide) (fun c2 => ?_) (fun c2 => ?_)
      · refine v_iconst dX11_most_33 ci_0 ?_
        exact v_zret (ty := .boolean) dX11_most_34 rfl rfl (hq_2 c0 c1 c2)
      · refine v_iload_n dX11_most_21 rfl ?_
        refine v_aload_n dX11_most_22 rfl ?_
        refine v_getR dX11_most_23 fl_RX11_27 kd_0 (ltA hA0 rfl) rfl (hF 0 1 1 rfl) ?_
        refine v_iload_n dX11_most_26 rfl ?_
        exact v_cVI (mt := m_X11_most) mo_X3_degree ml_RX11_164 mi_X3_degree mv_X3_degree rfl kd_1 cl_3 rfl (ltA hA0 rfl) hR hcs (Nat.le_of_ble_eq_true rfl) dX11_most_27 rfl (hM c0 c1 c2) (fun y g hp => ((q c0 c1 c2) y g hp))
theorem c_X11_most_30 {X : CX} {R : Room} {Q : Option Value → AH → Prop} {nx sz mc ms : Nat} {h : AH} {x1 x2 s0 s1 : Int32} (hA0 : 91 ≤ nx) (hF : Fx h) (hi_44 : s1 ≤ s0 → vp_in x1 20) (hq : s1 ≤ s0 → Q (some (.int 1)) (setI h 3 x1.toNatClampNeg x2)) (hq_1 : ¬ s1 ≤ s0 → Q (some (.int 0)) h) : V X m_X11_most R (ZM X Q nx sz mc ms) (nx, sz, mc, ms) 30 [some (.ref 0), some (.int x1), some (.int x2)] [.int s1, .int s0] h := by
  refine v_icmp_ge (tgt := 35) dX11_most_30 (by decide) (fun c0 => ?_) (fun c0 => ?_)
  · refine v_aload_n dX11_most_35 rfl ?_
    refine v_getR dX11_most_36 fl_RX11_27 kd_0 (ltA hA0 rfl) rfl (hF 0 1 1 rfl) ?_
    refine v_getR dX11_most_39 fl_RX11_167 kd_1 (ltA hA0 rfl) rfl (hF 1 3 3 rfl) ?_
    refine v_iload_n dX11_most_42 rfl ?_
    refine v_iload_n dX11_most_43 rfl ?_
    refine v_iast dX11_most_44 kd_3 (ltA hA0 rfl) (hi_44 c0) ?_
    refine v_iconst dX11_most_45 ci_1 ?_
    exact v_zret (ty := .boolean) dX11_most_46 rfl rfl (hq c0)
  · refine v_iconst dX11_most_33 ci_0 ?_
    exact v_zret (ty := .boolean) dX11_most_34 rfl rfl (hq_1 c0)
theorem e_X11_tie {X : CX} {d nx sz : Nat} {Q : Option Value → AH → Prop} {h : AH} {x1 x2 : Int32} (q : V X m_X11_tie (rm d 0 0) (ZM X Q nx sz 0 0) (nx, sz, 0, 0) 0 [some (.ref 0), some (.int x1), some (.int x2)] [] h) : Mk X d m_X11_tie [.ref 0, .int x1, .int x2] h nx sz Q := by
  refine Mok.ofV mo_X11_tie (Nat.le_of_ble_eq_true rfl) (L := [some (.ref 0), some (.int x1), some (.int x2)]) (lvLe_s (lvLe_s (lvLe_s lvLe_e))) (v_grow (n := 0) ?_)
  exact q
theorem c_X11_tie_0 {X : CX} {R : Room} {Z : ZX} {A : AX} {h : AH} {x1 x2 : Int32} {d : Nat} {P6 : Int32 → AH → Prop} (hA0 : 91 ≤ A.1) (hF : Fx h) (hR : RO R (d + 1)) (hcs : A.2.2.1 ≤ R.cells ∧ A.2.2.2 ≤ R.slots) (hM : Mk X d m_X3_hasTwo [.ref 1, .int x1, .int x2] h A.1 A.2.1 (RI P6)) (q : ∀ (y : Int32) (g : AH), P6 y g → V X m_X11_tie R Z A 9 [some (.ref 0), some (.int x1), some (.int x2)] [.int y] g) : V X m_X11_tie R Z A 0 [some (.ref 0), some (.int x1), some (.int x2)] [] h := by
  refine v_aload_n dX11_tie_0 rfl ?_
  refine v_getR dX11_tie_1 fl_RX11_27 kd_0 (ltA hA0 rfl) rfl (hF 0 1 1 rfl) ?_
  refine v_iload_n dX11_tie_4 rfl ?_
  refine v_iload_n dX11_tie_5 rfl ?_
  exact v_cVI (mt := m_X11_tie) mo_X3_hasTwo ml_RX11_170 mi_X3_hasTwo mv_X3_hasTwo rfl kd_1 cl_3 rfl (ltA hA0 rfl) hR hcs (Nat.le_of_ble_eq_true rfl) dX11_tie_6 rfl hM (fun y g hp => (q y g hp))
theorem c_X11_tie_9 {X : CX} {R : Room} {Q : Option Value → AH → Prop} {nx sz mc ms : Nat} {h : AH} {x1 x2 s0 : Int32} {d : Nat} {P18 : Int32 → AH → Prop} (hA0 : 91 ≤ nx) (hF : Fx h) (hR : RO R (d + 1)) (hcs : mc ≤ R.cells ∧ ms ≤ R.slots) (hq : s0 = 0 → Q (some (.int 0)) h) (hM : ¬ s0 = 0 → Mk X d m_X3_tied [.ref 1, .int x1, .int x2] h nx sz (RI P18)) (q : ¬ s0 = 0 → ∀ (y : Int32) (g : AH), P18 y g → V X m_X11_tie R (ZM X Q nx sz mc ms) (nx, sz, mc, ms) 21 [some (.ref 0), some (.int x1), some (.int x2)] [.int y] g) : V X m_X11_tie R (ZM X Q nx sz mc ms) (nx, sz, mc, ms) 9 [some (.ref 0), some (.int x1), some (.int x2)] [.int s0] h := by
  refine v_if_eq (tgt := 46) dX11_tie_9 (by decide) (fun c0 => ?_) (fun c0 => ?_)
  · refine v_iconst dX11_tie_46 ci_0 ?_
    exact v_zret (ty := .boolean) dX11_tie_47 rfl rfl (hq c0)
  · refine v_aload_n dX11_tie_12 rfl ?_
    refine v_getR dX11_tie_13 fl_RX11_27 kd_0 (ltA hA0 rfl) rfl (hF 0 1 1 rfl) ?_
    refine v_iload_n dX11_tie_16 rfl ?_
    refine v_iload_n dX11_tie_17 rfl ?_
    exact v_cVI (mt := m_X11_tie) mo_X3_tied ml_RX11_174 mi_X3_tied mv_X3_tied rfl kd_1 cl_3 rfl (ltA hA0 rfl) hR hcs (Nat.le_of_ble_eq_true rfl) dX11_tie_18 rfl (hM c0) (fun y g hp => ((q c0) y g hp))
theorem c_X11_tie_21 {X : CX} {R : Room} {Q : Option Value → AH → Prop} {nx sz mc ms : Nat} {h : AH} {x1 x2 s0 : Int32} {d : Nat} {P29 : Int32 → AH → Prop} (hA0 : 91 ≤ nx) (hF : Fx h) (hR : RO R (d + 1)) (hcs : mc ≤ R.cells ∧ ms ≤ R.slots) (hq : ¬ s0 = 0 → Q (some (.int 0)) h) (hM : s0 = 0 → Mk X d m_X3_full [.ref 1, .int x1] h nx sz (RI P29)) (q : s0 = 0 → ∀ (y : Int32) (g : AH), P29 y g → V X m_X11_tie R (ZM X Q nx sz mc ms) (nx, sz, mc, ms) 32 [some (.ref 0), some (.int x1), some (.int x2)] [.int y] g) : V X m_X11_tie R (ZM X Q nx sz mc ms) (nx, sz, mc, ms) 21 [some (.ref 0), some (.int x1), some (.int x2)] [.int s0] h := by
  refine v_if_ne (tgt := 46) dX11_tie_21 (by decide) (fun c0 => ?_) (fun c0 => ?_)
  · refine v_iconst dX11_tie_46 ci_0 ?_
    exact v_zret (ty := .boolean) dX11_tie_47 rfl rfl (hq c0)
  · refine v_aload_n dX11_tie_24 rfl ?_
    refine v_getR dX11_tie_25 fl_RX11_27 kd_0 (ltA hA0 rfl) rfl (hF 0 1 1 rfl) ?_
    refine v_iload_n dX11_tie_28 rfl ?_
    exact v_cVI (mt := m_X11_tie) mo_X3_full ml_RX11_177 mi_X3_full mv_X3_full rfl kd_1 cl_3 rfl (ltA hA0 rfl) hR hcs (Nat.le_of_ble_eq_true rfl) dX11_tie_29 rfl (hM c0) (fun y g hp => ((q c0) y g hp))
theorem c_X11_tie_32 {X : CX} {R : Room} {Q : Option Value → AH → Prop} {nx sz mc ms : Nat} {h : AH} {x1 x2 s0 : Int32} {d : Nat} {P40 : Int32 → AH → Prop} (hA0 : 91 ≤ nx) (hF : Fx h) (hR : RO R (d + 1)) (hcs : mc ≤ R.cells ∧ ms ≤ R.slots) (hq : ¬ s0 = 0 → Q (some (.int 0)) h) (hM : s0 = 0 → Mk X d m_X3_full [.ref 1, .int x2] h nx sz (RI P40)) (q : s0 = 0 → ∀ (y : Int32) (g : AH), P40 y g → V X m_X11_tie R (ZM X Q nx sz mc ms) (nx, sz, mc, ms) 43 [some (.ref 0), some (.int x1), some (.int x2)] [.int y] g) : V X m_X11_tie R (ZM X Q nx sz mc ms) (nx, sz, mc, ms) 32 [some (.ref 0), some (.int x1), some (.int x2)] [.int s0] h := by
  refine v_if_ne (tgt := 46) dX11_tie_32 (by decide) (fun c0 => ?_) (fun c0 => ?_)
  · refine v_iconst dX11_tie_46 ci_0 ?_
    exact v_zret (ty := .boolean) dX11_tie_47 rfl rfl (hq c0)
  · refine v_aload_n dX11_tie_35 rfl ?_
    refine v_getR dX11_tie_36 fl_RX11_27 kd_0 (ltA hA0 rfl) rfl (hF 0 1 1 rfl) ?_
    refine v_iload_n dX11_tie_39 rfl ?_
    exact v_cVI (mt := m_X11_tie) mo_X3_full ml_RX11_177 mi_X3_full mv_X3_full rfl kd_1 cl_3 rfl (ltA hA0 rfl) hR hcs (Nat.le_of_ble_eq_true rfl) dX11_tie_40 rfl (hM c0) (fun y g hp => ((q c0) y g hp))
theorem c_X11_tie_43 {X : CX} {R : Room} {Q : Option Value → AH → Prop} {nx sz mc ms : Nat} {h : AH} {x1 x2 s0 : Int32} {d : Nat} {P54 : AH → Prop} (hA0 : 91 ≤ nx) (hF : Fx h) (hR : RO R (d + 1)) (hcs : mc ≤ R.cells ∧ ms ≤ R.slots) (hM : s0 = 0 → Mk X d m_X3_join [.ref 1, .int x1, .int x2] h nx sz (RV P54)) (q : s0 = 0 → ∀ (g : AH), P54 g → V X m_X11_tie R (ZM X Q nx sz mc ms) (nx, sz, mc, ms) 57 [none, none, none] [] g) (hq : ¬ s0 = 0 → Q (some (.int 0)) h) : V X m_X11_tie R (ZM X Q nx sz mc ms) (nx, sz, mc, ms) 43 [some (.ref 0), some (.int x1), some (.int x2)] [.int s0] h := by
  refine v_if_eq (tgt := 48) dX11_tie_43 (by decide) (fun c0 => ?_) (fun c0 => ?_)
  · refine v_aload_n dX11_tie_48 rfl ?_
    refine v_getR dX11_tie_49 fl_RX11_27 kd_0 (ltA hA0 rfl) rfl (hF 0 1 1 rfl) ?_
    refine v_iload_n dX11_tie_52 rfl ?_
    refine v_iload_n dX11_tie_53 rfl ?_
    exact v_cVV (mt := m_X11_tie) mo_X3_join ml_RX11_180 mi_X3_join mv_X3_join rfl kd_1 cl_3 rfl (ltA hA0 rfl) hR hcs (Nat.le_of_ble_eq_true rfl) dX11_tie_54 rfl (hM c0) (fun g hp => (v_drop (lvLe_n (lvLe_n (lvLe_n lvLe_e))) ((q c0) g hp)))
  · refine v_iconst dX11_tie_46 ci_0 ?_
    exact v_zret (ty := .boolean) dX11_tie_47 rfl rfl (hq c0)
theorem c_X11_tie_57 {X : CX} {R : Room} {Q : Option Value → AH → Prop} {nx sz mc ms : Nat} {h : AH} (hq : Q (some (.int 1)) h) : V X m_X11_tie R (ZM X Q nx sz mc ms) (nx, sz, mc, ms) 57 [none, none, none] [] h := by
  refine v_iconst dX11_tie_57 ci_1 ?_
  exact v_zret (ty := .boolean) dX11_tie_58 rfl rfl hq
theorem e_X11_drop {X : CX} {d nx sz : Nat} {Q : Option Value → AH → Prop} {h : AH} {x1 x2 : Int32} (q : V X m_X11_drop (rm d 0 0) (ZM X Q nx sz 0 0) (nx, sz, 0, 0) 0 [some (.ref 0), some (.int x1), some (.int x2)] [] h) : Mk X d m_X11_drop [.ref 0, .int x1, .int x2] h nx sz Q := by
  refine Mok.ofV mo_X11_drop (Nat.le_of_ble_eq_true rfl) (L := [some (.ref 0), some (.int x1), some (.int x2)]) (lvLe_s (lvLe_s (lvLe_s lvLe_e))) (v_grow (n := 0) ?_)
  exact q
theorem c_X11_drop_0 {X : CX} {R : Room} {Z : ZX} {A : AX} {h : AH} {x1 x2 : Int32} {d : Nat} {P6 : Int32 → AH → Prop} (hA0 : 91 ≤ A.1) (hF : Fx h) (hR : RO R (d + 1)) (hcs : A.2.2.1 ≤ R.cells ∧ A.2.2.2 ≤ R.slots) (hM : Mk X d m_X3_tied [.ref 1, .int x1, .int x2] h A.1 A.2.1 (RI P6)) (q : ∀ (y : Int32) (g : AH), P6 y g → V X m_X11_drop R Z A 9 [some (.ref 0), some (.int x1), some (.int x2)] [.int y] g) : V X m_X11_drop R Z A 0 [some (.ref 0), some (.int x1), some (.int x2)] [] h := by
  refine v_aload_n dX11_drop_0 rfl ?_
  refine v_getR dX11_drop_1 fl_RX11_27 kd_0 (ltA hA0 rfl) rfl (hF 0 1 1 rfl) ?_
  refine v_iload_n dX11_drop_4 rfl ?_
  refine v_iload_n dX11_drop_5 rfl ?_
  exact v_cVI (mt := m_X11_drop) mo_X3_tied ml_RX11_174 mi_X3_tied mv_X3_tied rfl kd_1 cl_3 rfl (ltA hA0 rfl) hR hcs (Nat.le_of_ble_eq_true rfl) dX11_drop_6 rfl hM (fun y g hp => (q y g hp))
theorem c_X11_drop_9 {X : CX} {R : Room} {Q : Option Value → AH → Prop} {nx sz mc ms : Nat} {h : AH} {x1 x2 s0 : Int32} {d : Nat} {P20 : AH → Prop} (hA0 : 91 ≤ nx) (hF : Fx h) (hR : RO R (d + 1)) (hcs : mc ≤ R.cells ∧ ms ≤ R.slots) (hM : ¬ s0 = 0 → Mk X d m_X3_part [.ref 1, .int x1, .int x2] h nx sz (RV P20)) (q : ¬ s0 = 0 → ∀ (g : AH), P20 g → V X m_X11_drop R (ZM X Q nx sz mc ms) (nx, sz, mc, ms) 23 [none, none, none] [] g) (hq : s0 = 0 → Q (some (.int 0)) h) : V X m_X11_drop R (ZM X Q nx sz mc ms) (nx, sz, mc, ms) 9 [some (.ref 0), some (.int x1), some (.int x2)] [.int s0] h := by
  refine v_if_ne (tgt := 14) dX11_drop_9 (by decide) (fun c0 => ?_) (fun c0 => ?_)
  · refine v_aload_n dX11_drop_14 rfl ?_
    refine v_getR dX11_drop_15 fl_RX11_27 kd_0 (ltA hA0 rfl) rfl (hF 0 1 1 rfl) ?_
    refine v_iload_n dX11_drop_18 rfl ?_
    refine v_iload_n dX11_drop_19 rfl ?_
    exact v_cVV (mt := m_X11_drop) mo_X3_part ml_RX11_184 mi_X3_part mv_X3_part rfl kd_1 cl_3 rfl (ltA hA0 rfl) hR hcs (Nat.le_of_ble_eq_true rfl) dX11_drop_20 rfl (hM c0) (fun g hp => (v_drop (lvLe_n (lvLe_n (lvLe_n lvLe_e))) ((q c0) g hp)))
  · refine v_iconst dX11_drop_12 ci_0 ?_
    exact v_zret (ty := .boolean) dX11_drop_13 rfl rfl (hq c0)
theorem c_X11_drop_23 {X : CX} {R : Room} {Q : Option Value → AH → Prop} {nx sz mc ms : Nat} {h : AH} (hq : Q (some (.int 1)) h) : V X m_X11_drop R (ZM X Q nx sz mc ms) (nx, sz, mc, ms) 23 [none, none, none] [] h := by
  refine v_iconst dX11_drop_23 ci_1 ?_
  exact v_zret (ty := .boolean) dX11_drop_24 rfl rfl hq
theorem e_X11_far {X : CX} {d nx sz : Nat} {Q : Option Value → AH → Prop} {h : AH} {x1 x2 : Int32} (q : V X m_X11_far (rm d 0 0) (ZM X Q nx sz 0 0) (nx, sz, 0, 0) 0 [some (.ref 0), some (.int x1), some (.int x2)] [] h) : Mk X d m_X11_far [.ref 0, .int x1, .int x2] h nx sz Q := by
  refine Mok.ofV mo_X11_far (Nat.le_of_ble_eq_true rfl) (L := [some (.ref 0), some (.int x1), some (.int x2)]) (lvLe_s (lvLe_s (lvLe_s lvLe_e))) (v_grow (n := 0) ?_)
  exact q
theorem c_X11_far_0 {X : CX} {R : Room} {Z : ZX} {A : AX} {h : AH} {x1 x2 : Int32} {d : Nat} {P5 : Int32 → AH → Prop} (hA0 : 91 ≤ A.1) (hF : Fx h) (hR : RO R (d + 1)) (hcs : A.2.2.1 ≤ R.cells ∧ A.2.2.2 ≤ R.slots) (hM : Mk X d m_X3_has [.ref 1, .int x1] h A.1 A.2.1 (RI P5)) (q : ∀ (y : Int32) (g : AH), P5 y g → V X m_X11_far R Z A 8 [some (.ref 0), some (.int x1), some (.int x2)] [.int y] g) : V X m_X11_far R Z A 0 [some (.ref 0), some (.int x1), some (.int x2)] [] h := by
  refine v_aload_n dX11_far_0 rfl ?_
  refine v_getR dX11_far_1 fl_RX11_27 kd_0 (ltA hA0 rfl) rfl (hF 0 1 1 rfl) ?_
  refine v_iload_n dX11_far_4 rfl ?_
  exact v_cVI (mt := m_X11_far) mo_X3_has ml_RX11_160 mi_X3_has mv_X3_has rfl kd_1 cl_3 rfl (ltA hA0 rfl) hR hcs (Nat.le_of_ble_eq_true rfl) dX11_far_5 rfl hM (fun y g hp => (q y g hp))
theorem c_X11_far_8 {X : CX} {R : Room} {Q : Option Value → AH → Prop} {nx sz mc ms : Nat} {h : AH} {x1 x2 s0 : Int32} {d : Nat} {P16 : Int32 → AH → Prop} (hA0 : 91 ≤ nx) (hF : Fx h) (hR : RO R (d + 1)) (hcs : mc ≤ R.cells ∧ ms ≤ R.slots) (hq : s0 = 0 → Q (some (.int (-1))) h) (hM : ¬ s0 = 0 → Mk X d m_X3_has [.ref 1, .int x2] h nx sz (RI P16)) (q : ¬ s0 = 0 → ∀ (y : Int32) (g : AH), P16 y g → V X m_X11_far R (ZM X Q nx sz mc ms) (nx, sz, mc, ms) 19 [some (.ref 0), some (.int x1), some (.int x2)] [.int y] g) : V X m_X11_far R (ZM X Q nx sz mc ms) (nx, sz, mc, ms) 8 [some (.ref 0), some (.int x1), some (.int x2)] [.int s0] h := by
  refine v_if_eq (tgt := 41) dX11_far_8 (by decide) (fun c0 => ?_) (fun c0 => ?_)
  · refine v_iconst dX11_far_41 ci_m1 ?_
    exact v_iret dX11_far_42 rfl (hq c0)
  · refine v_aload_n dX11_far_11 rfl ?_
    refine v_getR dX11_far_12 fl_RX11_27 kd_0 (ltA hA0 rfl) rfl (hF 0 1 1 rfl) ?_
    refine v_iload_n dX11_far_15 rfl ?_
    exact v_cVI (mt := m_X11_far) mo_X3_has ml_RX11_160 mi_X3_has mv_X3_has rfl kd_1 cl_3 rfl (ltA hA0 rfl) hR hcs (Nat.le_of_ble_eq_true rfl) dX11_far_16 rfl (hM c0) (fun y g hp => ((q c0) y g hp))
theorem c_X11_far_19 {X : CX} {R : Room} {Q : Option Value → AH → Prop} {nx sz mc ms : Nat} {h : AH} {x1 x2 s0 : Int32} {d : Nat} {P35 : Int32 → AH → Prop} (hA0 : 91 ≤ nx) (hF : Fx h) (hR : RO R (d + 1)) (hcs : mc ≤ R.cells ∧ ms ≤ R.slots) (hq : s0 = 0 → Q (some (.int (-1))) h) (hM : ¬ s0 = 0 → Mk X d m_X3_distance [.ref 1, .int x1, .int x2, .int (h.1 1 1)] h nx sz (RI P35)) (q : ¬ s0 = 0 → ∀ (y : Int32) (g : AH), P35 y g → V X m_X11_far R (ZM X Q nx sz mc ms) (nx, sz, mc, ms) 38 [none, none, none] [.int y] g) : V X m_X11_far R (ZM X Q nx sz mc ms) (nx, sz, mc, ms) 19 [some (.ref 0), some (.int x1), some (.int x2)] [.int s0] h := by
  refine v_if_eq (tgt := 41) dX11_far_19 (by decide) (fun c0 => ?_) (fun c0 => ?_)
  · refine v_iconst dX11_far_41 ci_m1 ?_
    exact v_iret dX11_far_42 rfl (hq c0)
  · refine v_aload_n dX11_far_22 rfl ?_
    refine v_getR dX11_far_23 fl_RX11_27 kd_0 (ltA hA0 rfl) rfl (hF 0 1 1 rfl) ?_
    refine v_iload_n dX11_far_26 rfl ?_
    refine v_iload_n dX11_far_27 rfl ?_
    refine v_aload_n dX11_far_28 rfl ?_
    refine v_getR dX11_far_29 fl_RX11_27 kd_0 (ltA hA0 rfl) rfl (hF 0 1 1 rfl) ?_
    refine v_getI dX11_far_32 fl_RX11_194 kd_1 (ltA hA0 rfl) rfl ?_
    exact v_cVI (mt := m_X11_far) mo_X3_distance ml_RX11_197 mi_X3_distance mv_X3_distance rfl kd_1 cl_3 rfl (ltA hA0 rfl) hR hcs (Nat.le_of_ble_eq_true rfl) dX11_far_35 rfl (hM c0) (fun y g hp => (v_drop (lvLe_n (lvLe_n (lvLe_n lvLe_e))) ((q c0) y g hp)))
theorem c_X11_far_38 {X : CX} {R : Room} {Q : Option Value → AH → Prop} {nx sz mc ms : Nat} {h : AH} {s0 : Int32} (hq : Q (some (.int s0)) h) : V X m_X11_far R (ZM X Q nx sz mc ms) (nx, sz, mc, ms) 38 [none, none, none] [.int s0] h := by
  refine v_goto (tgt := 42) dX11_far_38 (by decide) ?_
  exact v_iret dX11_far_42 rfl hq
theorem e_X11_ways {X : CX} {d nx sz : Nat} {Q : Option Value → AH → Prop} {h : AH} {x1 x2 : Int32} (q : V X m_X11_ways (rm d 0 0) (ZM X Q nx sz 0 0) (nx, sz, 0, 0) 0 [some (.ref 0), some (.int x1), some (.int x2)] [] h) : Mk X d m_X11_ways [.ref 0, .int x1, .int x2] h nx sz Q := by
  refine Mok.ofV mo_X11_ways (Nat.le_of_ble_eq_true rfl) (L := [some (.ref 0), some (.int x1), some (.int x2)]) (lvLe_s (lvLe_s (lvLe_s lvLe_e))) (v_grow (n := 0) ?_)
  exact q
theorem c_X11_ways_0 {X : CX} {R : Room} {Z : ZX} {A : AX} {h : AH} {x1 x2 : Int32} {d : Nat} {P3 : Int32 → AH → Prop} (hA0 : 91 ≤ A.1) (hR : RO R (d + 1)) (hcs : A.2.2.1 ≤ R.cells ∧ A.2.2.2 ≤ R.slots) (hM : Mk X d m_X11_far [.ref 0, .int x1, .int x2] h A.1 A.2.1 (RI P3)) (q : ∀ (y : Int32) (g : AH), P3 y g → V X m_X11_ways R Z A 6 [some (.ref 0), some (.int x1), some (.int x2)] [.int y] g) : V X m_X11_ways R Z A 0 [some (.ref 0), some (.int x1), some (.int x2)] [] h := by
  refine v_aload_n dX11_ways_0 rfl ?_
  refine v_iload_n dX11_ways_1 rfl ?_
  refine v_iload_n dX11_ways_2 rfl ?_
  exact v_cVI (mt := m_X11_ways) mo_X11_far ml_RX11_201 mi_X11_far mv_X11_far rfl kd_0 cl_11 rfl (ltA hA0 rfl) hR hcs (Nat.le_of_ble_eq_true rfl) dX11_ways_3 rfl hM (fun y g hp => (q y g hp))
theorem c_X11_ways_6 {X : CX} {R : Room} {Z : ZX} {A : AX} {h : AH} {x1 x2 s0 : Int32} {d : Nat} {P22 : Int64 → AH → Prop} (hA0 : 91 ≤ A.1) (hF : Fx h) (hR : RO R (d + 1)) (hcs : A.2.2.1 ≤ R.cells ∧ A.2.2.2 ≤ R.slots) (hM : ¬ s0 = (-1) → Mk X d m_X5_waysBetween [.ref 13, .int x1, .int x2] h A.1 A.2.1 (RJ P22)) (q : ¬ s0 = (-1) → ∀ (y : Int64) (g : AH), P22 y g → V X m_X11_ways R Z A 25 [none, none, none] [.long y] g) (q_1 : s0 = (-1) → V X m_X11_ways R Z A 25 [none, none, none] [.long (-1)] h) : V X m_X11_ways R Z A 6 [some (.ref 0), some (.int x1), some (.int x2)] [.int s0] h := by
  refine v_iconst dX11_ways_6 ci_m1 ?_
  refine v_icmp_ne (tgt := 16) dX11_ways_7 (by decide) (fun c0 => ?_) (fun c0 => ?_)
  · refine v_aload_n dX11_ways_16 rfl ?_
    refine v_getR dX11_ways_17 fl_RX11_42 kd_0 (ltA hA0 rfl) rfl (hF 0 4 13 rfl) ?_
    refine v_iload_n dX11_ways_20 rfl ?_
    refine v_iload_n dX11_ways_21 rfl ?_
    exact v_cVL (mt := m_X11_ways) mo_X5_waysBetween ml_RX11_206 mi_X5_waysBetween mv_X5_waysBetween rfl kd_13 cl_5 rfl (ltA hA0 rfl) hR hcs (Nat.le_of_ble_eq_true rfl) dX11_ways_22 rfl (hM c0) (fun y g hp => (v_drop (lvLe_n (lvLe_n (lvLe_n lvLe_e))) ((q c0) y g hp)))
  · refine v_ldc2 dX11_ways_10 kl_RX11_204 ?_
    refine v_goto (tgt := 25) dX11_ways_13 (by decide) ?_
    exact (v_drop (lvLe_n (lvLe_n (lvLe_n lvLe_e))) (q_1 c0))
theorem c_X11_ways_25 {X : CX} {R : Room} {Q : Option Value → AH → Prop} {nx sz mc ms : Nat} {h : AH} {t0 : Int64} (hq : Q (some (.long t0)) h) : V X m_X11_ways R (ZM X Q nx sz mc ms) (nx, sz, mc, ms) 25 [none, none, none] [.long t0] h := by
  exact v_lret dX11_ways_25 rfl hq
theorem e_X11_over {X : CX} {d nx sz : Nat} {Q : Option Value → AH → Prop} {h : AH} {x1 x2 x3 : Int32} (q : V X m_X11_over (rm d 0 0) (ZM X Q nx sz 0 0) (nx, sz, 0, 0) 0 [some (.ref 0), some (.int x1), some (.int x2), some (.int x3)] [] h) : Mk X d m_X11_over [.ref 0, .int x1, .int x2, .int x3] h nx sz Q := by
  refine Mok.ofV mo_X11_over (Nat.le_of_ble_eq_true rfl) (L := [some (.ref 0), some (.int x1), some (.int x2), some (.int x3)]) (lvLe_s (lvLe_s (lvLe_s (lvLe_s lvLe_e)))) (v_grow (n := 0) ?_)
  exact q
theorem c_X11_over_0 {X : CX} {R : Room} {Z : ZX} {A : AX} {h : AH} {x1 x2 x3 : Int32} {d : Nat} {P3 : Int32 → AH → Prop} (hA0 : 91 ≤ A.1) (hR : RO R (d + 1)) (hcs : A.2.2.1 ≤ R.cells ∧ A.2.2.2 ≤ R.slots) (hM : Mk X d m_X11_far [.ref 0, .int x1, .int x2] h A.1 A.2.1 (RI P3)) (q : ∀ (y : Int32) (g : AH), P3 y g → V X m_X11_over R Z A 6 [some (.ref 0), some (.int x1), some (.int x2), some (.int x3)] [.int y] g) : V X m_X11_over R Z A 0 [some (.ref 0), some (.int x1), some (.int x2), some (.int x3)] [] h := by
  refine v_aload_n dX11_over_0 rfl ?_
  refine v_iload_n dX11_over_1 rfl ?_
  refine v_iload_n dX11_over_2 rfl ?_
  exact v_cVI (mt := m_X11_over) mo_X11_far ml_RX11_201 mi_X11_far mv_X11_far rfl kd_0 cl_11 rfl (ltA hA0 rfl) hR hcs (Nat.le_of_ble_eq_true rfl) dX11_over_3 rfl hM (fun y g hp => (q y g hp))
theorem c_X11_over_6 {X : CX} {R : Room} {Q : Option Value → AH → Prop} {nx sz mc ms : Nat} {h : AH} {x1 x2 x3 s0 : Int32} {d : Nat} {P37 P22 : Int32 → AH → Prop} (hA0 : 91 ≤ nx) (hF : Fx h) (hR : RO R (d + 1)) (hcs : mc ≤ R.cells ∧ ms ≤ R.slots) (hq : ¬ s0 = (-1) → ¬ x3 = 0 → ¬ x3 = 1 → Q (some (.int (-1))) h) (hM : ¬ s0 = (-1) → ¬ x3 = 0 → x3 = 1 → Mk X d m_X5_onSome [.ref 13, .int x1, .int x2] h nx sz (RI P37)) (q : ¬ s0 = (-1) → ¬ x3 = 0 → x3 = 1 → ∀ (y : Int32) (g : AH), P37 y g → V X m_X11_over R (ZM X Q nx sz mc ms) (nx, sz, mc, ms) 40 [none, none, none, none] [.int y] g) (hM_1 : ¬ s0 = (-1) → x3 = 0 → Mk X d m_X5_onAll [.ref 13, .int x1, .int x2] h nx sz (RI P22)) (q_1 : ¬ s0 = (-1) → x3 = 0 → ∀ (y : Int32) (g : AH), P22 y g → V X m_X11_over R (ZM X Q nx sz mc ms) (nx, sz, mc, ms) 25 [none, none, none, none] [.int y] g) (hq_1 : s0 = (-1) → Q (some (.int (-1))) h) : V X m_X11_over R (ZM X Q nx sz mc ms) (nx, sz, mc, ms) 6 [some (.ref 0), some (.int x1), some (.int x2), some (.int x3)] [.int s0] h := by
  refine v_iconst dX11_over_6 ci_m1 ?_
  refine v_icmp_ne (tgt := 12) dX11_over_7 (by decide) (fun c0 => ?_) (fun c0 => ?_)
  · refine v_iload_n dX11_over_12 rfl ?_
    refine v_if_ne (tgt := 26) dX11_over_13 (by decide) (fun c1 => ?_) (fun c1 => ?_)
    · refine v_iload_n dX11_over_26 rfl ?_
      refine v_iconst dX11_over_27 ci_1 ?_
      refine v_icmp_ne (tgt := 43) dX11_over_28 (by decide) (fun c2 => ?_) (fun c2 => ?_)
      · refine v_iconst dX11_over_43 ci_m1 ?_
        exact v_iret dX11_over_44 rfl (hq c0 c1 c2)
      · refine v_aload_n dX11_over_31 rfl ?_
        refine v_getR dX11_over_32 fl_RX11_42 kd_0 (ltA hA0 rfl) rfl (hF 0 4 13 rfl) ?_
        refine v_iload_n dX11_over_35 rfl ?_
        refine v_iload_n dX11_over_36 rfl ?_
        exact v_cVI (mt := m_X11_over) mo_X5_onSome ml_RX11_213 mi_X5_onSome mv_X5_onSome rfl kd_13 cl_5 rfl (ltA hA0 rfl) hR hcs (Nat.le_of_ble_eq_true rfl) dX11_over_37 rfl (hM c0 c1 c2) (fun y g hp => (v_drop (lvLe_n (lvLe_n (lvLe_n (lvLe_n lvLe_e)))) ((q c0 c1 c2) y g hp)))
    · refine v_aload_n dX11_over_16 rfl ?_
      refine v_getR dX11_over_17 fl_RX11_42 kd_0 (ltA hA0 rfl) rfl (hF 0 4 13 rfl) ?_
      refine v_iload_n dX11_over_20 rfl ?_
      refine v_iload_n dX11_over_21 rfl ?_
      exact v_cVI (mt := m_X11_over) mo_X5_onAll ml_RX11_210 mi_X5_onAll mv_X5_onAll rfl kd_13 cl_5 rfl (ltA hA0 rfl) hR hcs (Nat.le_of_ble_eq_true rfl) dX11_over_22 rfl (hM_1 c0 c1) (fun y g hp => (v_drop (lvLe_n (lvLe_n (lvLe_n (lvLe_n lvLe_e)))) ((q_1 c0 c1) y g hp)))
  · refine v_iconst dX11_over_10 ci_m1 ?_
    exact v_iret dX11_over_11 rfl (hq_1 c0)
theorem c_X11_over_25 {X : CX} {R : Room} {Q : Option Value → AH → Prop} {nx sz mc ms : Nat} {h : AH} {s0 : Int32} (hq : Q (some (.int s0)) h) : V X m_X11_over R (ZM X Q nx sz mc ms) (nx, sz, mc, ms) 25 [none, none, none, none] [.int s0] h := by
  exact v_iret dX11_over_25 rfl hq
theorem c_X11_over_40 {X : CX} {R : Room} {Q : Option Value → AH → Prop} {nx sz mc ms : Nat} {h : AH} {s0 : Int32} (hq : Q (some (.int s0)) h) : V X m_X11_over R (ZM X Q nx sz mc ms) (nx, sz, mc, ms) 40 [none, none, none, none] [.int s0] h := by
  refine v_goto (tgt := 44) dX11_over_40 (by decide) ?_
  exact v_iret dX11_over_44 rfl hq
theorem e_X11_of {X : CX} {d nx sz : Nat} {Q : Option Value → AH → Prop} {h : AH} {x1 x2 : Int32} (q : V X m_X11_of (rm d 0 0) (ZM X Q nx sz 0 0) (nx, sz, 0, 0) 0 [some (.ref 0), some (.int x1), some (.int x2)] [] h) : Mk X d m_X11_of [.ref 0, .int x1, .int x2] h nx sz Q := by
  refine Mok.ofV mo_X11_of (Nat.le_of_ble_eq_true rfl) (L := [some (.ref 0), some (.int x1), some (.int x2)]) (lvLe_s (lvLe_s (lvLe_s lvLe_e))) (v_grow (n := 0) ?_)
  exact q
theorem c_X11_of_0 {X : CX} {R : Room} {Z : ZX} {A : AX} {h : AH} {x1 x2 : Int32} {d : Nat} {P5 : Int32 → AH → Prop} (hA0 : 91 ≤ A.1) (hF : Fx h) (hR : RO R (d + 1)) (hcs : A.2.2.1 ≤ R.cells ∧ A.2.2.2 ≤ R.slots) (hM : Mk X d m_X3_has [.ref 1, .int x1] h A.1 A.2.1 (RI P5)) (q : ∀ (y : Int32) (g : AH), P5 y g → V X m_X11_of R Z A 8 [some (.ref 0), some (.int x1), some (.int x2)] [.int y] g) : V X m_X11_of R Z A 0 [some (.ref 0), some (.int x1), some (.int x2)] [] h := by
  refine v_aload_n dX11_of_0 rfl ?_
  refine v_getR dX11_of_1 fl_RX11_27 kd_0 (ltA hA0 rfl) rfl (hF 0 1 1 rfl) ?_
  refine v_iload_n dX11_of_4 rfl ?_
  exact v_cVI (mt := m_X11_of) mo_X3_has ml_RX11_160 mi_X3_has mv_X3_has rfl kd_1 cl_3 rfl (ltA hA0 rfl) hR hcs (Nat.le_of_ble_eq_true rfl) dX11_of_5 rfl hM (fun y g hp => (q y g hp))
theorem c_X11_of_8 {X : CX} {R : Room} {Q : Option Value → AH → Prop} {nx sz mc ms : Nat} {h : AH} {x1 x2 s0 : Int32} {d : Nat} {P53 P71 P80 : Int32 → AH → Prop} (hA0 : 91 ≤ nx) (hF : Fx h) (hR : RO R (d + 1)) (hcs : mc ≤ R.cells ∧ ms ≤ R.slots) (hq : ¬ s0 = 0 → ((x2 : Int32).toInt < 0 ∨ 4 < (x2 : Int32).toInt) → Q (some (.int (-1))) h) (hM : ¬ s0 = 0 → (x2 : Int32).toInt = 0 → Mk X d m_X3_sumOf [.ref 1, .int x1] h nx sz (RI P53)) (q : ¬ s0 = 0 → (x2 : Int32).toInt = 0 → ∀ (y : Int32) (g : AH), P53 y g → V X m_X11_of R (ZM X Q nx sz mc ms) (nx, sz, mc, ms) 56 [none, none, none] [.int y] g) (hM_1 : ¬ s0 = 0 → (x2 : Int32).toInt = 1 → Mk X d m_X3_reached [.ref 1, .int ((1 : Int32) <<< ((x1 : Int32) &&& 31)), .int (h.1 1 1)] h nx sz (RI P71)) (q_1 : ¬ s0 = 0 → (x2 : Int32).toInt = 1 → ∀ (y : Int32) (g : AH), P71 y g → V X m_X11_of R (ZM X Q nx sz mc ms) (nx, sz, mc, ms) 74 [none, none, none] [.int y] g) (hM_2 : ¬ s0 = 0 → (x2 : Int32).toInt = 2 → Mk X d m_X1_cutBy [.ref 20, .int x1] h nx sz (RI P80)) (q_2 : ¬ s0 = 0 → (x2 : Int32).toInt = 2 → ∀ (y : Int32) (g : AH), P80 y g → V X m_X11_of R (ZM X Q nx sz mc ms) (nx, sz, mc, ms) 83 [none, none, none] [.int y] g) (hi_92 : ¬ s0 = 0 → (x2 : Int32).toInt = 3 → vp_in x1 20) (hq_1 : ¬ s0 = 0 → (x2 : Int32).toInt = 3 → Q (some (.int (h.1 4 x1.toNatClampNeg))) h) (hi_102 : ¬ s0 = 0 → (x2 : Int32).toInt = 4 → vp_in x1 20) (hq_2 : ¬ s0 = 0 → (x2 : Int32).toInt = 4 → Q (some (.int (h.1 3 x1.toNatClampNeg))) h) (hq_3 : s0 = 0 → Q (some (.int (-1))) h) : V X m_X11_of R (ZM X Q nx sz mc ms) (nx, sz, mc, ms) 8 [some (.ref 0), some (.int x1), some (.int x2)] [.int s0] h := by
  refine v_if_ne (tgt := 13) dX11_of_8 (by decide) (fun c0 => ?_) (fun c0 => ?_)
  · refine v_iload_n dX11_of_13 rfl ?_
    rcases (by omega : ((x2 : Int32).toInt < 0 ∨ 4 < (x2 : Int32).toInt) ∨ (x2 : Int32).toInt = 0 ∨ (x2 : Int32).toInt = 1 ∨ (x2 : Int32).toInt = 2 ∨ (x2 : Int32).toInt = 3 ∨ (x2 : Int32).toInt = 4) with c1 | c1 | c1 | c1 | c1 | c1
    · refine v_tableOut (tgt := 104) dX11_of_14 c1 (by decide) ?_
      refine v_iconst dX11_of_104 ci_m1 ?_
      exact v_iret dX11_of_105 rfl (hq c0 c1)
    · refine v_tableIn (tgt := 48) (off := 34) dX11_of_14 (by rw [c1]; decide) (by rw [c1]; decide) (by rw [c1]; rfl) (by decide) ?_
      refine v_aload_n dX11_of_48 rfl ?_
      refine v_getR dX11_of_49 fl_RX11_27 kd_0 (ltA hA0 rfl) rfl (hF 0 1 1 rfl) ?_
      refine v_iload_n dX11_of_52 rfl ?_
      exact v_cVI (mt := m_X11_of) mo_X3_sumOf ml_RX11_216 mi_X3_sumOf mv_X3_sumOf rfl kd_1 cl_3 rfl (ltA hA0 rfl) hR hcs (Nat.le_of_ble_eq_true rfl) dX11_of_53 rfl (hM c0 c1) (fun y g hp => (v_drop (lvLe_n (lvLe_n (lvLe_n lvLe_e))) ((q c0 c1) y g hp)))
    · refine v_tableIn (tgt := 57) (off := 43) dX11_of_14 (by rw [c1]; decide) (by rw [c1]; decide) (by rw [c1]; rfl) (by decide) ?_
      refine v_aload_n dX11_of_57 rfl ?_
      refine v_getR dX11_of_58 fl_RX11_27 kd_0 (ltA hA0 rfl) rfl (hF 0 1 1 rfl) ?_
      refine v_iconst dX11_of_61 ci_1 ?_
      refine v_iload_n dX11_of_62 rfl ?_
      refine v_ishl dX11_of_63 ?_
      refine v_aload_n dX11_of_64 rfl ?_
      refine v_getR dX11_of_65 fl_RX11_27 kd_0 (ltA hA0 rfl) rfl (hF 0 1 1 rfl) ?_
      refine v_getI dX11_of_68 fl_RX11_194 kd_1 (ltA hA0 rfl) rfl ?_
      exact v_cVI (mt := m_X11_of) mo_X3_reached ml_RX11_219 mi_X3_reached mv_X3_reached rfl kd_1 cl_3 rfl (ltA hA0 rfl) hR hcs (Nat.le_of_ble_eq_true rfl) dX11_of_71 rfl (hM_1 c0 c1) (fun y g hp => (v_drop (lvLe_n (lvLe_n (lvLe_n lvLe_e))) ((q_1 c0 c1) y g hp)))
    · refine v_tableIn (tgt := 75) (off := 61) dX11_of_14 (by rw [c1]; decide) (by rw [c1]; decide) (by rw [c1]; rfl) (by decide) ?_
      refine v_aload_n dX11_of_75 rfl ?_
      refine v_getR dX11_of_76 fl_RX11_49 kd_0 (ltA hA0 rfl) rfl (hF 0 5 20 rfl) ?_
      refine v_iload_n dX11_of_79 rfl ?_
      exact v_cVI (mt := m_X11_of) mo_X1_cutBy ml_RX11_222 mi_X1_cutBy mv_X1_cutBy rfl kd_20 cl_1 rfl (ltA hA0 rfl) hR hcs (Nat.le_of_ble_eq_true rfl) dX11_of_80 rfl (hM_2 c0 c1) (fun y g hp => (v_drop (lvLe_n (lvLe_n (lvLe_n lvLe_e))) ((q_2 c0 c1) y g hp)))
    · refine v_tableIn (tgt := 84) (off := 70) dX11_of_14 (by rw [c1]; decide) (by rw [c1]; decide) (by rw [c1]; rfl) (by decide) ?_
      refine v_aload_n dX11_of_84 rfl ?_
      refine v_getR dX11_of_85 fl_RX11_27 kd_0 (ltA hA0 rfl) rfl (hF 0 1 1 rfl) ?_
      refine v_getR dX11_of_88 fl_RX11_225 kd_1 (ltA hA0 rfl) rfl (hF 1 4 4 rfl) ?_
      refine v_iload_n dX11_of_91 rfl ?_
      refine v_iald dX11_of_92 kd_4 (ltA hA0 rfl) (hi_92 c0 c1) ?_
      exact v_iret dX11_of_93 rfl (hq_1 c0 c1)
    · refine v_tableIn (tgt := 94) (off := 80) dX11_of_14 (by rw [c1]; decide) (by rw [c1]; decide) (by rw [c1]; rfl) (by decide) ?_
      refine v_aload_n dX11_of_94 rfl ?_
      refine v_getR dX11_of_95 fl_RX11_27 kd_0 (ltA hA0 rfl) rfl (hF 0 1 1 rfl) ?_
      refine v_getR dX11_of_98 fl_RX11_167 kd_1 (ltA hA0 rfl) rfl (hF 1 3 3 rfl) ?_
      refine v_iload_n dX11_of_101 rfl ?_
      refine v_iald dX11_of_102 kd_3 (ltA hA0 rfl) (hi_102 c0 c1) ?_
      exact v_iret dX11_of_103 rfl (hq_2 c0 c1)
  · refine v_iconst dX11_of_11 ci_m1 ?_
    exact v_iret dX11_of_12 rfl (hq_3 c0)
theorem c_X11_of_56 {X : CX} {R : Room} {Q : Option Value → AH → Prop} {nx sz mc ms : Nat} {h : AH} {s0 : Int32} (hq : Q (some (.int s0)) h) : V X m_X11_of R (ZM X Q nx sz mc ms) (nx, sz, mc, ms) 56 [none, none, none] [.int s0] h := by
  exact v_iret dX11_of_56 rfl hq
theorem c_X11_of_74 {X : CX} {R : Room} {Q : Option Value → AH → Prop} {nx sz mc ms : Nat} {h : AH} {s0 : Int32} (hq : Q (some (.int s0)) h) : V X m_X11_of R (ZM X Q nx sz mc ms) (nx, sz, mc, ms) 74 [none, none, none] [.int s0] h := by
  exact v_iret dX11_of_74 rfl hq
theorem c_X11_of_83 {X : CX} {R : Room} {Q : Option Value → AH → Prop} {nx sz mc ms : Nat} {h : AH} {s0 : Int32} (hq : Q (some (.int s0)) h) : V X m_X11_of R (ZM X Q nx sz mc ms) (nx, sz, mc, ms) 83 [none, none, none] [.int s0] h := by
  exact v_iret dX11_of_83 rfl hq
theorem e_X11_all {X : CX} {d nx sz : Nat} {Q : Option Value → AH → Prop} {h : AH} {x1 : Int32} (q : V X m_X11_all (rm d 0 0) (ZM X Q nx sz 0 0) (nx, sz, 0, 0) 0 [some (.ref 0), some (.int x1)] [] h) : Mk X d m_X11_all [.ref 0, .int x1] h nx sz Q := by
  refine Mok.ofV mo_X11_all (Nat.le_of_ble_eq_true rfl) (L := [some (.ref 0), some (.int x1)]) (lvLe_s (lvLe_s lvLe_e)) (v_grow (n := 0) ?_)
  exact q
theorem c_X11_all_0 {X : CX} {R : Room} {Q : Option Value → AH → Prop} {nx sz mc ms : Nat} {h : AH} {x1 : Int32} {d : Nat} {P40 P48 P56 P64 P72 : Int32 → AH → Prop} (hA0 : 91 ≤ nx) (hF : Fx h) (hR : RO R (d + 1)) (hcs : mc ≤ R.cells ∧ ms ≤ R.slots) (hq : ((x1 : Int32).toInt < 0 ∨ 4 < (x1 : Int32).toInt) → Q (some (.int (-1))) h) (hM : (x1 : Int32).toInt = 0 → Mk X d m_X3_widest [.ref 1] h nx sz (RI P40)) (q : (x1 : Int32).toInt = 0 → ∀ (y : Int32) (g : AH), P40 y g → V X m_X11_all R (ZM X Q nx sz mc ms) (nx, sz, mc, ms) 43 [none, none] [.int y] g) (hM_1 : (x1 : Int32).toInt = 1 → Mk X d m_X1_parts [.ref 20] h nx sz (RI P48)) (q_1 : (x1 : Int32).toInt = 1 → ∀ (y : Int32) (g : AH), P48 y g → V X m_X11_all R (ZM X Q nx sz mc ms) (nx, sz, mc, ms) 51 [none, none] [.int y] g) (hM_2 : (x1 : Int32).toInt = 2 → Mk X d m_X1_keyOnes [.ref 20] h nx sz (RI P56)) (q_2 : (x1 : Int32).toInt = 2 → ∀ (y : Int32) (g : AH), P56 y g → V X m_X11_all R (ZM X Q nx sz mc ms) (nx, sz, mc, ms) 59 [none, none] [.int y] g) (hM_3 : (x1 : Int32).toInt = 3 → Mk X d m_X3_tieCount [.ref 1] h nx sz (RI P64)) (q_3 : (x1 : Int32).toInt = 3 → ∀ (y : Int32) (g : AH), P64 y g → V X m_X11_all R (ZM X Q nx sz mc ms) (nx, sz, mc, ms) 67 [none, none] [.int y] g) (hM_4 : (x1 : Int32).toInt = 4 → Mk X d m_X3_sums [.ref 1] h nx sz (RI P72)) (q_4 : (x1 : Int32).toInt = 4 → ∀ (y : Int32) (g : AH), P72 y g → V X m_X11_all R (ZM X Q nx sz mc ms) (nx, sz, mc, ms) 75 [none, none] [.int y] g) : V X m_X11_all R (ZM X Q nx sz mc ms) (nx, sz, mc, ms) 0 [some (.ref 0), some (.int x1)] [] h := by
  refine v_iload_n dX11_all_0 rfl ?_
  rcases (by omega : ((x1 : Int32).toInt < 0 ∨ 4 < (x1 : Int32).toInt) ∨ (x1 : Int32).toInt = 0 ∨ (x1 : Int32).toInt = 1 ∨ (x1 : Int32).toInt = 2 ∨ (x1 : Int32).toInt = 3 ∨ (x1 : Int32).toInt = 4) with c0 | c0 | c0 | c0 | c0 | c0
  · refine v_tableOut (tgt := 76) dX11_all_1 c0 (by decide) ?_
    refine v_iconst dX11_all_76 ci_m1 ?_
    exact v_iret dX11_all_77 rfl (hq c0)
  · refine v_tableIn (tgt := 36) (off := 35) dX11_all_1 (by rw [c0]; decide) (by rw [c0]; decide) (by rw [c0]; rfl) (by decide) ?_
    refine v_aload_n dX11_all_36 rfl ?_
    refine v_getR dX11_all_37 fl_RX11_27 kd_0 (ltA hA0 rfl) rfl (hF 0 1 1 rfl) ?_
    exact v_cVI (mt := m_X11_all) mo_X3_widest ml_RX11_228 mi_X3_widest mv_X3_widest rfl kd_1 cl_3 rfl (ltA hA0 rfl) hR hcs (Nat.le_of_ble_eq_true rfl) dX11_all_40 rfl (hM c0) (fun y g hp => (v_drop (lvLe_n (lvLe_n lvLe_e)) ((q c0) y g hp)))
  · refine v_tableIn (tgt := 44) (off := 43) dX11_all_1 (by rw [c0]; decide) (by rw [c0]; decide) (by rw [c0]; rfl) (by decide) ?_
    refine v_aload_n dX11_all_44 rfl ?_
    refine v_getR dX11_all_45 fl_RX11_49 kd_0 (ltA hA0 rfl) rfl (hF 0 5 20 rfl) ?_
    exact v_cVI (mt := m_X11_all) mo_X1_parts ml_RX11_231 mi_X1_parts mv_X1_parts rfl kd_20 cl_1 rfl (ltA hA0 rfl) hR hcs (Nat.le_of_ble_eq_true rfl) dX11_all_48 rfl (hM_1 c0) (fun y g hp => (v_drop (lvLe_n (lvLe_n lvLe_e)) ((q_1 c0) y g hp)))
  · refine v_tableIn (tgt := 52) (off := 51) dX11_all_1 (by rw [c0]; decide) (by rw [c0]; decide) (by rw [c0]; rfl) (by decide) ?_
    refine v_aload_n dX11_all_52 rfl ?_
    refine v_getR dX11_all_53 fl_RX11_49 kd_0 (ltA hA0 rfl) rfl (hF 0 5 20 rfl) ?_
    exact v_cVI (mt := m_X11_all) mo_X1_keyOnes ml_RX11_234 mi_X1_keyOnes mv_X1_keyOnes rfl kd_20 cl_1 rfl (ltA hA0 rfl) hR hcs (Nat.le_of_ble_eq_true rfl) dX11_all_56 rfl (hM_2 c0) (fun y g hp => (v_drop (lvLe_n (lvLe_n lvLe_e)) ((q_2 c0) y g hp)))
  · refine v_tableIn (tgt := 60) (off := 59) dX11_all_1 (by rw [c0]; decide) (by rw [c0]; decide) (by rw [c0]; rfl) (by decide) ?_
    refine v_aload_n dX11_all_60 rfl ?_
    refine v_getR dX11_all_61 fl_RX11_27 kd_0 (ltA hA0 rfl) rfl (hF 0 1 1 rfl) ?_
    exact v_cVI (mt := m_X11_all) mo_X3_tieCount ml_RX11_145 mi_X3_tieCount mv_X3_tieCount rfl kd_1 cl_3 rfl (ltA hA0 rfl) hR hcs (Nat.le_of_ble_eq_true rfl) dX11_all_64 rfl (hM_3 c0) (fun y g hp => (v_drop (lvLe_n (lvLe_n lvLe_e)) ((q_3 c0) y g hp)))
  · refine v_tableIn (tgt := 68) (off := 67) dX11_all_1 (by rw [c0]; decide) (by rw [c0]; decide) (by rw [c0]; rfl) (by decide) ?_
    refine v_aload_n dX11_all_68 rfl ?_
    refine v_getR dX11_all_69 fl_RX11_27 kd_0 (ltA hA0 rfl) rfl (hF 0 1 1 rfl) ?_
    exact v_cVI (mt := m_X11_all) mo_X3_sums ml_RX11_237 mi_X3_sums mv_X3_sums rfl kd_1 cl_3 rfl (ltA hA0 rfl) hR hcs (Nat.le_of_ble_eq_true rfl) dX11_all_72 rfl (hM_4 c0) (fun y g hp => (v_drop (lvLe_n (lvLe_n lvLe_e)) ((q_4 c0) y g hp)))
theorem c_X11_all_43 {X : CX} {R : Room} {Q : Option Value → AH → Prop} {nx sz mc ms : Nat} {h : AH} {s0 : Int32} (hq : Q (some (.int s0)) h) : V X m_X11_all R (ZM X Q nx sz mc ms) (nx, sz, mc, ms) 43 [none, none] [.int s0] h := by
  exact v_iret dX11_all_43 rfl hq
theorem c_X11_all_51 {X : CX} {R : Room} {Q : Option Value → AH → Prop} {nx sz mc ms : Nat} {h : AH} {s0 : Int32} (hq : Q (some (.int s0)) h) : V X m_X11_all R (ZM X Q nx sz mc ms) (nx, sz, mc, ms) 51 [none, none] [.int s0] h := by
  exact v_iret dX11_all_51 rfl hq
theorem c_X11_all_59 {X : CX} {R : Room} {Q : Option Value → AH → Prop} {nx sz mc ms : Nat} {h : AH} {s0 : Int32} (hq : Q (some (.int s0)) h) : V X m_X11_all R (ZM X Q nx sz mc ms) (nx, sz, mc, ms) 59 [none, none] [.int s0] h := by
  exact v_iret dX11_all_59 rfl hq
theorem c_X11_all_67 {X : CX} {R : Room} {Q : Option Value → AH → Prop} {nx sz mc ms : Nat} {h : AH} {s0 : Int32} (hq : Q (some (.int s0)) h) : V X m_X11_all R (ZM X Q nx sz mc ms) (nx, sz, mc, ms) 67 [none, none] [.int s0] h := by
  exact v_iret dX11_all_67 rfl hq
theorem c_X11_all_75 {X : CX} {R : Room} {Q : Option Value → AH → Prop} {nx sz mc ms : Nat} {h : AH} {s0 : Int32} (hq : Q (some (.int s0)) h) : V X m_X11_all R (ZM X Q nx sz mc ms) (nx, sz, mc, ms) 75 [none, none] [.int s0] h := by
  exact v_iret dX11_all_75 rfl hq
theorem e_X11_load {X : CX} {d nx sz : Nat} {Q : Option Value → AH → Prop} {h : AH} {x1 x2 : Int32} (q : V X m_X11_load (rm d 0 0) (ZM X Q nx sz 0 0) (nx, sz, 0, 0) 0 [some (.ref 0), some (.int x1), some (.int x2)] [] h) : Mk X d m_X11_load [.ref 0, .int x1, .int x2] h nx sz Q := by
  refine Mok.ofV mo_X11_load (Nat.le_of_ble_eq_true rfl) (L := [some (.ref 0), some (.int x1), some (.int x2)]) (lvLe_s (lvLe_s (lvLe_s lvLe_e))) (v_grow (n := 0) ?_)
  exact q
theorem c_X11_load_0 {X : CX} {R : Room} {Z : ZX} {A : AX} {h : AH} {x1 x2 : Int32} {d : Nat} {P6 : Int32 → AH → Prop} (hA0 : 91 ≤ A.1) (hF : Fx h) (hR : RO R (d + 1)) (hcs : A.2.2.1 ≤ R.cells ∧ A.2.2.2 ≤ R.slots) (hM : Mk X d m_X3_tied [.ref 1, .int x1, .int x2] h A.1 A.2.1 (RI P6)) (q : ∀ (y : Int32) (g : AH), P6 y g → V X m_X11_load R Z A 9 [some (.ref 0), some (.int x1), some (.int x2)] [.int y] g) : V X m_X11_load R Z A 0 [some (.ref 0), some (.int x1), some (.int x2)] [] h := by
  refine v_aload_n dX11_load_0 rfl ?_
  refine v_getR dX11_load_1 fl_RX11_27 kd_0 (ltA hA0 rfl) rfl (hF 0 1 1 rfl) ?_
  refine v_iload_n dX11_load_4 rfl ?_
  refine v_iload_n dX11_load_5 rfl ?_
  exact v_cVI (mt := m_X11_load) mo_X3_tied ml_RX11_174 mi_X3_tied mv_X3_tied rfl kd_1 cl_3 rfl (ltA hA0 rfl) hR hcs (Nat.le_of_ble_eq_true rfl) dX11_load_6 rfl hM (fun y g hp => (q y g hp))
theorem c_X11_load_9 {X : CX} {R : Room} {Q : Option Value → AH → Prop} {nx sz mc ms : Nat} {h : AH} {x1 x2 s0 : Int32} {d : Nat} {P18 : Int32 → AH → Prop} (hA0 : 91 ≤ nx) (hF : Fx h) (hR : RO R (d + 1)) (hcs : mc ≤ R.cells ∧ ms ≤ R.slots) (hq : s0 = 0 → Q (some (.int (-1))) h) (hM : ¬ s0 = 0 → Mk X d m_X5_loadOf [.ref 13, .int x1, .int x2] h nx sz (RI P18)) (q : ¬ s0 = 0 → ∀ (y : Int32) (g : AH), P18 y g → V X m_X11_load R (ZM X Q nx sz mc ms) (nx, sz, mc, ms) 21 [none, none, none] [.int y] g) : V X m_X11_load R (ZM X Q nx sz mc ms) (nx, sz, mc, ms) 9 [some (.ref 0), some (.int x1), some (.int x2)] [.int s0] h := by
  refine v_if_eq (tgt := 24) dX11_load_9 (by decide) (fun c0 => ?_) (fun c0 => ?_)
  · refine v_iconst dX11_load_24 ci_m1 ?_
    exact v_iret dX11_load_25 rfl (hq c0)
  · refine v_aload_n dX11_load_12 rfl ?_
    refine v_getR dX11_load_13 fl_RX11_42 kd_0 (ltA hA0 rfl) rfl (hF 0 4 13 rfl) ?_
    refine v_iload_n dX11_load_16 rfl ?_
    refine v_iload_n dX11_load_17 rfl ?_
    exact v_cVI (mt := m_X11_load) mo_X5_loadOf ml_RX11_240 mi_X5_loadOf mv_X5_loadOf rfl kd_13 cl_5 rfl (ltA hA0 rfl) hR hcs (Nat.le_of_ble_eq_true rfl) dX11_load_18 rfl (hM c0) (fun y g hp => (v_drop (lvLe_n (lvLe_n (lvLe_n lvLe_e))) ((q c0) y g hp)))
theorem c_X11_load_21 {X : CX} {R : Room} {Q : Option Value → AH → Prop} {nx sz mc ms : Nat} {h : AH} {s0 : Int32} (hq : Q (some (.int s0)) h) : V X m_X11_load R (ZM X Q nx sz mc ms) (nx, sz, mc, ms) 21 [none, none, none] [.int s0] h := by
  refine v_goto (tgt := 25) dX11_load_21 (by decide) ?_
  exact v_iret dX11_load_25 rfl hq
theorem e_X11_apart {X : CX} {d nx sz : Nat} {Q : Option Value → AH → Prop} {h : AH} {x1 x2 : Int32} (q : V X m_X11_apart (rm d 0 0) (ZM X Q nx sz 0 0) (nx, sz, 0, 0) 0 [some (.ref 0), some (.int x1), some (.int x2)] [] h) : Mk X d m_X11_apart [.ref 0, .int x1, .int x2] h nx sz Q := by
  refine Mok.ofV mo_X11_apart (Nat.le_of_ble_eq_true rfl) (L := [some (.ref 0), some (.int x1), some (.int x2)]) (lvLe_s (lvLe_s (lvLe_s lvLe_e))) (v_grow (n := 0) ?_)
  exact q
theorem c_X11_apart_0 {X : CX} {R : Room} {Z : ZX} {A : AX} {h : AH} {x1 x2 : Int32} {d : Nat} {P6 : Int32 → AH → Prop} (hA0 : 91 ≤ A.1) (hF : Fx h) (hR : RO R (d + 1)) (hcs : A.2.2.1 ≤ R.cells ∧ A.2.2.2 ≤ R.slots) (hM : Mk X d m_X3_hasTwo [.ref 1, .int x1, .int x2] h A.1 A.2.1 (RI P6)) (q : ∀ (y : Int32) (g : AH), P6 y g → V X m_X11_apart R Z A 9 [some (.ref 0), some (.int x1), some (.int x2)] [.int y] g) : V X m_X11_apart R Z A 0 [some (.ref 0), some (.int x1), some (.int x2)] [] h := by
  refine v_aload_n dX11_apart_0 rfl ?_
  refine v_getR dX11_apart_1 fl_RX11_27 kd_0 (ltA hA0 rfl) rfl (hF 0 1 1 rfl) ?_
  refine v_iload_n dX11_apart_4 rfl ?_
  refine v_iload_n dX11_apart_5 rfl ?_
  exact v_cVI (mt := m_X11_apart) mo_X3_hasTwo ml_RX11_170 mi_X3_hasTwo mv_X3_hasTwo rfl kd_1 cl_3 rfl (ltA hA0 rfl) hR hcs (Nat.le_of_ble_eq_true rfl) dX11_apart_6 rfl hM (fun y g hp => (q y g hp))
theorem c_X11_apart_9 {X : CX} {R : Room} {Q : Option Value → AH → Prop} {nx sz mc ms : Nat} {h : AH} {x1 x2 s0 : Int32} {d : Nat} {P18 : Int32 → AH → Prop} (hA0 : 91 ≤ nx) (hF : Fx h) (hR : RO R (d + 1)) (hcs : mc ≤ R.cells ∧ ms ≤ R.slots) (hq : s0 = 0 → Q (some (.int (-1))) h) (hM : ¬ s0 = 0 → Mk X d m_X3_tied [.ref 1, .int x1, .int x2] h nx sz (RI P18)) (q : ¬ s0 = 0 → ∀ (y : Int32) (g : AH), P18 y g → V X m_X11_apart R (ZM X Q nx sz mc ms) (nx, sz, mc, ms) 21 [some (.ref 0), some (.int x1), some (.int x2)] [.int y] g) : V X m_X11_apart R (ZM X Q nx sz mc ms) (nx, sz, mc, ms) 9 [some (.ref 0), some (.int x1), some (.int x2)] [.int s0] h := by
  refine v_if_eq (tgt := 24) dX11_apart_9 (by decide) (fun c0 => ?_) (fun c0 => ?_)
  · refine v_iconst dX11_apart_24 ci_m1 ?_
    exact v_iret dX11_apart_25 rfl (hq c0)
  · refine v_aload_n dX11_apart_12 rfl ?_
    refine v_getR dX11_apart_13 fl_RX11_27 kd_0 (ltA hA0 rfl) rfl (hF 0 1 1 rfl) ?_
    refine v_iload_n dX11_apart_16 rfl ?_
    refine v_iload_n dX11_apart_17 rfl ?_
    exact v_cVI (mt := m_X11_apart) mo_X3_tied ml_RX11_174 mi_X3_tied mv_X3_tied rfl kd_1 cl_3 rfl (ltA hA0 rfl) hR hcs (Nat.le_of_ble_eq_true rfl) dX11_apart_18 rfl (hM c0) (fun y g hp => ((q c0) y g hp))
theorem c_X11_apart_21 {X : CX} {R : Room} {Q : Option Value → AH → Prop} {nx sz mc ms : Nat} {h : AH} {x1 x2 s0 : Int32} {d : Nat} {P32 : Int32 → AH → Prop} (hA0 : 91 ≤ nx) (hF : Fx h) (hR : RO R (d + 1)) (hcs : mc ≤ R.cells ∧ ms ≤ R.slots) (hM : s0 = 0 → Mk X d m_X5_rowsApart [.ref 13, .int x1, .int x2] h nx sz (RI P32)) (q : s0 = 0 → ∀ (y : Int32) (g : AH), P32 y g → V X m_X11_apart R (ZM X Q nx sz mc ms) (nx, sz, mc, ms) 35 [none, none, none] [.int y] g) (hq : ¬ s0 = 0 → Q (some (.int (-1))) h) : V X m_X11_apart R (ZM X Q nx sz mc ms) (nx, sz, mc, ms) 21 [some (.ref 0), some (.int x1), some (.int x2)] [.int s0] h := by
  refine v_if_eq (tgt := 26) dX11_apart_21 (by decide) (fun c0 => ?_) (fun c0 => ?_)
  · refine v_aload_n dX11_apart_26 rfl ?_
    refine v_getR dX11_apart_27 fl_RX11_42 kd_0 (ltA hA0 rfl) rfl (hF 0 4 13 rfl) ?_
    refine v_iload_n dX11_apart_30 rfl ?_
    refine v_iload_n dX11_apart_31 rfl ?_
    exact v_cVI (mt := m_X11_apart) mo_X5_rowsApart ml_RX11_243 mi_X5_rowsApart mv_X5_rowsApart rfl kd_13 cl_5 rfl (ltA hA0 rfl) hR hcs (Nat.le_of_ble_eq_true rfl) dX11_apart_32 rfl (hM c0) (fun y g hp => (v_drop (lvLe_n (lvLe_n (lvLe_n lvLe_e))) ((q c0) y g hp)))
  · refine v_iconst dX11_apart_24 ci_m1 ?_
    exact v_iret dX11_apart_25 rfl (hq c0)
theorem c_X11_apart_35 {X : CX} {R : Room} {Q : Option Value → AH → Prop} {nx sz mc ms : Nat} {h : AH} {s0 : Int32} (hq : Q (some (.int s0)) h) : V X m_X11_apart R (ZM X Q nx sz mc ms) (nx, sz, mc, ms) 35 [none, none, none] [.int s0] h := by
  exact v_iret dX11_apart_35 rfl hq
theorem e_X11_bears {X : CX} {d nx sz : Nat} {Q : Option Value → AH → Prop} {h : AH} {x1 : Int32} (q : V X m_X11_bears (rm d 0 0) (ZM X Q nx sz 0 0) (nx, sz, 0, 0) 0 [some (.ref 0), some (.int x1)] [] h) : Mk X d m_X11_bears [.ref 0, .int x1] h nx sz Q := by
  refine Mok.ofV mo_X11_bears (Nat.le_of_ble_eq_true rfl) (L := [some (.ref 0), some (.int x1)]) (lvLe_s (lvLe_s lvLe_e)) (v_grow (n := 0) ?_)
  exact q
theorem c_X11_bears_0 {X : CX} {R : Room} {Q : Option Value → AH → Prop} {nx sz mc ms : Nat} {h : AH} {x1 : Int32} {d : Nat} {P16 : Int32 → AH → Prop} (hA0 : 91 ≤ nx) (hF : Fx h) (hR : RO R (d + 1)) (hcs : mc ≤ R.cells ∧ ms ≤ R.slots) (hq : x1 < 0 → Q (some (.int (-1))) h) (hM : ¬ x1 < 0 → x1 ≤ 3 → Mk X d m_X1_breakingSet [.ref 20, .int x1] h nx sz (RI P16)) (q : ¬ x1 < 0 → x1 ≤ 3 → ∀ (y : Int32) (g : AH), P16 y g → V X m_X11_bears R (ZM X Q nx sz mc ms) (nx, sz, mc, ms) 19 [none, none] [.int y] g) (hq_1 : ¬ x1 < 0 → ¬ x1 ≤ 3 → Q (some (.int (-1))) h) : V X m_X11_bears R (ZM X Q nx sz mc ms) (nx, sz, mc, ms) 0 [some (.ref 0), some (.int x1)] [] h := by
  refine v_iload_n dX11_bears_0 rfl ?_
  refine v_if_lt (tgt := 9) dX11_bears_1 (by decide) (fun c0 => ?_) (fun c0 => ?_)
  · refine v_iconst dX11_bears_9 ci_m1 ?_
    exact v_iret dX11_bears_10 rfl (hq c0)
  · refine v_iload_n dX11_bears_4 rfl ?_
    refine v_iconst dX11_bears_5 ci_3 ?_
    refine v_icmp_le (tgt := 11) dX11_bears_6 (by decide) (fun c1 => ?_) (fun c1 => ?_)
    · refine v_aload_n dX11_bears_11 rfl ?_
      refine v_getR dX11_bears_12 fl_RX11_49 kd_0 (ltA hA0 rfl) rfl (hF 0 5 20 rfl) ?_
      refine v_iload_n dX11_bears_15 rfl ?_
      exact v_cVI (mt := m_X11_bears) mo_X1_breakingSet ml_RX11_246 mi_X1_breakingSet mv_X1_breakingSet rfl kd_20 cl_1 rfl (ltA hA0 rfl) hR hcs (Nat.le_of_ble_eq_true rfl) dX11_bears_16 rfl (hM c0 c1) (fun y g hp => (v_drop (lvLe_n (lvLe_n lvLe_e)) ((q c0 c1) y g hp)))
    · refine v_iconst dX11_bears_9 ci_m1 ?_
      exact v_iret dX11_bears_10 rfl (hq_1 c0 c1)
theorem c_X11_bears_19 {X : CX} {R : Room} {Q : Option Value → AH → Prop} {nx sz mc ms : Nat} {h : AH} {s0 : Int32} (hq : ¬ s0 = (-1) → Q (some (.int 0)) h) (hq_1 : s0 = (-1) → Q (some (.int 1)) h) : V X m_X11_bears R (ZM X Q nx sz mc ms) (nx, sz, mc, ms) 19 [none, none] [.int s0] h := by
  refine v_iconst dX11_bears_19 ci_m1 ?_
  refine v_icmp_ne (tgt := 27) dX11_bears_20 (by decide) (fun c0 => ?_) (fun c0 => ?_)
  · refine v_iconst dX11_bears_27 ci_0 ?_
    exact v_iret dX11_bears_28 rfl (hq c0)
  · refine v_iconst dX11_bears_23 ci_1 ?_
    refine v_goto (tgt := 28) dX11_bears_24 (by decide) ?_
    exact v_iret dX11_bears_28 rfl (hq_1 c0)
theorem e_X11_broken {X : CX} {d nx sz : Nat} {Q : Option Value → AH → Prop} {h : AH} {x1 : Int32} (q : V X m_X11_broken (rm d 0 0) (ZM X Q nx sz 0 0) (nx, sz, 0, 0) 0 [some (.ref 0), some (.int x1)] [] h) : Mk X d m_X11_broken [.ref 0, .int x1] h nx sz Q := by
  refine Mok.ofV mo_X11_broken (Nat.le_of_ble_eq_true rfl) (L := [some (.ref 0), some (.int x1)]) (lvLe_s (lvLe_s lvLe_e)) (v_grow (n := 0) ?_)
  exact q
theorem c_X11_broken_0 {X : CX} {R : Room} {Z : ZX} {A : AX} {h : AH} {x1 : Int32} {d : Nat} {P18 : Int32 → AH → Prop} (hA0 : 91 ≤ A.1) (hF : Fx h) (hR : RO R (d + 1)) (hcs : A.2.2.1 ≤ R.cells ∧ A.2.2.2 ≤ R.slots) (q : x1 < 0 → V X m_X11_broken R Z A 21 [none, none] [.int (-1)] h) (hM : ¬ x1 < 0 → x1 ≤ 3 → Mk X d m_X1_breakingSet [.ref 20, .int x1] h A.1 A.2.1 (RI P18)) (q_1 : ¬ x1 < 0 → x1 ≤ 3 → ∀ (y : Int32) (g : AH), P18 y g → V X m_X11_broken R Z A 21 [none, none] [.int y] g) (q_2 : ¬ x1 < 0 → ¬ x1 ≤ 3 → V X m_X11_broken R Z A 21 [none, none] [.int (-1)] h) : V X m_X11_broken R Z A 0 [some (.ref 0), some (.int x1)] [] h := by
  refine v_iload_n dX11_broken_0 rfl ?_
  refine v_if_lt (tgt := 9) dX11_broken_1 (by decide) (fun c0 => ?_) (fun c0 => ?_)
  · refine v_iconst dX11_broken_9 ci_m1 ?_
    refine v_goto (tgt := 21) dX11_broken_10 (by decide) ?_
    exact (v_drop (lvLe_n (lvLe_n lvLe_e)) (q c0))
  · refine v_iload_n dX11_broken_4 rfl ?_
    refine v_iconst dX11_broken_5 ci_3 ?_
    refine v_icmp_le (tgt := 13) dX11_broken_6 (by decide) (fun c1 => ?_) (fun c1 => ?_)
    · refine v_aload_n dX11_broken_13 rfl ?_
      refine v_getR dX11_broken_14 fl_RX11_49 kd_0 (ltA hA0 rfl) rfl (hF 0 5 20 rfl) ?_
      refine v_iload_n dX11_broken_17 rfl ?_
      exact v_cVI (mt := m_X11_broken) mo_X1_breakingSet ml_RX11_246 mi_X1_breakingSet mv_X1_breakingSet rfl kd_20 cl_1 rfl (ltA hA0 rfl) hR hcs (Nat.le_of_ble_eq_true rfl) dX11_broken_18 rfl (hM c0 c1) (fun y g hp => (v_drop (lvLe_n (lvLe_n lvLe_e)) ((q_1 c0 c1) y g hp)))
    · refine v_iconst dX11_broken_9 ci_m1 ?_
      refine v_goto (tgt := 21) dX11_broken_10 (by decide) ?_
      exact (v_drop (lvLe_n (lvLe_n lvLe_e)) (q_2 c0 c1))
theorem c_X11_broken_21 {X : CX} {R : Room} {Q : Option Value → AH → Prop} {nx sz mc ms : Nat} {h : AH} {s0 : Int32} (hq : Q (some (.int s0)) h) : V X m_X11_broken R (ZM X Q nx sz mc ms) (nx, sz, mc, ms) 21 [none, none] [.int s0] h := by
  exact v_iret dX11_broken_21 rfl hq
theorem e_X11_mend {X : CX} {d nx sz : Nat} {Q : Option Value → AH → Prop} {h : AH} (q : V X m_X11_mend (rm d 0 0) (ZM X Q nx sz 0 0) (nx, sz, 0, 0) 0 [some (.ref 0)] [] h) : Mk X d m_X11_mend [.ref 0] h nx sz Q := by
  refine Mok.ofV mo_X11_mend (Nat.le_of_ble_eq_true rfl) (L := [some (.ref 0)]) (lvLe_s lvLe_e) (v_grow (n := 0) ?_)
  exact q
theorem c_X11_mend_0 {X : CX} {R : Room} {Z : ZX} {A : AX} {h : AH} {d : Nat} {P4 : Int32 → AH → Prop} (hA0 : 91 ≤ A.1) (hF : Fx h) (hR : RO R (d + 1)) (hcs : A.2.2.1 ≤ R.cells ∧ A.2.2.2 ≤ R.slots) (hM : Mk X d m_X1_mending [.ref 20] h A.1 A.2.1 (RI P4)) (q : ∀ (y : Int32) (g : AH), P4 y g → V X m_X11_mend R Z A 7 [none] [.int y] g) : V X m_X11_mend R Z A 0 [some (.ref 0)] [] h := by
  refine v_aload_n dX11_mend_0 rfl ?_
  refine v_getR dX11_mend_1 fl_RX11_49 kd_0 (ltA hA0 rfl) rfl (hF 0 5 20 rfl) ?_
  exact v_cVI (mt := m_X11_mend) mo_X1_mending ml_RX11_249 mi_X1_mending mv_X1_mending rfl kd_20 cl_1 rfl (ltA hA0 rfl) hR hcs (Nat.le_of_ble_eq_true rfl) dX11_mend_4 rfl hM (fun y g hp => (v_drop (lvLe_n lvLe_e) (q y g hp)))
theorem c_X11_mend_7 {X : CX} {R : Room} {Q : Option Value → AH → Prop} {nx sz mc ms : Nat} {h : AH} {s0 : Int32} (hq : Q (some (.int s0)) h) : V X m_X11_mend R (ZM X Q nx sz mc ms) (nx, sz, mc, ms) 7 [none] [.int s0] h := by
  exact v_iret dX11_mend_7 rfl hq
theorem e_X11_need {X : CX} {d nx sz : Nat} {Q : Option Value → AH → Prop} {h : AH} {x1 x2 x3 : Int32} (q : V X m_X11_need (rm d 0 0) (ZM X Q nx sz 0 0) (nx, sz, 0, 0) 0 [some (.ref 0), some (.int x1), some (.int x2), some (.int x3)] [] h) : Mk X d m_X11_need [.ref 0, .int x1, .int x2, .int x3] h nx sz Q := by
  refine Mok.ofV mo_X11_need (Nat.le_of_ble_eq_true rfl) (L := [some (.ref 0), some (.int x1), some (.int x2), some (.int x3)]) (lvLe_s (lvLe_s (lvLe_s (lvLe_s lvLe_e)))) (v_grow (n := 0) ?_)
  exact q
theorem c_X11_need_0 {X : CX} {R : Room} {Z : ZX} {A : AX} {h : AH} {x1 x2 x3 : Int32} {d : Nat} {P6 : Int32 → AH → Prop} (hA0 : 91 ≤ A.1) (hF : Fx h) (hR : RO R (d + 1)) (hcs : A.2.2.1 ≤ R.cells ∧ A.2.2.2 ≤ R.slots) (hM : Mk X d m_X3_hasTwo [.ref 1, .int x1, .int x2] h A.1 A.2.1 (RI P6)) (q : ∀ (y : Int32) (g : AH), P6 y g → V X m_X11_need R Z A 9 [some (.ref 0), some (.int x1), some (.int x2), some (.int x3)] [.int y] g) : V X m_X11_need R Z A 0 [some (.ref 0), some (.int x1), some (.int x2), some (.int x3)] [] h := by
  refine v_aload_n dX11_need_0 rfl ?_
  refine v_getR dX11_need_1 fl_RX11_27 kd_0 (ltA hA0 rfl) rfl (hF 0 1 1 rfl) ?_
  refine v_iload_n dX11_need_4 rfl ?_
  refine v_iload_n dX11_need_5 rfl ?_
  exact v_cVI (mt := m_X11_need) mo_X3_hasTwo ml_RX11_170 mi_X3_hasTwo mv_X3_hasTwo rfl kd_1 cl_3 rfl (ltA hA0 rfl) hR hcs (Nat.le_of_ble_eq_true rfl) dX11_need_6 rfl hM (fun y g hp => (q y g hp))
theorem c_X11_need_9 {X : CX} {R : Room} {Q : Option Value → AH → Prop} {nx sz mc ms : Nat} {h : AH} {x1 x2 x3 s0 : Int32} {d : Nat} {P31 : Int32 → AH → Prop} (hA0 : 91 ≤ nx) (hF : Fx h) (hR : RO R (d + 1)) (hcs : mc ≤ R.cells ∧ ms ≤ R.slots) (hq : s0 = 0 → Q (some (.int 0)) h) (hq_1 : ¬ s0 = 0 → x3 < 0 → Q (some (.int 0)) h) (hM : ¬ s0 = 0 → ¬ x3 < 0 → x3 ≤ 99 → Mk X d m_X2_putNeed [.ref 40, .int x1, .int x2, .int x3] h nx sz (RI P31)) (q : ¬ s0 = 0 → ¬ x3 < 0 → x3 ≤ 99 → ∀ (y : Int32) (g : AH), P31 y g → V X m_X11_need R (ZM X Q nx sz mc ms) (nx, sz, mc, ms) 34 [none, none, none, none] [.int y] g) (hq_2 : ¬ s0 = 0 → ¬ x3 < 0 → ¬ x3 ≤ 99 → Q (some (.int 0)) h) : V X m_X11_need R (ZM X Q nx sz mc ms) (nx, sz, mc, ms) 9 [some (.ref 0), some (.int x1), some (.int x2), some (.int x3)] [.int s0] h := by
  refine v_if_eq (tgt := 22) dX11_need_9 (by decide) (fun c0 => ?_) (fun c0 => ?_)
  · refine v_iconst dX11_need_22 ci_0 ?_
    exact v_zret (ty := .boolean) dX11_need_23 rfl rfl (hq c0)
  · refine v_iload_n dX11_need_12 rfl ?_
    refine v_if_lt (tgt := 22) dX11_need_13 (by decide) (fun c1 => ?_) (fun c1 => ?_)
    · refine v_iconst dX11_need_22 ci_0 ?_
      exact v_zret (ty := .boolean) dX11_need_23 rfl rfl (hq_1 c0 c1)
    · refine v_iload_n dX11_need_16 rfl ?_
      refine v_bipush dX11_need_17 cb_99 ?_
      refine v_icmp_le (tgt := 24) dX11_need_19 (by decide) (fun c2 => ?_) (fun c2 => ?_)
      · refine v_aload_n dX11_need_24 rfl ?_
        refine v_getR dX11_need_25 fl_RX11_95 kd_0 (ltA hA0 rfl) rfl (hF 0 11 40 rfl) ?_
        refine v_iload_n dX11_need_28 rfl ?_
        refine v_iload_n dX11_need_29 rfl ?_
        refine v_iload_n dX11_need_30 rfl ?_
        exact v_cVI (mt := m_X11_need) mo_X2_putNeed ml_RX11_252 mi_X2_putNeed mv_X2_putNeed rfl kd_40 cl_2 rfl (ltA hA0 rfl) hR hcs (Nat.le_of_ble_eq_true rfl) dX11_need_31 rfl (hM c0 c1 c2) (fun y g hp => (v_drop (lvLe_n (lvLe_n (lvLe_n (lvLe_n lvLe_e)))) ((q c0 c1 c2) y g hp)))
      · refine v_iconst dX11_need_22 ci_0 ?_
        exact v_zret (ty := .boolean) dX11_need_23 rfl rfl (hq_2 c0 c1 c2)
theorem c_X11_need_34 {X : CX} {R : Room} {Q : Option Value → AH → Prop} {nx sz mc ms : Nat} {h : AH} {s0 : Int32} (hq : Q (some (.int s0)) h) (hb_34 : narrow .boolean (.int s0) = .int s0) : V X m_X11_need R (ZM X Q nx sz mc ms) (nx, sz, mc, ms) 34 [none, none, none, none] [.int s0] h := by
  exact v_zret (ty := .boolean) dX11_need_34 rfl hb_34 hq
theorem e_X11_value {X : CX} {d nx sz : Nat} {Q : Option Value → AH → Prop} {h : AH} {x1 : Int32} (q : V X m_X11_value (rm d 0 0) (ZM X Q nx sz 0 0) (nx, sz, 0, 0) 0 [some (.ref 0), some (.int x1)] [] h) : Mk X d m_X11_value [.ref 0, .int x1] h nx sz Q := by
  refine Mok.ofV mo_X11_value (Nat.le_of_ble_eq_true rfl) (L := [some (.ref 0), some (.int x1)]) (lvLe_s (lvLe_s lvLe_e)) (v_grow (n := 0) ?_)
  exact q
theorem c_X11_value_0 {X : CX} {R : Room} {Z : ZX} {A : AX} {h : AH} {x1 : Int32} {d : Nat} {P5 : Int32 → AH → Prop} (hA0 : 91 ≤ A.1) (hF : Fx h) (hR : RO R (d + 1)) (hcs : A.2.2.1 ≤ R.cells ∧ A.2.2.2 ≤ R.slots) (hM : Mk X d m_X3_has [.ref 1, .int x1] h A.1 A.2.1 (RI P5)) (q : ∀ (y : Int32) (g : AH), P5 y g → V X m_X11_value R Z A 8 [some (.ref 0), some (.int x1)] [.int y] g) : V X m_X11_value R Z A 0 [some (.ref 0), some (.int x1)] [] h := by
  refine v_aload_n dX11_value_0 rfl ?_
  refine v_getR dX11_value_1 fl_RX11_27 kd_0 (ltA hA0 rfl) rfl (hF 0 1 1 rfl) ?_
  refine v_iload_n dX11_value_4 rfl ?_
  exact v_cVI (mt := m_X11_value) mo_X3_has ml_RX11_160 mi_X3_has mv_X3_has rfl kd_1 cl_3 rfl (ltA hA0 rfl) hR hcs (Nat.le_of_ble_eq_true rfl) dX11_value_5 rfl hM (fun y g hp => (q y g hp))
theorem c_X11_value_8 {X : CX} {R : Room} {Q : Option Value → AH → Prop} {nx sz mc ms : Nat} {h : AH} {x1 s0 : Int32} {d : Nat} {P16 : Int32 → AH → Prop} (hA0 : 91 ≤ nx) (hF : Fx h) (hR : RO R (d + 1)) (hcs : mc ≤ R.cells ∧ ms ≤ R.slots) (hq : s0 = 0 → Q (some (.int (-1))) h) (hM : ¬ s0 = 0 → Mk X d m_X2_valueOf [.ref 40, .int x1] h nx sz (RI P16)) (q : ¬ s0 = 0 → ∀ (y : Int32) (g : AH), P16 y g → V X m_X11_value R (ZM X Q nx sz mc ms) (nx, sz, mc, ms) 19 [none, none] [.int y] g) : V X m_X11_value R (ZM X Q nx sz mc ms) (nx, sz, mc, ms) 8 [some (.ref 0), some (.int x1)] [.int s0] h := by
  refine v_if_eq (tgt := 22) dX11_value_8 (by decide) (fun c0 => ?_) (fun c0 => ?_)
  · refine v_iconst dX11_value_22 ci_m1 ?_
    exact v_iret dX11_value_23 rfl (hq c0)
  · refine v_aload_n dX11_value_11 rfl ?_
    refine v_getR dX11_value_12 fl_RX11_95 kd_0 (ltA hA0 rfl) rfl (hF 0 11 40 rfl) ?_
    refine v_iload_n dX11_value_15 rfl ?_
    exact v_cVI (mt := m_X11_value) mo_X2_valueOf ml_RX11_256 mi_X2_valueOf mv_X2_valueOf rfl kd_40 cl_2 rfl (ltA hA0 rfl) hR hcs (Nat.le_of_ble_eq_true rfl) dX11_value_16 rfl (hM c0) (fun y g hp => (v_drop (lvLe_n (lvLe_n lvLe_e)) ((q c0) y g hp)))
theorem c_X11_value_19 {X : CX} {R : Room} {Q : Option Value → AH → Prop} {nx sz mc ms : Nat} {h : AH} {s0 : Int32} (hq : Q (some (.int s0)) h) : V X m_X11_value R (ZM X Q nx sz mc ms) (nx, sz, mc, ms) 19 [none, none] [.int s0] h := by
  refine v_goto (tgt := 23) dX11_value_19 (by decide) ?_
  exact v_iret dX11_value_23 rfl hq
theorem e_X11_cost {X : CX} {d nx sz : Nat} {Q : Option Value → AH → Prop} {h : AH} {x1 : Int32} (q : V X m_X11_cost (rm d 0 0) (ZM X Q nx sz 0 0) (nx, sz, 0, 0) 0 [some (.ref 0), some (.int x1)] [] h) : Mk X d m_X11_cost [.ref 0, .int x1] h nx sz Q := by
  refine Mok.ofV mo_X11_cost (Nat.le_of_ble_eq_true rfl) (L := [some (.ref 0), some (.int x1)]) (lvLe_s (lvLe_s lvLe_e)) (v_grow (n := 0) ?_)
  exact q
theorem c_X11_cost_0 {X : CX} {R : Room} {Q : Option Value → AH → Prop} {nx sz mc ms : Nat} {h : AH} {x1 : Int32} (hA0 : 91 ≤ nx) (hF : Fx h) (hq : x1 < 0 → Q (some (.int 0)) h) (hq_1 : ¬ x1 < 0 → x1 ≤ 99 → Q (some (.int 1)) (setI h 40 4 x1)) (hq_2 : ¬ x1 < 0 → ¬ x1 ≤ 99 → Q (some (.int 0)) h) : V X m_X11_cost R (ZM X Q nx sz mc ms) (nx, sz, mc, ms) 0 [some (.ref 0), some (.int x1)] [] h := by
  refine v_iload_n dX11_cost_0 rfl ?_
  refine v_if_lt (tgt := 10) dX11_cost_1 (by decide) (fun c0 => ?_) (fun c0 => ?_)
  · refine v_iconst dX11_cost_10 ci_0 ?_
    exact v_zret (ty := .boolean) dX11_cost_11 rfl rfl (hq c0)
  · refine v_iload_n dX11_cost_4 rfl ?_
    refine v_bipush dX11_cost_5 cb_99 ?_
    refine v_icmp_le (tgt := 12) dX11_cost_7 (by decide) (fun c1 => ?_) (fun c1 => ?_)
    · refine v_aload_n dX11_cost_12 rfl ?_
      refine v_getR dX11_cost_13 fl_RX11_95 kd_0 (ltA hA0 rfl) rfl (hF 0 11 40 rfl) ?_
      refine v_iload_n dX11_cost_16 rfl ?_
      refine v_putI rfl rfl rfl dX11_cost_17 fl_RX11_259 (Or.inl rfl) kd_40 (ltA hA0 rfl) ?_
      refine v_iconst dX11_cost_20 ci_1 ?_
      exact v_zret (ty := .boolean) dX11_cost_21 rfl rfl (hq_1 c0 c1)
    · refine v_iconst dX11_cost_10 ci_0 ?_
      exact v_zret (ty := .boolean) dX11_cost_11 rfl rfl (hq_2 c0 c1)
theorem e_X11_gain {X : CX} {d nx sz : Nat} {Q : Option Value → AH → Prop} {h : AH} {x1 x2 x3 x4 x5 : Int32} (q : V X m_X11_gain (rm d 0 0) (ZM X Q nx sz 0 0) (nx, sz, 0, 0) 0 [some (.ref 0), some (.int x1), some (.int x2), some (.int x3), some (.int x4), some (.int x5)] [] h) : Mk X d m_X11_gain [.ref 0, .int x1, .int x2, .int x3, .int x4, .int x5] h nx sz Q := by
  refine Mok.ofV mo_X11_gain (Nat.le_of_ble_eq_true rfl) (L := [some (.ref 0), some (.int x1), some (.int x2), some (.int x3), some (.int x4), some (.int x5)]) (lvLe_s (lvLe_s (lvLe_s (lvLe_s (lvLe_s (lvLe_s lvLe_e)))))) (v_grow (n := 0) ?_)
  exact q
theorem c_X11_gain_0 {X : CX} {R : Room} {Q : Option Value → AH → Prop} {nx sz mc ms : Nat} {h : AH} {x1 x2 x3 x4 x5 : Int32} {d : Nat} {P20 : Int32 → AH → Prop} (hA0 : 91 ≤ nx) (hF : Fx h) (hR : RO R (d + 1)) (hcs : mc ≤ R.cells ∧ ms ≤ R.slots) (hq : x5 < 0 → Q (some (.int (-1000000))) h) (hq_1 : ¬ x5 < 0 → 1 < x5 → Q (some (.int (-1000000))) h) (hM : ¬ x5 < 0 → ¬ 1 < x5 → Mk X d m_X2_canBe [.ref 40, .int x1, .int x2, .int x3, .int x4] h nx sz (RI P20)) (q : ¬ x5 < 0 → ¬ 1 < x5 → ∀ (y : Int32) (g : AH), P20 y g → V X m_X11_gain R (ZM X Q nx sz mc ms) (nx, sz, mc, ms) 23 [some (.ref 0), some (.int x1), some (.int x2), some (.int x3), some (.int x4), some (.int x5)] [.int y] g) : V X m_X11_gain R (ZM X Q nx sz mc ms) (nx, sz, mc, ms) 0 [some (.ref 0), some (.int x1), some (.int x2), some (.int x3), some (.int x4), some (.int x5)] [] h := by
  refine v_iload dX11_gain_0 rfl ?_
  refine v_if_lt (tgt := 26) dX11_gain_2 (by decide) (fun c0 => ?_) (fun c0 => ?_)
  · refine v_ldc_w dX11_gain_26 kc_RX11_266 ?_
    exact v_iret dX11_gain_29 rfl (hq c0)
  · refine v_iload dX11_gain_5 rfl ?_
    refine v_iconst dX11_gain_7 ci_1 ?_
    refine v_icmp_gt (tgt := 26) dX11_gain_8 (by decide) (fun c1 => ?_) (fun c1 => ?_)
    · refine v_ldc_w dX11_gain_26 kc_RX11_266 ?_
      exact v_iret dX11_gain_29 rfl (hq_1 c0 c1)
    · refine v_aload_n dX11_gain_11 rfl ?_
      refine v_getR dX11_gain_12 fl_RX11_95 kd_0 (ltA hA0 rfl) rfl (hF 0 11 40 rfl) ?_
      refine v_iload_n dX11_gain_15 rfl ?_
      refine v_iload_n dX11_gain_16 rfl ?_
      refine v_iload_n dX11_gain_17 rfl ?_
      refine v_iload dX11_gain_18 rfl ?_
      exact v_cVI (mt := m_X11_gain) mo_X2_canBe ml_RX11_262 mi_X2_canBe mv_X2_canBe rfl kd_40 cl_2 rfl (ltA hA0 rfl) hR hcs (Nat.le_of_ble_eq_true rfl) dX11_gain_20 rfl (hM c0 c1) (fun y g hp => ((q c0 c1) y g hp))
theorem c_X11_gain_23 {X : CX} {R : Room} {Q : Option Value → AH → Prop} {nx sz mc ms : Nat} {h : AH} {x1 x2 x3 x4 x5 s0 : Int32} {d : Nat} {P49 P49_1 : Int32 → AH → Prop} (hA0 : 91 ≤ nx) (hF : Fx h) (hR : RO R (d + 1)) (hcs : mc ≤ R.cells ∧ ms ≤ R.slots) (hM : ¬ s0 = 0 → ¬ x5 = 0 → Mk X d m_X2_gainOf [.ref 40, .int x1, .int x2, .int x3, .int x4, .int 0] h nx sz (RI P49)) (q : ¬ s0 = 0 → ¬ x5 = 0 → ∀ (y : Int32) (g : AH), P49 y g → V X m_X11_gain R (ZM X Q nx sz mc ms) (nx, sz, mc, ms) 52 [none, none, none, none, none, none] [.int y] g) (hM_1 : ¬ s0 = 0 → x5 = 0 → Mk X d m_X2_gainOf [.ref 40, .int x1, .int x2, .int x3, .int x4, .int 1] h nx sz (RI P49_1)) (q_1 : ¬ s0 = 0 → x5 = 0 → ∀ (y : Int32) (g : AH), P49_1 y g → V X m_X11_gain R (ZM X Q nx sz mc ms) (nx, sz, mc, ms) 52 [none, none, none, none, none, none] [.int y] g) (hq : s0 = 0 → Q (some (.int (-1000000))) h) : V X m_X11_gain R (ZM X Q nx sz mc ms) (nx, sz, mc, ms) 23 [some (.ref 0), some (.int x1), some (.int x2), some (.int x3), some (.int x4), some (.int x5)] [.int s0] h := by
  refine v_if_ne (tgt := 30) dX11_gain_23 (by decide) (fun c0 => ?_) (fun c0 => ?_)
  · refine v_aload_n dX11_gain_30 rfl ?_
    refine v_getR dX11_gain_31 fl_RX11_95 kd_0 (ltA hA0 rfl) rfl (hF 0 11 40 rfl) ?_
    refine v_iload_n dX11_gain_34 rfl ?_
    refine v_iload_n dX11_gain_35 rfl ?_
    refine v_iload_n dX11_gain_36 rfl ?_
    refine v_iload dX11_gain_37 rfl ?_
    refine v_iload dX11_gain_39 rfl ?_
    refine v_if_ne (tgt := 48) dX11_gain_41 (by decide) (fun c1 => ?_) (fun c1 => ?_)
    · refine v_iconst dX11_gain_48 ci_0 ?_
      exact v_cVI (mt := m_X11_gain) mo_X2_gainOf ml_RX11_267 mi_X2_gainOf mv_X2_gainOf rfl kd_40 cl_2 rfl (ltA hA0 rfl) hR hcs (Nat.le_of_ble_eq_true rfl) dX11_gain_49 rfl (hM c0 c1) (fun y g hp => (v_drop (lvLe_n (lvLe_n (lvLe_n (lvLe_n (lvLe_n (lvLe_n lvLe_e)))))) ((q c0 c1) y g hp)))
    · refine v_iconst dX11_gain_44 ci_1 ?_
      refine v_goto (tgt := 49) dX11_gain_45 (by decide) ?_
      exact v_cVI (mt := m_X11_gain) mo_X2_gainOf ml_RX11_267 mi_X2_gainOf mv_X2_gainOf rfl kd_40 cl_2 rfl (ltA hA0 rfl) hR hcs (Nat.le_of_ble_eq_true rfl) dX11_gain_49 rfl (hM_1 c0 c1) (fun y g hp => (v_drop (lvLe_n (lvLe_n (lvLe_n (lvLe_n (lvLe_n (lvLe_n lvLe_e)))))) ((q_1 c0 c1) y g hp)))
  · refine v_ldc_w dX11_gain_26 kc_RX11_266 ?_
    exact v_iret dX11_gain_29 rfl (hq c0)
theorem c_X11_gain_52 {X : CX} {R : Room} {Q : Option Value → AH → Prop} {nx sz mc ms : Nat} {h : AH} {s0 : Int32} (hq : Q (some (.int s0)) h) : V X m_X11_gain R (ZM X Q nx sz mc ms) (nx, sz, mc, ms) 52 [none, none, none, none, none, none] [.int s0] h := by
  exact v_iret dX11_gain_52 rfl hq
theorem e_X11_change {X : CX} {d nx sz : Nat} {Q : Option Value → AH → Prop} {h : AH} {x1 x2 x3 x4 : Int32} (q : V X m_X11_change (rm d 0 0) (ZM X Q nx sz 0 0) (nx, sz, 0, 0) 0 [some (.ref 0), some (.int x1), some (.int x2), some (.int x3), some (.int x4)] [] h) : Mk X d m_X11_change [.ref 0, .int x1, .int x2, .int x3, .int x4] h nx sz Q := by
  refine Mok.ofV mo_X11_change (Nat.le_of_ble_eq_true rfl) (L := [some (.ref 0), some (.int x1), some (.int x2), some (.int x3), some (.int x4)]) (lvLe_s (lvLe_s (lvLe_s (lvLe_s (lvLe_s lvLe_e))))) (v_grow (n := 0) ?_)
  exact q
theorem c_X11_change_0 {X : CX} {R : Room} {Z : ZX} {A : AX} {h : AH} {x1 x2 x3 x4 : Int32} {d : Nat} {P9 : Int32 → AH → Prop} (hA0 : 91 ≤ A.1) (hF : Fx h) (hR : RO R (d + 1)) (hcs : A.2.2.1 ≤ R.cells ∧ A.2.2.2 ≤ R.slots) (hM : Mk X d m_X2_canBe [.ref 40, .int x1, .int x2, .int x3, .int x4] h A.1 A.2.1 (RI P9)) (q : ∀ (y : Int32) (g : AH), P9 y g → V X m_X11_change R Z A 12 [some (.ref 0), some (.int x1), some (.int x2), some (.int x3), some (.int x4)] [.int y] g) : V X m_X11_change R Z A 0 [some (.ref 0), some (.int x1), some (.int x2), some (.int x3), some (.int x4)] [] h := by
  refine v_aload_n dX11_change_0 rfl ?_
  refine v_getR dX11_change_1 fl_RX11_95 kd_0 (ltA hA0 rfl) rfl (hF 0 11 40 rfl) ?_
  refine v_iload_n dX11_change_4 rfl ?_
  refine v_iload_n dX11_change_5 rfl ?_
  refine v_iload_n dX11_change_6 rfl ?_
  refine v_iload dX11_change_7 rfl ?_
  exact v_cVI (mt := m_X11_change) mo_X2_canBe ml_RX11_262 mi_X2_canBe mv_X2_canBe rfl kd_40 cl_2 rfl (ltA hA0 rfl) hR hcs (Nat.le_of_ble_eq_true rfl) dX11_change_9 rfl hM (fun y g hp => (q y g hp))
theorem c_X11_change_12 {X : CX} {R : Room} {Q : Option Value → AH → Prop} {nx sz mc ms : Nat} {h : AH} {x1 x2 x3 x4 s0 : Int32} {d : Nat} {P24 : Int32 → AH → Prop} (hA0 : 91 ≤ nx) (hF : Fx h) (hR : RO R (d + 1)) (hcs : mc ≤ R.cells ∧ ms ≤ R.slots) (hq : s0 = 0 → Q (some (.int 0)) h) (hM : ¬ s0 = 0 → Mk X d m_X2_wanted [.ref 40, .int x1, .int x2, .int x3, .int x4] h nx sz (RI P24)) (q : ¬ s0 = 0 → ∀ (y : Int32) (g : AH), P24 y g → V X m_X11_change R (ZM X Q nx sz mc ms) (nx, sz, mc, ms) 27 [some (.ref 0), some (.int x1), some (.int x2), some (.int x3), some (.int x4)] [.int y] g) : V X m_X11_change R (ZM X Q nx sz mc ms) (nx, sz, mc, ms) 12 [some (.ref 0), some (.int x1), some (.int x2), some (.int x3), some (.int x4)] [.int s0] h := by
  refine v_if_eq (tgt := 30) dX11_change_12 (by decide) (fun c0 => ?_) (fun c0 => ?_)
  · refine v_iconst dX11_change_30 ci_0 ?_
    exact v_zret (ty := .boolean) dX11_change_31 rfl rfl (hq c0)
  · refine v_aload_n dX11_change_15 rfl ?_
    refine v_getR dX11_change_16 fl_RX11_95 kd_0 (ltA hA0 rfl) rfl (hF 0 11 40 rfl) ?_
    refine v_iload_n dX11_change_19 rfl ?_
    refine v_iload_n dX11_change_20 rfl ?_
    refine v_iload_n dX11_change_21 rfl ?_
    refine v_iload dX11_change_22 rfl ?_
    exact v_cVI (mt := m_X11_change) mo_X2_wanted ml_RX11_271 mi_X2_wanted mv_X2_wanted rfl kd_40 cl_2 rfl (ltA hA0 rfl) hR hcs (Nat.le_of_ble_eq_true rfl) dX11_change_24 rfl (hM c0) (fun y g hp => ((q c0) y g hp))
theorem c_X11_change_27 {X : CX} {R : Room} {Q : Option Value → AH → Prop} {nx sz mc ms : Nat} {h : AH} {x1 x2 x3 x4 s0 : Int32} {d : Nat} {P41 : AH → Prop} (hA0 : 91 ≤ nx) (hF : Fx h) (hR : RO R (d + 1)) (hcs : mc ≤ R.cells ∧ ms ≤ R.slots) (hM : ¬ s0 = 0 → Mk X d m_X2_make [.ref 40, .int x1, .int x2, .int x3, .int x4] h nx sz (RV P41)) (q : ¬ s0 = 0 → ∀ (g : AH), P41 g → V X m_X11_change R (ZM X Q nx sz mc ms) (nx, sz, mc, ms) 44 [none, none, none, none, none] [] g) (hq : s0 = 0 → Q (some (.int 0)) h) : V X m_X11_change R (ZM X Q nx sz mc ms) (nx, sz, mc, ms) 27 [some (.ref 0), some (.int x1), some (.int x2), some (.int x3), some (.int x4)] [.int s0] h := by
  refine v_if_ne (tgt := 32) dX11_change_27 (by decide) (fun c0 => ?_) (fun c0 => ?_)
  · refine v_aload_n dX11_change_32 rfl ?_
    refine v_getR dX11_change_33 fl_RX11_95 kd_0 (ltA hA0 rfl) rfl (hF 0 11 40 rfl) ?_
    refine v_iload_n dX11_change_36 rfl ?_
    refine v_iload_n dX11_change_37 rfl ?_
    refine v_iload_n dX11_change_38 rfl ?_
    refine v_iload dX11_change_39 rfl ?_
    exact v_cVV (mt := m_X11_change) mo_X2_make ml_RX11_274 mi_X2_make mv_X2_make rfl kd_40 cl_2 rfl (ltA hA0 rfl) hR hcs (Nat.le_of_ble_eq_true rfl) dX11_change_41 rfl (hM c0) (fun g hp => (v_drop (lvLe_n (lvLe_n (lvLe_n (lvLe_n (lvLe_n lvLe_e))))) ((q c0) g hp)))
  · refine v_iconst dX11_change_30 ci_0 ?_
    exact v_zret (ty := .boolean) dX11_change_31 rfl rfl (hq c0)
theorem c_X11_change_44 {X : CX} {R : Room} {Q : Option Value → AH → Prop} {nx sz mc ms : Nat} {h : AH} (hq : Q (some (.int 1)) h) : V X m_X11_change R (ZM X Q nx sz mc ms) (nx, sz, mc, ms) 44 [none, none, none, none, none] [] h := by
  refine v_iconst dX11_change_44 ci_1 ?_
  exact v_zret (ty := .boolean) dX11_change_45 rfl rfl hq
theorem e_X11_best {X : CX} {d nx sz : Nat} {Q : Option Value → AH → Prop} {h : AH} {x1 x2 : Int32} (q : V X m_X11_best (rm d 0 0) (ZM X Q nx sz 0 0) (nx, sz, 0, 0) 0 [some (.ref 0), some (.int x1), some (.int x2)] [] h) : Mk X d m_X11_best [.ref 0, .int x1, .int x2] h nx sz Q := by
  refine Mok.ofV mo_X11_best (Nat.le_of_ble_eq_true rfl) (L := [some (.ref 0), some (.int x1), some (.int x2)]) (lvLe_s (lvLe_s (lvLe_s lvLe_e))) (v_grow (n := 0) ?_)
  exact q
theorem c_X11_best_0 {X : CX} {R : Room} {Z : ZX} {A : AX} {h : AH} {x1 x2 : Int32} {d : Nat} {P5 : Int32 → AH → Prop} (hA0 : 91 ≤ A.1) (hF : Fx h) (hR : RO R (d + 1)) (hcs : A.2.2.1 ≤ R.cells ∧ A.2.2.2 ≤ R.slots) (hM : Mk X d m_X3_has [.ref 1, .int x1] h A.1 A.2.1 (RI P5)) (q : ∀ (y : Int32) (g : AH), P5 y g → V X m_X11_best R Z A 8 [some (.ref 0), some (.int x1), some (.int x2)] [.int y] g) : V X m_X11_best R Z A 0 [some (.ref 0), some (.int x1), some (.int x2)] [] h := by
  refine v_aload_n dX11_best_0 rfl ?_
  refine v_getR dX11_best_1 fl_RX11_27 kd_0 (ltA hA0 rfl) rfl (hF 0 1 1 rfl) ?_
  refine v_iload_n dX11_best_4 rfl ?_
  exact v_cVI (mt := m_X11_best) mo_X3_has ml_RX11_160 mi_X3_has mv_X3_has rfl kd_1 cl_3 rfl (ltA hA0 rfl) hR hcs (Nat.le_of_ble_eq_true rfl) dX11_best_5 rfl hM (fun y g hp => (q y g hp))
theorem c_X11_best_8 {X : CX} {R : Room} {Q : Option Value → AH → Prop} {nx sz mc ms : Nat} {h : AH} {x1 x2 s0 : Int32} {d : Nat} {P25 : Int32 → AH → Prop} (hA0 : 91 ≤ nx) (hF : Fx h) (hR : RO R (d + 1)) (hcs : mc ≤ R.cells ∧ ms ≤ R.slots) (hq : s0 = 0 → Q (some (.int (-1000000))) h) (hq_1 : ¬ s0 = 0 → x2 < 0 → Q (some (.int (-1000000))) h) (hq_2 : ¬ s0 = 0 → ¬ x2 < 0 → 3 < x2 → Q (some (.int (-1000000))) h) (hM : ¬ s0 = 0 → ¬ x2 < 0 → ¬ 3 < x2 → Mk X d m_X2_findBest [.ref 40, .int x1] h nx sz (RI P25)) (q : ¬ s0 = 0 → ¬ x2 < 0 → ¬ 3 < x2 → ∀ (y : Int32) (g : AH), P25 y g → V X m_X11_best R (ZM X Q nx sz mc ms) (nx, sz, mc, ms) 28 [some (.ref 0), none, some (.int x2)] [.int y] g) : V X m_X11_best R (ZM X Q nx sz mc ms) (nx, sz, mc, ms) 8 [some (.ref 0), some (.int x1), some (.int x2)] [.int s0] h := by
  refine v_if_eq (tgt := 31) dX11_best_8 (by decide) (fun c0 => ?_) (fun c0 => ?_)
  · refine v_ldc_w dX11_best_31 kc_RX11_266 ?_
    exact v_iret dX11_best_34 rfl (hq c0)
  · refine v_iload_n dX11_best_11 rfl ?_
    refine v_if_lt (tgt := 31) dX11_best_12 (by decide) (fun c1 => ?_) (fun c1 => ?_)
    · refine v_ldc_w dX11_best_31 kc_RX11_266 ?_
      exact v_iret dX11_best_34 rfl (hq_1 c0 c1)
    · refine v_iload_n dX11_best_15 rfl ?_
      refine v_iconst dX11_best_16 ci_3 ?_
      refine v_icmp_gt (tgt := 31) dX11_best_17 (by decide) (fun c2 => ?_) (fun c2 => ?_)
      · refine v_ldc_w dX11_best_31 kc_RX11_266 ?_
        exact v_iret dX11_best_34 rfl (hq_2 c0 c1 c2)
      · refine v_aload_n dX11_best_20 rfl ?_
        refine v_getR dX11_best_21 fl_RX11_95 kd_0 (ltA hA0 rfl) rfl (hF 0 11 40 rfl) ?_
        refine v_iload_n dX11_best_24 rfl ?_
        exact v_cVI (mt := m_X11_best) mo_X2_findBest ml_RX11_278 mi_X2_findBest mv_X2_findBest rfl kd_40 cl_2 rfl (ltA hA0 rfl) hR hcs (Nat.le_of_ble_eq_true rfl) dX11_best_25 rfl (hM c0 c1 c2) (fun y g hp => (v_drop (lvLe_s (lvLe_n (lvLe_s lvLe_e))) ((q c0 c1 c2) y g hp)))
theorem c_X11_best_28 {X : CX} {R : Room} {Q : Option Value → AH → Prop} {nx sz mc ms : Nat} {h : AH} {x2 s0 : Int32} (hA0 : 91 ≤ nx) (hF : Fx h) (hq : ¬ s0 = 0 → ((x2 : Int32).toInt < 0 ∨ 2 < (x2 : Int32).toInt) → Q (some (.int (h.1 40 8))) h) (hq_1 : ¬ s0 = 0 → (x2 : Int32).toInt = 0 → Q (some (.int (h.1 40 5))) h) (hq_2 : ¬ s0 = 0 → (x2 : Int32).toInt = 1 → Q (some (.int (h.1 40 6))) h) (hq_3 : ¬ s0 = 0 → (x2 : Int32).toInt = 2 → Q (some (.int (h.1 40 7))) h) (hq_4 : s0 = 0 → Q (some (.int (-1000000))) h) : V X m_X11_best R (ZM X Q nx sz mc ms) (nx, sz, mc, ms) 28 [some (.ref 0), none, some (.int x2)] [.int s0] h := by
  refine v_if_ne (tgt := 35) dX11_best_28 (by decide) (fun c0 => ?_) (fun c0 => ?_)
  · refine v_iload_n dX11_best_35 rfl ?_
    rcases (by omega : ((x2 : Int32).toInt < 0 ∨ 2 < (x2 : Int32).toInt) ∨ (x2 : Int32).toInt = 0 ∨ (x2 : Int32).toInt = 1 ∨ (x2 : Int32).toInt = 2) with c1 | c1 | c1 | c1
    · refine v_tableOut (tgt := 88) dX11_best_36 c1 (by decide) ?_
      refine v_aload_n dX11_best_88 rfl ?_
      refine v_getR dX11_best_89 fl_RX11_95 kd_0 (ltA hA0 rfl) rfl (hF 0 11 40 rfl) ?_
      refine v_getI dX11_best_92 fl_RX11_290 kd_40 (ltA hA0 rfl) rfl ?_
      exact v_iret dX11_best_95 rfl (hq c0 c1)
    · refine v_tableIn (tgt := 64) (off := 28) dX11_best_36 (by rw [c1]; decide) (by rw [c1]; decide) (by rw [c1]; rfl) (by decide) ?_
      refine v_aload_n dX11_best_64 rfl ?_
      refine v_getR dX11_best_65 fl_RX11_95 kd_0 (ltA hA0 rfl) rfl (hF 0 11 40 rfl) ?_
      refine v_getI dX11_best_68 fl_RX11_281 kd_40 (ltA hA0 rfl) rfl ?_
      exact v_iret dX11_best_71 rfl (hq_1 c0 c1)
    · refine v_tableIn (tgt := 72) (off := 36) dX11_best_36 (by rw [c1]; decide) (by rw [c1]; decide) (by rw [c1]; rfl) (by decide) ?_
      refine v_aload_n dX11_best_72 rfl ?_
      refine v_getR dX11_best_73 fl_RX11_95 kd_0 (ltA hA0 rfl) rfl (hF 0 11 40 rfl) ?_
      refine v_getI dX11_best_76 fl_RX11_284 kd_40 (ltA hA0 rfl) rfl ?_
      exact v_iret dX11_best_79 rfl (hq_2 c0 c1)
    · refine v_tableIn (tgt := 80) (off := 44) dX11_best_36 (by rw [c1]; decide) (by rw [c1]; decide) (by rw [c1]; rfl) (by decide) ?_
      refine v_aload_n dX11_best_80 rfl ?_
      refine v_getR dX11_best_81 fl_RX11_95 kd_0 (ltA hA0 rfl) rfl (hF 0 11 40 rfl) ?_
      refine v_getI dX11_best_84 fl_RX11_287 kd_40 (ltA hA0 rfl) rfl ?_
      exact v_iret dX11_best_87 rfl (hq_3 c0 c1)
  · refine v_ldc_w dX11_best_31 kc_RX11_266 ?_
    exact v_iret dX11_best_34 rfl (hq_4 c0)
theorem e_X11_turn {X : CX} {d nx sz : Nat} {Q : Option Value → AH → Prop} {h : AH} (q : V X m_X11_turn (rm d 0 0) (ZM X Q nx sz 0 0) (nx, sz, 0, 0) 0 [some (.ref 0), none] [] h) : Mk X d m_X11_turn [.ref 0] h nx sz Q := by
  refine Mok.ofV mo_X11_turn (Nat.le_of_ble_eq_true rfl) (L := [some (.ref 0)]) (lvLe_s lvLe_e) (v_grow (n := 1) ?_)
  exact q
theorem c_X11_turn_0 {X : CX} {R : Room} {Z : ZX} {A : AX} {h : AH} {d : Nat} {P8 : AH → Prop} (hA0 : 91 ≤ A.1) (hF : Fx h) (hR : RO R (d + 1)) (hcs : A.2.2.1 ≤ R.cells ∧ A.2.2.2 ≤ R.slots) (hM : Mk X d m_X3_copy [.ref 9, .ref 1] h A.1 A.2.1 (RV P8)) (q : ∀ (g : AH), P8 g → V X m_X11_turn R Z A 11 [some (.ref 0), none] [] g) : V X m_X11_turn R Z A 0 [some (.ref 0), none] [] h := by
  refine v_aload_n dX11_turn_0 rfl ?_
  refine v_getR dX11_turn_1 fl_RX11_34 kd_0 (ltA hA0 rfl) rfl (hF 0 3 9 rfl) ?_
  refine v_aload_n dX11_turn_4 rfl ?_
  refine v_getR dX11_turn_5 fl_RX11_27 kd_0 (ltA hA0 rfl) rfl (hF 0 1 1 rfl) ?_
  exact v_cVV (mt := m_X11_turn) mo_X3_copy ml_RX11_293 mi_X3_copy mv_X3_copy rfl kd_9 cl_3 rfl (ltA hA0 rfl) hR hcs (Nat.le_of_ble_eq_true rfl) dX11_turn_8 rfl hM (fun g hp => (q g hp))
theorem c_X11_turn_11 {X : CX} {R : Room} {Z : ZX} {A : AX} {h : AH} {d : Nat} {P15 : Int32 → AH → Prop} (hA0 : 91 ≤ A.1) (hF : Fx h) (hR : RO R (d + 1)) (hcs : A.2.2.1 ≤ R.cells ∧ A.2.2.2 ≤ R.slots) (hM : Mk X d m_X2_makeTurns [.ref 40] h A.1 A.2.1 (RI P15)) (q : ∀ (y : Int32) (g : AH), P15 y g → V X m_X11_turn R Z A 18 [some (.ref 0), none] [.int y] g) : V X m_X11_turn R Z A 11 [some (.ref 0), none] [] h := by
  refine v_aload_n dX11_turn_11 rfl ?_
  refine v_getR dX11_turn_12 fl_RX11_95 kd_0 (ltA hA0 rfl) rfl (hF 0 11 40 rfl) ?_
  exact v_cVI (mt := m_X11_turn) mo_X2_makeTurns ml_RX11_296 mi_X2_makeTurns mv_X2_makeTurns rfl kd_40 cl_2 rfl (ltA hA0 rfl) hR hcs (Nat.le_of_ble_eq_true rfl) dX11_turn_15 rfl hM (fun y g hp => (q y g hp))
theorem c_X11_turn_18 {X : CX} {R : Room} {Z : ZX} {A : AX} {h : AH} {s0 : Int32} {d : Nat} {P32 : AH → Prop} (hA0 : 91 ≤ A.1) (hF : Fx h) (hR : RO R (d + 1)) (hcs : A.2.2.1 ≤ R.cells ∧ A.2.2.2 ≤ R.slots) (q : ¬ s0 = (-1) → V X m_X11_turn R Z A 35 [none, some (.int s0)] [] h) (hM : s0 = (-1) → Mk X d m_X3_copy [.ref 1, .ref 9] h A.1 A.2.1 (RV P32)) (q_1 : s0 = (-1) → ∀ (g : AH), P32 g → V X m_X11_turn R Z A 35 [none, some (.int s0)] [] g) : V X m_X11_turn R Z A 18 [some (.ref 0), none] [.int s0] h := by
  refine v_istore_n dX11_turn_18 (by decide) (L' := [some (.ref 0), some (.int s0)]) rfl ?_
  refine v_iload_n dX11_turn_19 rfl ?_
  refine v_iconst dX11_turn_20 ci_m1 ?_
  refine v_icmp_ne (tgt := 35) dX11_turn_21 (by decide) (fun c0 => ?_) (fun c0 => ?_)
  · exact (v_drop (lvLe_n (lvLe_s lvLe_e)) (q c0))
  · refine v_aload_n dX11_turn_24 rfl ?_
    refine v_getR dX11_turn_25 fl_RX11_27 kd_0 (ltA hA0 rfl) rfl (hF 0 1 1 rfl) ?_
    refine v_aload_n dX11_turn_28 rfl ?_
    refine v_getR dX11_turn_29 fl_RX11_34 kd_0 (ltA hA0 rfl) rfl (hF 0 3 9 rfl) ?_
    exact v_cVV (mt := m_X11_turn) mo_X3_copy ml_RX11_293 mi_X3_copy mv_X3_copy rfl kd_1 cl_3 rfl (ltA hA0 rfl) hR hcs (Nat.le_of_ble_eq_true rfl) dX11_turn_32 rfl (hM c0) (fun g hp => (v_drop (lvLe_n (lvLe_s lvLe_e)) ((q_1 c0) g hp)))
theorem c_X11_turn_35 {X : CX} {R : Room} {Q : Option Value → AH → Prop} {nx sz mc ms : Nat} {h : AH} {x1 : Int32} (hq : Q (some (.int x1)) h) : V X m_X11_turn R (ZM X Q nx sz mc ms) (nx, sz, mc, ms) 35 [none, some (.int x1)] [] h := by
  refine v_iload_n dX11_turn_35 rfl ?_
  exact v_iret dX11_turn_36 rfl hq
theorem e_X11_stable {X : CX} {d nx sz : Nat} {Q : Option Value → AH → Prop} {h : AH} (q : V X m_X11_stable (rm d 0 0) (ZM X Q nx sz 0 0) (nx, sz, 0, 0) 0 [some (.ref 0), none] [] h) : Mk X d m_X11_stable [.ref 0] h nx sz Q := by
  refine Mok.ofV mo_X11_stable (Nat.le_of_ble_eq_true rfl) (L := [some (.ref 0)]) (lvLe_s lvLe_e) (v_grow (n := 1) ?_)
  exact q
theorem c_X11_stable_0 {X : CX} {R : Room} {Z : ZX} {A : AX} {h : AH} (q : V X m_X11_stable R Z A 2 [some (.ref 0), some (.int 0)] [] h) : V X m_X11_stable R Z A 0 [some (.ref 0), none] [] h := by
  refine v_iconst dX11_stable_0 ci_0 ?_
  refine v_istore_n dX11_stable_1 (by decide) (L' := [some (.ref 0), some (.int 0)]) rfl ?_
  exact q
theorem c_X11_stable_2 {X : CX} {R : Room} {Q : Option Value → AH → Prop} {nx sz mc ms : Nat} {h : AH} {x1 : Int32} {d : Nat} {P15 : Int32 → AH → Prop} (hA0 : 91 ≤ nx) (hF : Fx h) (hR : RO R (d + 1)) (hcs : mc ≤ R.cells ∧ ms ≤ R.slots) (hq : (h.1 0 0) ≤ x1 → Q (some (.int 1)) h) (hM : ¬ (h.1 0 0) ≤ x1 → Mk X d m_X2_findBest [.ref 40, .int x1] h nx sz (RI P15)) (q : ¬ (h.1 0 0) ≤ x1 → ∀ (y : Int32) (g : AH), P15 y g → V X m_X11_stable R (ZM X Q nx sz mc ms) (nx, sz, mc, ms) 18 [some (.ref 0), some (.int x1)] [.int y] g) : V X m_X11_stable R (ZM X Q nx sz mc ms) (nx, sz, mc, ms) 2 [some (.ref 0), some (.int x1)] [] h := by
  refine v_iload_n dX11_stable_2 rfl ?_
  refine v_aload_n dX11_stable_3 rfl ?_
  refine v_getI dX11_stable_4 fl_RX11_18 kd_0 (ltA hA0 rfl) rfl ?_
  refine v_icmp_ge (tgt := 29) dX11_stable_7 (by decide) (fun c0 => ?_) (fun c0 => ?_)
  · refine v_iconst dX11_stable_29 ci_1 ?_
    exact v_zret (ty := .boolean) dX11_stable_30 rfl rfl (hq c0)
  · refine v_aload_n dX11_stable_10 rfl ?_
    refine v_getR dX11_stable_11 fl_RX11_95 kd_0 (ltA hA0 rfl) rfl (hF 0 11 40 rfl) ?_
    refine v_iload_n dX11_stable_14 rfl ?_
    exact v_cVI (mt := m_X11_stable) mo_X2_findBest ml_RX11_278 mi_X2_findBest mv_X2_findBest rfl kd_40 cl_2 rfl (ltA hA0 rfl) hR hcs (Nat.le_of_ble_eq_true rfl) dX11_stable_15 rfl (hM c0) (fun y g hp => ((q c0) y g hp))
theorem c_X11_stable_18 {X : CX} {R : Room} {Q : Option Value → AH → Prop} {nx sz mc ms : Nat} {h : AH} {x1 s0 : Int32} (q : s0 = 0 → V X m_X11_stable R (ZM X Q nx sz mc ms) (nx, sz, mc, ms) 2 [some (.ref 0), some (.int (x1 + 1))] [] h) (hq : ¬ s0 = 0 → Q (some (.int 0)) h) : V X m_X11_stable R (ZM X Q nx sz mc ms) (nx, sz, mc, ms) 18 [some (.ref 0), some (.int x1)] [.int s0] h := by
  refine v_if_eq (tgt := 23) dX11_stable_18 (by decide) (fun c0 => ?_) (fun c0 => ?_)
  · refine v_iinc (y := (x1 + 1)) dX11_stable_23 rfl rfl (by decide) (L' := [some (.ref 0), some (.int (x1 + 1))]) rfl ?_
    refine v_goto (tgt := 2) dX11_stable_26 (by decide) ?_
    exact (q c0)
  · refine v_iconst dX11_stable_21 ci_0 ?_
    exact v_zret (ty := .boolean) dX11_stable_22 rfl rfl (hq c0)
theorem e_X11_send {X : CX} {d nx sz : Nat} {Q : Option Value → AH → Prop} {h : AH} {x1 x2 x3 x4 : Int32} (q : V X m_X11_send (rm d 0 0) (ZM X Q nx sz 0 0) (nx, sz, 0, 0) 0 [some (.ref 0), some (.int x1), some (.int x2), some (.int x3), some (.int x4), none] [] h) : Mk X d m_X11_send [.ref 0, .int x1, .int x2, .int x3, .int x4] h nx sz Q := by
  refine Mok.ofV mo_X11_send (Nat.le_of_ble_eq_true rfl) (L := [some (.ref 0), some (.int x1), some (.int x2), some (.int x3), some (.int x4)]) (lvLe_s (lvLe_s (lvLe_s (lvLe_s (lvLe_s lvLe_e))))) (v_grow (n := 1) ?_)
  exact q
theorem c_X11_send_0 {X : CX} {R : Room} {Z : ZX} {A : AX} {h : AH} {x1 x2 x3 x4 : Int32} {d : Nat} {P5 : Int32 → AH → Prop} (hA0 : 91 ≤ A.1) (hF : Fx h) (hR : RO R (d + 1)) (hcs : A.2.2.1 ≤ R.cells ∧ A.2.2.2 ≤ R.slots) (hM : Mk X d m_X8_has [.ref 29, .int x1] h A.1 A.2.1 (RI P5)) (q : ∀ (y : Int32) (g : AH), P5 y g → V X m_X11_send R Z A 8 [some (.ref 0), some (.int x1), some (.int x2), some (.int x3), some (.int x4), none] [.int y] g) : V X m_X11_send R Z A 0 [some (.ref 0), some (.int x1), some (.int x2), some (.int x3), some (.int x4), none] [] h := by
  refine v_aload_n dX11_send_0 rfl ?_
  refine v_getR dX11_send_1 fl_RX11_88 kd_0 (ltA hA0 rfl) rfl (hF 0 10 29 rfl) ?_
  refine v_iload_n dX11_send_4 rfl ?_
  exact v_cVI (mt := m_X11_send) mo_X8_has ml_RX11_299 mi_X8_has mv_X8_has rfl kd_29 cl_8 rfl (ltA hA0 rfl) hR hcs (Nat.le_of_ble_eq_true rfl) dX11_send_5 rfl hM (fun y g hp => (q y g hp))
theorem c_X11_send_8 {X : CX} {R : Room} {Q : Option Value → AH → Prop} {nx sz mc ms : Nat} {h : AH} {x1 x2 x3 x4 s0 : Int32} {d : Nat} {P17 : Int32 → AH → Prop} (hA0 : 91 ≤ nx) (hF : Fx h) (hR : RO R (d + 1)) (hcs : mc ≤ R.cells ∧ ms ≤ R.slots) (hq : s0 = 0 → Q (some (.int (-1))) h) (hM : ¬ s0 = 0 → Mk X d m_X3_hasTwo [.ref 1, .int x2, .int x3] h nx sz (RI P17)) (q : ¬ s0 = 0 → ∀ (y : Int32) (g : AH), P17 y g → V X m_X11_send R (ZM X Q nx sz mc ms) (nx, sz, mc, ms) 20 [some (.ref 0), some (.int x1), some (.int x2), some (.int x3), some (.int x4), none] [.int y] g) : V X m_X11_send R (ZM X Q nx sz mc ms) (nx, sz, mc, ms) 8 [some (.ref 0), some (.int x1), some (.int x2), some (.int x3), some (.int x4), none] [.int s0] h := by
  refine v_if_eq (tgt := 23) dX11_send_8 (by decide) (fun c0 => ?_) (fun c0 => ?_)
  · refine v_iconst dX11_send_23 ci_m1 ?_
    exact v_iret dX11_send_24 rfl (hq c0)
  · refine v_aload_n dX11_send_11 rfl ?_
    refine v_getR dX11_send_12 fl_RX11_27 kd_0 (ltA hA0 rfl) rfl (hF 0 1 1 rfl) ?_
    refine v_iload_n dX11_send_15 rfl ?_
    refine v_iload_n dX11_send_16 rfl ?_
    exact v_cVI (mt := m_X11_send) mo_X3_hasTwo ml_RX11_170 mi_X3_hasTwo mv_X3_hasTwo rfl kd_1 cl_3 rfl (ltA hA0 rfl) hR hcs (Nat.le_of_ble_eq_true rfl) dX11_send_17 rfl (hM c0) (fun y g hp => ((q c0) y g hp))
theorem c_X11_send_20 {X : CX} {R : Room} {Q : Option Value → AH → Prop} {nx sz mc ms : Nat} {h : AH} {x1 x2 x3 x4 s0 : Int32} {d : Nat} {P32 : Int32 → AH → Prop} (hA0 : 91 ≤ nx) (hF : Fx h) (hR : RO R (d + 1)) (hcs : mc ≤ R.cells ∧ ms ≤ R.slots) (hM : ¬ s0 = 0 → Mk X d m_X6_carry [.ref 63, .int x1, .int x2, .int x3] h nx sz (RI P32)) (q : ¬ s0 = 0 → ∀ (y : Int32) (g : AH), P32 y g → V X m_X11_send R (ZM X Q nx sz mc ms) (nx, sz, mc, ms) 35 [some (.ref 0), none, none, none, some (.int x4), none] [.int y] g) (hq : s0 = 0 → Q (some (.int (-1))) h) : V X m_X11_send R (ZM X Q nx sz mc ms) (nx, sz, mc, ms) 20 [some (.ref 0), some (.int x1), some (.int x2), some (.int x3), some (.int x4), none] [.int s0] h := by
  refine v_if_ne (tgt := 25) dX11_send_20 (by decide) (fun c0 => ?_) (fun c0 => ?_)
  · refine v_aload_n dX11_send_25 rfl ?_
    refine v_getR dX11_send_26 fl_RX11_104 kd_0 (ltA hA0 rfl) rfl (hF 0 12 63 rfl) ?_
    refine v_iload_n dX11_send_29 rfl ?_
    refine v_iload_n dX11_send_30 rfl ?_
    refine v_iload_n dX11_send_31 rfl ?_
    exact v_cVI (mt := m_X11_send) mo_X6_carry ml_RX11_300 mi_X6_carry mv_X6_carry rfl kd_63 cl_6 rfl (ltA hA0 rfl) hR hcs (Nat.le_of_ble_eq_true rfl) dX11_send_32 rfl (hM c0) (fun y g hp => (v_drop (lvLe_s (lvLe_n (lvLe_n (lvLe_n (lvLe_s (lvLe_n lvLe_e)))))) ((q c0) y g hp)))
  · refine v_iconst dX11_send_23 ci_m1 ?_
    exact v_iret dX11_send_24 rfl (hq c0)
theorem c_X11_send_35 {X : CX} {R : Room} {Q : Option Value → AH → Prop} {nx sz mc ms : Nat} {h : AH} {x4 s0 : Int32} (hA0 : 91 ≤ nx) (hF : Fx h) (hq : ¬ x4 = (-1) → x4 < 0 → Q (some (.int (-1))) h) (hq_1 : ¬ x4 = (-1) → ¬ x4 < 0 → (h.1 63 4) < x4 → Q (some (.int (-1))) h) (hi_86 : ¬ x4 = (-1) → ¬ x4 < 0 → ¬ (h.1 63 4) < x4 → vp_in x4 61) (hq_2 : ¬ x4 = (-1) → ¬ x4 < 0 → ¬ (h.1 63 4) < x4 → Q (some (.int (h.1 65 x4.toNatClampNeg))) h) (hq_3 : x4 = (-1) → s0 = 0 → Q (some (.int (-1))) h) (hq_4 : x4 = (-1) → ¬ s0 = 0 → Q (some (.int (h.1 63 4))) h) : V X m_X11_send R (ZM X Q nx sz mc ms) (nx, sz, mc, ms) 35 [some (.ref 0), none, none, none, some (.int x4), none] [.int s0] h := by
  refine v_istore dX11_send_35 (by decide) (L' := [some (.ref 0), none, none, none, some (.int x4), some (.int s0)]) rfl ?_
  refine v_iload dX11_send_37 rfl ?_
  refine v_iconst dX11_send_39 ci_m1 ?_
  refine v_icmp_ne (tgt := 60) dX11_send_40 (by decide) (fun c0 => ?_) (fun c0 => ?_)
  · refine v_iload dX11_send_60 rfl ?_
    refine v_if_lt (tgt := 90) dX11_send_62 (by decide) (fun c1 => ?_) (fun c1 => ?_)
    · refine v_iconst dX11_send_90 ci_m1 ?_
      exact v_iret dX11_send_91 rfl (hq c0 c1)
    · refine v_iload dX11_send_65 rfl ?_
      refine v_aload_n dX11_send_67 rfl ?_
      refine v_getR dX11_send_68 fl_RX11_104 kd_0 (ltA hA0 rfl) rfl (hF 0 12 63 rfl) ?_
      refine v_getI dX11_send_71 fl_RX11_303 kd_63 (ltA hA0 rfl) rfl ?_
      refine v_icmp_gt (tgt := 90) dX11_send_74 (by decide) (fun c2 => ?_) (fun c2 => ?_)
      · refine v_iconst dX11_send_90 ci_m1 ?_
        exact v_iret dX11_send_91 rfl (hq_1 c0 c1 c2)
      · refine v_aload_n dX11_send_77 rfl ?_
        refine v_getR dX11_send_78 fl_RX11_104 kd_0 (ltA hA0 rfl) rfl (hF 0 12 63 rfl) ?_
        refine v_getR dX11_send_81 fl_RX11_306 kd_63 (ltA hA0 rfl) rfl (hF 63 3 65 rfl) ?_
        refine v_iload dX11_send_84 rfl ?_
        refine v_iald dX11_send_86 kd_65 (ltA hA0 rfl) (hi_86 c0 c1 c2) ?_
        refine v_goto (tgt := 91) dX11_send_87 (by decide) ?_
        exact v_iret dX11_send_91 rfl (hq_2 c0 c1 c2)
  · refine v_iload dX11_send_43 rfl ?_
    refine v_if_eq (tgt := 58) dX11_send_45 (by decide) (fun c1 => ?_) (fun c1 => ?_)
    · refine v_iconst dX11_send_58 ci_m1 ?_
      exact v_iret dX11_send_59 rfl (hq_3 c0 c1)
    · refine v_aload_n dX11_send_48 rfl ?_
      refine v_getR dX11_send_49 fl_RX11_104 kd_0 (ltA hA0 rfl) rfl (hF 0 12 63 rfl) ?_
      refine v_getI dX11_send_52 fl_RX11_303 kd_63 (ltA hA0 rfl) rfl ?_
      refine v_goto (tgt := 59) dX11_send_55 (by decide) ?_
      exact v_iret dX11_send_59 rfl (hq_4 c0 c1)
theorem e_X11_comes {X : CX} {d nx sz : Nat} {Q : Option Value → AH → Prop} {h : AH} {x1 x2 : Int32} (q : V X m_X11_comes (rm d 0 0) (ZM X Q nx sz 0 0) (nx, sz, 0, 0) 0 [some (.ref 0), some (.int x1), some (.int x2)] [] h) : Mk X d m_X11_comes [.ref 0, .int x1, .int x2] h nx sz Q := by
  refine Mok.ofV mo_X11_comes (Nat.le_of_ble_eq_true rfl) (L := [some (.ref 0), some (.int x1), some (.int x2)]) (lvLe_s (lvLe_s (lvLe_s lvLe_e))) (v_grow (n := 0) ?_)
  exact q
theorem c_X11_comes_0 {X : CX} {R : Room} {Z : ZX} {A : AX} {h : AH} {x1 x2 : Int32} {d : Nat} {P5 : Int32 → AH → Prop} (hA0 : 91 ≤ A.1) (hF : Fx h) (hR : RO R (d + 1)) (hcs : A.2.2.1 ≤ R.cells ∧ A.2.2.2 ≤ R.slots) (hM : Mk X d m_X8_has [.ref 29, .int x1] h A.1 A.2.1 (RI P5)) (q : ∀ (y : Int32) (g : AH), P5 y g → V X m_X11_comes R Z A 8 [some (.ref 0), some (.int x1), some (.int x2)] [.int y] g) : V X m_X11_comes R Z A 0 [some (.ref 0), some (.int x1), some (.int x2)] [] h := by
  refine v_aload_n dX11_comes_0 rfl ?_
  refine v_getR dX11_comes_1 fl_RX11_88 kd_0 (ltA hA0 rfl) rfl (hF 0 10 29 rfl) ?_
  refine v_iload_n dX11_comes_4 rfl ?_
  exact v_cVI (mt := m_X11_comes) mo_X8_has ml_RX11_299 mi_X8_has mv_X8_has rfl kd_29 cl_8 rfl (ltA hA0 rfl) hR hcs (Nat.le_of_ble_eq_true rfl) dX11_comes_5 rfl hM (fun y g hp => (q y g hp))
theorem c_X11_comes_8 {X : CX} {R : Room} {Q : Option Value → AH → Prop} {nx sz mc ms : Nat} {h : AH} {x1 x2 s0 : Int32} {d : Nat} {P37 P37_1 : Int32 → AH → Prop} (hA0 : 91 ≤ nx) (hF : Fx h) (hR : RO R (d + 1)) (hcs : mc ≤ R.cells ∧ ms ≤ R.slots) (hq : s0 = 0 → Q (some (.int (-1))) h) (hq_1 : ¬ s0 = 0 → x2 < 0 → Q (some (.int (-1))) h) (hM : ¬ s0 = 0 → ¬ x2 < 0 → x2 ≤ 1 → ¬ x2 = 1 → Mk X d m_X6_carryAll [.ref 63, .int x1, .int 0] h nx sz (RI P37)) (q : ¬ s0 = 0 → ¬ x2 < 0 → x2 ≤ 1 → ¬ x2 = 1 → ∀ (y : Int32) (g : AH), P37 y g → V X m_X11_comes R (ZM X Q nx sz mc ms) (nx, sz, mc, ms) 40 [none, none, none] [.int y] g) (hM_1 : ¬ s0 = 0 → ¬ x2 < 0 → x2 ≤ 1 → x2 = 1 → Mk X d m_X6_carryAll [.ref 63, .int x1, .int 1] h nx sz (RI P37_1)) (q_1 : ¬ s0 = 0 → ¬ x2 < 0 → x2 ≤ 1 → x2 = 1 → ∀ (y : Int32) (g : AH), P37_1 y g → V X m_X11_comes R (ZM X Q nx sz mc ms) (nx, sz, mc, ms) 40 [none, none, none] [.int y] g) (hq_2 : ¬ s0 = 0 → ¬ x2 < 0 → ¬ x2 ≤ 1 → Q (some (.int (-1))) h) : V X m_X11_comes R (ZM X Q nx sz mc ms) (nx, sz, mc, ms) 8 [some (.ref 0), some (.int x1), some (.int x2)] [.int s0] h := by
  refine v_if_eq (tgt := 20) dX11_comes_8 (by decide) (fun c0 => ?_) (fun c0 => ?_)
  · refine v_iconst dX11_comes_20 ci_m1 ?_
    exact v_iret dX11_comes_21 rfl (hq c0)
  · refine v_iload_n dX11_comes_11 rfl ?_
    refine v_if_lt (tgt := 20) dX11_comes_12 (by decide) (fun c1 => ?_) (fun c1 => ?_)
    · refine v_iconst dX11_comes_20 ci_m1 ?_
      exact v_iret dX11_comes_21 rfl (hq_1 c0 c1)
    · refine v_iload_n dX11_comes_15 rfl ?_
      refine v_iconst dX11_comes_16 ci_1 ?_
      refine v_icmp_le (tgt := 22) dX11_comes_17 (by decide) (fun c2 => ?_) (fun c2 => ?_)
      · refine v_aload_n dX11_comes_22 rfl ?_
        refine v_getR dX11_comes_23 fl_RX11_104 kd_0 (ltA hA0 rfl) rfl (hF 0 12 63 rfl) ?_
        refine v_iload_n dX11_comes_26 rfl ?_
        refine v_iload_n dX11_comes_27 rfl ?_
        refine v_iconst dX11_comes_28 ci_1 ?_
        refine v_icmp_ne (tgt := 36) dX11_comes_29 (by decide) (fun c3 => ?_) (fun c3 => ?_)
        · refine v_iconst dX11_comes_36 ci_0 ?_
          exact v_cVI (mt := m_X11_comes) mo_X6_carryAll ml_RX11_309 mi_X6_carryAll mv_X6_carryAll rfl kd_63 cl_6 rfl (ltA hA0 rfl) hR hcs (Nat.le_of_ble_eq_true rfl) dX11_comes_37 rfl (hM c0 c1 c2 c3) (fun y g hp => (v_drop (lvLe_n (lvLe_n (lvLe_n lvLe_e))) ((q c0 c1 c2 c3) y g hp)))
        · refine v_iconst dX11_comes_32 ci_1 ?_
          refine v_goto (tgt := 37) dX11_comes_33 (by decide) ?_
          exact v_cVI (mt := m_X11_comes) mo_X6_carryAll ml_RX11_309 mi_X6_carryAll mv_X6_carryAll rfl kd_63 cl_6 rfl (ltA hA0 rfl) hR hcs (Nat.le_of_ble_eq_true rfl) dX11_comes_37 rfl (hM_1 c0 c1 c2 c3) (fun y g hp => (v_drop (lvLe_n (lvLe_n (lvLe_n lvLe_e))) ((q_1 c0 c1 c2 c3) y g hp)))
      · refine v_iconst dX11_comes_20 ci_m1 ?_
        exact v_iret dX11_comes_21 rfl (hq_2 c0 c1 c2)
theorem c_X11_comes_40 {X : CX} {R : Room} {Q : Option Value → AH → Prop} {nx sz mc ms : Nat} {h : AH} {s0 : Int32} (hq : Q (some (.int s0)) h) : V X m_X11_comes R (ZM X Q nx sz mc ms) (nx, sz, mc, ms) 40 [none, none, none] [.int s0] h := by
  exact v_iret dX11_comes_40 rfl hq
theorem e_X11_years {X : CX} {d nx sz : Nat} {Q : Option Value → AH → Prop} {h : AH} {x1 x2 x3 : Int32} {j4 : Int64} (q : V X m_X11_years (rm d 0 0) (ZM X Q nx sz 0 0) (nx, sz, 0, 0) 0 [some (.ref 0), some (.int x1), some (.int x2), some (.int x3), some (.long j4), none] [] h) : Mk X d m_X11_years [.ref 0, .int x1, .int x2, .int x3, .long j4] h nx sz Q := by
  refine Mok.ofV mo_X11_years (Nat.le_of_ble_eq_true rfl) (L := [some (.ref 0), some (.int x1), some (.int x2), some (.int x3), some (.long j4), none]) (lvLe_s (lvLe_s (lvLe_s (lvLe_s (lvLe_s (lvLe_n lvLe_e)))))) (v_grow (n := 0) ?_)
  exact q
theorem c_X11_years_0 {X : CX} {R : Room} {Z : ZX} {A : AX} {h : AH} {x1 x2 x3 : Int32} {j4 : Int64} {d : Nat} {P5 : Int32 → AH → Prop} (hA0 : 91 ≤ A.1) (hF : Fx h) (hR : RO R (d + 1)) (hcs : A.2.2.1 ≤ R.cells ∧ A.2.2.2 ≤ R.slots) (hM : Mk X d m_X8_has [.ref 29, .int x1] h A.1 A.2.1 (RI P5)) (q : ∀ (y : Int32) (g : AH), P5 y g → V X m_X11_years R Z A 8 [some (.ref 0), some (.int x1), some (.int x2), some (.int x3), some (.long j4), none] [.int y] g) : V X m_X11_years R Z A 0 [some (.ref 0), some (.int x1), some (.int x2), some (.int x3), some (.long j4), none] [] h := by
  refine v_aload_n dX11_years_0 rfl ?_
  refine v_getR dX11_years_1 fl_RX11_88 kd_0 (ltA hA0 rfl) rfl (hF 0 10 29 rfl) ?_
  refine v_iload_n dX11_years_4 rfl ?_
  exact v_cVI (mt := m_X11_years) mo_X8_has ml_RX11_299 mi_X8_has mv_X8_has rfl kd_29 cl_8 rfl (ltA hA0 rfl) hR hcs (Nat.le_of_ble_eq_true rfl) dX11_years_5 rfl hM (fun y g hp => (q y g hp))
theorem c_X11_years_8 {X : CX} {R : Room} {Q : Option Value → AH → Prop} {nx sz mc ms : Nat} {h : AH} {x1 x2 x3 s0 : Int32} {j4 : Int64} {d : Nat} {P43 : Int32 → AH → Prop} (hA0 : 91 ≤ nx) (hF : Fx h) (hR : RO R (d + 1)) (hcs : mc ≤ R.cells ∧ ms ≤ R.slots) (hq : s0 = 0 → Q (some (.int (-1))) h) (hq_1 : ¬ s0 = 0 → x2 < 0 → Q (some (.int (-1))) h) (hq_2 : ¬ s0 = 0 → ¬ x2 < 0 → 100 < x2 → Q (some (.int (-1))) h) (hq_3 : ¬ s0 = 0 → ¬ x2 < 0 → ¬ 100 < x2 → x3 < 1 → Q (some (.int (-1))) h) (hM : ¬ s0 = 0 → ¬ x2 < 0 → ¬ 100 < x2 → ¬ x3 < 1 → x3 ≤ 30 → Mk X d m_X0_pass [.ref 66, .int x1, .int x2, .int x3, .long j4] h nx sz (RI P43)) (q : ¬ s0 = 0 → ¬ x2 < 0 → ¬ 100 < x2 → ¬ x3 < 1 → x3 ≤ 30 → ∀ (y : Int32) (g : AH), P43 y g → V X m_X11_years R (ZM X Q nx sz mc ms) (nx, sz, mc, ms) 46 [none, none, none, none, none, none] [.int y] g) (hq_4 : ¬ s0 = 0 → ¬ x2 < 0 → ¬ 100 < x2 → ¬ x3 < 1 → ¬ x3 ≤ 30 → Q (some (.int (-1))) h) : V X m_X11_years R (ZM X Q nx sz mc ms) (nx, sz, mc, ms) 8 [some (.ref 0), some (.int x1), some (.int x2), some (.int x3), some (.long j4), none] [.int s0] h := by
  refine v_if_eq (tgt := 32) dX11_years_8 (by decide) (fun c0 => ?_) (fun c0 => ?_)
  · refine v_iconst dX11_years_32 ci_m1 ?_
    exact v_iret dX11_years_33 rfl (hq c0)
  · refine v_iload_n dX11_years_11 rfl ?_
    refine v_if_lt (tgt := 32) dX11_years_12 (by decide) (fun c1 => ?_) (fun c1 => ?_)
    · refine v_iconst dX11_years_32 ci_m1 ?_
      exact v_iret dX11_years_33 rfl (hq_1 c0 c1)
    · refine v_iload_n dX11_years_15 rfl ?_
      refine v_bipush dX11_years_16 cb_100 ?_
      refine v_icmp_gt (tgt := 32) dX11_years_18 (by decide) (fun c2 => ?_) (fun c2 => ?_)
      · refine v_iconst dX11_years_32 ci_m1 ?_
        exact v_iret dX11_years_33 rfl (hq_2 c0 c1 c2)
      · refine v_iload_n dX11_years_21 rfl ?_
        refine v_iconst dX11_years_22 ci_1 ?_
        refine v_icmp_lt (tgt := 32) dX11_years_23 (by decide) (fun c3 => ?_) (fun c3 => ?_)
        · refine v_iconst dX11_years_32 ci_m1 ?_
          exact v_iret dX11_years_33 rfl (hq_3 c0 c1 c2 c3)
        · refine v_iload_n dX11_years_26 rfl ?_
          refine v_bipush dX11_years_27 cb_30 ?_
          refine v_icmp_le (tgt := 34) dX11_years_29 (by decide) (fun c4 => ?_) (fun c4 => ?_)
          · refine v_aload_n dX11_years_34 rfl ?_
            refine v_getR dX11_years_35 fl_RX11_113 kd_0 (ltA hA0 rfl) rfl (hF 0 13 66 rfl) ?_
            refine v_iload_n dX11_years_38 rfl ?_
            refine v_iload_n dX11_years_39 rfl ?_
            refine v_iload_n dX11_years_40 rfl ?_
            refine v_lload dX11_years_41 rfl ?_
            exact v_cVI (mt := m_X11_years) mo_X0_pass ml_RX11_313 mi_X0_pass mv_X0_pass rfl kd_66 cl_0 rfl (ltA hA0 rfl) hR hcs (Nat.le_of_ble_eq_true rfl) dX11_years_43 rfl (hM c0 c1 c2 c3 c4) (fun y g hp => (v_drop (lvLe_n (lvLe_n (lvLe_n (lvLe_n (lvLe_n (lvLe_n lvLe_e)))))) ((q c0 c1 c2 c3 c4) y g hp)))
          · refine v_iconst dX11_years_32 ci_m1 ?_
            exact v_iret dX11_years_33 rfl (hq_4 c0 c1 c2 c3 c4)
theorem c_X11_years_46 {X : CX} {R : Room} {Q : Option Value → AH → Prop} {nx sz mc ms : Nat} {h : AH} {s0 : Int32} (hq : Q (some (.int s0)) h) : V X m_X11_years R (ZM X Q nx sz mc ms) (nx, sz, mc, ms) 46 [none, none, none, none, none, none] [.int s0] h := by
  exact v_iret dX11_years_46 rfl hq
theorem e_X11_ring {X : CX} {d nx sz : Nat} {Q : Option Value → AH → Prop} {h : AH} {x1 : Int32} (q : V X m_X11_ring (rm d 0 0) (ZM X Q nx sz 0 0) (nx, sz, 0, 0) 0 [some (.ref 0), some (.int x1), none] [] h) : Mk X d m_X11_ring [.ref 0, .int x1] h nx sz Q := by
  refine Mok.ofV mo_X11_ring (Nat.le_of_ble_eq_true rfl) (L := [some (.ref 0), some (.int x1)]) (lvLe_s (lvLe_s lvLe_e)) (v_grow (n := 1) ?_)
  exact q
theorem c_X11_ring_0 {X : CX} {R : Room} {Z : ZX} {A : AX} {h : AH} {x1 : Int32} {d : Nat} {P2 : Int32 → AH → Prop} (hA0 : 91 ≤ A.1) (hR : RO R (d + 1)) (hcs : A.2.2.1 ≤ R.cells ∧ A.2.2.2 ≤ R.slots) (hM : Mk X d m_X11_mayJump [.ref 0, .int x1] h A.1 A.2.1 (RI P2)) (q : ∀ (y : Int32) (g : AH), P2 y g → V X m_X11_ring R Z A 5 [some (.ref 0), some (.int x1), none] [.int y] g) : V X m_X11_ring R Z A 0 [some (.ref 0), some (.int x1), none] [] h := by
  refine v_aload_n dX11_ring_0 rfl ?_
  refine v_iload_n dX11_ring_1 rfl ?_
  exact v_cVI (mt := m_X11_ring) mo_X11_mayJump ml_RX11_317 mi_X11_mayJump mv_X11_mayJump rfl kd_0 cl_11 rfl (ltA hA0 rfl) hR hcs (Nat.le_of_ble_eq_true rfl) dX11_ring_2 rfl hM (fun y g hp => (q y g hp))
theorem c_X11_ring_5 {X : CX} {R : Room} {Q : Option Value → AH → Prop} {nx sz mc ms : Nat} {h : AH} {x1 s0 : Int32} (q : ¬ s0 = 0 → V X m_X11_ring R (ZM X Q nx sz mc ms) (nx, sz, mc, ms) 12 [some (.ref 0), some (.int x1), some (.int 0)] [] h) (hq : s0 = 0 → Q (some (.int (-1))) h) : V X m_X11_ring R (ZM X Q nx sz mc ms) (nx, sz, mc, ms) 5 [some (.ref 0), some (.int x1), none] [.int s0] h := by
  refine v_if_ne (tgt := 10) dX11_ring_5 (by decide) (fun c0 => ?_) (fun c0 => ?_)
  · refine v_iconst dX11_ring_10 ci_0 ?_
    refine v_istore_n dX11_ring_11 (by decide) (L' := [some (.ref 0), some (.int x1), some (.int 0)]) rfl ?_
    exact (q c0)
  · refine v_iconst dX11_ring_8 ci_m1 ?_
    exact v_iret dX11_ring_9 rfl (hq c0)
theorem c_X11_ring_12 {X : CX} {R : Room} {Z : ZX} {A : AX} {h : AH} {x1 x2 : Int32} {d : Nat} {P55 : AH → Prop} {P23 : Int32 → AH → Prop} (hA0 : 91 ≤ A.1) (hF : Fx h) (hR : RO R (d + 1)) (hcs : A.2.2.1 ≤ R.cells ∧ A.2.2.2 ≤ R.slots) (hM : (h.1 0 0) ≤ x2 → Mk X d m_X11_tieRing [.ref 0, .ref 1, .int x1] h A.1 A.2.1 (RV P55)) (q : (h.1 0 0) ≤ x2 → ∀ (g : AH), P55 g → V X m_X11_ring R Z A 58 [some (.ref 0), none, none] [] g) (hM_1 : ¬ (h.1 0 0) ≤ x2 → Mk X d m_X11_ringRow [.ref 0, .int x1, .int x2] h A.1 A.2.1 (RI P23)) (q_1 : ¬ (h.1 0 0) ≤ x2 → ∀ (y : Int32) (g : AH), P23 y g → V X m_X11_ring R Z A 26 [some (.ref 0), some (.int x1), some (.int x2)] [.int y] g) : V X m_X11_ring R Z A 12 [some (.ref 0), some (.int x1), some (.int x2)] [] h := by
  refine v_iload_n dX11_ring_12 rfl ?_
  refine v_aload_n dX11_ring_13 rfl ?_
  refine v_getI dX11_ring_14 fl_RX11_18 kd_0 (ltA hA0 rfl) rfl ?_
  refine v_icmp_ge (tgt := 49) dX11_ring_17 (by decide) (fun c0 => ?_) (fun c0 => ?_)
  · refine v_aload_n dX11_ring_49 rfl ?_
    refine v_aload_n dX11_ring_50 rfl ?_
    refine v_getR dX11_ring_51 fl_RX11_27 kd_0 (ltA hA0 rfl) rfl (hF 0 1 1 rfl) ?_
    refine v_iload_n dX11_ring_54 rfl ?_
    exact v_cVV (mt := m_X11_ring) mo_X11_tieRing ml_RX11_328 mi_X11_tieRing mv_X11_tieRing rfl kd_0 cl_11 rfl (ltA hA0 rfl) hR hcs (Nat.le_of_ble_eq_true rfl) dX11_ring_55 rfl (hM c0) (fun g hp => (v_drop (lvLe_s (lvLe_n (lvLe_n lvLe_e))) ((q c0) g hp)))
  · refine v_aload_n dX11_ring_20 rfl ?_
    refine v_iload_n dX11_ring_21 rfl ?_
    refine v_iload_n dX11_ring_22 rfl ?_
    exact v_cVI (mt := m_X11_ring) mo_X11_ringRow ml_RX11_320 mi_X11_ringRow mv_X11_ringRow rfl kd_0 cl_11 rfl (ltA hA0 rfl) hR hcs (Nat.le_of_ble_eq_true rfl) dX11_ring_23 rfl (hM_1 c0) (fun y g hp => ((q_1 c0) y g hp))
theorem c_X11_ring_26 {X : CX} {R : Room} {Z : ZX} {A : AX} {h : AH} {x1 x2 s0 : Int32} {d : Nat} {P26 : Int32 → AH → Prop} (hR : RO R (d + 1)) (hcs : A.2.2.1 ≤ R.cells ∧ A.2.2.2 ≤ R.slots) (hM : Mk X d m_J6_bitCount_0f7a4 [.int s0] h A.1 A.2.1 (RI P26)) (q : ∀ (y : Int32) (g : AH), P26 y g → V X m_X11_ring R Z A 29 [some (.ref 0), some (.int x1), some (.int x2)] [.int y] g) : V X m_X11_ring R Z A 26 [some (.ref 0), some (.int x1), some (.int x2)] [.int s0] h := by
  exact v_cSI (mt := m_X11_ring) mo_J6_bitCount_0f7a4 ml_RX11_323 mz_J6_bitCount_0f7a4 rfl hR hcs (Nat.le_of_ble_eq_true rfl) dX11_ring_26 rfl hM (fun y g hp => (q y g hp))
theorem c_X11_ring_29 {X : CX} {R : Room} {Q : Option Value → AH → Prop} {nx sz mc ms : Nat} {h : AH} {x1 x2 s0 : Int32} (hA0 : 91 ≤ nx) (hF : Fx h) (hi_37 : vp_in x2 20) (q : s0 ≤ (h.1 3 x2.toNatClampNeg) → V X m_X11_ring R (ZM X Q nx sz mc ms) (nx, sz, mc, ms) 12 [some (.ref 0), some (.int x1), some (.int (x2 + 1))] [] h) (hq : ¬ s0 ≤ (h.1 3 x2.toNatClampNeg) → Q (some (.int (-1))) h) : V X m_X11_ring R (ZM X Q nx sz mc ms) (nx, sz, mc, ms) 29 [some (.ref 0), some (.int x1), some (.int x2)] [.int s0] h := by
  refine v_aload_n dX11_ring_29 rfl ?_
  refine v_getR dX11_ring_30 fl_RX11_27 kd_0 (ltA hA0 rfl) rfl (hF 0 1 1 rfl) ?_
  refine v_getR dX11_ring_33 fl_RX11_167 kd_1 (ltA hA0 rfl) rfl (hF 1 3 3 rfl) ?_
  refine v_iload_n dX11_ring_36 rfl ?_
  refine v_iald dX11_ring_37 kd_3 (ltA hA0 rfl) hi_37 ?_
  refine v_icmp_le (tgt := 43) dX11_ring_38 (by decide) (fun c0 => ?_) (fun c0 => ?_)
  · refine v_iinc (y := (x2 + 1)) dX11_ring_43 rfl rfl (by decide) (L' := [some (.ref 0), some (.int x1), some (.int (x2 + 1))]) rfl ?_
    refine v_goto (tgt := 12) dX11_ring_46 (by decide) ?_
    exact (q c0)
  · refine v_iconst dX11_ring_41 ci_m1 ?_
    exact v_iret dX11_ring_42 rfl (hq c0)
theorem c_X11_ring_58 {X : CX} {R : Room} {Z : ZX} {A : AX} {h : AH} {d : Nat} {P62 : Int32 → AH → Prop} (hA0 : 91 ≤ A.1) (hF : Fx h) (hR : RO R (d + 1)) (hcs : A.2.2.1 ≤ R.cells ∧ A.2.2.2 ≤ R.slots) (hM : Mk X d m_X3_tieCount [.ref 1] h A.1 A.2.1 (RI P62)) (q : ∀ (y : Int32) (g : AH), P62 y g → V X m_X11_ring R Z A 65 [none, none, none] [.int y] g) : V X m_X11_ring R Z A 58 [some (.ref 0), none, none] [] h := by
  refine v_aload_n dX11_ring_58 rfl ?_
  refine v_getR dX11_ring_59 fl_RX11_27 kd_0 (ltA hA0 rfl) rfl (hF 0 1 1 rfl) ?_
  exact v_cVI (mt := m_X11_ring) mo_X3_tieCount ml_RX11_145 mi_X3_tieCount mv_X3_tieCount rfl kd_1 cl_3 rfl (ltA hA0 rfl) hR hcs (Nat.le_of_ble_eq_true rfl) dX11_ring_62 rfl hM (fun y g hp => (v_drop (lvLe_n (lvLe_n (lvLe_n lvLe_e))) (q y g hp)))
theorem c_X11_ring_65 {X : CX} {R : Room} {Q : Option Value → AH → Prop} {nx sz mc ms : Nat} {h : AH} {s0 : Int32} (hq : Q (some (.int s0)) h) : V X m_X11_ring R (ZM X Q nx sz mc ms) (nx, sz, mc, ms) 65 [none, none, none] [.int s0] h := by
  exact v_iret dX11_ring_65 rfl hq
theorem e_X11_mayJump {X : CX} {d nx sz : Nat} {Q : Option Value → AH → Prop} {h : AH} {x1 : Int32} (q : V X m_X11_mayJump (rm d 0 0) (ZM X Q nx sz 0 0) (nx, sz, 0, 0) 0 [some (.ref 0), some (.int x1)] [] h) : Mk X d m_X11_mayJump [.ref 0, .int x1] h nx sz Q := by
  refine Mok.ofV mo_X11_mayJump (Nat.le_of_ble_eq_true rfl) (L := [some (.ref 0), some (.int x1)]) (lvLe_s (lvLe_s lvLe_e)) (v_grow (n := 0) ?_)
  exact q
theorem c_X11_mayJump_0 {X : CX} {R : Room} {Q : Option Value → AH → Prop} {nx sz mc ms : Nat} {h : AH} {x1 : Int32} (hA0 : 91 ≤ nx) (hq : x1 ≤ 0 → Q (some (.int 0)) h) (hq_1 : ¬ x1 ≤ 0 → x1 < 1024 → ¬ (x1 >>> (((h.1 0 0) / 2) &&& 31)) = 0 → Q (some (.int 0)) h) (hq_2 : ¬ x1 ≤ 0 → x1 < 1024 → (x1 >>> (((h.1 0 0) / 2) &&& 31)) = 0 → Q (some (.int 1)) h) (hq_3 : ¬ x1 ≤ 0 → ¬ x1 < 1024 → Q (some (.int 0)) h) : V X m_X11_mayJump R (ZM X Q nx sz mc ms) (nx, sz, mc, ms) 0 [some (.ref 0), some (.int x1)] [] h := by
  refine v_iload_n dX11_mayJump_0 rfl ?_
  refine v_if_le (tgt := 11) dX11_mayJump_1 (by decide) (fun c0 => ?_) (fun c0 => ?_)
  · refine v_iconst dX11_mayJump_11 ci_0 ?_
    exact v_zret (ty := .boolean) dX11_mayJump_12 rfl rfl (hq c0)
  · refine v_iload_n dX11_mayJump_4 rfl ?_
    refine v_sipush dX11_mayJump_5 cs_1024 ?_
    refine v_icmp_lt (tgt := 13) dX11_mayJump_8 (by decide) (fun c1 => ?_) (fun c1 => ?_)
    · refine v_iload_n dX11_mayJump_13 rfl ?_
      refine v_aload_n dX11_mayJump_14 rfl ?_
      refine v_getI dX11_mayJump_15 fl_RX11_18 kd_0 (ltA hA0 rfl) rfl ?_
      refine v_iconst dX11_mayJump_18 ci_2 ?_
      refine v_idiv dX11_mayJump_19 (by decide) ?_
      refine v_ishr dX11_mayJump_20 ?_
      refine v_if_ne (tgt := 28) dX11_mayJump_21 (by decide) (fun c2 => ?_) (fun c2 => ?_)
      · refine v_iconst dX11_mayJump_28 ci_0 ?_
        exact v_zret (ty := .boolean) dX11_mayJump_29 rfl rfl (hq_1 c0 c1 c2)
      · refine v_iconst dX11_mayJump_24 ci_1 ?_
        refine v_goto (tgt := 29) dX11_mayJump_25 (by decide) ?_
        exact v_zret (ty := .boolean) dX11_mayJump_29 rfl rfl (hq_2 c0 c1 c2)
    · refine v_iconst dX11_mayJump_11 ci_0 ?_
      exact v_zret (ty := .boolean) dX11_mayJump_12 rfl rfl (hq_3 c0 c1)
theorem e_X11_ringRow {X : CX} {d nx sz : Nat} {Q : Option Value → AH → Prop} {h : AH} {x1 x2 : Int32} (q : V X m_X11_ringRow (rm d 0 0) (ZM X Q nx sz 0 0) (nx, sz, 0, 0) 0 [some (.ref 0), some (.int x1), some (.int x2), none, none, none, none] [] h) : Mk X d m_X11_ringRow [.ref 0, .int x1, .int x2] h nx sz Q := by
  refine Mok.ofV mo_X11_ringRow (Nat.le_of_ble_eq_true rfl) (L := [some (.ref 0), some (.int x1), some (.int x2)]) (lvLe_s (lvLe_s (lvLe_s lvLe_e))) (v_grow (n := 4) ?_)
  exact q
theorem c_X11_ringRow_0 {X : CX} {R : Room} {Z : ZX} {A : AX} {h : AH} {x1 x2 : Int32} (q : V X m_X11_ringRow R Z A 5 [some (.ref 0), some (.int x1), some (.int x2), some (.int 0), some (.int 1), none, none] [] h) : V X m_X11_ringRow R Z A 0 [some (.ref 0), some (.int x1), some (.int x2), none, none, none, none] [] h := by
  refine v_iconst dX11_ringRow_0 ci_0 ?_
  refine v_istore_n dX11_ringRow_1 (by decide) (L' := [some (.ref 0), some (.int x1), some (.int x2), some (.int 0), none, none, none]) rfl ?_
  refine v_iconst dX11_ringRow_2 ci_1 ?_
  refine v_istore dX11_ringRow_3 (by decide) (L' := [some (.ref 0), some (.int x1), some (.int x2), some (.int 0), some (.int 1), none, none]) rfl ?_
  exact q
theorem c_X11_ringRow_5 {X : CX} {R : Room} {Q : Option Value → AH → Prop} {nx sz mc ms : Nat} {h : AH} {x1 x2 x3 x4 : Int32} (hA0 : 91 ≤ nx) (hq : 10 < x4 → Q (some (.int x3)) h) (hq_1 : ¬ 10 < x4 → (h.1 0 0) ≤ x4 → Q (some (.int x3)) h) (q : ¬ 10 < x4 → ¬ (h.1 0 0) ≤ x4 → ((x1 >>> ((x4 - 1) &&& 31)) &&& 1) = 0 → V X m_X11_ringRow R (ZM X Q nx sz mc ms) (nx, sz, mc, ms) 5 [some (.ref 0), some (.int x1), some (.int x2), some (.int x3), some (.int (x4 + 1)), none, none] [] h) (q_1 : ¬ 10 < x4 → ¬ (h.1 0 0) ≤ x4 → ¬ ((x1 >>> ((x4 - 1) &&& 31)) &&& 1) = 0 → (h.1 0 0) ≤ (x2 + x4) → (x2 - x4) < 0 → V X m_X11_ringRow R (ZM X Q nx sz mc ms) (nx, sz, mc, ms) 5 [some (.ref 0), some (.int x1), some (.int x2), some (.int ((x3 ||| ((1 : Int32) <<< ((((x2 + x4) - (h.1 0 0)) : Int32) &&& 31))) ||| ((1 : Int32) <<< ((((x2 - x4) + (h.1 0 0)) : Int32) &&& 31)))), some (.int (x4 + 1)), none, none] [] h) (q_2 : ¬ 10 < x4 → ¬ (h.1 0 0) ≤ x4 → ¬ ((x1 >>> ((x4 - 1) &&& 31)) &&& 1) = 0 → (h.1 0 0) ≤ (x2 + x4) → ¬ (x2 - x4) < 0 → V X m_X11_ringRow R (ZM X Q nx sz mc ms) (nx, sz, mc, ms) 5 [some (.ref 0), some (.int x1), some (.int x2), some (.int ((x3 ||| ((1 : Int32) <<< ((((x2 + x4) - (h.1 0 0)) : Int32) &&& 31))) ||| ((1 : Int32) <<< (((x2 - x4) : Int32) &&& 31)))), some (.int (x4 + 1)), none, none] [] h) (q_3 : ¬ 10 < x4 → ¬ (h.1 0 0) ≤ x4 → ¬ ((x1 >>> ((x4 - 1) &&& 31)) &&& 1) = 0 → ¬ (h.1 0 0) ≤ (x2 + x4) → (x2 - x4) < 0 → V X m_X11_ringRow R (ZM X Q nx sz mc ms) (nx, sz, mc, ms) 5 [some (.ref 0), some (.int x1), some (.int x2), some (.int ((x3 ||| ((1 : Int32) <<< (((x2 + x4) : Int32) &&& 31))) ||| ((1 : Int32) <<< ((((x2 - x4) + (h.1 0 0)) : Int32) &&& 31)))), some (.int (x4 + 1)), none, none] [] h) (q_4 : ¬ 10 < x4 → ¬ (h.1 0 0) ≤ x4 → ¬ ((x1 >>> ((x4 - 1) &&& 31)) &&& 1) = 0 → ¬ (h.1 0 0) ≤ (x2 + x4) → ¬ (x2 - x4) < 0 → V X m_X11_ringRow R (ZM X Q nx sz mc ms) (nx, sz, mc, ms) 5 [some (.ref 0), some (.int x1), some (.int x2), some (.int ((x3 ||| ((1 : Int32) <<< (((x2 + x4) : Int32) &&& 31))) ||| ((1 : Int32) <<< (((x2 - x4) : Int32) &&& 31)))), some (.int (x4 + 1)), none, none] [] h) : V X m_X11_ringRow R (ZM X Q nx sz mc ms) (nx, sz, mc, ms) 5 [some (.ref 0), some (.int x1), some (.int x2), some (.int x3), some (.int x4), none, none] [] h := by
  refine v_iload dX11_ringRow_5 rfl ?_
  refine v_bipush dX11_ringRow_7 cb_10 ?_
  refine v_icmp_gt (tgt := 98) dX11_ringRow_9 (by decide) (fun c0 => ?_) (fun c0 => ?_)
  · refine v_iload_n dX11_ringRow_98 rfl ?_
    exact v_iret dX11_ringRow_99 rfl (hq c0)
  · refine v_iload dX11_ringRow_12 rfl ?_
    refine v_aload_n dX11_ringRow_14 rfl ?_
    refine v_getI dX11_ringRow_15 fl_RX11_18 kd_0 (ltA hA0 rfl) rfl ?_
    refine v_icmp_ge (tgt := 98) dX11_ringRow_18 (by decide) (fun c1 => ?_) (fun c1 => ?_)
    · refine v_iload_n dX11_ringRow_98 rfl ?_
      exact v_iret dX11_ringRow_99 rfl (hq_1 c0 c1)
    · refine v_iload_n dX11_ringRow_21 rfl ?_
      refine v_iload dX11_ringRow_22 rfl ?_
      refine v_iconst dX11_ringRow_24 ci_1 ?_
      refine v_isub dX11_ringRow_25 ?_
      refine v_ishr dX11_ringRow_26 ?_
      refine v_iconst dX11_ringRow_27 ci_1 ?_
      refine v_iand dX11_ringRow_28 ?_
      refine v_if_eq (tgt := 92) dX11_ringRow_29 (by decide) (fun c2 => ?_) (fun c2 => ?_)
      · refine v_iinc (y := (x4 + 1)) dX11_ringRow_92 rfl rfl (by decide) (L' := [some (.ref 0), some (.int x1), some (.int x2), some (.int x3), some (.int (x4 + 1)), none, none]) rfl ?_
        refine v_goto (tgt := 5) dX11_ringRow_95 (by decide) ?_
        exact (q c0 c1 c2)
      · refine v_iload_n dX11_ringRow_32 rfl ?_
        refine v_iload dX11_ringRow_33 rfl ?_
        refine v_iadd dX11_ringRow_35 ?_
        refine v_istore dX11_ringRow_36 (by decide) (L' := [some (.ref 0), some (.int x1), some (.int x2), some (.int x3), some (.int x4), some (.int (x2 + x4)), none]) rfl ?_
        refine v_iload_n dX11_ringRow_38 rfl ?_
        refine v_iload dX11_ringRow_39 rfl ?_
        refine v_isub dX11_ringRow_41 ?_
        refine v_istore dX11_ringRow_42 (by decide) (L' := [some (.ref 0), some (.int x1), some (.int x2), some (.int x3), some (.int x4), some (.int (x2 + x4)), some (.int (x2 - x4))]) rfl ?_
        refine v_iload_n dX11_ringRow_44 rfl ?_
        refine v_iconst dX11_ringRow_45 ci_1 ?_
        refine v_iload dX11_ringRow_46 rfl ?_
        refine v_aload_n dX11_ringRow_48 rfl ?_
        refine v_getI dX11_ringRow_49 fl_RX11_18 kd_0 (ltA hA0 rfl) rfl ?_
        refine v_icmp_ge (tgt := 60) dX11_ringRow_52 (by decide) (fun c3 => ?_) (fun c3 => ?_)
        · refine v_iload dX11_ringRow_60 rfl ?_
          refine v_aload_n dX11_ringRow_62 rfl ?_
          refine v_getI dX11_ringRow_63 fl_RX11_18 kd_0 (ltA hA0 rfl) rfl ?_
          refine v_isub dX11_ringRow_66 ?_
          refine v_ishl dX11_ringRow_67 ?_
          refine v_ior dX11_ringRow_68 ?_
          refine v_istore_n dX11_ringRow_69 (by decide) (L' := [some (.ref 0), some (.int x1), some (.int x2), some (.int (x3 ||| ((1 : Int32) <<< ((((x2 + x4) - (h.1 0 0)) : Int32) &&& 31)))), some (.int x4), some (.int (x2 + x4)), some (.int (x2 - x4))]) rfl ?_
          refine v_iload_n dX11_ringRow_70 rfl ?_
          refine v_iconst dX11_ringRow_71 ci_1 ?_
          refine v_iload dX11_ringRow_72 rfl ?_
          refine v_if_lt (tgt := 82) dX11_ringRow_74 (by decide) (fun c4 => ?_) (fun c4 => ?_)
          · refine v_iload dX11_ringRow_82 rfl ?_
            refine v_aload_n dX11_ringRow_84 rfl ?_
            refine v_getI dX11_ringRow_85 fl_RX11_18 kd_0 (ltA hA0 rfl) rfl ?_
            refine v_iadd dX11_ringRow_88 ?_
            refine v_ishl dX11_ringRow_89 ?_
            refine v_ior dX11_ringRow_90 ?_
            refine v_istore_n dX11_ringRow_91 (by decide) (L' := [some (.ref 0), some (.int x1), some (.int x2), some (.int ((x3 ||| ((1 : Int32) <<< ((((x2 + x4) - (h.1 0 0)) : Int32) &&& 31))) ||| ((1 : Int32) <<< ((((x2 - x4) + (h.1 0 0)) : Int32) &&& 31)))), some (.int x4), some (.int (x2 + x4)), some (.int (x2 - x4))]) rfl ?_
            refine v_iinc (y := (x4 + 1)) dX11_ringRow_92 rfl rfl (by decide) (L' := [some (.ref 0), some (.int x1), some (.int x2), some (.int ((x3 ||| ((1 : Int32) <<< ((((x2 + x4) - (h.1 0 0)) : Int32) &&& 31))) ||| ((1 : Int32) <<< ((((x2 - x4) + (h.1 0 0)) : Int32) &&& 31)))), some (.int (x4 + 1)), some (.int (x2 + x4)), some (.int (x2 - x4))]) rfl ?_
            refine v_goto (tgt := 5) dX11_ringRow_95 (by decide) ?_
            exact (v_drop (lvLe_s (lvLe_s (lvLe_s (lvLe_s (lvLe_s (lvLe_n (lvLe_n lvLe_e))))))) (q_1 c0 c1 c2 c3 c4))
          · refine v_iload dX11_ringRow_77 rfl ?_
            refine v_goto (tgt := 89) dX11_ringRow_79 (by decide) ?_
            refine v_ishl dX11_ringRow_89 ?_
            refine v_ior dX11_ringRow_90 ?_
            refine v_istore_n dX11_ringRow_91 (by decide) (L' := [some (.ref 0), some (.int x1), some (.int x2), some (.int ((x3 ||| ((1 : Int32) <<< ((((x2 + x4) - (h.1 0 0)) : Int32) &&& 31))) ||| ((1 : Int32) <<< (((x2 - x4) : Int32) &&& 31)))), some (.int x4), some (.int (x2 + x4)), some (.int (x2 - x4))]) rfl ?_
            refine v_iinc (y := (x4 + 1)) dX11_ringRow_92 rfl rfl (by decide) (L' := [some (.ref 0), some (.int x1), some (.int x2), some (.int ((x3 ||| ((1 : Int32) <<< ((((x2 + x4) - (h.1 0 0)) : Int32) &&& 31))) ||| ((1 : Int32) <<< (((x2 - x4) : Int32) &&& 31)))), some (.int (x4 + 1)), some (.int (x2 + x4)), some (.int (x2 - x4))]) rfl ?_
            refine v_goto (tgt := 5) dX11_ringRow_95 (by decide) ?_
            exact (v_drop (lvLe_s (lvLe_s (lvLe_s (lvLe_s (lvLe_s (lvLe_n (lvLe_n lvLe_e))))))) (q_2 c0 c1 c2 c3 c4))
        · refine v_iload dX11_ringRow_55 rfl ?_
          refine v_goto (tgt := 67) dX11_ringRow_57 (by decide) ?_
          refine v_ishl dX11_ringRow_67 ?_
          refine v_ior dX11_ringRow_68 ?_
          refine v_istore_n dX11_ringRow_69 (by decide) (L' := [some (.ref 0), some (.int x1), some (.int x2), some (.int (x3 ||| ((1 : Int32) <<< (((x2 + x4) : Int32) &&& 31)))), some (.int x4), some (.int (x2 + x4)), some (.int (x2 - x4))]) rfl ?_
          refine v_iload_n dX11_ringRow_70 rfl ?_
          refine v_iconst dX11_ringRow_71 ci_1 ?_
          refine v_iload dX11_ringRow_72 rfl ?_
          refine v_if_lt (tgt := 82) dX11_ringRow_74 (by decide) (fun c4 => ?_) (fun c4 => ?_)
          · refine v_iload dX11_ringRow_82 rfl ?_
            refine v_aload_n dX11_ringRow_84 rfl ?_
            refine v_getI dX11_ringRow_85 fl_RX11_18 kd_0 (ltA hA0 rfl) rfl ?_
            refine v_iadd dX11_ringRow_88 ?_
            refine v_ishl dX11_ringRow_89 ?_
            refine v_ior dX11_ringRow_90 ?_
            refine v_istore_n dX11_ringRow_91 (by decide) (L' := [some (.ref 0), some (.int x1), some (.int x2), some (.int ((x3 ||| ((1 : Int32) <<< (((x2 + x4) : Int32) &&& 31))) ||| ((1 : Int32) <<< ((((x2 - x4) + (h.1 0 0)) : Int32) &&& 31)))), some (.int x4), some (.int (x2 + x4)), some (.int (x2 - x4))]) rfl ?_
            refine v_iinc (y := (x4 + 1)) dX11_ringRow_92 rfl rfl (by decide) (L' := [some (.ref 0), some (.int x1), some (.int x2), some (.int ((x3 ||| ((1 : Int32) <<< (((x2 + x4) : Int32) &&& 31))) ||| ((1 : Int32) <<< ((((x2 - x4) + (h.1 0 0)) : Int32) &&& 31)))), some (.int (x4 + 1)), some (.int (x2 + x4)), some (.int (x2 - x4))]) rfl ?_
            refine v_goto (tgt := 5) dX11_ringRow_95 (by decide) ?_
            exact (v_drop (lvLe_s (lvLe_s (lvLe_s (lvLe_s (lvLe_s (lvLe_n (lvLe_n lvLe_e))))))) (q_3 c0 c1 c2 c3 c4))
          · refine v_iload dX11_ringRow_77 rfl ?_
            refine v_goto (tgt := 89) dX11_ringRow_79 (by decide) ?_
            refine v_ishl dX11_ringRow_89 ?_
            refine v_ior dX11_ringRow_90 ?_
            refine v_istore_n dX11_ringRow_91 (by decide) (L' := [some (.ref 0), some (.int x1), some (.int x2), some (.int ((x3 ||| ((1 : Int32) <<< (((x2 + x4) : Int32) &&& 31))) ||| ((1 : Int32) <<< (((x2 - x4) : Int32) &&& 31)))), some (.int x4), some (.int (x2 + x4)), some (.int (x2 - x4))]) rfl ?_
            refine v_iinc (y := (x4 + 1)) dX11_ringRow_92 rfl rfl (by decide) (L' := [some (.ref 0), some (.int x1), some (.int x2), some (.int ((x3 ||| ((1 : Int32) <<< (((x2 + x4) : Int32) &&& 31))) ||| ((1 : Int32) <<< (((x2 - x4) : Int32) &&& 31)))), some (.int (x4 + 1)), some (.int (x2 + x4)), some (.int (x2 - x4))]) rfl ?_
            refine v_goto (tgt := 5) dX11_ringRow_95 (by decide) ?_
            exact (v_drop (lvLe_s (lvLe_s (lvLe_s (lvLe_s (lvLe_s (lvLe_n (lvLe_n lvLe_e))))))) (q_4 c0 c1 c2 c3 c4))
theorem e_X11_tieRing {X : CX} {d nx sz : Nat} {Q : Option Value → AH → Prop} {h : AH} {r1 : Nat} {x2 : Int32} (q : V X m_X11_tieRing (rm d 0 0) (ZM X Q nx sz 0 0) (nx, sz, 0, 0) 0 [some (.ref 0), some (.ref r1), some (.int x2), none] [] h) : Mk X d m_X11_tieRing [.ref 0, .ref r1, .int x2] h nx sz Q := by
  refine Mok.ofV mo_X11_tieRing (Nat.le_of_ble_eq_true rfl) (L := [some (.ref 0), some (.ref r1), some (.int x2)]) (lvLe_s (lvLe_s (lvLe_s lvLe_e))) (v_grow (n := 1) ?_)
  exact q
theorem c_X11_tieRing_0 {X : CX} {R : Room} {Z : ZX} {A : AX} {h : AH} {r1 : Nat} {x2 : Int32} (q : V X m_X11_tieRing R Z A 2 [some (.ref 0), some (.ref r1), some (.int x2), some (.int 0)] [] h) : V X m_X11_tieRing R Z A 0 [some (.ref 0), some (.ref r1), some (.int x2), none] [] h := by
  refine v_iconst dX11_tieRing_0 ci_0 ?_
  refine v_istore_n dX11_tieRing_1 (by decide) (L' := [some (.ref 0), some (.ref r1), some (.int x2), some (.int 0)]) rfl ?_
  exact q
theorem c_X11_tieRing_2 {X : CX} {R : Room} {Q : Option Value → AH → Prop} {nx sz mc ms : Nat} {h : AH} {r1 d : Nat} {x2 x3 : Int32} {P18 : Int32 → AH → Prop} (hA0 : 91 ≤ nx) (hF : Fx h) (hn_r1 : IsNet r1) (hR : RO R (d + 1)) (hcs : mc ≤ R.cells ∧ ms ≤ R.slots) (hq : (h.1 0 0) ≤ x3 → Q none h) (hM : ¬ (h.1 0 0) ≤ x3 → Mk X d m_X11_ringRow [.ref 0, .int x2, .int x3] h nx sz (RI P18)) (q : ¬ (h.1 0 0) ≤ x3 → ∀ (y : Int32) (g : AH), P18 y g → V X m_X11_tieRing R (ZM X Q nx sz mc ms) (nx, sz, mc, ms) 21 [some (.ref 0), some (.ref r1), some (.int x2), some (.int x3)] [.int y, .int x3, .ref (r1 + 1)] g) : V X m_X11_tieRing R (ZM X Q nx sz mc ms) (nx, sz, mc, ms) 2 [some (.ref 0), some (.ref r1), some (.int x2), some (.int x3)] [] h := by
  refine v_iload_n dX11_tieRing_2 rfl ?_
  refine v_aload_n dX11_tieRing_3 rfl ?_
  refine v_getI dX11_tieRing_4 fl_RX11_18 kd_0 (ltA hA0 rfl) rfl ?_
  refine v_icmp_ge (tgt := 28) dX11_tieRing_7 (by decide) (fun c0 => ?_) (fun c0 => ?_)
  · exact v_vret dX11_tieRing_28 rfl (hq c0)
  · refine v_aload_n dX11_tieRing_10 rfl ?_
    refine v_getR dX11_tieRing_11 fl_RX11_136 (net_kd hn_r1) (net_lt hn_r1 hA0) rfl (net_r1 hn_r1 hF) ?_
    refine v_iload_n dX11_tieRing_14 rfl ?_
    refine v_aload_n dX11_tieRing_15 rfl ?_
    refine v_iload_n dX11_tieRing_16 rfl ?_
    refine v_iload_n dX11_tieRing_17 rfl ?_
    exact v_cVI (mt := m_X11_tieRing) mo_X11_ringRow ml_RX11_320 mi_X11_ringRow mv_X11_ringRow rfl kd_0 cl_11 rfl (ltA hA0 rfl) hR hcs (Nat.le_of_ble_eq_true rfl) dX11_tieRing_18 rfl (hM c0) (fun y g hp => ((q c0) y g hp))
theorem c_X11_tieRing_21 {X : CX} {R : Room} {Z : ZX} {A : AX} {h : AH} {r1 : Nat} {x2 x3 s1 s2 : Int32} (hA0 : 91 ≤ A.1) (hn_r1 : IsNet r1) (hi_21 : vp_in s1 20) (q : V X m_X11_tieRing R Z A 2 [some (.ref 0), some (.ref r1), some (.int x2), some (.int (x3 + 1))] [] (setI h (r1 + 1) s1.toNatClampNeg s2)) : V X m_X11_tieRing R Z A 21 [some (.ref 0), some (.ref r1), some (.int x2), some (.int x3)] [.int s2, .int s1, .ref (r1 + 1)] h := by
  refine v_iast dX11_tieRing_21 (net_kd1 hn_r1) (net_lt1 hn_r1 hA0) hi_21 ?_
  refine v_iinc (y := (x3 + 1)) dX11_tieRing_22 rfl rfl (by decide) (L' := [some (.ref 0), some (.ref r1), some (.int x2), some (.int (x3 + 1))]) rfl ?_
  refine v_goto (tgt := 2) dX11_tieRing_25 (by decide) ?_
  exact q
theorem e_X11_fine {X : CX} {d nx sz : Nat} {Q : Option Value → AH → Prop} {h : AH} {x1 x2 : Int32} (q : V X m_X11_fine (rm d 0 0) (ZM X Q nx sz 0 0) (nx, sz, 0, 0) 0 [some (.ref 0), some (.int x1), some (.int x2), none, none, none, none] [] h) : Mk X d m_X11_fine [.ref 0, .int x1, .int x2] h nx sz Q := by
  refine Mok.ofV mo_X11_fine (Nat.le_of_ble_eq_true rfl) (L := [some (.ref 0), some (.int x1), some (.int x2)]) (lvLe_s (lvLe_s (lvLe_s lvLe_e))) (v_grow (n := 4) ?_)
  exact q
theorem c_X11_fine_0 {X : CX} {R : Room} {Q : Option Value → AH → Prop} {nx sz mc ms : Nat} {h : AH} {x1 x2 : Int32} (hq : x1 < 1 → Q (some (.int (-1))) h) (hq_1 : ¬ x1 < 1 → 3 < x1 → Q (some (.int (-1))) h) (hq_2 : ¬ x1 < 1 → ¬ 3 < x1 → x2 < 0 → Q (some (.int (-1))) h) (q : ¬ x1 < 1 → ¬ 3 < x1 → ¬ x2 < 0 → x2 ≤ 1 → V X m_X11_fine R (ZM X Q nx sz mc ms) (nx, sz, mc, ms) 29 [some (.ref 0), some (.int x1), some (.int x2), some (.int (-1)), some (.int 0), some (.int 1), none] [] h) (hq_3 : ¬ x1 < 1 → ¬ 3 < x1 → ¬ x2 < 0 → ¬ x2 ≤ 1 → Q (some (.int (-1))) h) : V X m_X11_fine R (ZM X Q nx sz mc ms) (nx, sz, mc, ms) 0 [some (.ref 0), some (.int x1), some (.int x2), none, none, none, none] [] h := by
  refine v_iload_n dX11_fine_0 rfl ?_
  refine v_iconst dX11_fine_1 ci_1 ?_
  refine v_icmp_lt (tgt := 19) dX11_fine_2 (by decide) (fun c0 => ?_) (fun c0 => ?_)
  · refine v_iconst dX11_fine_19 ci_m1 ?_
    exact v_iret dX11_fine_20 rfl (hq c0)
  · refine v_iload_n dX11_fine_5 rfl ?_
    refine v_iconst dX11_fine_6 ci_3 ?_
    refine v_icmp_gt (tgt := 19) dX11_fine_7 (by decide) (fun c1 => ?_) (fun c1 => ?_)
    · refine v_iconst dX11_fine_19 ci_m1 ?_
      exact v_iret dX11_fine_20 rfl (hq_1 c0 c1)
    · refine v_iload_n dX11_fine_10 rfl ?_
      refine v_if_lt (tgt := 19) dX11_fine_11 (by decide) (fun c2 => ?_) (fun c2 => ?_)
      · refine v_iconst dX11_fine_19 ci_m1 ?_
        exact v_iret dX11_fine_20 rfl (hq_2 c0 c1 c2)
      · refine v_iload_n dX11_fine_14 rfl ?_
        refine v_iconst dX11_fine_15 ci_1 ?_
        refine v_icmp_le (tgt := 21) dX11_fine_16 (by decide) (fun c3 => ?_) (fun c3 => ?_)
        · refine v_iconst dX11_fine_21 ci_m1 ?_
          refine v_istore_n dX11_fine_22 (by decide) (L' := [some (.ref 0), some (.int x1), some (.int x2), some (.int (-1)), none, none, none]) rfl ?_
          refine v_iconst dX11_fine_23 ci_0 ?_
          refine v_istore dX11_fine_24 (by decide) (L' := [some (.ref 0), some (.int x1), some (.int x2), some (.int (-1)), some (.int 0), none, none]) rfl ?_
          refine v_iconst dX11_fine_26 ci_1 ?_
          refine v_istore dX11_fine_27 (by decide) (L' := [some (.ref 0), some (.int x1), some (.int x2), some (.int (-1)), some (.int 0), some (.int 1), none]) rfl ?_
          exact (q c0 c1 c2 c3)
        · refine v_iconst dX11_fine_19 ci_m1 ?_
          exact v_iret dX11_fine_20 rfl (hq_3 c0 c1 c2 c3)
theorem c_X11_fine_29 {X : CX} {R : Room} {Q : Option Value → AH → Prop} {nx sz mc ms : Nat} {h : AH} {x1 x2 x3 x4 x5 : Int32} {d : Nat} {P39 : Int32 → AH → Prop} (hR : RO R (d + 1)) (hcs : mc ≤ R.cells ∧ ms ≤ R.slots) (hq : 1024 ≤ x5 → x2 = 0 → Q (some (.int x3)) h) (hq_1 : 1024 ≤ x5 → ¬ x2 = 0 → ¬ x3 = (-1) → Q (some (.int x4)) h) (hq_2 : 1024 ≤ x5 → ¬ x2 = 0 → x3 = (-1) → Q (some (.int x3)) h) (hM : ¬ 1024 ≤ x5 → Mk X d m_J6_bitCount_0f7a4 [.int x5] h nx sz (RI P39)) (q : ¬ 1024 ≤ x5 → ∀ (y : Int32) (g : AH), P39 y g → V X m_X11_fine R (ZM X Q nx sz mc ms) (nx, sz, mc, ms) 42 [some (.ref 0), some (.int x1), some (.int x2), some (.int x3), some (.int x4), some (.int x5), none] [.int y] g) : V X m_X11_fine R (ZM X Q nx sz mc ms) (nx, sz, mc, ms) 29 [some (.ref 0), some (.int x1), some (.int x2), some (.int x3), some (.int x4), some (.int x5), none] [] h := by
  refine v_iload dX11_fine_29 rfl ?_
  refine v_sipush dX11_fine_31 cs_1024 ?_
  refine v_icmp_ge (tgt := 100) dX11_fine_34 (by decide) (fun c0 => ?_) (fun c0 => ?_)
  · refine v_iload_n dX11_fine_100 rfl ?_
    refine v_if_eq (tgt := 109) dX11_fine_101 (by decide) (fun c1 => ?_) (fun c1 => ?_)
    · refine v_iload_n dX11_fine_109 rfl ?_
      refine v_goto (tgt := 115) dX11_fine_110 (by decide) ?_
      exact v_iret dX11_fine_115 rfl (hq c0 c1)
    · refine v_iload_n dX11_fine_104 rfl ?_
      refine v_iconst dX11_fine_105 ci_m1 ?_
      refine v_icmp_ne (tgt := 113) dX11_fine_106 (by decide) (fun c2 => ?_) (fun c2 => ?_)
      · refine v_iload dX11_fine_113 rfl ?_
        exact v_iret dX11_fine_115 rfl (hq_1 c0 c1 c2)
      · refine v_iload_n dX11_fine_109 rfl ?_
        refine v_goto (tgt := 115) dX11_fine_110 (by decide) ?_
        exact v_iret dX11_fine_115 rfl (hq_2 c0 c1 c2)
  · refine v_iload dX11_fine_37 rfl ?_
    exact v_cSI (mt := m_X11_fine) mo_J6_bitCount_0f7a4 ml_RX11_323 mz_J6_bitCount_0f7a4 rfl hR hcs (Nat.le_of_ble_eq_true rfl) dX11_fine_39 rfl (hM c0) (fun y g hp => ((q c0) y g hp))
theorem c_X11_fine_42 {X : CX} {R : Room} {Z : ZX} {A : AX} {h : AH} {x1 x2 x3 x4 x5 s0 : Int32} {d : Nat} {P49 : Int32 → AH → Prop} (hA0 : 91 ≤ A.1) (hR : RO R (d + 1)) (hcs : A.2.2.1 ≤ R.cells ∧ A.2.2.2 ≤ R.slots) (q : ¬ s0 = x1 → V X m_X11_fine R Z A 29 [some (.ref 0), some (.int x1), some (.int x2), some (.int x3), some (.int x4), some (.int (x5 + 1)), none] [] h) (hM : s0 = x1 → Mk X d m_X11_mayJump [.ref 0, .int x5] h A.1 A.2.1 (RI P49)) (q_1 : s0 = x1 → ∀ (y : Int32) (g : AH), P49 y g → V X m_X11_fine R Z A 52 [some (.ref 0), some (.int x1), some (.int x2), some (.int x3), some (.int x4), some (.int x5), none] [.int y] g) : V X m_X11_fine R Z A 42 [some (.ref 0), some (.int x1), some (.int x2), some (.int x3), some (.int x4), some (.int x5), none] [.int s0] h := by
  refine v_iload_n dX11_fine_42 rfl ?_
  refine v_icmp_ne (tgt := 94) dX11_fine_43 (by decide) (fun c0 => ?_) (fun c0 => ?_)
  · refine v_iinc (y := (x5 + 1)) dX11_fine_94 rfl rfl (by decide) (L' := [some (.ref 0), some (.int x1), some (.int x2), some (.int x3), some (.int x4), some (.int (x5 + 1)), none]) rfl ?_
    refine v_goto (tgt := 29) dX11_fine_97 (by decide) ?_
    exact (q c0)
  · refine v_aload_n dX11_fine_46 rfl ?_
    refine v_iload dX11_fine_47 rfl ?_
    exact v_cVI (mt := m_X11_fine) mo_X11_mayJump ml_RX11_317 mi_X11_mayJump mv_X11_mayJump rfl kd_0 cl_11 rfl (ltA hA0 rfl) hR hcs (Nat.le_of_ble_eq_true rfl) dX11_fine_49 rfl (hM c0) (fun y g hp => ((q_1 c0) y g hp))
theorem c_X11_fine_52 {X : CX} {R : Room} {Z : ZX} {A : AX} {h : AH} {x1 x2 x3 x4 x5 s0 : Int32} {d : Nat} {P62 : AH → Prop} (hA0 : 91 ≤ A.1) (hF : Fx h) (hR : RO R (d + 1)) (hcs : A.2.2.1 ≤ R.cells ∧ A.2.2.2 ≤ R.slots) (q : s0 = 0 → V X m_X11_fine R Z A 29 [some (.ref 0), some (.int x1), some (.int x2), some (.int x3), some (.int x4), some (.int (x5 + 1)), none] [] h) (hM : ¬ s0 = 0 → Mk X d m_X11_tieRing [.ref 0, .ref 9, .int x5] h A.1 A.2.1 (RV P62)) (q_1 : ¬ s0 = 0 → ∀ (g : AH), P62 g → V X m_X11_fine R Z A 65 [some (.ref 0), some (.int x1), some (.int x2), some (.int x3), some (.int x4), some (.int x5), none] [] g) : V X m_X11_fine R Z A 52 [some (.ref 0), some (.int x1), some (.int x2), some (.int x3), some (.int x4), some (.int x5), none] [.int s0] h := by
  refine v_if_eq (tgt := 94) dX11_fine_52 (by decide) (fun c0 => ?_) (fun c0 => ?_)
  · refine v_iinc (y := (x5 + 1)) dX11_fine_94 rfl rfl (by decide) (L' := [some (.ref 0), some (.int x1), some (.int x2), some (.int x3), some (.int x4), some (.int (x5 + 1)), none]) rfl ?_
    refine v_goto (tgt := 29) dX11_fine_97 (by decide) ?_
    exact (q c0)
  · refine v_aload_n dX11_fine_55 rfl ?_
    refine v_aload_n dX11_fine_56 rfl ?_
    refine v_getR dX11_fine_57 fl_RX11_34 kd_0 (ltA hA0 rfl) rfl (hF 0 3 9 rfl) ?_
    refine v_iload dX11_fine_60 rfl ?_
    exact v_cVV (mt := m_X11_fine) mo_X11_tieRing ml_RX11_328 mi_X11_tieRing mv_X11_tieRing rfl kd_0 cl_11 rfl (ltA hA0 rfl) hR hcs (Nat.le_of_ble_eq_true rfl) dX11_fine_62 rfl (hM c0) (fun g hp => ((q_1 c0) g hp))
theorem c_X11_fine_65 {X : CX} {R : Room} {Z : ZX} {A : AX} {h : AH} {x1 x2 x3 x4 x5 : Int32} {d : Nat} {P70 : Int32 → AH → Prop} (hA0 : 91 ≤ A.1) (hF : Fx h) (hR : RO R (d + 1)) (hcs : A.2.2.1 ≤ R.cells ∧ A.2.2.2 ≤ R.slots) (hM : Mk X d m_X3_sumOf [.ref 9, .int 0] h A.1 A.2.1 (RI P70)) (q : ∀ (y : Int32) (g : AH), P70 y g → V X m_X11_fine R Z A 73 [some (.ref 0), some (.int x1), some (.int x2), some (.int x3), some (.int x4), some (.int x5), none] [.int y] g) : V X m_X11_fine R Z A 65 [some (.ref 0), some (.int x1), some (.int x2), some (.int x3), some (.int x4), some (.int x5), none] [] h := by
  refine v_aload_n dX11_fine_65 rfl ?_
  refine v_getR dX11_fine_66 fl_RX11_34 kd_0 (ltA hA0 rfl) rfl (hF 0 3 9 rfl) ?_
  refine v_iconst dX11_fine_69 ci_0 ?_
  exact v_cVI (mt := m_X11_fine) mo_X3_sumOf ml_RX11_216 mi_X3_sumOf mv_X3_sumOf rfl kd_9 cl_3 rfl (ltA hA0 rfl) hR hcs (Nat.le_of_ble_eq_true rfl) dX11_fine_70 rfl hM (fun y g hp => (q y g hp))
theorem c_X11_fine_73 {X : CX} {R : Room} {Z : ZX} {A : AX} {h : AH} {x1 x2 x3 x4 x5 s0 : Int32} (q : x3 = (-1) → V X m_X11_fine R Z A 29 [some (.ref 0), some (.int x1), some (.int x2), some (.int x5), some (.int s0), some (.int (x5 + 1)), none] [] h) (q_1 : ¬ x3 = (-1) → x4 ≤ s0 → V X m_X11_fine R Z A 29 [some (.ref 0), some (.int x1), some (.int x2), some (.int x3), some (.int x4), some (.int (x5 + 1)), none] [] h) (q_2 : ¬ x3 = (-1) → ¬ x4 ≤ s0 → V X m_X11_fine R Z A 29 [some (.ref 0), some (.int x1), some (.int x2), some (.int x5), some (.int s0), some (.int (x5 + 1)), none] [] h) : V X m_X11_fine R Z A 73 [some (.ref 0), some (.int x1), some (.int x2), some (.int x3), some (.int x4), some (.int x5), none] [.int s0] h := by
  refine v_istore dX11_fine_73 (by decide) (L' := [some (.ref 0), some (.int x1), some (.int x2), some (.int x3), some (.int x4), some (.int x5), some (.int s0)]) rfl ?_
  refine v_iload_n dX11_fine_75 rfl ?_
  refine v_iconst dX11_fine_76 ci_m1 ?_
  refine v_icmp_eq (tgt := 87) dX11_fine_77 (by decide) (fun c0 => ?_) (fun c0 => ?_)
  · refine v_iload dX11_fine_87 rfl ?_
    refine v_istore_n dX11_fine_89 (by decide) (L' := [some (.ref 0), some (.int x1), some (.int x2), some (.int x5), some (.int x4), some (.int x5), some (.int s0)]) rfl ?_
    refine v_iload dX11_fine_90 rfl ?_
    refine v_istore dX11_fine_92 (by decide) (L' := [some (.ref 0), some (.int x1), some (.int x2), some (.int x5), some (.int s0), some (.int x5), some (.int s0)]) rfl ?_
    refine v_iinc (y := (x5 + 1)) dX11_fine_94 rfl rfl (by decide) (L' := [some (.ref 0), some (.int x1), some (.int x2), some (.int x5), some (.int s0), some (.int (x5 + 1)), some (.int s0)]) rfl ?_
    refine v_goto (tgt := 29) dX11_fine_97 (by decide) ?_
    exact (v_drop (lvLe_s (lvLe_s (lvLe_s (lvLe_s (lvLe_s (lvLe_s (lvLe_n lvLe_e))))))) (q c0))
  · refine v_iload dX11_fine_80 rfl ?_
    refine v_iload dX11_fine_82 rfl ?_
    refine v_icmp_ge (tgt := 94) dX11_fine_84 (by decide) (fun c1 => ?_) (fun c1 => ?_)
    · refine v_iinc (y := (x5 + 1)) dX11_fine_94 rfl rfl (by decide) (L' := [some (.ref 0), some (.int x1), some (.int x2), some (.int x3), some (.int x4), some (.int (x5 + 1)), some (.int s0)]) rfl ?_
      refine v_goto (tgt := 29) dX11_fine_97 (by decide) ?_
      exact (v_drop (lvLe_s (lvLe_s (lvLe_s (lvLe_s (lvLe_s (lvLe_s (lvLe_n lvLe_e))))))) (q_1 c0 c1))
    · refine v_iload dX11_fine_87 rfl ?_
      refine v_istore_n dX11_fine_89 (by decide) (L' := [some (.ref 0), some (.int x1), some (.int x2), some (.int x5), some (.int x4), some (.int x5), some (.int s0)]) rfl ?_
      refine v_iload dX11_fine_90 rfl ?_
      refine v_istore dX11_fine_92 (by decide) (L' := [some (.ref 0), some (.int x1), some (.int x2), some (.int x5), some (.int s0), some (.int x5), some (.int s0)]) rfl ?_
      refine v_iinc (y := (x5 + 1)) dX11_fine_94 rfl rfl (by decide) (L' := [some (.ref 0), some (.int x1), some (.int x2), some (.int x5), some (.int s0), some (.int (x5 + 1)), some (.int s0)]) rfl ?_
      refine v_goto (tgt := 29) dX11_fine_97 (by decide) ?_
      exact (v_drop (lvLe_s (lvLe_s (lvLe_s (lvLe_s (lvLe_s (lvLe_s (lvLe_n lvLe_e))))))) (q_2 c0 c1))
theorem e_X11_bound {X : CX} {d nx sz : Nat} {Q : Option Value → AH → Prop} {h : AH} {x1 : Int32} (q : V X m_X11_bound (rm d 0 0) (ZM X Q nx sz 0 0) (nx, sz, 0, 0) 0 [some (.ref 0), some (.int x1), none, none, none, none, none] [] h) : Mk X d m_X11_bound [.ref 0, .int x1] h nx sz Q := by
  refine Mok.ofV mo_X11_bound (Nat.le_of_ble_eq_true rfl) (L := [some (.ref 0), some (.int x1)]) (lvLe_s (lvLe_s lvLe_e)) (v_grow (n := 5) ?_)
  exact q
theorem c_X11_bound_0 {X : CX} {R : Room} {Q : Option Value → AH → Prop} {nx sz mc ms : Nat} {h : AH} {x1 : Int32} (hA0 : 91 ≤ nx) (hq : x1 < 1 → Q (some (.int (-1))) h) (q : ¬ x1 < 1 → x1 ≤ 9 → V X m_X11_bound R (ZM X Q nx sz mc ms) (nx, sz, mc, ms) 28 [some (.ref 0), some (.int x1), some (.int ((h.1 0 0) - 1)), some (.int x1), some (.int 0), some (.int 1), none] [] h) (hq_1 : ¬ x1 < 1 → ¬ x1 ≤ 9 → Q (some (.int (-1))) h) : V X m_X11_bound R (ZM X Q nx sz mc ms) (nx, sz, mc, ms) 0 [some (.ref 0), some (.int x1), none, none, none, none, none] [] h := by
  refine v_iload_n dX11_bound_0 rfl ?_
  refine v_iconst dX11_bound_1 ci_1 ?_
  refine v_icmp_lt (tgt := 11) dX11_bound_2 (by decide) (fun c0 => ?_) (fun c0 => ?_)
  · refine v_iconst dX11_bound_11 ci_m1 ?_
    exact v_iret dX11_bound_12 rfl (hq c0)
  · refine v_iload_n dX11_bound_5 rfl ?_
    refine v_bipush dX11_bound_6 cb_9 ?_
    refine v_icmp_le (tgt := 13) dX11_bound_8 (by decide) (fun c1 => ?_) (fun c1 => ?_)
    · refine v_aload_n dX11_bound_13 rfl ?_
      refine v_getI dX11_bound_14 fl_RX11_18 kd_0 (ltA hA0 rfl) rfl ?_
      refine v_iconst dX11_bound_17 ci_1 ?_
      refine v_isub dX11_bound_18 ?_
      refine v_istore_n dX11_bound_19 (by decide) (L' := [some (.ref 0), some (.int x1), some (.int ((h.1 0 0) - 1)), none, none, none, none]) rfl ?_
      refine v_iload_n dX11_bound_20 rfl ?_
      refine v_istore_n dX11_bound_21 (by decide) (L' := [some (.ref 0), some (.int x1), some (.int ((h.1 0 0) - 1)), some (.int x1), none, none, none]) rfl ?_
      refine v_iconst dX11_bound_22 ci_0 ?_
      refine v_istore dX11_bound_23 (by decide) (L' := [some (.ref 0), some (.int x1), some (.int ((h.1 0 0) - 1)), some (.int x1), some (.int 0), none, none]) rfl ?_
      refine v_iconst dX11_bound_25 ci_1 ?_
      refine v_istore dX11_bound_26 (by decide) (L' := [some (.ref 0), some (.int x1), some (.int ((h.1 0 0) - 1)), some (.int x1), some (.int 0), some (.int 1), none]) rfl ?_
      exact (q c0 c1)
    · refine v_iconst dX11_bound_11 ci_m1 ?_
      exact v_iret dX11_bound_12 rfl (hq_1 c0 c1)
theorem c_X11_bound_28 {X : CX} {R : Room} {Q : Option Value → AH → Prop} {nx sz mc ms : Nat} {h : AH} {x1 x2 x3 x4 x5 : Int32} {d : Nat} (hA0 : 91 ≤ nx) (hR : RO R (d + 1)) (hcs : mc ≤ R.cells ∧ ms ≤ R.slots) (hq : (h.1 0 0) ≤ x5 → Q (some (.int (x4 + ((h.1 0 0) * x2)))) h) (hq_1 : ¬ (h.1 0 0) ≤ x5 → x2 ≤ 0 → Q (some (.int (x4 + ((h.1 0 0) * x2)))) h) (q : ¬ (h.1 0 0) ≤ x5 → ¬ x2 ≤ 0 → V X m_X11_bound R (ZM X Q nx sz mc ms) (nx, sz, mc, ms) 28 [some (.ref 0), some (.int x1), some (.int (x2 - (if x3 < x2 then x3 else x2))), some (.int (if (x3 * (x1 - 1)) < 20 then (x3 * (x1 - 1)) else 20)), some (.int (x4 + (x5 * (if x3 < x2 then x3 else x2)))), some (.int (x5 + 1)), none] [] h) : V X m_X11_bound R (ZM X Q nx sz mc ms) (nx, sz, mc, ms) 28 [some (.ref 0), some (.int x1), some (.int x2), some (.int x3), some (.int x4), some (.int x5), none] [] h := by
  refine v_iload dX11_bound_28 rfl ?_
  refine v_aload_n dX11_bound_30 rfl ?_
  refine v_getI dX11_bound_31 fl_RX11_18 kd_0 (ltA hA0 rfl) rfl ?_
  refine v_icmp_ge (tgt := 80) dX11_bound_34 (by decide) (fun c0 => ?_) (fun c0 => ?_)
  · refine v_iload dX11_bound_80 rfl ?_
    refine v_aload_n dX11_bound_82 rfl ?_
    refine v_getI dX11_bound_83 fl_RX11_18 kd_0 (ltA hA0 rfl) rfl ?_
    refine v_iload_n dX11_bound_86 rfl ?_
    refine v_imul dX11_bound_87 ?_
    refine v_iadd dX11_bound_88 ?_
    exact v_iret dX11_bound_89 rfl (hq c0)
  · refine v_iload_n dX11_bound_37 rfl ?_
    refine v_if_le (tgt := 80) dX11_bound_38 (by decide) (fun c1 => ?_) (fun c1 => ?_)
    · refine v_iload dX11_bound_80 rfl ?_
      refine v_aload_n dX11_bound_82 rfl ?_
      refine v_getI dX11_bound_83 fl_RX11_18 kd_0 (ltA hA0 rfl) rfl ?_
      refine v_iload_n dX11_bound_86 rfl ?_
      refine v_imul dX11_bound_87 ?_
      refine v_iadd dX11_bound_88 ?_
      exact v_iret dX11_bound_89 rfl (hq_1 c0 c1)
    · refine v_iload_n dX11_bound_41 rfl ?_
      refine v_iload_n dX11_bound_42 rfl ?_
      refine v_mmin dX11_bound_43 ml_RX11_9 mz_mmin in_math mc_mmin (RO_1 hR) hcs (Nat.le_of_ble_eq_true rfl) ?_
      refine v_istore dX11_bound_46 (by decide) (L' := [some (.ref 0), some (.int x1), some (.int x2), some (.int x3), some (.int x4), some (.int x5), some (.int (if x3 < x2 then x3 else x2))]) rfl ?_
      refine v_iload dX11_bound_48 rfl ?_
      refine v_iload dX11_bound_50 rfl ?_
      refine v_iload dX11_bound_52 rfl ?_
      refine v_imul dX11_bound_54 ?_
      refine v_iadd dX11_bound_55 ?_
      refine v_istore dX11_bound_56 (by decide) (L' := [some (.ref 0), some (.int x1), some (.int x2), some (.int x3), some (.int (x4 + (x5 * (if x3 < x2 then x3 else x2)))), some (.int x5), some (.int (if x3 < x2 then x3 else x2))]) rfl ?_
      refine v_iload_n dX11_bound_58 rfl ?_
      refine v_iload dX11_bound_59 rfl ?_
      refine v_isub dX11_bound_61 ?_
      refine v_istore_n dX11_bound_62 (by decide) (L' := [some (.ref 0), some (.int x1), some (.int (x2 - (if x3 < x2 then x3 else x2))), some (.int x3), some (.int (x4 + (x5 * (if x3 < x2 then x3 else x2)))), some (.int x5), some (.int (if x3 < x2 then x3 else x2))]) rfl ?_
      refine v_bipush dX11_bound_63 cb_20 ?_
      refine v_iload_n dX11_bound_65 rfl ?_
      refine v_iload_n dX11_bound_66 rfl ?_
      refine v_iconst dX11_bound_67 ci_1 ?_
      refine v_isub dX11_bound_68 ?_
      refine v_imul dX11_bound_69 ?_
      refine v_mmin dX11_bound_70 ml_RX11_9 mz_mmin in_math mc_mmin (RO_1 hR) hcs (Nat.le_of_ble_eq_true rfl) ?_
      refine v_istore_n dX11_bound_73 (by decide) (L' := [some (.ref 0), some (.int x1), some (.int (x2 - (if x3 < x2 then x3 else x2))), some (.int (if (x3 * (x1 - 1)) < 20 then (x3 * (x1 - 1)) else 20)), some (.int (x4 + (x5 * (if x3 < x2 then x3 else x2)))), some (.int x5), some (.int (if x3 < x2 then x3 else x2))]) rfl ?_
      refine v_iinc (y := (x5 + 1)) dX11_bound_74 rfl rfl (by decide) (L' := [some (.ref 0), some (.int x1), some (.int (x2 - (if x3 < x2 then x3 else x2))), some (.int (if (x3 * (x1 - 1)) < 20 then (x3 * (x1 - 1)) else 20)), some (.int (x4 + (x5 * (if x3 < x2 then x3 else x2)))), some (.int (x5 + 1)), some (.int (if x3 < x2 then x3 else x2))]) rfl ?_
      refine v_goto (tgt := 28) dX11_bound_77 (by decide) ?_
      exact (v_drop (lvLe_s (lvLe_s (lvLe_s (lvLe_s (lvLe_s (lvLe_s (lvLe_n lvLe_e))))))) (q c0 c1))
theorem e_X11_image {X : CX} {d nx sz : Nat} {Q : Option Value → AH → Prop} {h : AH} (q : V X m_X11_image (rm d 0 0) (ZM X Q nx sz 0 0) (nx, sz, 0, 0) 0 [some (.ref 0)] [] h) : Mk X d m_X11_image [.ref 0] h nx sz Q := by
  refine Mok.ofV mo_X11_image (Nat.le_of_ble_eq_true rfl) (L := [some (.ref 0)]) (lvLe_s lvLe_e) (v_grow (n := 0) ?_)
  exact q
theorem c_X11_image_0 {X : CX} {R : Room} {Z : ZX} {A : AX} {h : AH} {d : Nat} {P8 : AH → Prop} (hA0 : 91 ≤ A.1) (hF : Fx h) (hR : RO R (d + 1)) (hcs : A.2.2.1 ≤ R.cells ∧ A.2.2.2 ≤ R.slots) (hM : Mk X d m_X3_copy [.ref 5, .ref 1] h A.1 A.2.1 (RV P8)) (q : ∀ (g : AH), P8 g → V X m_X11_image R Z A 11 [some (.ref 0)] [] g) : V X m_X11_image R Z A 0 [some (.ref 0)] [] h := by
  refine v_aload_n dX11_image_0 rfl ?_
  refine v_getR dX11_image_1 fl_RX11_31 kd_0 (ltA hA0 rfl) rfl (hF 0 2 5 rfl) ?_
  refine v_aload_n dX11_image_4 rfl ?_
  refine v_getR dX11_image_5 fl_RX11_27 kd_0 (ltA hA0 rfl) rfl (hF 0 1 1 rfl) ?_
  exact v_cVV (mt := m_X11_image) mo_X3_copy ml_RX11_293 mi_X3_copy mv_X3_copy rfl kd_5 cl_3 rfl (ltA hA0 rfl) hR hcs (Nat.le_of_ble_eq_true rfl) dX11_image_8 rfl hM (fun g hp => (q g hp))
theorem c_X11_image_11 {X : CX} {R : Room} {Z : ZX} {A : AX} {h : AH} {d : Nat} {P20 : Int32 → AH → Prop} (hA0 : 91 ≤ A.1) (hF : Fx h) (hR : RO R (d + 1)) (hcs : A.2.2.1 ≤ R.cells ∧ A.2.2.2 ≤ R.slots) (hM : Mk X d m_X3_tieCount [.ref 1] (setI h 0 14 1) A.1 A.2.1 (RI P20)) (q : ∀ (y : Int32) (g : AH), P20 y g → V X m_X11_image R Z A 23 [none] [.int y] g) : V X m_X11_image R Z A 11 [some (.ref 0)] [] h := by
  refine v_aload_n dX11_image_11 rfl ?_
  refine v_iconst dX11_image_12 ci_1 ?_
  refine v_putI rfl rfl rfl dX11_image_13 fl_RX11_332 (Or.inl rfl) kd_0 (ltA hA0 rfl) ?_
  refine v_aload_n dX11_image_16 rfl ?_
  refine v_getR dX11_image_17 fl_RX11_27 kd_0 (ltA hA0 rfl) rfl (hF 0 1 1 rfl) ?_
  exact v_cVI (mt := m_X11_image) mo_X3_tieCount ml_RX11_145 mi_X3_tieCount mv_X3_tieCount rfl kd_1 cl_3 rfl (ltA hA0 rfl) hR hcs (Nat.le_of_ble_eq_true rfl) dX11_image_20 rfl hM (fun y g hp => (v_drop (lvLe_n lvLe_e) (q y g hp)))
theorem c_X11_image_23 {X : CX} {R : Room} {Q : Option Value → AH → Prop} {nx sz mc ms : Nat} {h : AH} {s0 : Int32} (hq : Q (some (.int s0)) h) : V X m_X11_image R (ZM X Q nx sz mc ms) (nx, sz, mc, ms) 23 [none] [.int s0] h := by
  exact v_iret dX11_image_23 rfl hq
theorem e_X11_back {X : CX} {d nx sz : Nat} {Q : Option Value → AH → Prop} {h : AH} (q : V X m_X11_back (rm d 0 0) (ZM X Q nx sz 0 0) (nx, sz, 0, 0) 0 [some (.ref 0)] [] h) : Mk X d m_X11_back [.ref 0] h nx sz Q := by
  refine Mok.ofV mo_X11_back (Nat.le_of_ble_eq_true rfl) (L := [some (.ref 0)]) (lvLe_s lvLe_e) (v_grow (n := 0) ?_)
  exact q
theorem c_X11_back_0 {X : CX} {R : Room} {Q : Option Value → AH → Prop} {nx sz mc ms : Nat} {h : AH} {d : Nat} {P17 : AH → Prop} (hA0 : 91 ≤ nx) (hF : Fx h) (hR : RO R (d + 1)) (hcs : mc ≤ R.cells ∧ ms ≤ R.slots) (hM : ¬ (h.1 0 14) = 0 → Mk X d m_X3_copy [.ref 1, .ref 5] h nx sz (RV P17)) (q : ¬ (h.1 0 14) = 0 → ∀ (g : AH), P17 g → V X m_X11_back R (ZM X Q nx sz mc ms) (nx, sz, mc, ms) 20 [some (.ref 0)] [] g) (hq : (h.1 0 14) = 0 → Q (some (.int (-1))) h) : V X m_X11_back R (ZM X Q nx sz mc ms) (nx, sz, mc, ms) 0 [some (.ref 0)] [] h := by
  refine v_aload_n dX11_back_0 rfl ?_
  refine v_getI dX11_back_1 fl_RX11_332 kd_0 (ltA hA0 rfl) rfl ?_
  refine v_if_ne (tgt := 9) dX11_back_4 (by decide) (fun c0 => ?_) (fun c0 => ?_)
  · refine v_aload_n dX11_back_9 rfl ?_
    refine v_getR dX11_back_10 fl_RX11_27 kd_0 (ltA hA0 rfl) rfl (hF 0 1 1 rfl) ?_
    refine v_aload_n dX11_back_13 rfl ?_
    refine v_getR dX11_back_14 fl_RX11_31 kd_0 (ltA hA0 rfl) rfl (hF 0 2 5 rfl) ?_
    exact v_cVV (mt := m_X11_back) mo_X3_copy ml_RX11_293 mi_X3_copy mv_X3_copy rfl kd_1 cl_3 rfl (ltA hA0 rfl) hR hcs (Nat.le_of_ble_eq_true rfl) dX11_back_17 rfl (hM c0) (fun g hp => ((q c0) g hp))
  · refine v_iconst dX11_back_7 ci_m1 ?_
    exact v_iret dX11_back_8 rfl (hq c0)
theorem c_X11_back_20 {X : CX} {R : Room} {Z : ZX} {A : AX} {h : AH} {d : Nat} {P24 : Int32 → AH → Prop} (hA0 : 91 ≤ A.1) (hF : Fx h) (hR : RO R (d + 1)) (hcs : A.2.2.1 ≤ R.cells ∧ A.2.2.2 ≤ R.slots) (hM : Mk X d m_X3_tieCount [.ref 1] h A.1 A.2.1 (RI P24)) (q : ∀ (y : Int32) (g : AH), P24 y g → V X m_X11_back R Z A 27 [none] [.int y] g) : V X m_X11_back R Z A 20 [some (.ref 0)] [] h := by
  refine v_aload_n dX11_back_20 rfl ?_
  refine v_getR dX11_back_21 fl_RX11_27 kd_0 (ltA hA0 rfl) rfl (hF 0 1 1 rfl) ?_
  exact v_cVI (mt := m_X11_back) mo_X3_tieCount ml_RX11_145 mi_X3_tieCount mv_X3_tieCount rfl kd_1 cl_3 rfl (ltA hA0 rfl) hR hcs (Nat.le_of_ble_eq_true rfl) dX11_back_24 rfl hM (fun y g hp => (v_drop (lvLe_n lvLe_e) (q y g hp)))
theorem c_X11_back_27 {X : CX} {R : Room} {Q : Option Value → AH → Prop} {nx sz mc ms : Nat} {h : AH} {s0 : Int32} (hq : Q (some (.int s0)) h) : V X m_X11_back R (ZM X Q nx sz mc ms) (nx, sz, mc, ms) 27 [none] [.int s0] h := by
  exact v_iret dX11_back_27 rfl hq
theorem e_X11_set {X : CX} {d nx sz : Nat} {Q : Option Value → AH → Prop} {h : AH} {x1 : Int32} (q : V X m_X11_set (rm d 0 0) (ZM X Q nx sz 0 0) (nx, sz, 0, 0) 0 [some (.ref 0), some (.int x1)] [] h) : Mk X d m_X11_set [.ref 0, .int x1] h nx sz Q := by
  refine Mok.ofV mo_X11_set (Nat.le_of_ble_eq_true rfl) (L := [some (.ref 0), some (.int x1)]) (lvLe_s (lvLe_s lvLe_e)) (v_grow (n := 0) ?_)
  exact q
theorem c_X11_set_0 {X : CX} {R : Room} {Q : Option Value → AH → Prop} {nx sz mc ms : Nat} {h : AH} {x1 : Int32} {d : Nat} {P32 P40 P48 : Int32 → AH → Prop} (hA0 : 91 ≤ nx) (hF : Fx h) (hR : RO R (d + 1)) (hcs : mc ≤ R.cells ∧ ms ≤ R.slots) (hq : ((x1 : Int32).toInt < 0 ∨ 2 < (x1 : Int32).toInt) → Q (some (.int (-1))) h) (hM : (x1 : Int32).toInt = 0 → Mk X d m_X9_circle [.ref 21] h nx sz (RI P32)) (q : (x1 : Int32).toInt = 0 → ∀ (y : Int32) (g : AH), P32 y g → V X m_X11_set R (ZM X Q nx sz mc ms) (nx, sz, mc, ms) 35 [none, none] [.int y] g) (hM_1 : (x1 : Int32).toInt = 1 → Mk X d m_X9_apartness [.ref 21] h nx sz (RI P40)) (q_1 : (x1 : Int32).toInt = 1 → ∀ (y : Int32) (g : AH), P40 y g → V X m_X11_set R (ZM X Q nx sz mc ms) (nx, sz, mc, ms) 43 [none, none] [.int y] g) (hM_2 : (x1 : Int32).toInt = 2 → Mk X d m_X9_hosts [.ref 21] h nx sz (RI P48)) (q_2 : (x1 : Int32).toInt = 2 → ∀ (y : Int32) (g : AH), P48 y g → V X m_X11_set R (ZM X Q nx sz mc ms) (nx, sz, mc, ms) 51 [none, none] [.int y] g) : V X m_X11_set R (ZM X Q nx sz mc ms) (nx, sz, mc, ms) 0 [some (.ref 0), some (.int x1)] [] h := by
  refine v_iload_n dX11_set_0 rfl ?_
  rcases (by omega : ((x1 : Int32).toInt < 0 ∨ 2 < (x1 : Int32).toInt) ∨ (x1 : Int32).toInt = 0 ∨ (x1 : Int32).toInt = 1 ∨ (x1 : Int32).toInt = 2) with c0 | c0 | c0 | c0
  · refine v_tableOut (tgt := 52) dX11_set_1 c0 (by decide) ?_
    refine v_iconst dX11_set_52 ci_m1 ?_
    exact v_iret dX11_set_53 rfl (hq c0)
  · refine v_tableIn (tgt := 28) (off := 27) dX11_set_1 (by rw [c0]; decide) (by rw [c0]; decide) (by rw [c0]; rfl) (by decide) ?_
    refine v_aload_n dX11_set_28 rfl ?_
    refine v_getR dX11_set_29 fl_RX11_56 kd_0 (ltA hA0 rfl) rfl (hF 0 6 21 rfl) ?_
    exact v_cVI (mt := m_X11_set) mo_X9_circle ml_RX11_336 mi_X9_circle mv_X9_circle rfl kd_21 cl_9 rfl (ltA hA0 rfl) hR hcs (Nat.le_of_ble_eq_true rfl) dX11_set_32 rfl (hM c0) (fun y g hp => (v_drop (lvLe_n (lvLe_n lvLe_e)) ((q c0) y g hp)))
  · refine v_tableIn (tgt := 36) (off := 35) dX11_set_1 (by rw [c0]; decide) (by rw [c0]; decide) (by rw [c0]; rfl) (by decide) ?_
    refine v_aload_n dX11_set_36 rfl ?_
    refine v_getR dX11_set_37 fl_RX11_56 kd_0 (ltA hA0 rfl) rfl (hF 0 6 21 rfl) ?_
    exact v_cVI (mt := m_X11_set) mo_X9_apartness ml_RX11_339 mi_X9_apartness mv_X9_apartness rfl kd_21 cl_9 rfl (ltA hA0 rfl) hR hcs (Nat.le_of_ble_eq_true rfl) dX11_set_40 rfl (hM_1 c0) (fun y g hp => (v_drop (lvLe_n (lvLe_n lvLe_e)) ((q_1 c0) y g hp)))
  · refine v_tableIn (tgt := 44) (off := 43) dX11_set_1 (by rw [c0]; decide) (by rw [c0]; decide) (by rw [c0]; rfl) (by decide) ?_
    refine v_aload_n dX11_set_44 rfl ?_
    refine v_getR dX11_set_45 fl_RX11_56 kd_0 (ltA hA0 rfl) rfl (hF 0 6 21 rfl) ?_
    exact v_cVI (mt := m_X11_set) mo_X9_hosts ml_RX11_342 mi_X9_hosts mv_X9_hosts rfl kd_21 cl_9 rfl (ltA hA0 rfl) hR hcs (Nat.le_of_ble_eq_true rfl) dX11_set_48 rfl (hM_2 c0) (fun y g hp => (v_drop (lvLe_n (lvLe_n lvLe_e)) ((q_2 c0) y g hp)))
theorem c_X11_set_35 {X : CX} {R : Room} {Q : Option Value → AH → Prop} {nx sz mc ms : Nat} {h : AH} {s0 : Int32} (hq : Q (some (.int s0)) h) : V X m_X11_set R (ZM X Q nx sz mc ms) (nx, sz, mc, ms) 35 [none, none] [.int s0] h := by
  exact v_iret dX11_set_35 rfl hq
theorem c_X11_set_43 {X : CX} {R : Room} {Q : Option Value → AH → Prop} {nx sz mc ms : Nat} {h : AH} {s0 : Int32} (hq : Q (some (.int s0)) h) : V X m_X11_set R (ZM X Q nx sz mc ms) (nx, sz, mc, ms) 43 [none, none] [.int s0] h := by
  exact v_iret dX11_set_43 rfl hq
theorem c_X11_set_51 {X : CX} {R : Room} {Q : Option Value → AH → Prop} {nx sz mc ms : Nat} {h : AH} {s0 : Int32} (hq : Q (some (.int s0)) h) : V X m_X11_set R (ZM X Q nx sz mc ms) (nx, sz, mc, ms) 51 [none, none] [.int s0] h := by
  exact v_iret dX11_set_51 rfl hq
theorem e_X11_word {X : CX} {d nx sz : Nat} {Q : Option Value → AH → Prop} {h : AH} {x1 x2 : Int32} (q : V X m_X11_word (rm d 0 0) (ZM X Q nx sz 0 0) (nx, sz, 0, 0) 0 [some (.ref 0), some (.int x1), some (.int x2), none, none] [] h) : Mk X d m_X11_word [.ref 0, .int x1, .int x2] h nx sz Q := by
  refine Mok.ofV mo_X11_word (Nat.le_of_ble_eq_true rfl) (L := [some (.ref 0), some (.int x1), some (.int x2)]) (lvLe_s (lvLe_s (lvLe_s lvLe_e))) (v_grow (n := 2) ?_)
  exact q
theorem c_X11_word_0 {X : CX} {R : Room} {Z : ZX} {A : AX} {h : AH} {x1 x2 : Int32} {d : Nat} {P5 : Int32 → AH → Prop} (hA0 : 91 ≤ A.1) (hF : Fx h) (hR : RO R (d + 1)) (hcs : A.2.2.1 ≤ R.cells ∧ A.2.2.2 ≤ R.slots) (hM : Mk X d m_X3_hasBits [.ref 1, .int x1] h A.1 A.2.1 (RI P5)) (q : ∀ (y : Int32) (g : AH), P5 y g → V X m_X11_word R Z A 8 [some (.ref 0), some (.int x1), some (.int x2), none, none] [.int y] g) : V X m_X11_word R Z A 0 [some (.ref 0), some (.int x1), some (.int x2), none, none] [] h := by
  refine v_aload_n dX11_word_0 rfl ?_
  refine v_getR dX11_word_1 fl_RX11_27 kd_0 (ltA hA0 rfl) rfl (hF 0 1 1 rfl) ?_
  refine v_iload_n dX11_word_4 rfl ?_
  exact v_cVI (mt := m_X11_word) mo_X3_hasBits ml_RX11_345 mi_X3_hasBits mv_X3_hasBits rfl kd_1 cl_3 rfl (ltA hA0 rfl) hR hcs (Nat.le_of_ble_eq_true rfl) dX11_word_5 rfl hM (fun y g hp => (q y g hp))
theorem c_X11_word_8 {X : CX} {R : Room} {Q : Option Value → AH → Prop} {nx sz mc ms : Nat} {h : AH} {x1 x2 s0 : Int32} (hq : s0 = 0 → Q (some (.int (-1))) h) (hq_1 : ¬ s0 = 0 → x2 < 0 → Q (some (.int (-1))) h) (q : ¬ s0 = 0 → ¬ x2 < 0 → x2 ≤ 20 → V X m_X11_word R (ZM X Q nx sz mc ms) (nx, sz, mc, ms) 28 [some (.ref 0), none, some (.int x2), some (.int x1), some (.int 0)] [] h) (hq_2 : ¬ s0 = 0 → ¬ x2 < 0 → ¬ x2 ≤ 20 → Q (some (.int (-1))) h) : V X m_X11_word R (ZM X Q nx sz mc ms) (nx, sz, mc, ms) 8 [some (.ref 0), some (.int x1), some (.int x2), none, none] [.int s0] h := by
  refine v_if_eq (tgt := 21) dX11_word_8 (by decide) (fun c0 => ?_) (fun c0 => ?_)
  · refine v_iconst dX11_word_21 ci_m1 ?_
    exact v_iret dX11_word_22 rfl (hq c0)
  · refine v_iload_n dX11_word_11 rfl ?_
    refine v_if_lt (tgt := 21) dX11_word_12 (by decide) (fun c1 => ?_) (fun c1 => ?_)
    · refine v_iconst dX11_word_21 ci_m1 ?_
      exact v_iret dX11_word_22 rfl (hq_1 c0 c1)
    · refine v_iload_n dX11_word_15 rfl ?_
      refine v_bipush dX11_word_16 cb_20 ?_
      refine v_icmp_le (tgt := 23) dX11_word_18 (by decide) (fun c2 => ?_) (fun c2 => ?_)
      · refine v_iload_n dX11_word_23 rfl ?_
        refine v_istore_n dX11_word_24 (by decide) (L' := [some (.ref 0), some (.int x1), some (.int x2), some (.int x1), none]) rfl ?_
        refine v_iconst dX11_word_25 ci_0 ?_
        refine v_istore dX11_word_26 (by decide) (L' := [some (.ref 0), some (.int x1), some (.int x2), some (.int x1), some (.int 0)]) rfl ?_
        exact (v_drop (lvLe_s (lvLe_n (lvLe_s (lvLe_s (lvLe_s lvLe_e))))) (q c0 c1 c2))
      · refine v_iconst dX11_word_21 ci_m1 ?_
        exact v_iret dX11_word_22 rfl (hq_2 c0 c1 c2)
theorem c_X11_word_28 {X : CX} {R : Room} {Q : Option Value → AH → Prop} {nx sz mc ms : Nat} {h : AH} {x2 x3 x4 : Int32} {d : Nat} {P47 : Int32 → AH → Prop} (hA0 : 91 ≤ nx) (hF : Fx h) (hR : RO R (d + 1)) (hcs : mc ≤ R.cells ∧ ms ≤ R.slots) (hq : x2 ≤ x4 → Q (some (.int x3)) h) (hM : ¬ x2 ≤ x4 → Mk X d m_X3_around [.ref 1, .int x3, .int (h.1 1 1)] h nx sz (RI P47)) (q : ¬ x2 ≤ x4 → ∀ (y : Int32) (g : AH), P47 y g → V X m_X11_word R (ZM X Q nx sz mc ms) (nx, sz, mc, ms) 50 [some (.ref 0), none, some (.int x2), none, some (.int x4)] [.int y, .int x3] g) : V X m_X11_word R (ZM X Q nx sz mc ms) (nx, sz, mc, ms) 28 [some (.ref 0), none, some (.int x2), some (.int x3), some (.int x4)] [] h := by
  refine v_iload dX11_word_28 rfl ?_
  refine v_iload_n dX11_word_30 rfl ?_
  refine v_icmp_ge (tgt := 58) dX11_word_31 (by decide) (fun c0 => ?_) (fun c0 => ?_)
  · refine v_iload_n dX11_word_58 rfl ?_
    exact v_iret dX11_word_59 rfl (hq c0)
  · refine v_iload_n dX11_word_34 rfl ?_
    refine v_aload_n dX11_word_35 rfl ?_
    refine v_getR dX11_word_36 fl_RX11_27 kd_0 (ltA hA0 rfl) rfl (hF 0 1 1 rfl) ?_
    refine v_iload_n dX11_word_39 rfl ?_
    refine v_aload_n dX11_word_40 rfl ?_
    refine v_getR dX11_word_41 fl_RX11_27 kd_0 (ltA hA0 rfl) rfl (hF 0 1 1 rfl) ?_
    refine v_getI dX11_word_44 fl_RX11_194 kd_1 (ltA hA0 rfl) rfl ?_
    exact v_cVI (mt := m_X11_word) mo_X3_around ml_RX11_348 mi_X3_around mv_X3_around rfl kd_1 cl_3 rfl (ltA hA0 rfl) hR hcs (Nat.le_of_ble_eq_true rfl) dX11_word_47 rfl (hM c0) (fun y g hp => (v_drop (lvLe_s (lvLe_n (lvLe_s (lvLe_n (lvLe_s lvLe_e))))) ((q c0) y g hp)))
theorem c_X11_word_50 {X : CX} {R : Room} {Z : ZX} {A : AX} {h : AH} {x2 x4 s0 s1 : Int32} (q : V X m_X11_word R Z A 28 [some (.ref 0), none, some (.int x2), some (.int (s0 ||| s1)), some (.int (x4 + 1))] [] h) : V X m_X11_word R Z A 50 [some (.ref 0), none, some (.int x2), none, some (.int x4)] [.int s1, .int s0] h := by
  refine v_ior dX11_word_50 ?_
  refine v_istore_n dX11_word_51 (by decide) (L' := [some (.ref 0), none, some (.int x2), some (.int (s0 ||| s1)), some (.int x4)]) rfl ?_
  refine v_iinc (y := (x4 + 1)) dX11_word_52 rfl rfl (by decide) (L' := [some (.ref 0), none, some (.int x2), some (.int (s0 ||| s1)), some (.int (x4 + 1))]) rfl ?_
  refine v_goto (tgt := 28) dX11_word_55 (by decide) ?_
  exact q
theorem e_X11_out {X : CX} {d nx sz : Nat} {Q : Option Value → AH → Prop} {h : AH} {x1 : Int32} (q : V X m_X11_out (rm d 0 0) (ZM X Q nx sz 0 0) (nx, sz, 0, 0) 0 [some (.ref 0), some (.int x1)] [] h) : Mk X d m_X11_out [.ref 0, .int x1] h nx sz Q := by
  refine Mok.ofV mo_X11_out (Nat.le_of_ble_eq_true rfl) (L := [some (.ref 0), some (.int x1)]) (lvLe_s (lvLe_s lvLe_e)) (v_grow (n := 0) ?_)
  exact q
theorem c_X11_out_0 {X : CX} {R : Room} {Z : ZX} {A : AX} {h : AH} {x1 : Int32} {d : Nat} {P5 : Int32 → AH → Prop} (hA0 : 91 ≤ A.1) (hF : Fx h) (hR : RO R (d + 1)) (hcs : A.2.2.1 ≤ R.cells ∧ A.2.2.2 ≤ R.slots) (hM : Mk X d m_X3_hasBits [.ref 1, .int x1] h A.1 A.2.1 (RI P5)) (q : ∀ (y : Int32) (g : AH), P5 y g → V X m_X11_out R Z A 8 [some (.ref 0), some (.int x1)] [.int y] g) : V X m_X11_out R Z A 0 [some (.ref 0), some (.int x1)] [] h := by
  refine v_aload_n dX11_out_0 rfl ?_
  refine v_getR dX11_out_1 fl_RX11_27 kd_0 (ltA hA0 rfl) rfl (hF 0 1 1 rfl) ?_
  refine v_iload_n dX11_out_4 rfl ?_
  exact v_cVI (mt := m_X11_out) mo_X3_hasBits ml_RX11_345 mi_X3_hasBits mv_X3_hasBits rfl kd_1 cl_3 rfl (ltA hA0 rfl) hR hcs (Nat.le_of_ble_eq_true rfl) dX11_out_5 rfl hM (fun y g hp => (q y g hp))
theorem c_X11_out_8 {X : CX} {R : Room} {Q : Option Value → AH → Prop} {nx sz mc ms : Nat} {h : AH} {x1 s0 : Int32} {d : Nat} {P16 : Int32 → AH → Prop} (hA0 : 91 ≤ nx) (hF : Fx h) (hR : RO R (d + 1)) (hcs : mc ≤ R.cells ∧ ms ≤ R.slots) (hq : s0 = 0 → Q (some (.int (-1))) h) (hM : ¬ s0 = 0 → Mk X d m_X3_roundsFrom [.ref 1, .int x1] h nx sz (RI P16)) (q : ¬ s0 = 0 → ∀ (y : Int32) (g : AH), P16 y g → V X m_X11_out R (ZM X Q nx sz mc ms) (nx, sz, mc, ms) 19 [none, none] [.int y] g) : V X m_X11_out R (ZM X Q nx sz mc ms) (nx, sz, mc, ms) 8 [some (.ref 0), some (.int x1)] [.int s0] h := by
  refine v_if_eq (tgt := 22) dX11_out_8 (by decide) (fun c0 => ?_) (fun c0 => ?_)
  · refine v_iconst dX11_out_22 ci_m1 ?_
    exact v_iret dX11_out_23 rfl (hq c0)
  · refine v_aload_n dX11_out_11 rfl ?_
    refine v_getR dX11_out_12 fl_RX11_27 kd_0 (ltA hA0 rfl) rfl (hF 0 1 1 rfl) ?_
    refine v_iload_n dX11_out_15 rfl ?_
    exact v_cVI (mt := m_X11_out) mo_X3_roundsFrom ml_RX11_351 mi_X3_roundsFrom mv_X3_roundsFrom rfl kd_1 cl_3 rfl (ltA hA0 rfl) hR hcs (Nat.le_of_ble_eq_true rfl) dX11_out_16 rfl (hM c0) (fun y g hp => (v_drop (lvLe_n (lvLe_n lvLe_e)) ((q c0) y g hp)))
theorem c_X11_out_19 {X : CX} {R : Room} {Q : Option Value → AH → Prop} {nx sz mc ms : Nat} {h : AH} {s0 : Int32} (hq : Q (some (.int s0)) h) : V X m_X11_out R (ZM X Q nx sz mc ms) (nx, sz, mc, ms) 19 [none, none] [.int s0] h := by
  refine v_goto (tgt := 23) dX11_out_19 (by decide) ?_
  exact v_iret dX11_out_23 rfl hq
theorem e_X11_begin {X : CX} {d nx sz : Nat} {Q : Option Value → AH → Prop} {h : AH} {x1 : Int32} (q : V X m_X11_begin (rm d 0 0) (ZM X Q nx sz 0 0) (nx, sz, 0, 0) 0 [some (.ref 0), some (.int x1)] [] h) : Mk X d m_X11_begin [.ref 0, .int x1] h nx sz Q := by
  refine Mok.ofV mo_X11_begin (Nat.le_of_ble_eq_true rfl) (L := [some (.ref 0), some (.int x1)]) (lvLe_s (lvLe_s lvLe_e)) (v_grow (n := 0) ?_)
  exact q
theorem c_X11_begin_0 {X : CX} {R : Room} {Z : ZX} {A : AX} {h : AH} {x1 : Int32} {d : Nat} {P19 : Int32 → AH → Prop} (hA0 : 91 ≤ A.1) (hF : Fx h) (hR : RO R (d + 1)) (hcs : A.2.2.1 ≤ R.cells ∧ A.2.2.2 ≤ R.slots) (q : x1 < 1 → V X m_X11_begin R Z A 22 [none, none] [.int (-1)] h) (hM : ¬ x1 < 1 → x1 ≤ 3 → Mk X d m_X9_beginners [.ref 21, .int x1] h A.1 A.2.1 (RI P19)) (q_1 : ¬ x1 < 1 → x1 ≤ 3 → ∀ (y : Int32) (g : AH), P19 y g → V X m_X11_begin R Z A 22 [none, none] [.int y] g) (q_2 : ¬ x1 < 1 → ¬ x1 ≤ 3 → V X m_X11_begin R Z A 22 [none, none] [.int (-1)] h) : V X m_X11_begin R Z A 0 [some (.ref 0), some (.int x1)] [] h := by
  refine v_iload_n dX11_begin_0 rfl ?_
  refine v_iconst dX11_begin_1 ci_1 ?_
  refine v_icmp_lt (tgt := 10) dX11_begin_2 (by decide) (fun c0 => ?_) (fun c0 => ?_)
  · refine v_iconst dX11_begin_10 ci_m1 ?_
    refine v_goto (tgt := 22) dX11_begin_11 (by decide) ?_
    exact (v_drop (lvLe_n (lvLe_n lvLe_e)) (q c0))
  · refine v_iload_n dX11_begin_5 rfl ?_
    refine v_iconst dX11_begin_6 ci_3 ?_
    refine v_icmp_le (tgt := 14) dX11_begin_7 (by decide) (fun c1 => ?_) (fun c1 => ?_)
    · refine v_aload_n dX11_begin_14 rfl ?_
      refine v_getR dX11_begin_15 fl_RX11_56 kd_0 (ltA hA0 rfl) rfl (hF 0 6 21 rfl) ?_
      refine v_iload_n dX11_begin_18 rfl ?_
      exact v_cVI (mt := m_X11_begin) mo_X9_beginners ml_RX11_354 mi_X9_beginners mv_X9_beginners rfl kd_21 cl_9 rfl (ltA hA0 rfl) hR hcs (Nat.le_of_ble_eq_true rfl) dX11_begin_19 rfl (hM c0 c1) (fun y g hp => (v_drop (lvLe_n (lvLe_n lvLe_e)) ((q_1 c0 c1) y g hp)))
    · refine v_iconst dX11_begin_10 ci_m1 ?_
      refine v_goto (tgt := 22) dX11_begin_11 (by decide) ?_
      exact (v_drop (lvLe_n (lvLe_n lvLe_e)) (q_2 c0 c1))
theorem c_X11_begin_22 {X : CX} {R : Room} {Q : Option Value → AH → Prop} {nx sz mc ms : Nat} {h : AH} {s0 : Int32} (hq : Q (some (.int s0)) h) : V X m_X11_begin R (ZM X Q nx sz mc ms) (nx, sz, mc, ms) 22 [none, none] [.int s0] h := by
  exact v_iret dX11_begin_22 rfl hq
theorem e_X11_common {X : CX} {d nx sz : Nat} {Q : Option Value → AH → Prop} {h : AH} {x1 x2 : Int32} (q : V X m_X11_common (rm d 0 0) (ZM X Q nx sz 0 0) (nx, sz, 0, 0) 0 [some (.ref 0), some (.int x1), some (.int x2)] [] h) : Mk X d m_X11_common [.ref 0, .int x1, .int x2] h nx sz Q := by
  refine Mok.ofV mo_X11_common (Nat.le_of_ble_eq_true rfl) (L := [some (.ref 0), some (.int x1), some (.int x2)]) (lvLe_s (lvLe_s (lvLe_s lvLe_e))) (v_grow (n := 0) ?_)
  exact q
theorem c_X11_common_0 {X : CX} {R : Room} {Z : ZX} {A : AX} {h : AH} {x1 x2 : Int32} {d : Nat} {P6 : Int32 → AH → Prop} (hA0 : 91 ≤ A.1) (hF : Fx h) (hR : RO R (d + 1)) (hcs : A.2.2.1 ≤ R.cells ∧ A.2.2.2 ≤ R.slots) (hM : Mk X d m_X3_hasTwo [.ref 1, .int x1, .int x2] h A.1 A.2.1 (RI P6)) (q : ∀ (y : Int32) (g : AH), P6 y g → V X m_X11_common R Z A 9 [some (.ref 0), some (.int x1), some (.int x2)] [.int y] g) : V X m_X11_common R Z A 0 [some (.ref 0), some (.int x1), some (.int x2)] [] h := by
  refine v_aload_n dX11_common_0 rfl ?_
  refine v_getR dX11_common_1 fl_RX11_27 kd_0 (ltA hA0 rfl) rfl (hF 0 1 1 rfl) ?_
  refine v_iload_n dX11_common_4 rfl ?_
  refine v_iload_n dX11_common_5 rfl ?_
  exact v_cVI (mt := m_X11_common) mo_X3_hasTwo ml_RX11_170 mi_X3_hasTwo mv_X3_hasTwo rfl kd_1 cl_3 rfl (ltA hA0 rfl) hR hcs (Nat.le_of_ble_eq_true rfl) dX11_common_6 rfl hM (fun y g hp => (q y g hp))
theorem c_X11_common_9 {X : CX} {R : Room} {Q : Option Value → AH → Prop} {nx sz mc ms : Nat} {h : AH} {x1 x2 s0 : Int32} {d : Nat} {P18 : Int32 → AH → Prop} (hA0 : 91 ≤ nx) (hF : Fx h) (hR : RO R (d + 1)) (hcs : mc ≤ R.cells ∧ ms ≤ R.slots) (hq : s0 = 0 → Q (some (.int (-1))) h) (hM : ¬ s0 = 0 → Mk X d m_X3_inCommon [.ref 1, .int x1, .int x2] h nx sz (RI P18)) (q : ¬ s0 = 0 → ∀ (y : Int32) (g : AH), P18 y g → V X m_X11_common R (ZM X Q nx sz mc ms) (nx, sz, mc, ms) 21 [none, none, none] [.int y] g) : V X m_X11_common R (ZM X Q nx sz mc ms) (nx, sz, mc, ms) 9 [some (.ref 0), some (.int x1), some (.int x2)] [.int s0] h := by
  refine v_if_eq (tgt := 24) dX11_common_9 (by decide) (fun c0 => ?_) (fun c0 => ?_)
  · refine v_iconst dX11_common_24 ci_m1 ?_
    exact v_iret dX11_common_25 rfl (hq c0)
  · refine v_aload_n dX11_common_12 rfl ?_
    refine v_getR dX11_common_13 fl_RX11_27 kd_0 (ltA hA0 rfl) rfl (hF 0 1 1 rfl) ?_
    refine v_iload_n dX11_common_16 rfl ?_
    refine v_iload_n dX11_common_17 rfl ?_
    exact v_cVI (mt := m_X11_common) mo_X3_inCommon ml_RX11_357 mi_X3_inCommon mv_X3_inCommon rfl kd_1 cl_3 rfl (ltA hA0 rfl) hR hcs (Nat.le_of_ble_eq_true rfl) dX11_common_18 rfl (hM c0) (fun y g hp => (v_drop (lvLe_n (lvLe_n (lvLe_n lvLe_e))) ((q c0) y g hp)))
theorem c_X11_common_21 {X : CX} {R : Room} {Q : Option Value → AH → Prop} {nx sz mc ms : Nat} {h : AH} {s0 : Int32} (hq : Q (some (.int s0)) h) : V X m_X11_common R (ZM X Q nx sz mc ms) (nx, sz, mc, ms) 21 [none, none, none] [.int s0] h := by
  refine v_goto (tgt := 25) dX11_common_21 (by decide) ?_
  exact v_iret dX11_common_25 rfl hq
theorem e_X11_likely {X : CX} {d nx sz : Nat} {Q : Option Value → AH → Prop} {h : AH} (q : V X m_X11_likely (rm d 0 0) (ZM X Q nx sz 0 0) (nx, sz, 0, 0) 0 [some (.ref 0)] [] h) : Mk X d m_X11_likely [.ref 0] h nx sz Q := by
  refine Mok.ofV mo_X11_likely (Nat.le_of_ble_eq_true rfl) (L := [some (.ref 0)]) (lvLe_s lvLe_e) (v_grow (n := 0) ?_)
  exact q
theorem c_X11_likely_0 {X : CX} {R : Room} {Z : ZX} {A : AX} {h : AH} {d : Nat} {P4 : Int32 → AH → Prop} (hA0 : 91 ≤ A.1) (hF : Fx h) (hR : RO R (d + 1)) (hcs : A.2.2.1 ≤ R.cells ∧ A.2.2.2 ≤ R.slots) (hM : Mk X d m_X9_likeliest [.ref 21] h A.1 A.2.1 (RI P4)) (q : ∀ (y : Int32) (g : AH), P4 y g → V X m_X11_likely R Z A 7 [none] [.int y] g) : V X m_X11_likely R Z A 0 [some (.ref 0)] [] h := by
  refine v_aload_n dX11_likely_0 rfl ?_
  refine v_getR dX11_likely_1 fl_RX11_56 kd_0 (ltA hA0 rfl) rfl (hF 0 6 21 rfl) ?_
  exact v_cVI (mt := m_X11_likely) mo_X9_likeliest ml_RX11_360 mi_X9_likeliest mv_X9_likeliest rfl kd_21 cl_9 rfl (ltA hA0 rfl) hR hcs (Nat.le_of_ble_eq_true rfl) dX11_likely_4 rfl hM (fun y g hp => (v_drop (lvLe_n lvLe_e) (q y g hp)))
theorem c_X11_likely_7 {X : CX} {R : Room} {Q : Option Value → AH → Prop} {nx sz mc ms : Nat} {h : AH} {s0 : Int32} (hq : Q (some (.int s0)) h) : V X m_X11_likely R (ZM X Q nx sz mc ms) (nx, sz, mc, ms) 7 [none] [.int s0] h := by
  exact v_iret dX11_likely_7 rfl hq
theorem e_X11_threes {X : CX} {d nx sz : Nat} {Q : Option Value → AH → Prop} {h : AH} {x1 : Int32} (q : V X m_X11_threes (rm d 0 0) (ZM X Q nx sz 0 0) (nx, sz, 0, 0) 0 [some (.ref 0), some (.int x1)] [] h) : Mk X d m_X11_threes [.ref 0, .int x1] h nx sz Q := by
  refine Mok.ofV mo_X11_threes (Nat.le_of_ble_eq_true rfl) (L := [some (.ref 0), some (.int x1)]) (lvLe_s (lvLe_s lvLe_e)) (v_grow (n := 0) ?_)
  exact q
theorem c_X11_threes_0 {X : CX} {R : Room} {Z : ZX} {A : AX} {h : AH} {x1 : Int32} {d : Nat} {P18 : Int32 → AH → Prop} (hA0 : 91 ≤ A.1) (hF : Fx h) (hR : RO R (d + 1)) (hcs : A.2.2.1 ≤ R.cells ∧ A.2.2.2 ≤ R.slots) (q : x1 < 0 → V X m_X11_threes R Z A 21 [none, none] [.int (-1)] h) (hM : ¬ x1 < 0 → x1 ≤ 2 → Mk X d m_X9_countThrees [.ref 21, .int x1] h A.1 A.2.1 (RI P18)) (q_1 : ¬ x1 < 0 → x1 ≤ 2 → ∀ (y : Int32) (g : AH), P18 y g → V X m_X11_threes R Z A 21 [none, none] [.int y] g) (q_2 : ¬ x1 < 0 → ¬ x1 ≤ 2 → V X m_X11_threes R Z A 21 [none, none] [.int (-1)] h) : V X m_X11_threes R Z A 0 [some (.ref 0), some (.int x1)] [] h := by
  refine v_iload_n dX11_threes_0 rfl ?_
  refine v_if_lt (tgt := 9) dX11_threes_1 (by decide) (fun c0 => ?_) (fun c0 => ?_)
  · refine v_iconst dX11_threes_9 ci_m1 ?_
    refine v_goto (tgt := 21) dX11_threes_10 (by decide) ?_
    exact (v_drop (lvLe_n (lvLe_n lvLe_e)) (q c0))
  · refine v_iload_n dX11_threes_4 rfl ?_
    refine v_iconst dX11_threes_5 ci_2 ?_
    refine v_icmp_le (tgt := 13) dX11_threes_6 (by decide) (fun c1 => ?_) (fun c1 => ?_)
    · refine v_aload_n dX11_threes_13 rfl ?_
      refine v_getR dX11_threes_14 fl_RX11_56 kd_0 (ltA hA0 rfl) rfl (hF 0 6 21 rfl) ?_
      refine v_iload_n dX11_threes_17 rfl ?_
      exact v_cVI (mt := m_X11_threes) mo_X9_countThrees ml_RX11_363 mi_X9_countThrees mv_X9_countThrees rfl kd_21 cl_9 rfl (ltA hA0 rfl) hR hcs (Nat.le_of_ble_eq_true rfl) dX11_threes_18 rfl (hM c0 c1) (fun y g hp => (v_drop (lvLe_n (lvLe_n lvLe_e)) ((q_1 c0 c1) y g hp)))
    · refine v_iconst dX11_threes_9 ci_m1 ?_
      refine v_goto (tgt := 21) dX11_threes_10 (by decide) ?_
      exact (v_drop (lvLe_n (lvLe_n lvLe_e)) (q_2 c0 c1))
theorem c_X11_threes_21 {X : CX} {R : Room} {Q : Option Value → AH → Prop} {nx sz mc ms : Nat} {h : AH} {s0 : Int32} (hq : Q (some (.int s0)) h) : V X m_X11_threes R (ZM X Q nx sz mc ms) (nx, sz, mc, ms) 21 [none, none] [.int s0] h := by
  exact v_iret dX11_threes_21 rfl hq
theorem e_X11_courier {X : CX} {d nx sz : Nat} {Q : Option Value → AH → Prop} {h : AH} {x1 : Int32} (q : V X m_X11_courier (rm d 0 0) (ZM X Q nx sz 0 0) (nx, sz, 0, 0) 0 [some (.ref 0), some (.int x1), none] [] h) : Mk X d m_X11_courier [.ref 0, .int x1] h nx sz Q := by
  refine Mok.ofV mo_X11_courier (Nat.le_of_ble_eq_true rfl) (L := [some (.ref 0), some (.int x1)]) (lvLe_s (lvLe_s lvLe_e)) (v_grow (n := 1) ?_)
  exact q
theorem c_X11_courier_0 {X : CX} {R : Room} {Q : Option Value → AH → Prop} {nx sz mc ms : Nat} {h : AH} {x1 : Int32} {d : Nat} {P15 : Int32 → AH → Prop} (hA0 : 91 ≤ nx) (hF : Fx h) (hR : RO R (d + 1)) (hcs : mc ≤ R.cells ∧ ms ≤ R.slots) (hq : x1 < 0 → Q (some (.int (-1))) h) (hM : ¬ x1 < 0 → x1 ≤ 1 → Mk X d m_X1_bestCourier [.ref 20] h nx sz (RI P15)) (q : ¬ x1 < 0 → x1 ≤ 1 → ∀ (y : Int32) (g : AH), P15 y g → V X m_X11_courier R (ZM X Q nx sz mc ms) (nx, sz, mc, ms) 18 [some (.ref 0), some (.int x1), none] [.int y] g) (hq_1 : ¬ x1 < 0 → ¬ x1 ≤ 1 → Q (some (.int (-1))) h) : V X m_X11_courier R (ZM X Q nx sz mc ms) (nx, sz, mc, ms) 0 [some (.ref 0), some (.int x1), none] [] h := by
  refine v_iload_n dX11_courier_0 rfl ?_
  refine v_if_lt (tgt := 9) dX11_courier_1 (by decide) (fun c0 => ?_) (fun c0 => ?_)
  · refine v_iconst dX11_courier_9 ci_m1 ?_
    exact v_iret dX11_courier_10 rfl (hq c0)
  · refine v_iload_n dX11_courier_4 rfl ?_
    refine v_iconst dX11_courier_5 ci_1 ?_
    refine v_icmp_le (tgt := 11) dX11_courier_6 (by decide) (fun c1 => ?_) (fun c1 => ?_)
    · refine v_aload_n dX11_courier_11 rfl ?_
      refine v_getR dX11_courier_12 fl_RX11_49 kd_0 (ltA hA0 rfl) rfl (hF 0 5 20 rfl) ?_
      exact v_cVI (mt := m_X11_courier) mo_X1_bestCourier ml_RX11_366 mi_X1_bestCourier mv_X1_bestCourier rfl kd_20 cl_1 rfl (ltA hA0 rfl) hR hcs (Nat.le_of_ble_eq_true rfl) dX11_courier_15 rfl (hM c0 c1) (fun y g hp => ((q c0 c1) y g hp))
    · refine v_iconst dX11_courier_9 ci_m1 ?_
      exact v_iret dX11_courier_10 rfl (hq_1 c0 c1)
theorem c_X11_courier_18 {X : CX} {R : Room} {Z : ZX} {A : AX} {h : AH} {x1 s0 : Int32} {d : Nat} {P32 : Int32 → AH → Prop} (hA0 : 91 ≤ A.1) (hF : Fx h) (hR : RO R (d + 1)) (hcs : A.2.2.1 ≤ R.cells ∧ A.2.2.2 ≤ R.slots) (hM : ¬ x1 = 0 → Mk X d m_X1_moreWithout [.ref 20, .int s0] h A.1 A.2.1 (RI P32)) (q : ¬ x1 = 0 → ∀ (y : Int32) (g : AH), P32 y g → V X m_X11_courier R Z A 35 [none, none, none] [.int y] g) (q_1 : x1 = 0 → V X m_X11_courier R Z A 35 [none, none, none] [.int s0] h) : V X m_X11_courier R Z A 18 [some (.ref 0), some (.int x1), none] [.int s0] h := by
  refine v_istore_n dX11_courier_18 (by decide) (L' := [some (.ref 0), some (.int x1), some (.int s0)]) rfl ?_
  refine v_iload_n dX11_courier_19 rfl ?_
  refine v_if_ne (tgt := 27) dX11_courier_20 (by decide) (fun c0 => ?_) (fun c0 => ?_)
  · refine v_aload_n dX11_courier_27 rfl ?_
    refine v_getR dX11_courier_28 fl_RX11_49 kd_0 (ltA hA0 rfl) rfl (hF 0 5 20 rfl) ?_
    refine v_iload_n dX11_courier_31 rfl ?_
    exact v_cVI (mt := m_X11_courier) mo_X1_moreWithout ml_RX11_369 mi_X1_moreWithout mv_X1_moreWithout rfl kd_20 cl_1 rfl (ltA hA0 rfl) hR hcs (Nat.le_of_ble_eq_true rfl) dX11_courier_32 rfl (hM c0) (fun y g hp => (v_drop (lvLe_n (lvLe_n (lvLe_n lvLe_e))) ((q c0) y g hp)))
  · refine v_iload_n dX11_courier_23 rfl ?_
    refine v_goto (tgt := 35) dX11_courier_24 (by decide) ?_
    exact (v_drop (lvLe_n (lvLe_n (lvLe_n lvLe_e))) (q_1 c0))
theorem c_X11_courier_35 {X : CX} {R : Room} {Q : Option Value → AH → Prop} {nx sz mc ms : Nat} {h : AH} {s0 : Int32} (hq : Q (some (.int s0)) h) : V X m_X11_courier R (ZM X Q nx sz mc ms) (nx, sz, mc, ms) 35 [none, none, none] [.int s0] h := by
  exact v_iret dX11_courier_35 rfl hq
theorem e_X11_loss {X : CX} {d nx sz : Nat} {Q : Option Value → AH → Prop} {h : AH} {x1 x2 : Int32} (q : V X m_X11_loss (rm d 0 0) (ZM X Q nx sz 0 0) (nx, sz, 0, 0) 0 [some (.ref 0), some (.int x1), some (.int x2)] [] h) : Mk X d m_X11_loss [.ref 0, .int x1, .int x2] h nx sz Q := by
  refine Mok.ofV mo_X11_loss (Nat.le_of_ble_eq_true rfl) (L := [some (.ref 0), some (.int x1), some (.int x2)]) (lvLe_s (lvLe_s (lvLe_s lvLe_e))) (v_grow (n := 0) ?_)
  exact q
theorem c_X11_loss_0 {X : CX} {R : Room} {Z : ZX} {A : AX} {h : AH} {x1 x2 : Int32} {d : Nat} {P6 : Int32 → AH → Prop} (hA0 : 91 ≤ A.1) (hF : Fx h) (hR : RO R (d + 1)) (hcs : A.2.2.1 ≤ R.cells ∧ A.2.2.2 ≤ R.slots) (hM : Mk X d m_X3_tied [.ref 1, .int x1, .int x2] h A.1 A.2.1 (RI P6)) (q : ∀ (y : Int32) (g : AH), P6 y g → V X m_X11_loss R Z A 9 [some (.ref 0), some (.int x1), some (.int x2)] [.int y] g) : V X m_X11_loss R Z A 0 [some (.ref 0), some (.int x1), some (.int x2)] [] h := by
  refine v_aload_n dX11_loss_0 rfl ?_
  refine v_getR dX11_loss_1 fl_RX11_27 kd_0 (ltA hA0 rfl) rfl (hF 0 1 1 rfl) ?_
  refine v_iload_n dX11_loss_4 rfl ?_
  refine v_iload_n dX11_loss_5 rfl ?_
  exact v_cVI (mt := m_X11_loss) mo_X3_tied ml_RX11_174 mi_X3_tied mv_X3_tied rfl kd_1 cl_3 rfl (ltA hA0 rfl) hR hcs (Nat.le_of_ble_eq_true rfl) dX11_loss_6 rfl hM (fun y g hp => (q y g hp))
theorem c_X11_loss_9 {X : CX} {R : Room} {Q : Option Value → AH → Prop} {nx sz mc ms : Nat} {h : AH} {x1 x2 s0 : Int32} {d : Nat} {P18 : Int32 → AH → Prop} (hA0 : 91 ≤ nx) (hF : Fx h) (hR : RO R (d + 1)) (hcs : mc ≤ R.cells ∧ ms ≤ R.slots) (hq : s0 = 0 → Q (some (.int (-1))) h) (hM : ¬ s0 = 0 → Mk X d m_X1_lossOf [.ref 20, .int x1, .int x2] h nx sz (RI P18)) (q : ¬ s0 = 0 → ∀ (y : Int32) (g : AH), P18 y g → V X m_X11_loss R (ZM X Q nx sz mc ms) (nx, sz, mc, ms) 21 [none, none, none] [.int y] g) : V X m_X11_loss R (ZM X Q nx sz mc ms) (nx, sz, mc, ms) 9 [some (.ref 0), some (.int x1), some (.int x2)] [.int s0] h := by
  refine v_if_eq (tgt := 24) dX11_loss_9 (by decide) (fun c0 => ?_) (fun c0 => ?_)
  · refine v_iconst dX11_loss_24 ci_m1 ?_
    exact v_iret dX11_loss_25 rfl (hq c0)
  · refine v_aload_n dX11_loss_12 rfl ?_
    refine v_getR dX11_loss_13 fl_RX11_49 kd_0 (ltA hA0 rfl) rfl (hF 0 5 20 rfl) ?_
    refine v_iload_n dX11_loss_16 rfl ?_
    refine v_iload_n dX11_loss_17 rfl ?_
    exact v_cVI (mt := m_X11_loss) mo_X1_lossOf ml_RX11_372 mi_X1_lossOf mv_X1_lossOf rfl kd_20 cl_1 rfl (ltA hA0 rfl) hR hcs (Nat.le_of_ble_eq_true rfl) dX11_loss_18 rfl (hM c0) (fun y g hp => (v_drop (lvLe_n (lvLe_n (lvLe_n lvLe_e))) ((q c0) y g hp)))
theorem c_X11_loss_21 {X : CX} {R : Room} {Q : Option Value → AH → Prop} {nx sz mc ms : Nat} {h : AH} {s0 : Int32} (hq : Q (some (.int s0)) h) : V X m_X11_loss R (ZM X Q nx sz mc ms) (nx, sz, mc, ms) 21 [none, none, none] [.int s0] h := by
  refine v_goto (tgt := 25) dX11_loss_21 (by decide) ?_
  exact v_iret dX11_loss_25 rfl hq
theorem e_X11_dear {X : CX} {d nx sz : Nat} {Q : Option Value → AH → Prop} {h : AH} {x1 : Int32} (q : V X m_X11_dear (rm d 0 0) (ZM X Q nx sz 0 0) (nx, sz, 0, 0) 0 [some (.ref 0), some (.int x1)] [] h) : Mk X d m_X11_dear [.ref 0, .int x1] h nx sz Q := by
  refine Mok.ofV mo_X11_dear (Nat.le_of_ble_eq_true rfl) (L := [some (.ref 0), some (.int x1)]) (lvLe_s (lvLe_s lvLe_e)) (v_grow (n := 0) ?_)
  exact q
theorem c_X11_dear_0 {X : CX} {R : Room} {Q : Option Value → AH → Prop} {nx sz mc ms : Nat} {h : AH} {x1 : Int32} {d : Nat} {P21 P8 : Int32 → AH → Prop} (hA0 : 91 ≤ nx) (hF : Fx h) (hR : RO R (d + 1)) (hcs : mc ≤ R.cells ∧ ms ≤ R.slots) (hq : ¬ x1 = 0 → ¬ x1 = 1 → Q (some (.int (-1))) h) (hM : ¬ x1 = 0 → x1 = 1 → Mk X d m_X1_bestGift [.ref 20] h nx sz (RI P21)) (q : ¬ x1 = 0 → x1 = 1 → ∀ (y : Int32) (g : AH), P21 y g → V X m_X11_dear R (ZM X Q nx sz mc ms) (nx, sz, mc, ms) 24 [none, none] [.int y] g) (hM_1 : x1 = 0 → Mk X d m_X1_dearest [.ref 20] h nx sz (RI P8)) (q_1 : x1 = 0 → ∀ (y : Int32) (g : AH), P8 y g → V X m_X11_dear R (ZM X Q nx sz mc ms) (nx, sz, mc, ms) 11 [none, none] [.int y] g) : V X m_X11_dear R (ZM X Q nx sz mc ms) (nx, sz, mc, ms) 0 [some (.ref 0), some (.int x1)] [] h := by
  refine v_iload_n dX11_dear_0 rfl ?_
  refine v_if_ne (tgt := 12) dX11_dear_1 (by decide) (fun c0 => ?_) (fun c0 => ?_)
  · refine v_iload_n dX11_dear_12 rfl ?_
    refine v_iconst dX11_dear_13 ci_1 ?_
    refine v_icmp_ne (tgt := 27) dX11_dear_14 (by decide) (fun c1 => ?_) (fun c1 => ?_)
    · refine v_iconst dX11_dear_27 ci_m1 ?_
      exact v_iret dX11_dear_28 rfl (hq c0 c1)
    · refine v_aload_n dX11_dear_17 rfl ?_
      refine v_getR dX11_dear_18 fl_RX11_49 kd_0 (ltA hA0 rfl) rfl (hF 0 5 20 rfl) ?_
      exact v_cVI (mt := m_X11_dear) mo_X1_bestGift ml_RX11_378 mi_X1_bestGift mv_X1_bestGift rfl kd_20 cl_1 rfl (ltA hA0 rfl) hR hcs (Nat.le_of_ble_eq_true rfl) dX11_dear_21 rfl (hM c0 c1) (fun y g hp => (v_drop (lvLe_n (lvLe_n lvLe_e)) ((q c0 c1) y g hp)))
  · refine v_aload_n dX11_dear_4 rfl ?_
    refine v_getR dX11_dear_5 fl_RX11_49 kd_0 (ltA hA0 rfl) rfl (hF 0 5 20 rfl) ?_
    exact v_cVI (mt := m_X11_dear) mo_X1_dearest ml_RX11_375 mi_X1_dearest mv_X1_dearest rfl kd_20 cl_1 rfl (ltA hA0 rfl) hR hcs (Nat.le_of_ble_eq_true rfl) dX11_dear_8 rfl (hM_1 c0) (fun y g hp => (v_drop (lvLe_n (lvLe_n lvLe_e)) ((q_1 c0) y g hp)))
theorem c_X11_dear_11 {X : CX} {R : Room} {Q : Option Value → AH → Prop} {nx sz mc ms : Nat} {h : AH} {s0 : Int32} (hq : Q (some (.int s0)) h) : V X m_X11_dear R (ZM X Q nx sz mc ms) (nx, sz, mc, ms) 11 [none, none] [.int s0] h := by
  exact v_iret dX11_dear_11 rfl hq
theorem c_X11_dear_24 {X : CX} {R : Room} {Q : Option Value → AH → Prop} {nx sz mc ms : Nat} {h : AH} {s0 : Int32} (hq : Q (some (.int s0)) h) : V X m_X11_dear R (ZM X Q nx sz mc ms) (nx, sz, mc, ms) 24 [none, none] [.int s0] h := by
  refine v_goto (tgt := 28) dX11_dear_24 (by decide) ?_
  exact v_iret dX11_dear_28 rfl hq
theorem e_X11_count {X : CX} {d nx sz : Nat} {Q : Option Value → AH → Prop} {h : AH} {x1 : Int32} (q : V X m_X11_count (rm d 0 0) (ZM X Q nx sz 0 0) (nx, sz, 0, 0) 0 [some (.ref 0), some (.int x1)] [] h) : Mk X d m_X11_count [.ref 0, .int x1] h nx sz Q := by
  refine Mok.ofV mo_X11_count (Nat.le_of_ble_eq_true rfl) (L := [some (.ref 0), some (.int x1)]) (lvLe_s (lvLe_s lvLe_e)) (v_grow (n := 0) ?_)
  exact q
theorem c_X11_count_0 {X : CX} {R : Room} {Q : Option Value → AH → Prop} {nx sz mc ms : Nat} {h : AH} {x1 : Int32} (hA0 : 91 ≤ nx) (hF : Fx h) (hq : ((x1 : Int32).toInt < 0 ∨ 4 < (x1 : Int32).toInt) → Q (some (.int (-1000000))) h) (hq_1 : (x1 : Int32).toInt = 0 → Q (some (.int (h.1 0 0))) h) (hq_2 : (x1 : Int32).toInt = 1 → Q (some (.int (h.1 29 4))) h) (hq_3 : (x1 : Int32).toInt = 2 → Q (some (.int (h.1 23 1))) h) (hq_4 : (x1 : Int32).toInt = 3 → Q (some (.int (h.1 40 3))) h) (hq_5 : (x1 : Int32).toInt = 4 → Q (some (.int (h.1 40 4))) h) : V X m_X11_count R (ZM X Q nx sz mc ms) (nx, sz, mc, ms) 0 [some (.ref 0), some (.int x1)] [] h := by
  refine v_iload_n dX11_count_0 rfl ?_
  rcases (by omega : ((x1 : Int32).toInt < 0 ∨ 4 < (x1 : Int32).toInt) ∨ (x1 : Int32).toInt = 0 ∨ (x1 : Int32).toInt = 1 ∨ (x1 : Int32).toInt = 2 ∨ (x1 : Int32).toInt = 3 ∨ (x1 : Int32).toInt = 4) with c0 | c0 | c0 | c0 | c0 | c0
  · refine v_tableOut (tgt := 73) dX11_count_1 c0 (by decide) ?_
    refine v_ldc_w dX11_count_73 kc_RX11_266 ?_
    exact v_iret dX11_count_76 rfl (hq c0)
  · refine v_tableIn (tgt := 36) (off := 35) dX11_count_1 (by rw [c0]; decide) (by rw [c0]; decide) (by rw [c0]; rfl) (by decide) ?_
    refine v_aload_n dX11_count_36 rfl ?_
    refine v_getI dX11_count_37 fl_RX11_18 kd_0 (ltA hA0 rfl) rfl ?_
    exact v_iret dX11_count_40 rfl (hq_1 c0)
  · refine v_tableIn (tgt := 41) (off := 40) dX11_count_1 (by rw [c0]; decide) (by rw [c0]; decide) (by rw [c0]; rfl) (by decide) ?_
    refine v_aload_n dX11_count_41 rfl ?_
    refine v_getR dX11_count_42 fl_RX11_88 kd_0 (ltA hA0 rfl) rfl (hF 0 10 29 rfl) ?_
    refine v_getI dX11_count_45 fl_RX11_148 kd_29 (ltA hA0 rfl) rfl ?_
    exact v_iret dX11_count_48 rfl (hq_2 c0)
  · refine v_tableIn (tgt := 49) (off := 48) dX11_count_1 (by rw [c0]; decide) (by rw [c0]; decide) (by rw [c0]; rfl) (by decide) ?_
    refine v_aload_n dX11_count_49 rfl ?_
    refine v_getR dX11_count_50 fl_RX11_63 kd_0 (ltA hA0 rfl) rfl (hF 0 7 23 rfl) ?_
    refine v_getI dX11_count_53 fl_RX11_121 kd_23 (ltA hA0 rfl) rfl ?_
    exact v_iret dX11_count_56 rfl (hq_3 c0)
  · refine v_tableIn (tgt := 57) (off := 56) dX11_count_1 (by rw [c0]; decide) (by rw [c0]; decide) (by rw [c0]; rfl) (by decide) ?_
    refine v_aload_n dX11_count_57 rfl ?_
    refine v_getR dX11_count_58 fl_RX11_95 kd_0 (ltA hA0 rfl) rfl (hF 0 11 40 rfl) ?_
    refine v_getI dX11_count_61 fl_RX11_381 kd_40 (ltA hA0 rfl) rfl ?_
    exact v_iret dX11_count_64 rfl (hq_4 c0)
  · refine v_tableIn (tgt := 65) (off := 64) dX11_count_1 (by rw [c0]; decide) (by rw [c0]; decide) (by rw [c0]; rfl) (by decide) ?_
    refine v_aload_n dX11_count_65 rfl ?_
    refine v_getR dX11_count_66 fl_RX11_95 kd_0 (ltA hA0 rfl) rfl (hF 0 11 40 rfl) ?_
    refine v_getI dX11_count_69 fl_RX11_259 kd_40 (ltA hA0 rfl) rfl ?_
    exact v_iret dX11_count_72 rfl (hq_5 c0)
theorem e_X11_firstSet {X : CX} {d nx sz : Nat} {Q : Option Value → AH → Prop} {h : AH} {x0 x1 : Int32} (q : V X m_X11_firstSet (rm d 0 0) (ZM X Q nx sz 0 0) (nx, sz, 0, 0) 0 [some (.int x0), some (.int x1)] [] h) : Mk X d m_X11_firstSet [.int x0, .int x1] h nx sz Q := by
  refine Mok.ofV mo_X11_firstSet (Nat.le_of_ble_eq_true rfl) (L := [some (.int x0), some (.int x1)]) (lvLe_s (lvLe_s lvLe_e)) (v_grow (n := 0) ?_)
  exact q
theorem c_X11_firstSet_0 {X : CX} {R : Room} {Q : Option Value → AH → Prop} {nx sz mc ms : Nat} {h : AH} {x0 x1 : Int32} (hq : x0 ≤ x1 → Q (some (.int (((1 : Int32) <<< ((x0 : Int32) &&& 31)) - 1))) h) (hq_1 : ¬ x0 ≤ x1 → Q (some (.int (-1))) h) : V X m_X11_firstSet R (ZM X Q nx sz mc ms) (nx, sz, mc, ms) 0 [some (.int x0), some (.int x1)] [] h := by
  refine v_iload_n dX11_firstSet_0 rfl ?_
  refine v_iload_n dX11_firstSet_1 rfl ?_
  refine v_icmp_le (tgt := 9) dX11_firstSet_2 (by decide) (fun c0 => ?_) (fun c0 => ?_)
  · refine v_iconst dX11_firstSet_9 ci_1 ?_
    refine v_iload_n dX11_firstSet_10 rfl ?_
    refine v_ishl dX11_firstSet_11 ?_
    refine v_iconst dX11_firstSet_12 ci_1 ?_
    refine v_isub dX11_firstSet_13 ?_
    exact v_iret dX11_firstSet_14 rfl (hq c0)
  · refine v_iconst dX11_firstSet_5 ci_m1 ?_
    refine v_goto (tgt := 14) dX11_firstSet_6 (by decide) ?_
    exact v_iret dX11_firstSet_14 rfl (hq_1 c0)
theorem e_X11_nextSet {X : CX} {d nx sz : Nat} {Q : Option Value → AH → Prop} {h : AH} {x0 x1 : Int32} (q : V X m_X11_nextSet (rm d 0 0) (ZM X Q nx sz 0 0) (nx, sz, 0, 0) 0 [some (.int x0), some (.int x1), none, none, none, none] [] h) : Mk X d m_X11_nextSet [.int x0, .int x1] h nx sz Q := by
  refine Mok.ofV mo_X11_nextSet (Nat.le_of_ble_eq_true rfl) (L := [some (.int x0), some (.int x1)]) (lvLe_s (lvLe_s lvLe_e)) (v_grow (n := 4) ?_)
  exact q
theorem c_X11_nextSet_0 {X : CX} {R : Room} {Z : ZX} {A : AX} {h : AH} {x0 x1 : Int32} (q : V X m_X11_nextSet R Z A 9 [some (.int x0), none, some (.int (x1 - 1)), some (.int 0), some (.int (x1 - 1)), none] [] h) : V X m_X11_nextSet R Z A 0 [some (.int x0), some (.int x1), none, none, none, none] [] h := by
  refine v_iload_n dX11_nextSet_0 rfl ?_
  refine v_iconst dX11_nextSet_1 ci_1 ?_
  refine v_isub dX11_nextSet_2 ?_
  refine v_istore_n dX11_nextSet_3 (by decide) (L' := [some (.int x0), some (.int x1), some (.int (x1 - 1)), none, none, none]) rfl ?_
  refine v_iconst dX11_nextSet_4 ci_0 ?_
  refine v_istore_n dX11_nextSet_5 (by decide) (L' := [some (.int x0), some (.int x1), some (.int (x1 - 1)), some (.int 0), none, none]) rfl ?_
  refine v_iload_n dX11_nextSet_6 rfl ?_
  refine v_istore dX11_nextSet_7 (by decide) (L' := [some (.int x0), some (.int x1), some (.int (x1 - 1)), some (.int 0), some (.int (x1 - 1)), none]) rfl ?_
  exact (v_drop (lvLe_s (lvLe_n (lvLe_s (lvLe_s (lvLe_s (lvLe_n lvLe_e)))))) q)
theorem c_X11_nextSet_9 {X : CX} {R : Room} {Z : ZX} {A : AX} {h : AH} {x0 x2 x3 x4 : Int32} (q : x4 < 0 → V X m_X11_nextSet R Z A 37 [some (.int x0), none, none, some (.int x3), some (.int (x2 - x3)), none] [] h) (q_1 : ¬ x4 < 0 → ((x0 >>> (x4 &&& 31)) &&& 1) = 0 → V X m_X11_nextSet R Z A 37 [some (.int x0), none, none, some (.int x3), some (.int (x2 - x3)), none] [] h) (q_2 : ¬ x4 < 0 → ¬ ((x0 >>> (x4 &&& 31)) &&& 1) = 0 → V X m_X11_nextSet R Z A 9 [some (.int x0), none, some (.int x2), some (.int (x3 + 1)), some (.int (x4 + (-1))), none] [] h) : V X m_X11_nextSet R Z A 9 [some (.int x0), none, some (.int x2), some (.int x3), some (.int x4), none] [] h := by
  refine v_iload dX11_nextSet_9 rfl ?_
  refine v_if_lt (tgt := 32) dX11_nextSet_11 (by decide) (fun c0 => ?_) (fun c0 => ?_)
  · refine v_iload_n dX11_nextSet_32 rfl ?_
    refine v_iload_n dX11_nextSet_33 rfl ?_
    refine v_isub dX11_nextSet_34 ?_
    refine v_istore dX11_nextSet_35 (by decide) (L' := [some (.int x0), none, some (.int x2), some (.int x3), some (.int (x2 - x3)), none]) rfl ?_
    exact (v_drop (lvLe_s (lvLe_n (lvLe_n (lvLe_s (lvLe_s (lvLe_n lvLe_e)))))) (q c0))
  · refine v_iload_n dX11_nextSet_14 rfl ?_
    refine v_iload dX11_nextSet_15 rfl ?_
    refine v_ishr dX11_nextSet_17 ?_
    refine v_iconst dX11_nextSet_18 ci_1 ?_
    refine v_iand dX11_nextSet_19 ?_
    refine v_if_eq (tgt := 32) dX11_nextSet_20 (by decide) (fun c1 => ?_) (fun c1 => ?_)
    · refine v_iload_n dX11_nextSet_32 rfl ?_
      refine v_iload_n dX11_nextSet_33 rfl ?_
      refine v_isub dX11_nextSet_34 ?_
      refine v_istore dX11_nextSet_35 (by decide) (L' := [some (.int x0), none, some (.int x2), some (.int x3), some (.int (x2 - x3)), none]) rfl ?_
      exact (v_drop (lvLe_s (lvLe_n (lvLe_n (lvLe_s (lvLe_s (lvLe_n lvLe_e)))))) (q_1 c0 c1))
    · refine v_iinc (y := (x3 + 1)) dX11_nextSet_23 rfl rfl (by decide) (L' := [some (.int x0), none, some (.int x2), some (.int (x3 + 1)), some (.int x4), none]) rfl ?_
      refine v_iinc (y := (x4 + (-1))) dX11_nextSet_26 rfl rfl (by decide) (L' := [some (.int x0), none, some (.int x2), some (.int (x3 + 1)), some (.int (x4 + (-1))), none]) rfl ?_
      refine v_goto (tgt := 9) dX11_nextSet_29 (by decide) ?_
      exact (q_2 c0 c1)
theorem c_X11_nextSet_37 {X : CX} {R : Room} {Q : Option Value → AH → Prop} {nx sz mc ms : Nat} {h : AH} {x0 x3 x4 : Int32} (hq : x4 < 0 → Q (some (.int (-1))) h) (q : ¬ x4 < 0 → ((x0 >>> (x4 &&& 31)) &&& 1) = 0 → V X m_X11_nextSet R (ZM X Q nx sz mc ms) (nx, sz, mc, ms) 37 [some (.int x0), none, none, some (.int x3), some (.int (x4 + (-1))), none] [] h) (hq_1 : ¬ x4 < 0 → ¬ ((x0 >>> (x4 &&& 31)) &&& 1) = 0 → Q (some (.int ((x0 &&& (((1 : Int32) <<< ((x4 : Int32) &&& 31)) - 1)) ||| ((((1 : Int32) <<< (((x3 + 1) : Int32) &&& 31)) - 1) <<< ((x4 + 1) &&& 31))))) h) : V X m_X11_nextSet R (ZM X Q nx sz mc ms) (nx, sz, mc, ms) 37 [some (.int x0), none, none, some (.int x3), some (.int x4), none] [] h := by
  refine v_iload dX11_nextSet_37 rfl ?_
  refine v_if_lt (tgt := 83) dX11_nextSet_39 (by decide) (fun c0 => ?_) (fun c0 => ?_)
  · refine v_iconst dX11_nextSet_83 ci_m1 ?_
    exact v_iret dX11_nextSet_84 rfl (hq c0)
  · refine v_iload_n dX11_nextSet_42 rfl ?_
    refine v_iload dX11_nextSet_43 rfl ?_
    refine v_ishr dX11_nextSet_45 ?_
    refine v_iconst dX11_nextSet_46 ci_1 ?_
    refine v_iand dX11_nextSet_47 ?_
    refine v_if_eq (tgt := 77) dX11_nextSet_48 (by decide) (fun c1 => ?_) (fun c1 => ?_)
    · refine v_iinc (y := (x4 + (-1))) dX11_nextSet_77 rfl rfl (by decide) (L' := [some (.int x0), none, none, some (.int x3), some (.int (x4 + (-1))), none]) rfl ?_
      refine v_goto (tgt := 37) dX11_nextSet_80 (by decide) ?_
      exact (q c0 c1)
    · refine v_iload_n dX11_nextSet_51 rfl ?_
      refine v_iconst dX11_nextSet_52 ci_1 ?_
      refine v_iload dX11_nextSet_53 rfl ?_
      refine v_ishl dX11_nextSet_55 ?_
      refine v_iconst dX11_nextSet_56 ci_1 ?_
      refine v_isub dX11_nextSet_57 ?_
      refine v_iand dX11_nextSet_58 ?_
      refine v_istore dX11_nextSet_59 (by decide) (L' := [some (.int x0), none, none, some (.int x3), some (.int x4), some (.int (x0 &&& (((1 : Int32) <<< ((x4 : Int32) &&& 31)) - 1)))]) rfl ?_
      refine v_iload dX11_nextSet_61 rfl ?_
      refine v_iconst dX11_nextSet_63 ci_1 ?_
      refine v_iload_n dX11_nextSet_64 rfl ?_
      refine v_iconst dX11_nextSet_65 ci_1 ?_
      refine v_iadd dX11_nextSet_66 ?_
      refine v_ishl dX11_nextSet_67 ?_
      refine v_iconst dX11_nextSet_68 ci_1 ?_
      refine v_isub dX11_nextSet_69 ?_
      refine v_iload dX11_nextSet_70 rfl ?_
      refine v_iconst dX11_nextSet_72 ci_1 ?_
      refine v_iadd dX11_nextSet_73 ?_
      refine v_ishl dX11_nextSet_74 ?_
      refine v_ior dX11_nextSet_75 ?_
      exact v_iret dX11_nextSet_76 rfl (hq_1 c0 c1)
