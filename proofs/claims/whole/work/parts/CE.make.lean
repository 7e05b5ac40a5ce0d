/-! the other side is made, by program -/
section KY
variable {X : CX} {d n : Nat} {h : AH}
set_option maxRecDepth 100000 in
theorem p_X12 {x : Int32} (hx : plV x = nI n) : Ki X (d + 2) m_X12_init [.ref 68, .int x] (newH h 68) 69 90 21 4675 (RV fun g => Kp 68 h g ∧ Tm n 68 90 g) := by
  refine Mok.ofV mo_X12_init (Nat.le_of_ble_eq_true rfl) (L := [some (.ref 68), some (.int x)]) (lvLe_s (lvLe_s lvLe_e)) (v_grow (n := 1) ?_)
  refine v_aload_n dX12_init_0 rfl ?_
  refine v_objInit dX12_init_1 (tb6 9 (by decide +kernel) rfl) (tb1 33 (by decide +kernel) rfl) (tb1 34 (by decide +kernel) rfl) (RO_1 RO_rm) (Nat.le_of_ble_eq_true rfl) ?_
  refine v_aload_n dX12_init_4 rfl ?_
  refine v_sipush dX12_init_5 cs_200 ?_
  refine k_newa (kc := 21) (N := 200) (nx' := 70) (mc' := 1) (ms' := 200) (atype := .byte) dX12_init_8 rfl ⟨by decide, by decide⟩ (tb3 65 (by decide +kernel) rfl) (by decide) (by decide) (by decide) rfl rfl rfl rfl ⟨(Nat.le_of_ble_eq_true rfl), (Nat.le_of_ble_eq_true rfl)⟩ ?_
  refine v_putR rfl dX12_init_10 fl_RX12_9 (Or.inr ⟨rfl, rfl, rfl⟩) kd_68 (Nat.le_of_ble_eq_true rfl) ?_
  refine v_aload_n dX12_init_13 rfl ?_
  refine v_sipush dX12_init_14 cs_1200 ?_
  refine k_newa (kc := 21) (N := 1200) (nx' := 71) (mc' := 2) (ms' := 1400) (atype := .byte) dX12_init_17 rfl ⟨by decide, by decide⟩ (tb3 65 (by decide +kernel) rfl) (by decide) (by decide) (by decide) rfl rfl rfl rfl ⟨(Nat.le_of_ble_eq_true rfl), (Nat.le_of_ble_eq_true rfl)⟩ ?_
  refine v_putR rfl dX12_init_19 fl_RX12_13 (Or.inr ⟨rfl, rfl, rfl⟩) kd_68 (Nat.le_of_ble_eq_true rfl) ?_
  refine v_aload_n dX12_init_22 rfl ?_
  refine v_bipush dX12_init_23 cb_6 ?_
  refine k_newa (kc := 20) (N := 6) (nx' := 72) (mc' := 3) (ms' := 1406) (atype := .int) dX12_init_25 rfl ⟨by decide, by decide⟩ (tb1 87 (by decide +kernel) rfl) (by decide) (by decide) (by decide) rfl rfl rfl rfl ⟨(Nat.le_of_ble_eq_true rfl), (Nat.le_of_ble_eq_true rfl)⟩ ?_
  refine v_putR rfl dX12_init_27 fl_RX12_16 (Or.inr ⟨rfl, rfl, rfl⟩) kd_68 (Nat.le_of_ble_eq_true rfl) ?_
  refine v_aload_n dX12_init_30 rfl ?_
  refine v_sipush dX12_init_31 cs_128 ?_
  refine k_newa (kc := 20) (N := 128) (nx' := 73) (mc' := 4) (ms' := 1534) (atype := .int) dX12_init_34 rfl ⟨by decide, by decide⟩ (tb1 87 (by decide +kernel) rfl) (by decide) (by decide) (by decide) rfl rfl rfl rfl ⟨(Nat.le_of_ble_eq_true rfl), (Nat.le_of_ble_eq_true rfl)⟩ ?_
  refine v_putR rfl dX12_init_36 fl_RX12_20 (Or.inr ⟨rfl, rfl, rfl⟩) kd_68 (Nat.le_of_ble_eq_true rfl) ?_
  refine v_aload_n dX12_init_39 rfl ?_
  refine v_aload_n dX12_init_40 rfl ?_
  refine v_getR (r := 69) dX12_init_41 fl_RX12_9 kd_68 (Nat.le_of_ble_eq_true rfl) rfl rfl ?_
  refine v_putR rfl dX12_init_44 fl_RX12_23 (Or.inl rfl) kd_68 (Nat.le_of_ble_eq_true rfl) ?_
  refine v_aload_n dX12_init_47 rfl ?_
  refine v_ldcs (k := 1) dX12_init_48 (List.mem_of_getElem? (i := 2) rfl) ?_
  refine v_putR rfl dX12_init_50 fl_RX12_28 (Or.inr ⟨rfl, rfl, rfl⟩) kd_68 (Nat.le_of_ble_eq_true rfl) ?_
  refine v_aload_n dX12_init_53 rfl ?_
  refine v_ldcs (k := 0) dX12_init_54 (List.mem_of_getElem? (i := 1) rfl) ?_
  refine v_putR rfl dX12_init_56 fl_RX12_34 (Or.inr ⟨rfl, rfl, rfl⟩) kd_68 (Nat.le_of_ble_eq_true rfl) ?_
  refine v_aload_n dX12_init_59 rfl ?_
  refine v_bipush dX12_init_60 cb_20 ?_
  refine k_newa (kc := 20) (N := 20) (nx' := 74) (mc' := 5) (ms' := 1554) (atype := .int) dX12_init_62 rfl ⟨by decide, by decide⟩ (tb1 87 (by decide +kernel) rfl) (by decide) (by decide) (by decide) rfl rfl rfl rfl ⟨(Nat.le_of_ble_eq_true rfl), (Nat.le_of_ble_eq_true rfl)⟩ ?_
  refine v_putR rfl dX12_init_64 fl_RX12_37 (Or.inr ⟨rfl, rfl, rfl⟩) kd_68 (Nat.le_of_ble_eq_true rfl) ?_
  refine v_aload_n dX12_init_67 rfl ?_
  refine v_bipush dX12_init_68 cb_20 ?_
  refine k_newa (kc := 20) (N := 20) (nx' := 75) (mc' := 6) (ms' := 1574) (atype := .int) dX12_init_70 rfl ⟨by decide, by decide⟩ (tb1 87 (by decide +kernel) rfl) (by decide) (by decide) (by decide) rfl rfl rfl rfl ⟨(Nat.le_of_ble_eq_true rfl), (Nat.le_of_ble_eq_true rfl)⟩ ?_
  refine v_putR rfl dX12_init_72 fl_RX12_40 (Or.inr ⟨rfl, rfl, rfl⟩) kd_68 (Nat.le_of_ble_eq_true rfl) ?_
  refine v_aload_n dX12_init_75 rfl ?_
  refine v_bipush dX12_init_76 cb_20 ?_
  refine k_newa (kc := 20) (N := 20) (nx' := 76) (mc' := 7) (ms' := 1594) (atype := .int) dX12_init_78 rfl ⟨by decide, by decide⟩ (tb1 87 (by decide +kernel) rfl) (by decide) (by decide) (by decide) rfl rfl rfl rfl ⟨(Nat.le_of_ble_eq_true rfl), (Nat.le_of_ble_eq_true rfl)⟩ ?_
  refine v_putR rfl dX12_init_80 fl_RX12_43 (Or.inr ⟨rfl, rfl, rfl⟩) kd_68 (Nat.le_of_ble_eq_true rfl) ?_
  refine v_aload_n dX12_init_83 rfl ?_
  refine v_bipush dX12_init_84 cb_20 ?_
  refine k_newa (kc := 20) (N := 20) (nx' := 77) (mc' := 8) (ms' := 1614) (atype := .int) dX12_init_86 rfl ⟨by decide, by decide⟩ (tb1 87 (by decide +kernel) rfl) (by decide) (by decide) (by decide) rfl rfl rfl rfl ⟨(Nat.le_of_ble_eq_true rfl), (Nat.le_of_ble_eq_true rfl)⟩ ?_
  refine v_putR rfl dX12_init_88 fl_RX12_46 (Or.inr ⟨rfl, rfl, rfl⟩) kd_68 (Nat.le_of_ble_eq_true rfl) ?_
  refine v_aload_n dX12_init_91 rfl ?_
  refine v_bipush dX12_init_92 cb_20 ?_
  refine k_newa (kc := 23) (N := 20) (nx' := 78) (mc' := 9) (ms' := 1634) (atype := .long) dX12_init_94 rfl ⟨by decide, by decide⟩ (tb1 116 (by decide +kernel) rfl) (by decide) (by decide) (by decide) rfl rfl rfl rfl ⟨(Nat.le_of_ble_eq_true rfl), (Nat.le_of_ble_eq_true rfl)⟩ ?_
  refine v_putR rfl dX12_init_96 fl_RX12_49 (Or.inr ⟨rfl, rfl, rfl⟩) kd_68 (Nat.le_of_ble_eq_true rfl) ?_
  refine v_aload_n dX12_init_99 rfl ?_
  refine v_sipush dX12_init_100 cs_400 ?_
  refine k_newa (kc := 20) (N := 400) (nx' := 79) (mc' := 10) (ms' := 2034) (atype := .int) dX12_init_103 rfl ⟨by decide, by decide⟩ (tb1 87 (by decide +kernel) rfl) (by decide) (by decide) (by decide) rfl rfl rfl rfl ⟨(Nat.le_of_ble_eq_true rfl), (Nat.le_of_ble_eq_true rfl)⟩ ?_
  refine v_putR rfl dX12_init_105 fl_RX12_53 (Or.inr ⟨rfl, rfl, rfl⟩) kd_68 (Nat.le_of_ble_eq_true rfl) ?_
  refine v_aload_n dX12_init_108 rfl ?_
  refine v_sipush dX12_init_109 cs_400 ?_
  refine k_newa (kc := 23) (N := 400) (nx' := 80) (mc' := 11) (ms' := 2434) (atype := .long) dX12_init_112 rfl ⟨by decide, by decide⟩ (tb1 116 (by decide +kernel) rfl) (by decide) (by decide) (by decide) rfl rfl rfl rfl ⟨(Nat.le_of_ble_eq_true rfl), (Nat.le_of_ble_eq_true rfl)⟩ ?_
  refine v_putR rfl dX12_init_114 fl_RX12_56 (Or.inr ⟨rfl, rfl, rfl⟩) kd_68 (Nat.le_of_ble_eq_true rfl) ?_
  refine v_aload_n dX12_init_117 rfl ?_
  refine v_sipush dX12_init_118 cs_1600 ?_
  refine k_newa (kc := 22) (N := 1600) (nx' := 81) (mc' := 12) (ms' := 4034) (atype := .boolean) dX12_init_121 rfl ⟨by decide, by decide⟩ (tb6 156 (by decide +kernel) rfl) (by decide) (by decide) (by decide) rfl rfl rfl rfl ⟨(Nat.le_of_ble_eq_true rfl), (Nat.le_of_ble_eq_true rfl)⟩ ?_
  refine v_putR rfl dX12_init_123 fl_RX12_59 (Or.inr ⟨rfl, rfl, rfl⟩) kd_68 (Nat.le_of_ble_eq_true rfl) ?_
  refine v_aload_n dX12_init_126 rfl ?_
  refine v_bipush dX12_init_127 cb_40 ?_
  refine k_newa (kc := 20) (N := 40) (nx' := 82) (mc' := 13) (ms' := 4074) (atype := .int) dX12_init_129 rfl ⟨by decide, by decide⟩ (tb1 87 (by decide +kernel) rfl) (by decide) (by decide) (by decide) rfl rfl rfl rfl ⟨(Nat.le_of_ble_eq_true rfl), (Nat.le_of_ble_eq_true rfl)⟩ ?_
  refine v_putR rfl dX12_init_131 fl_RX12_63 (Or.inr ⟨rfl, rfl, rfl⟩) kd_68 (Nat.le_of_ble_eq_true rfl) ?_
  refine v_aload_n dX12_init_134 rfl ?_
  refine v_bipush dX12_init_135 cb_40 ?_
  refine k_newa (kc := 20) (N := 40) (nx' := 83) (mc' := 14) (ms' := 4114) (atype := .int) dX12_init_137 rfl ⟨by decide, by decide⟩ (tb1 87 (by decide +kernel) rfl) (by decide) (by decide) (by decide) rfl rfl rfl rfl ⟨(Nat.le_of_ble_eq_true rfl), (Nat.le_of_ble_eq_true rfl)⟩ ?_
  refine v_putR rfl dX12_init_139 fl_RX12_66 (Or.inr ⟨rfl, rfl, rfl⟩) kd_68 (Nat.le_of_ble_eq_true rfl) ?_
  refine v_aload_n dX12_init_142 rfl ?_
  refine v_sipush dX12_init_143 cs_400 ?_
  refine k_newa (kc := 20) (N := 400) (nx' := 84) (mc' := 15) (ms' := 4514) (atype := .int) dX12_init_146 rfl ⟨by decide, by decide⟩ (tb1 87 (by decide +kernel) rfl) (by decide) (by decide) (by decide) rfl rfl rfl rfl ⟨(Nat.le_of_ble_eq_true rfl), (Nat.le_of_ble_eq_true rfl)⟩ ?_
  refine v_putR rfl dX12_init_148 fl_RX12_69 (Or.inr ⟨rfl, rfl, rfl⟩) kd_68 (Nat.le_of_ble_eq_true rfl) ?_
  refine v_aload_n dX12_init_151 rfl ?_
  refine v_bipush dX12_init_152 cb_20 ?_
  refine k_newa (kc := 20) (N := 20) (nx' := 85) (mc' := 16) (ms' := 4534) (atype := .int) dX12_init_154 rfl ⟨by decide, by decide⟩ (tb1 87 (by decide +kernel) rfl) (by decide) (by decide) (by decide) rfl rfl rfl rfl ⟨(Nat.le_of_ble_eq_true rfl), (Nat.le_of_ble_eq_true rfl)⟩ ?_
  refine v_putR rfl dX12_init_156 fl_RX12_72 (Or.inr ⟨rfl, rfl, rfl⟩) kd_68 (Nat.le_of_ble_eq_true rfl) ?_
  refine v_aload_n dX12_init_159 rfl ?_
  refine v_bipush dX12_init_160 cb_20 ?_
  refine k_newa (kc := 20) (N := 20) (nx' := 86) (mc' := 17) (ms' := 4554) (atype := .int) dX12_init_162 rfl ⟨by decide, by decide⟩ (tb1 87 (by decide +kernel) rfl) (by decide) (by decide) (by decide) rfl rfl rfl rfl ⟨(Nat.le_of_ble_eq_true rfl), (Nat.le_of_ble_eq_true rfl)⟩ ?_
  refine v_putR rfl dX12_init_164 fl_RX12_75 (Or.inr ⟨rfl, rfl, rfl⟩) kd_68 (Nat.le_of_ble_eq_true rfl) ?_
  refine v_aload_n dX12_init_167 rfl ?_
  refine v_bipush dX12_init_168 cb_61 ?_
  refine k_newa (kc := 20) (N := 61) (nx' := 87) (mc' := 18) (ms' := 4615) (atype := .int) dX12_init_170 rfl ⟨by decide, by decide⟩ (tb1 87 (by decide +kernel) rfl) (by decide) (by decide) (by decide) rfl rfl rfl rfl ⟨(Nat.le_of_ble_eq_true rfl), (Nat.le_of_ble_eq_true rfl)⟩ ?_
  refine v_putR rfl dX12_init_172 fl_RX12_78 (Or.inr ⟨rfl, rfl, rfl⟩) kd_68 (Nat.le_of_ble_eq_true rfl) ?_
  refine v_aload_n dX12_init_175 rfl ?_
  refine v_bipush dX12_init_176 cb_20 ?_
  refine k_newa (kc := 20) (N := 20) (nx' := 88) (mc' := 19) (ms' := 4635) (atype := .int) dX12_init_178 rfl ⟨by decide, by decide⟩ (tb1 87 (by decide +kernel) rfl) (by decide) (by decide) (by decide) rfl rfl rfl rfl ⟨(Nat.le_of_ble_eq_true rfl), (Nat.le_of_ble_eq_true rfl)⟩ ?_
  refine v_putR rfl dX12_init_180 fl_RX12_81 (Or.inr ⟨rfl, rfl, rfl⟩) kd_68 (Nat.le_of_ble_eq_true rfl) ?_
  refine v_aload_n dX12_init_183 rfl ?_
  refine v_bipush dX12_init_184 cb_20 ?_
  refine k_newa (kc := 20) (N := 20) (nx' := 89) (mc' := 20) (ms' := 4655) (atype := .int) dX12_init_186 rfl ⟨by decide, by decide⟩ (tb1 87 (by decide +kernel) rfl) (by decide) (by decide) (by decide) rfl rfl rfl rfl ⟨(Nat.le_of_ble_eq_true rfl), (Nat.le_of_ble_eq_true rfl)⟩ ?_
  refine v_putR rfl dX12_init_188 fl_RX12_84 (Or.inr ⟨rfl, rfl, rfl⟩) kd_68 (Nat.le_of_ble_eq_true rfl) ?_
  refine v_aload_n dX12_init_191 rfl ?_
  refine v_bipush dX12_init_192 cb_20 ?_
  refine k_newa (kc := 20) (N := 20) (nx' := 90) (mc' := 21) (ms' := 4675) (atype := .int) dX12_init_194 rfl ⟨by decide, by decide⟩ (tb1 87 (by decide +kernel) rfl) (by decide) (by decide) (by decide) rfl rfl rfl rfl ⟨(Nat.le_of_ble_eq_true rfl), (Nat.le_of_ble_eq_true rfl)⟩ ?_
  refine v_putR rfl dX12_init_196 fl_RX12_87 (Or.inr ⟨rfl, rfl, rfl⟩) kd_68 (Nat.le_of_ble_eq_true rfl) ?_
  refine v_aload_n dX12_init_199 rfl ?_
  refine v_iconst dX12_init_200 ci_2 ?_
  refine v_bipush dX12_init_201 cb_20 ?_
  refine v_iload_n dX12_init_203 rfl ?_
  refine v_mmin dX12_init_204 ml_RX12_90 mz_mmin in_math mc_mmin (RO_1 RO_rm) ⟨(Nat.le_of_ble_eq_true rfl), (Nat.le_of_ble_eq_true rfl)⟩ (Nat.le_of_ble_eq_true rfl) ?_
  refine v_mmax dX12_init_207 ml_RX12_96 mz_mmax in_math mc_mmax (RO_1 RO_rm) ⟨(Nat.le_of_ble_eq_true rfl), (Nat.le_of_ble_eq_true rfl)⟩ (Nat.le_of_ble_eq_true rfl) ?_
  have e : (if (2 : Int32) < (if x < 20 then x else 20) then (if x < 20 then x else 20) else 2) = nI n := hx
  rw [e]
  refine v_putI rfl rfl rfl dX12_init_210 fl_RX12_99 (Or.inr ⟨rfl, rfl, rfl⟩) kd_68 (Nat.le_of_ble_eq_true rfl) ?_
  refine v_iconst dX12_init_213 ci_0 ?_
  refine v_istore_n dX12_init_214 (by decide) (L' := [some (.ref 68), some (.int x), some (.int 0)]) rfl ?_
  have kp : Kp 68 h (setI (setR (newH (setR (newH (setR (newH (setR (newH (setR (newH (setR (newH (setR (newH (setR (newH (setR (newH (setR (newH (setR (newH (setR (newH (setR (newH (setR (newH (setR (newH (setR (newH (setR (newH (setR (setR (setR (setR (newH (setR (newH (setR (newH (setR (newH (newH h 68) 69) 68 2 (some 69)) 70) 68 3 (some 70)) 71) 68 4 (some 71)) 72) 68 5 (some 72)) 68 6 (some 69)) 68 16 (some 10001)) 68 17 (some 10000)) 73) 68 19 (some 73)) 74) 68 20 (some 74)) 75) 68 21 (some 75)) 76) 68 22 (some 76)) 77) 68 23 (some 77)) 78) 68 24 (some 78)) 79) 68 25 (some 79)) 80) 68 26 (some 80)) 81) 68 27 (some 81)) 82) 68 28 (some 82)) 83) 68 29 (some 83)) 84) 68 38 (some 84)) 85) 68 39 (some 85)) 86) 68 40 (some 86)) 87) 68 43 (some 87)) 88) 68 44 (some 88)) 89) 68 45 (some 89)) 68 1 (nI n)) := ((((((((((((((((((((((((((((((((((((((((((((((((Kp.rfl (b := 68)).newH (by decide)).newH (by decide)).setR (by decide)).newH (by decide)).setR (by decide)).newH (by decide)).setR (by decide)).newH (by decide)).setR (by decide)).setR (by decide)).setR (by decide)).setR (by decide)).newH (by decide)).setR (by decide)).newH (by decide)).setR (by decide)).newH (by decide)).setR (by decide)).newH (by decide)).setR (by decide)).newH (by decide)).setR (by decide)).newH (by decide)).setR (by decide)).newH (by decide)).setR (by decide)).newH (by decide)).setR (by decide)).newH (by decide)).setR (by decide)).newH (by decide)).setR (by decide)).newH (by decide)).setR (by decide)).newH (by decide)).setR (by decide)).newH (by decide)).setR (by decide)).newH (by decide)).setR (by decide)).newH (by decide)).setR (by decide)).newH (by decide)).setR (by decide)).newH (by decide)).setR (by decide)).setI (by decide))
  have ti : ∀ a, 68 ≤ a → a < 90 → a ≠ 75 → ∀ j, (setI (setR (newH (setR (newH (setR (newH (setR (newH (setR (newH (setR (newH (setR (newH (setR (newH (setR (newH (setR (newH (setR (newH (setR (newH (setR (newH (setR (newH (setR (newH (setR (newH (setR (newH (setR (setR (setR (setR (newH (setR (newH (setR (newH (setR (newH (newH h 68) 69) 68 2 (some 69)) 70) 68 3 (some 70)) 71) 68 4 (some 71)) 72) 68 5 (some 72)) 68 6 (some 69)) 68 16 (some 10001)) 68 17 (some 10000)) 73) 68 19 (some 73)) 74) 68 20 (some 74)) 75) 68 21 (some 75)) 76) 68 22 (some 76)) 77) 68 23 (some 77)) 78) 68 24 (some 78)) 79) 68 25 (some 79)) 80) 68 26 (some 80)) 81) 68 27 (some 81)) 82) 68 28 (some 82)) 83) 68 29 (some 83)) 84) 68 38 (some 84)) 85) 68 39 (some 85)) 86) 68 40 (some 86)) 87) 68 43 (some 87)) 88) 68 44 (some 88)) 89) 68 45 (some 89)) 68 1 (nI n)).1 a j = CI n a j := fun a h1 h2 h3 j => by
    have : a = 68 ∨ a = 69 ∨ a = 70 ∨ a = 71 ∨ a = 72 ∨ a = 73 ∨ a = 74 ∨ a = 75 ∨ a = 76 ∨ a = 77 ∨ a = 78 ∨ a = 79 ∨ a = 80 ∨ a = 81 ∨ a = 82 ∨ a = 83 ∨ a = 84 ∨ a = 85 ∨ a = 86 ∨ a = 87 ∨ a = 88 ∨ a = 89 := by omega
    rcases this with rfl | rfl | rfl | rfl | rfl | rfl | rfl | rfl | rfl | rfl | rfl | rfl | rfl | rfl | rfl | rfl | rfl | rfl | rfl | rfl | rfl | rfl
    · show (if 68 = 68 ∧ j = 1 then nI n else 0) = CI n 68 j
      unfold CI
      by_cases q : j = 1
      · rw [if_pos ⟨rfl, q⟩, if_neg (by omega), if_neg (by omega), if_pos (by omega)]
      · rw [if_neg (fun z => q z.2), if_neg (by omega), if_neg (by omega), if_neg (by omega)]
    · rfl
    · rfl
    · rfl
    · rfl
    · rfl
    · rfl
    · exact absurd rfl h3
    · rfl
    · rfl
    · rfl
    · rfl
    · rfl
    · rfl
    · rfl
    · rfl
    · rfl
    · rfl
    · rfl
    · rfl
    · rfl
    · rfl
  have t0 : ∀ j, (setI (setR (newH (setR (newH (setR (newH (setR (newH (setR (newH (setR (newH (setR (newH (setR (newH (setR (newH (setR (newH (setR (newH (setR (newH (setR (newH (setR (newH (setR (newH (setR (newH (setR (newH (setR (setR (setR (setR (newH (setR (newH (setR (newH (setR (newH (newH h 68) 69) 68 2 (some 69)) 70) 68 3 (some 70)) 71) 68 4 (some 71)) 72) 68 5 (some 72)) 68 6 (some 69)) 68 16 (some 10001)) 68 17 (some 10000)) 73) 68 19 (some 73)) 74) 68 20 (some 74)) 75) 68 21 (some 75)) 76) 68 22 (some 76)) 77) 68 23 (some 77)) 78) 68 24 (some 78)) 79) 68 25 (some 79)) 80) 68 26 (some 80)) 81) 68 27 (some 81)) 82) 68 28 (some 82)) 83) 68 29 (some 83)) 84) 68 38 (some 84)) 85) 68 39 (some 85)) 86) 68 40 (some 86)) 87) 68 43 (some 87)) 88) 68 44 (some 88)) 89) 68 45 (some 89)) 68 1 (nI n)).1 75 j = 0 := fun j => rfl
  have tr : ∀ x, x ∈ R0f 68 90 → (setI (setR (newH (setR (newH (setR (newH (setR (newH (setR (newH (setR (newH (setR (newH (setR (newH (setR (newH (setR (newH (setR (newH (setR (newH (setR (newH (setR (newH (setR (newH (setR (newH (setR (newH (setR (setR (setR (setR (newH (setR (newH (setR (newH (setR (newH (newH h 68) 69) 68 2 (some 69)) 70) 68 3 (some 70)) 71) 68 4 (some 71)) 72) 68 5 (some 72)) 68 6 (some 69)) 68 16 (some 10001)) 68 17 (some 10000)) 73) 68 19 (some 73)) 74) 68 20 (some 74)) 75) 68 21 (some 75)) 76) 68 22 (some 76)) 77) 68 23 (some 77)) 78) 68 24 (some 78)) 79) 68 25 (some 79)) 80) 68 26 (some 80)) 81) 68 27 (some 81)) 82) 68 28 (some 82)) 83) 68 29 (some 83)) 84) 68 38 (some 84)) 85) 68 39 (some 85)) 86) 68 40 (some 86)) 87) 68 43 (some 87)) 88) 68 44 (some 88)) 89) 68 45 (some 89)) 68 1 (nI n)).2.2 x.1.1 x.1.2 = some x.2 := by
    show ∀ x ∈ [((68, 2), 69), ((68, 3), 70), ((68, 4), 71), ((68, 5), 72), ((68, 16), 10001), ((68, 17), 10000), ((68, 19), 73), ((68, 20), 74), ((68, 21), 75), ((68, 22), 76), ((68, 23), 77), ((68, 24), 78), ((68, 25), 79), ((68, 26), 80), ((68, 27), 81), ((68, 28), 82), ((68, 29), 83), ((68, 38), 84), ((68, 39), 85), ((68, 40), 86), ((68, 43), 87), ((68, 44), 88), ((68, 45), 89)], (setI (setR (newH (setR (newH (setR (newH (setR (newH (setR (newH (setR (newH (setR (newH (setR (newH (setR (newH (setR (newH (setR (newH (setR (newH (setR (newH (setR (newH (setR (newH (setR (newH (setR (newH (setR (setR (setR (setR (newH (setR (newH (setR (newH (setR (newH (newH h 68) 69) 68 2 (some 69)) 70) 68 3 (some 70)) 71) 68 4 (some 71)) 72) 68 5 (some 72)) 68 6 (some 69)) 68 16 (some 10001)) 68 17 (some 10000)) 73) 68 19 (some 73)) 74) 68 20 (some 74)) 75) 68 21 (some 75)) 76) 68 22 (some 76)) 77) 68 23 (some 77)) 78) 68 24 (some 78)) 79) 68 25 (some 79)) 80) 68 26 (some 80)) 81) 68 27 (some 81)) 82) 68 28 (some 82)) 83) 68 29 (some 83)) 84) 68 38 (some 84)) 85) 68 39 (some 85)) 86) 68 40 (some 86)) 87) 68 43 (some 87)) 88) 68 44 (some 88)) 89) 68 45 (some 89)) 68 1 (nI n)).2.2 x.1.1 x.1.2 = some x.2
    exact (List.forall_mem_cons.mpr ⟨rfl, (List.forall_mem_cons.mpr ⟨rfl, (List.forall_mem_cons.mpr ⟨rfl, (List.forall_mem_cons.mpr ⟨rfl, (List.forall_mem_cons.mpr ⟨rfl, (List.forall_mem_cons.mpr ⟨rfl, (List.forall_mem_cons.mpr ⟨rfl, (List.forall_mem_cons.mpr ⟨rfl, (List.forall_mem_cons.mpr ⟨rfl, (List.forall_mem_cons.mpr ⟨rfl, (List.forall_mem_cons.mpr ⟨rfl, (List.forall_mem_cons.mpr ⟨rfl, (List.forall_mem_cons.mpr ⟨rfl, (List.forall_mem_cons.mpr ⟨rfl, (List.forall_mem_cons.mpr ⟨rfl, (List.forall_mem_cons.mpr ⟨rfl, (List.forall_mem_cons.mpr ⟨rfl, (List.forall_mem_cons.mpr ⟨rfl, (List.forall_mem_cons.mpr ⟨rfl, (List.forall_mem_cons.mpr ⟨rfl, (List.forall_mem_cons.mpr ⟨rfl, (List.forall_mem_cons.mpr ⟨rfl, (List.forall_mem_cons.mpr ⟨rfl, (List.forall_mem_nil _)⟩)⟩)⟩)⟩)⟩)⟩)⟩)⟩)⟩)⟩)⟩)⟩)⟩)⟩)⟩)⟩)⟩)⟩)⟩)⟩)⟩)⟩)⟩)
  have hm : (setI (setR (newH (setR (newH (setR (newH (setR (newH (setR (newH (setR (newH (setR (newH (setR (newH (setR (newH (setR (newH (setR (newH (setR (newH (setR (newH (setR (newH (setR (newH (setR (newH (setR (newH (setR (setR (setR (setR (newH (setR (newH (setR (newH (setR (newH (newH h 68) 69) 68 2 (some 69)) 70) 68 3 (some 70)) 71) 68 4 (some 71)) 72) 68 5 (some 72)) 68 6 (some 69)) 68 16 (some 10001)) 68 17 (some 10000)) 73) 68 19 (some 73)) 74) 68 20 (some 74)) 75) 68 21 (some 75)) 76) 68 22 (some 76)) 77) 68 23 (some 77)) 78) 68 24 (some 78)) 79) 68 25 (some 79)) 80) 68 26 (some 80)) 81) 68 27 (some 81)) 82) 68 28 (some 82)) 83) 68 29 (some 83)) 84) 68 38 (some 84)) 85) 68 39 (some 85)) 86) 68 40 (some 86)) 87) 68 43 (some 87)) 88) 68 44 (some 88)) 89) 68 45 (some 89)) 68 1 (nI n)).2.2 68 21 = some 75 := rfl
  generalize (setI (setR (newH (setR (newH (setR (newH (setR (newH (setR (newH (setR (newH (setR (newH (setR (newH (setR (newH (setR (newH (setR (newH (setR (newH (setR (newH (setR (newH (setR (newH (setR (newH (setR (newH (setR (setR (setR (setR (newH (setR (newH (setR (newH (setR (newH (newH h 68) 69) 68 2 (some 69)) 70) 68 3 (some 70)) 71) 68 4 (some 71)) 72) 68 5 (some 72)) 68 6 (some 69)) 68 16 (some 10001)) 68 17 (some 10000)) 73) 68 19 (some 73)) 74) 68 20 (some 74)) 75) 68 21 (some 75)) 76) 68 22 (some 76)) 77) 68 23 (some 77)) 78) 68 24 (some 78)) 79) 68 25 (some 79)) 80) 68 26 (some 80)) 81) 68 27 (some 81)) 82) 68 28 (some 82)) 83) 68 29 (some 83)) 84) 68 38 (some 84)) 85) 68 39 (some 85)) 86) 68 40 (some 86)) 87) 68 43 (some 87)) 88) 68 44 (some 88)) 89) 68 45 (some 89)) 68 1 (nI n)) = E at kp ti t0 tr hm ⊢
  obtain ⟨Q, hQ⟩ : ∃ Q, Q = (RV fun g => Kp 68 h g ∧ Tm n 68 90 g) := ⟨_, rfl⟩
  rw [← hQ]
  have key : V X m_X12_init (rm (d + 2) 21 4675) (ZM X Q 90 (X.2.1 + 90) 21 4675) (90, X.2.1 + 90, 21, 4675) 215 [some (.ref 68), some (.int x), some (.int (nI 0))] [] (setA E 75 (fun j => if j < 0 then 7 else E.1 75 j)) := by
    refine down_ind (N := 20) (P := fun i => V X m_X12_init (rm (d + 2) 21 4675) (ZM X Q 90 (X.2.1 + 90) 21 4675) (90, X.2.1 + 90, 21, 4675) 215 [some (.ref 68), some (.int x), some (.int (nI i))] [] (setA E 75 (fun j => if j < i then 7 else E.1 75 j))) ?_ (fun i hi q => ?_)
    · refine v_iload_n dX12_init_215 rfl (v_bipush dX12_init_216 cb_20 (v_icmp_ge (tgt := 235) dX12_init_218 (by decide) (fun _ => v_vret dX12_init_235 rfl ?_) (fun z => absurd (show (20 : Int32) ≤ nI 20 from Int32.le_refl _) z)))
      rw [hQ]
      refine ⟨rfl, fun k hk => ⟨(setA_get_ne (by omega)).trans (kp k hk).1, (kp k hk).2⟩, fun a h1 h2 j => ?_, fun x hx => tr x hx⟩
      by_cases q : a = 75
      · subst q
        rw [setA_self]
        show (if j < 20 then 7 else E.1 75 j) = if j < 20 then 7 else 0
        rw [t0 j]
      · rw [setA_get_ne q]
        exact ti a h1 h2 q j
    · have no : ¬ (20 : Int32) ≤ nI i := fun z => by
        have z : nI 20 ≤ nI i := z
        rw [le_nI (by decide) (by omega)] at z
        omega
      refine v_iload_n dX12_init_215 rfl (v_bipush dX12_init_216 cb_20 (v_icmp_ge (tgt := 235) dX12_init_218 (by decide) (fun z => absurd z no) (fun _ => ?_)))
      refine v_aload_n dX12_init_221 rfl ?_
      refine v_getR (r := 75) dX12_init_222 fl_RX12_43 kd_68 (Nat.le_of_ble_eq_true rfl) rfl hm ?_
      refine v_iload_n dX12_init_225 rfl ?_
      refine v_bipush dX12_init_226 cb_7 ?_
      refine v_iast dX12_init_228 kd_75 (Nat.le_of_ble_eq_true rfl) (vin hi (by decide)) ?_
      refine v_iinc (y := nI i + 1) dX12_init_229 rfl rfl (by decide) (L' := [some (.ref 68), some (.int x), some (.int (nI i + 1))]) rfl ?_
      refine v_goto (tgt := 215) dX12_init_232 (by decide) ?_
      have e : setI (setA E 75 (fun j => if j < i then 7 else E.1 75 j)) 75 (nI i).toNatClampNeg 7 = setA E 75 (fun j => if j < i + 1 then 7 else E.1 75 j) := by
        rw [tN (by omega), setI_A, setA_A]
        congr 1
        funext k
        rw [setA_self]
        by_cases a : k = i
        · rw [if_pos a, if_pos (by omega)]
        · rw [if_neg a]
          by_cases b : k < i
          · rw [if_pos b, if_pos (by omega)]
          · rw [if_neg b, if_neg (by omega)]
      rw [e, nI_1]
      exact q
  have e0 : setA E 75 (fun j => if j < 0 then 7 else E.1 75 j) = E := by
    have : (fun j => if j < 0 then (7 : Int32) else E.1 75 j) = E.1 75 := funext fun j => if_neg (Nat.not_lt_zero j)
    rw [this, setA_id]
  rw [e0] at key
  exact key
end KY
