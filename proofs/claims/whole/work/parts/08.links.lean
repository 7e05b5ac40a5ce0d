/-! links of the tables, by program -/
theorem cl_in0 : ∀ w ∈ u_ws RX0 TX0 5, w ∈ BIG := by
  show ∀ w ∈ [u_lay RX0 TX0 0, u_lay RX0 TX0 1, u_lay RX0 TX0 2, u_lay RX0 TX0 3, u_lay RX0 TX0 4], w ∈ BIG
  exact List.forall_mem_cons.mpr ⟨(tb2 61 (by decide +kernel) rfl), List.forall_mem_cons.mpr ⟨(tb2 63 (by decide +kernel) rfl), List.forall_mem_cons.mpr ⟨(tb2 65 (by decide +kernel) rfl), List.forall_mem_cons.mpr ⟨(tb2 67 (by decide +kernel) rfl), List.forall_mem_cons.mpr ⟨(tb2 69 (by decide +kernel) rfl), List.forall_mem_nil _⟩⟩⟩⟩⟩
theorem cl_in1 : ∀ w ∈ u_ws RX1 TX1 1, w ∈ BIG := by
  show ∀ w ∈ [u_lay RX1 TX1 0], w ∈ BIG
  exact List.forall_mem_cons.mpr ⟨(tb1 124 (by decide +kernel) rfl), List.forall_mem_nil _⟩
theorem cl_in2 : ∀ w ∈ u_ws RX2 TX2 9, w ∈ BIG := by
  show ∀ w ∈ [u_lay RX2 TX2 0, u_lay RX2 TX2 1, u_lay RX2 TX2 2, u_lay RX2 TX2 3, u_lay RX2 TX2 4, u_lay RX2 TX2 5, u_lay RX2 TX2 6, u_lay RX2 TX2 7, u_lay RX2 TX2 8], w ∈ BIG
  exact List.forall_mem_cons.mpr ⟨(tb2 7 (by decide +kernel) rfl), List.forall_mem_cons.mpr ⟨(tb2 9 (by decide +kernel) rfl), List.forall_mem_cons.mpr ⟨(tb2 11 (by decide +kernel) rfl), List.forall_mem_cons.mpr ⟨(tb2 13 (by decide +kernel) rfl), List.forall_mem_cons.mpr ⟨(tb2 15 (by decide +kernel) rfl), List.forall_mem_cons.mpr ⟨(tb2 17 (by decide +kernel) rfl), List.forall_mem_cons.mpr ⟨(tb2 19 (by decide +kernel) rfl), List.forall_mem_cons.mpr ⟨(tb2 21 (by decide +kernel) rfl), List.forall_mem_cons.mpr ⟨(tb2 23 (by decide +kernel) rfl), List.forall_mem_nil _⟩⟩⟩⟩⟩⟩⟩⟩⟩
theorem cl_in3 : ∀ w ∈ u_ws RX3 TX3 5, w ∈ BIG := by
  show ∀ w ∈ [u_lay RX3 TX3 0, u_lay RX3 TX3 1, u_lay RX3 TX3 2, u_lay RX3 TX3 3, u_lay RX3 TX3 4], w ∈ BIG
  exact List.forall_mem_cons.mpr ⟨(tb1 76 (by decide +kernel) rfl), List.forall_mem_cons.mpr ⟨(tb1 78 (by decide +kernel) rfl), List.forall_mem_cons.mpr ⟨(tb1 80 (by decide +kernel) rfl), List.forall_mem_cons.mpr ⟨(tb1 82 (by decide +kernel) rfl), List.forall_mem_cons.mpr ⟨(tb1 84 (by decide +kernel) rfl), List.forall_mem_nil _⟩⟩⟩⟩⟩
theorem cl_in4 : ∀ w ∈ u_ws RX4 TX4 3, w ∈ BIG := by
  show ∀ w ∈ [u_lay RX4 TX4 0, u_lay RX4 TX4 1, u_lay RX4 TX4 2], w ∈ BIG
  exact List.forall_mem_cons.mpr ⟨(tb1 166 (by decide +kernel) rfl), List.forall_mem_cons.mpr ⟨(tb1 168 (by decide +kernel) rfl), List.forall_mem_cons.mpr ⟨(tb1 170 (by decide +kernel) rfl), List.forall_mem_nil _⟩⟩⟩
theorem cl_in5 : ∀ w ∈ u_ws RX5 TX5 7, w ∈ BIG := by
  show ∀ w ∈ [u_lay RX5 TX5 0, u_lay RX5 TX5 1, u_lay RX5 TX5 2, u_lay RX5 TX5 3, u_lay RX5 TX5 4, u_lay RX5 TX5 5, u_lay RX5 TX5 6], w ∈ BIG
  exact List.forall_mem_cons.mpr ⟨(tb1 101 (by decide +kernel) rfl), List.forall_mem_cons.mpr ⟨(tb1 103 (by decide +kernel) rfl), List.forall_mem_cons.mpr ⟨(tb1 105 (by decide +kernel) rfl), List.forall_mem_cons.mpr ⟨(tb1 107 (by decide +kernel) rfl), List.forall_mem_cons.mpr ⟨(tb1 109 (by decide +kernel) rfl), List.forall_mem_cons.mpr ⟨(tb1 111 (by decide +kernel) rfl), List.forall_mem_cons.mpr ⟨(tb1 113 (by decide +kernel) rfl), List.forall_mem_nil _⟩⟩⟩⟩⟩⟩⟩
theorem cl_in6 : ∀ w ∈ u_ws RX6 TX6 5, w ∈ BIG := by
  show ∀ w ∈ [u_lay RX6 TX6 0, u_lay RX6 TX6 1, u_lay RX6 TX6 2, u_lay RX6 TX6 3, u_lay RX6 TX6 4], w ∈ BIG
  exact List.forall_mem_cons.mpr ⟨(tb2 39 (by decide +kernel) rfl), List.forall_mem_cons.mpr ⟨(tb2 41 (by decide +kernel) rfl), List.forall_mem_cons.mpr ⟨(tb2 43 (by decide +kernel) rfl), List.forall_mem_cons.mpr ⟨(tb2 45 (by decide +kernel) rfl), List.forall_mem_cons.mpr ⟨(tb2 47 (by decide +kernel) rfl), List.forall_mem_nil _⟩⟩⟩⟩⟩
theorem cl_in7 : ∀ w ∈ u_ws RX7 TX7 5, w ∈ BIG := by
  show ∀ w ∈ [u_lay RX7 TX7 0, u_lay RX7 TX7 1, u_lay RX7 TX7 2, u_lay RX7 TX7 3, u_lay RX7 TX7 4], w ∈ BIG
  exact List.forall_mem_cons.mpr ⟨(tb1 186 (by decide +kernel) rfl), List.forall_mem_cons.mpr ⟨(tb1 188 (by decide +kernel) rfl), List.forall_mem_cons.mpr ⟨(tb1 190 (by decide +kernel) rfl), List.forall_mem_cons.mpr ⟨(tb1 192 (by decide +kernel) rfl), List.forall_mem_cons.mpr ⟨(tb1 194 (by decide +kernel) rfl), List.forall_mem_nil _⟩⟩⟩⟩⟩
theorem cl_in8 : ∀ w ∈ u_ws RX8 TX8 5, w ∈ BIG := by
  show ∀ w ∈ [u_lay RX8 TX8 0, u_lay RX8 TX8 1, u_lay RX8 TX8 2, u_lay RX8 TX8 3, u_lay RX8 TX8 4], w ∈ BIG
  exact List.forall_mem_cons.mpr ⟨(tb1 213 (by decide +kernel) rfl), List.forall_mem_cons.mpr ⟨(tb1 215 (by decide +kernel) rfl), List.forall_mem_cons.mpr ⟨(tb1 217 (by decide +kernel) rfl), List.forall_mem_cons.mpr ⟨(tb1 219 (by decide +kernel) rfl), List.forall_mem_cons.mpr ⟨(tb1 221 (by decide +kernel) rfl), List.forall_mem_nil _⟩⟩⟩⟩⟩
theorem cl_in9 : ∀ w ∈ u_ws RX9 TX9 2, w ∈ BIG := by
  show ∀ w ∈ [u_lay RX9 TX9 0, u_lay RX9 TX9 1], w ∈ BIG
  exact List.forall_mem_cons.mpr ⟨(tb1 135 (by decide +kernel) rfl), List.forall_mem_cons.mpr ⟨(tb1 137 (by decide +kernel) rfl), List.forall_mem_nil _⟩⟩
theorem cl_in10 : ∀ w ∈ u_ws RX10 TX10 2, w ∈ BIG := by
  show ∀ w ∈ [u_lay RX10 TX10 0, u_lay RX10 TX10 1], w ∈ BIG
  exact List.forall_mem_cons.mpr ⟨(tb1 151 (by decide +kernel) rfl), List.forall_mem_cons.mpr ⟨(tb1 153 (by decide +kernel) rfl), List.forall_mem_nil _⟩⟩
theorem cl_in11 : ∀ w ∈ u_ws RX11 TX11 15, w ∈ BIG := by
  show ∀ w ∈ [u_lay RX11 TX11 0, u_lay RX11 TX11 1, u_lay RX11 TX11 2, u_lay RX11 TX11 3, u_lay RX11 TX11 4, u_lay RX11 TX11 5, u_lay RX11 TX11 6, u_lay RX11 TX11 7, u_lay RX11 TX11 8, u_lay RX11 TX11 9, u_lay RX11 TX11 10, u_lay RX11 TX11 11, u_lay RX11 TX11 12, u_lay RX11 TX11 13, u_lay RX11 TX11 14], w ∈ BIG
  exact List.forall_mem_cons.mpr ⟨(tb2 87 (by decide +kernel) rfl), List.forall_mem_cons.mpr ⟨(tb2 89 (by decide +kernel) rfl), List.forall_mem_cons.mpr ⟨(tb2 91 (by decide +kernel) rfl), List.forall_mem_cons.mpr ⟨(tb2 93 (by decide +kernel) rfl), List.forall_mem_cons.mpr ⟨(tb2 95 (by decide +kernel) rfl), List.forall_mem_cons.mpr ⟨(tb2 97 (by decide +kernel) rfl), List.forall_mem_cons.mpr ⟨(tb2 99 (by decide +kernel) rfl), List.forall_mem_cons.mpr ⟨(tb2 101 (by decide +kernel) rfl), List.forall_mem_cons.mpr ⟨(tb2 103 (by decide +kernel) rfl), List.forall_mem_cons.mpr ⟨(tb2 105 (by decide +kernel) rfl), List.forall_mem_cons.mpr ⟨(tb2 107 (by decide +kernel) rfl), List.forall_mem_cons.mpr ⟨(tb2 109 (by decide +kernel) rfl), List.forall_mem_cons.mpr ⟨(tb2 111 (by decide +kernel) rfl), List.forall_mem_cons.mpr ⟨(tb2 113 (by decide +kernel) rfl), List.forall_mem_cons.mpr ⟨(tb2 115 (by decide +kernel) rfl), List.forall_mem_nil _⟩⟩⟩⟩⟩⟩⟩⟩⟩⟩⟩⟩⟩⟩⟩
theorem cl_in12 : ∀ w ∈ u_ws RX12 TX12 47, w ∈ BIG := by
  show ∀ w ∈ [u_lay RX12 TX12 0, u_lay RX12 TX12 1, u_lay RX12 TX12 2, u_lay RX12 TX12 3, u_lay RX12 TX12 4, u_lay RX12 TX12 5, u_lay RX12 TX12 6, u_lay RX12 TX12 7, u_lay RX12 TX12 8, u_lay RX12 TX12 9, u_lay RX12 TX12 10, u_lay RX12 TX12 11, u_lay RX12 TX12 12, u_lay RX12 TX12 13, u_lay RX12 TX12 14, u_lay RX12 TX12 15, u_lay RX12 TX12 16, u_lay RX12 TX12 17, u_lay RX12 TX12 18, u_lay RX12 TX12 19, u_lay RX12 TX12 20, u_lay RX12 TX12 21, u_lay RX12 TX12 22, u_lay RX12 TX12 23, u_lay RX12 TX12 24, u_lay RX12 TX12 25, u_lay RX12 TX12 26, u_lay RX12 TX12 27, u_lay RX12 TX12 28, u_lay RX12 TX12 29, u_lay RX12 TX12 30, u_lay RX12 TX12 31, u_lay RX12 TX12 32, u_lay RX12 TX12 33, u_lay RX12 TX12 34, u_lay RX12 TX12 35, u_lay RX12 TX12 36, u_lay RX12 TX12 37, u_lay RX12 TX12 38, u_lay RX12 TX12 39, u_lay RX12 TX12 40, u_lay RX12 TX12 41, u_lay RX12 TX12 42, u_lay RX12 TX12 43, u_lay RX12 TX12 44, u_lay RX12 TX12 45, u_lay RX12 TX12 46], w ∈ BIG
  exact List.forall_mem_cons.mpr ⟨(tb6 61 (by decide +kernel) rfl), List.forall_mem_cons.mpr ⟨(tb6 63 (by decide +kernel) rfl), List.forall_mem_cons.mpr ⟨(tb6 65 (by decide +kernel) rfl), List.forall_mem_cons.mpr ⟨(tb6 67 (by decide +kernel) rfl), List.forall_mem_cons.mpr ⟨(tb6 69 (by decide +kernel) rfl), List.forall_mem_cons.mpr ⟨(tb6 71 (by decide +kernel) rfl), List.forall_mem_cons.mpr ⟨(tb6 73 (by decide +kernel) rfl), List.forall_mem_cons.mpr ⟨(tb6 75 (by decide +kernel) rfl), List.forall_mem_cons.mpr ⟨(tb6 77 (by decide +kernel) rfl), List.forall_mem_cons.mpr ⟨(tb6 79 (by decide +kernel) rfl), List.forall_mem_cons.mpr ⟨(tb6 81 (by decide +kernel) rfl), List.forall_mem_cons.mpr ⟨(tb6 83 (by decide +kernel) rfl), List.forall_mem_cons.mpr ⟨(tb6 85 (by decide +kernel) rfl), List.forall_mem_cons.mpr ⟨(tb6 87 (by decide +kernel) rfl), List.forall_mem_cons.mpr ⟨(tb6 89 (by decide +kernel) rfl), List.forall_mem_cons.mpr ⟨(tb6 91 (by decide +kernel) rfl), List.forall_mem_cons.mpr ⟨(tb6 93 (by decide +kernel) rfl), List.forall_mem_cons.mpr ⟨(tb6 95 (by decide +kernel) rfl), List.forall_mem_cons.mpr ⟨(tb6 97 (by decide +kernel) rfl), List.forall_mem_cons.mpr ⟨(tb6 99 (by decide +kernel) rfl), List.forall_mem_cons.mpr ⟨(tb6 101 (by decide +kernel) rfl), List.forall_mem_cons.mpr ⟨(tb6 103 (by decide +kernel) rfl), List.forall_mem_cons.mpr ⟨(tb6 105 (by decide +kernel) rfl), List.forall_mem_cons.mpr ⟨(tb6 107 (by decide +kernel) rfl), List.forall_mem_cons.mpr ⟨(tb6 109 (by decide +kernel) rfl), List.forall_mem_cons.mpr ⟨(tb6 111 (by decide +kernel) rfl), List.forall_mem_cons.mpr ⟨(tb6 113 (by decide +kernel) rfl), List.forall_mem_cons.mpr ⟨(tb6 115 (by decide +kernel) rfl), List.forall_mem_cons.mpr ⟨(tb6 117 (by decide +kernel) rfl), List.forall_mem_cons.mpr ⟨(tb6 119 (by decide +kernel) rfl), List.forall_mem_cons.mpr ⟨(tb6 121 (by decide +kernel) rfl), List.forall_mem_cons.mpr ⟨(tb6 123 (by decide +kernel) rfl), List.forall_mem_cons.mpr ⟨(tb6 125 (by decide +kernel) rfl), List.forall_mem_cons.mpr ⟨(tb6 127 (by decide +kernel) rfl), List.forall_mem_cons.mpr ⟨(tb6 129 (by decide +kernel) rfl), List.forall_mem_cons.mpr ⟨(tb6 131 (by decide +kernel) rfl), List.forall_mem_cons.mpr ⟨(tb6 133 (by decide +kernel) rfl), List.forall_mem_cons.mpr ⟨(tb6 135 (by decide +kernel) rfl), List.forall_mem_cons.mpr ⟨(tb6 137 (by decide +kernel) rfl), List.forall_mem_cons.mpr ⟨(tb6 139 (by decide +kernel) rfl), List.forall_mem_cons.mpr ⟨(tb6 141 (by decide +kernel) rfl), List.forall_mem_cons.mpr ⟨(tb6 143 (by decide +kernel) rfl), List.forall_mem_cons.mpr ⟨(tb6 145 (by decide +kernel) rfl), List.forall_mem_cons.mpr ⟨(tb6 147 (by decide +kernel) rfl), List.forall_mem_cons.mpr ⟨(tb6 149 (by decide +kernel) rfl), List.forall_mem_cons.mpr ⟨(tb6 151 (by decide +kernel) rfl), List.forall_mem_cons.mpr ⟨(tb6 153 (by decide +kernel) rfl), List.forall_mem_nil _⟩⟩⟩⟩⟩⟩⟩⟩⟩⟩⟩⟩⟩⟩⟩⟩⟩⟩⟩⟩⟩⟩⟩⟩⟩⟩⟩⟩⟩⟩⟩⟩⟩⟩⟩⟩⟩⟩⟩⟩⟩⟩⟩⟩⟩⟩⟩
theorem cl_0 : ClOk 0 5 := ⟨by decide, rfl, fun w hw => by revert w; exact cl_in0, tyX0_ok, nmX0⟩
theorem cl_1 : ClOk 1 1 := ⟨by decide, rfl, fun w hw => by revert w; exact cl_in1, tyX1_ok, nmX1⟩
theorem cl_2 : ClOk 2 9 := ⟨by decide, rfl, fun w hw => by revert w; exact cl_in2, tyX2_ok, nmX2⟩
theorem cl_3 : ClOk 3 5 := ⟨by decide, rfl, fun w hw => by revert w; exact cl_in3, tyX3_ok, nmX3⟩
theorem cl_4 : ClOk 4 3 := ⟨by decide, rfl, fun w hw => by revert w; exact cl_in4, tyX4_ok, nmX4⟩
theorem cl_5 : ClOk 5 7 := ⟨by decide, rfl, fun w hw => by revert w; exact cl_in5, tyX5_ok, nmX5⟩
theorem cl_6 : ClOk 6 5 := ⟨by decide, rfl, fun w hw => by revert w; exact cl_in6, tyX6_ok, nmX6⟩
theorem cl_7 : ClOk 7 5 := ⟨by decide, rfl, fun w hw => by revert w; exact cl_in7, tyX7_ok, nmX7⟩
theorem cl_8 : ClOk 8 5 := ⟨by decide, rfl, fun w hw => by revert w; exact cl_in8, tyX8_ok, nmX8⟩
theorem cl_9 : ClOk 9 2 := ⟨by decide, rfl, fun w hw => by revert w; exact cl_in9, tyX9_ok, nmX9⟩
theorem cl_10 : ClOk 10 2 := ⟨by decide, rfl, fun w hw => by revert w; exact cl_in10, tyX10_ok, nmX10⟩
theorem cl_11 : ClOk 11 15 := ⟨by decide, rfl, fun w hw => by revert w; exact cl_in11, tyX11_ok, nmX11⟩
theorem cl_12 : ClOk 12 47 := ⟨by decide, rfl, fun w hw => by revert w; exact cl_in12, tyX12_ok, nmX12⟩
theorem fl_RX9_15 : FLk RX9 15 3 5 0 := ⟨cl_3, by decide, (tb1 50 (by decide +kernel) rfl)⟩
theorem fl_RX3_21 : FLk RX3 21 3 5 0 := ⟨cl_3, by decide, (tb1 51 (by decide +kernel) rfl)⟩
theorem fl_RX5_35 : FLk RX5 35 3 5 0 := ⟨cl_3, by decide, (tb1 52 (by decide +kernel) rfl)⟩
theorem fl_RX1_25 : FLk RX1 25 3 5 0 := ⟨cl_3, by decide, (tb1 53 (by decide +kernel) rfl)⟩
theorem fl_RX0_40 : FLk RX0 40 3 5 0 := ⟨cl_3, by decide, (tb1 54 (by decide +kernel) rfl)⟩
theorem fl_RX6_45 : FLk RX6 45 3 5 0 := ⟨cl_3, by decide, (tb1 55 (by decide +kernel) rfl)⟩
theorem fl_RX2_28 : FLk RX2 28 3 5 0 := ⟨cl_3, by decide, (tb1 56 (by decide +kernel) rfl)⟩
theorem fl_RX3_25 : FLk RX3 25 3 5 1 := ⟨cl_3, by decide, (tb1 57 (by decide +kernel) rfl)⟩
theorem fl_RX1_15 : FLk RX1 15 3 5 1 := ⟨cl_3, by decide, (tb1 58 (by decide +kernel) rfl)⟩
theorem fl_RX9_28 : FLk RX9 28 3 5 1 := ⟨cl_3, by decide, (tb1 59 (by decide +kernel) rfl)⟩
theorem fl_RX5_41 : FLk RX5 41 3 5 1 := ⟨cl_3, by decide, (tb1 60 (by decide +kernel) rfl)⟩
theorem fl_RX2_33 : FLk RX2 33 3 5 1 := ⟨cl_3, by decide, (tb1 61 (by decide +kernel) rfl)⟩
theorem fl_RX11_194 : FLk RX11 194 3 5 1 := ⟨cl_3, by decide, (tb1 62 (by decide +kernel) rfl)⟩
theorem fl_RX3_9 : FLk RX3 9 3 5 2 := ⟨cl_3, by decide, (tb1 63 (by decide +kernel) rfl)⟩
theorem fl_RX9_25 : FLk RX9 25 3 5 2 := ⟨cl_3, by decide, (tb1 64 (by decide +kernel) rfl)⟩
theorem fl_RX5_48 : FLk RX5 48 3 5 2 := ⟨cl_3, by decide, (tb1 65 (by decide +kernel) rfl)⟩
theorem fl_RX6_50 : FLk RX6 50 3 5 2 := ⟨cl_3, by decide, (tb1 66 (by decide +kernel) rfl)⟩
theorem fl_RX11_136 : FLk RX11 136 3 5 2 := ⟨cl_3, by decide, (tb1 67 (by decide +kernel) rfl)⟩
theorem fl_RX3_15 : FLk RX3 15 3 5 3 := ⟨cl_3, by decide, (tb1 68 (by decide +kernel) rfl)⟩
theorem fl_RX4_63 : FLk RX4 63 3 5 3 := ⟨cl_3, by decide, (tb1 69 (by decide +kernel) rfl)⟩
theorem fl_RX1_44 : FLk RX1 44 3 5 3 := ⟨cl_3, by decide, (tb1 70 (by decide +kernel) rfl)⟩
theorem fl_RX11_167 : FLk RX11 167 3 5 3 := ⟨cl_3, by decide, (tb1 71 (by decide +kernel) rfl)⟩
theorem fl_RX0_106 : FLk RX0 106 3 5 3 := ⟨cl_3, by decide, (tb1 72 (by decide +kernel) rfl)⟩
theorem fl_RX3_18 : FLk RX3 18 3 5 4 := ⟨cl_3, by decide, (tb1 73 (by decide +kernel) rfl)⟩
theorem fl_RX0_60 : FLk RX0 60 3 5 4 := ⟨cl_3, by decide, (tb1 74 (by decide +kernel) rfl)⟩
theorem fl_RX11_225 : FLk RX11 225 3 5 4 := ⟨cl_3, by decide, (tb1 75 (by decide +kernel) rfl)⟩
theorem fl_RX5_31 : FLk RX5 31 5 7 0 := ⟨cl_5, by decide, (tb1 94 (by decide +kernel) rfl)⟩
theorem fl_RX5_9 : FLk RX5 9 5 7 1 := ⟨cl_5, by decide, (tb1 95 (by decide +kernel) rfl)⟩
theorem fl_RX5_15 : FLk RX5 15 5 7 2 := ⟨cl_5, by decide, (tb1 96 (by decide +kernel) rfl)⟩
theorem fl_RX5_19 : FLk RX5 19 5 7 3 := ⟨cl_5, by decide, (tb1 97 (by decide +kernel) rfl)⟩
theorem fl_RX5_22 : FLk RX5 22 5 7 4 := ⟨cl_5, by decide, (tb1 98 (by decide +kernel) rfl)⟩
theorem fl_RX5_25 : FLk RX5 25 5 7 5 := ⟨cl_5, by decide, (tb1 99 (by decide +kernel) rfl)⟩
theorem fl_RX5_28 : FLk RX5 28 5 7 6 := ⟨cl_5, by decide, (tb1 100 (by decide +kernel) rfl)⟩
theorem fl_RX1_9 : FLk RX1 9 1 1 0 := ⟨cl_1, by decide, (tb1 123 (by decide +kernel) rfl)⟩
theorem fl_RX9_9 : FLk RX9 9 9 2 0 := ⟨cl_9, by decide, (tb1 133 (by decide +kernel) rfl)⟩
theorem fl_RX9_21 : FLk RX9 21 9 2 1 := ⟨cl_9, by decide, (tb1 134 (by decide +kernel) rfl)⟩
theorem fl_RX10_9 : FLk RX10 9 10 2 0 := ⟨cl_10, by decide, (tb1 146 (by decide +kernel) rfl)⟩
theorem fl_RX4_35 : FLk RX4 35 10 2 1 := ⟨cl_10, by decide, (tb1 147 (by decide +kernel) rfl)⟩
theorem fl_RX11_121 : FLk RX11 121 10 2 1 := ⟨cl_10, by decide, (tb1 148 (by decide +kernel) rfl)⟩
theorem fl_RX7_55 : FLk RX7 55 10 2 1 := ⟨cl_10, by decide, (tb1 149 (by decide +kernel) rfl)⟩
theorem fl_RX10_15 : FLk RX10 15 10 2 1 := ⟨cl_10, by decide, (tb1 150 (by decide +kernel) rfl)⟩
theorem fl_RX4_15 : FLk RX4 15 4 3 0 := ⟨cl_4, by decide, (tb1 162 (by decide +kernel) rfl)⟩
theorem fl_RX4_19 : FLk RX4 19 4 3 1 := ⟨cl_4, by decide, (tb1 163 (by decide +kernel) rfl)⟩
theorem fl_RX4_9 : FLk RX4 9 4 3 2 := ⟨cl_4, by decide, (tb1 164 (by decide +kernel) rfl)⟩
theorem fl_RX11_132 : FLk RX11 132 4 3 2 := ⟨cl_4, by decide, (tb1 165 (by decide +kernel) rfl)⟩
theorem fl_RX7_15 : FLk RX7 15 7 5 0 := ⟨cl_7, by decide, (tb1 179 (by decide +kernel) rfl)⟩
theorem fl_RX7_9 : FLk RX7 9 7 5 1 := ⟨cl_7, by decide, (tb1 180 (by decide +kernel) rfl)⟩
theorem fl_RX11_151 : FLk RX11 151 7 5 1 := ⟨cl_7, by decide, (tb1 181 (by decide +kernel) rfl)⟩
theorem fl_RX7_19 : FLk RX7 19 7 5 2 := ⟨cl_7, by decide, (tb1 182 (by decide +kernel) rfl)⟩
theorem fl_RX11_154 : FLk RX11 154 7 5 2 := ⟨cl_7, by decide, (tb1 183 (by decide +kernel) rfl)⟩
theorem fl_RX7_23 : FLk RX7 23 7 5 3 := ⟨cl_7, by decide, (tb1 184 (by decide +kernel) rfl)⟩
theorem fl_RX7_26 : FLk RX7 26 7 5 4 := ⟨cl_7, by decide, (tb1 185 (by decide +kernel) rfl)⟩
theorem fl_RX8_11 : FLk RX8 11 8 5 0 := ⟨cl_8, by decide, (tb1 205 (by decide +kernel) rfl)⟩
theorem fl_RX8_16 : FLk RX8 16 8 5 1 := ⟨cl_8, by decide, (tb1 206 (by decide +kernel) rfl)⟩
theorem fl_RX8_20 : FLk RX8 20 8 5 2 := ⟨cl_8, by decide, (tb1 207 (by decide +kernel) rfl)⟩
theorem fl_RX8_23 : FLk RX8 23 8 5 3 := ⟨cl_8, by decide, (tb1 208 (by decide +kernel) rfl)⟩
theorem fl_RX6_61 : FLk RX6 61 8 5 3 := ⟨cl_8, by decide, (tb1 209 (by decide +kernel) rfl)⟩
theorem fl_RX0_97 : FLk RX0 97 8 5 3 := ⟨cl_8, by decide, (tb1 210 (by decide +kernel) rfl)⟩
theorem fl_RX8_26 : FLk RX8 26 8 5 4 := ⟨cl_8, by decide, (tb1 211 (by decide +kernel) rfl)⟩
theorem fl_RX11_148 : FLk RX11 148 8 5 4 := ⟨cl_8, by decide, (tb1 212 (by decide +kernel) rfl)⟩
theorem fl_RX2_20 : FLk RX2 20 2 9 0 := ⟨cl_2, by decide, (tb1 231 (by decide +kernel) rfl)⟩
theorem fl_RX2_11 : FLk RX2 11 2 9 1 := ⟨cl_2, by decide, (tb1 232 (by decide +kernel) rfl)⟩
theorem fl_RX2_16 : FLk RX2 16 2 9 2 := ⟨cl_2, by decide, (tb1 233 (by decide +kernel) rfl)⟩
theorem fl_RX2_24 : FLk RX2 24 2 9 3 := ⟨cl_2, by decide, (tb1 234 (by decide +kernel) rfl)⟩
theorem fl_RX11_381 : FLk RX11 381 2 9 3 := ⟨cl_2, by decide, (tb1 235 (by decide +kernel) rfl)⟩
theorem fl_RX0_88 : FLk RX0 88 2 9 4 := ⟨cl_2, by decide, (tb1 236 (by decide +kernel) rfl)⟩
theorem fl_RX2_65 : FLk RX2 65 2 9 4 := ⟨cl_2, by decide, (tb1 237 (by decide +kernel) rfl)⟩
theorem fl_RX11_259 : FLk RX11 259 2 9 4 := ⟨cl_2, by decide, (tb1 238 (by decide +kernel) rfl)⟩
theorem fl_RX2_93 : FLk RX2 93 2 9 5 := ⟨cl_2, by decide, (tb1 239 (by decide +kernel) rfl)⟩
theorem fl_RX11_281 : FLk RX11 281 2 9 5 := ⟨cl_2, by decide, (tb2 0 (by decide +kernel) rfl)⟩
theorem fl_RX2_96 : FLk RX2 96 2 9 6 := ⟨cl_2, by decide, (tb2 1 (by decide +kernel) rfl)⟩
theorem fl_RX11_284 : FLk RX11 284 2 9 6 := ⟨cl_2, by decide, (tb2 2 (by decide +kernel) rfl)⟩
theorem fl_RX2_99 : FLk RX2 99 2 9 7 := ⟨cl_2, by decide, (tb2 3 (by decide +kernel) rfl)⟩
theorem fl_RX11_287 : FLk RX11 287 2 9 7 := ⟨cl_2, by decide, (tb2 4 (by decide +kernel) rfl)⟩
theorem fl_RX2_83 : FLk RX2 83 2 9 8 := ⟨cl_2, by decide, (tb2 5 (by decide +kernel) rfl)⟩
theorem fl_RX11_290 : FLk RX11 290 2 9 8 := ⟨cl_2, by decide, (tb2 6 (by decide +kernel) rfl)⟩
theorem fl_RX6_18 : FLk RX6 18 6 5 0 := ⟨cl_6, by decide, (tb2 32 (by decide +kernel) rfl)⟩
theorem fl_RX6_22 : FLk RX6 22 6 5 1 := ⟨cl_6, by decide, (tb2 33 (by decide +kernel) rfl)⟩
theorem fl_RX6_9 : FLk RX6 9 6 5 2 := ⟨cl_6, by decide, (tb2 34 (by decide +kernel) rfl)⟩
theorem fl_RX6_15 : FLk RX6 15 6 5 3 := ⟨cl_6, by decide, (tb2 35 (by decide +kernel) rfl)⟩
theorem fl_RX11_306 : FLk RX11 306 6 5 3 := ⟨cl_6, by decide, (tb2 36 (by decide +kernel) rfl)⟩
theorem fl_RX6_37 : FLk RX6 37 6 5 4 := ⟨cl_6, by decide, (tb2 37 (by decide +kernel) rfl)⟩
theorem fl_RX11_303 : FLk RX11 303 6 5 4 := ⟨cl_6, by decide, (tb2 38 (by decide +kernel) rfl)⟩
theorem fl_RX0_15 : FLk RX0 15 0 5 0 := ⟨cl_0, by decide, (tb2 56 (by decide +kernel) rfl)⟩
theorem fl_RX0_19 : FLk RX0 19 0 5 1 := ⟨cl_0, by decide, (tb2 57 (by decide +kernel) rfl)⟩
theorem fl_RX0_23 : FLk RX0 23 0 5 2 := ⟨cl_0, by decide, (tb2 58 (by decide +kernel) rfl)⟩
theorem fl_RX0_9 : FLk RX0 9 0 5 3 := ⟨cl_0, by decide, (tb2 59 (by decide +kernel) rfl)⟩
theorem fl_RX0_32 : FLk RX0 32 0 5 4 := ⟨cl_0, by decide, (tb2 60 (by decide +kernel) rfl)⟩
theorem fl_RX11_18 : FLk RX11 18 11 15 0 := ⟨cl_11, by decide, (tb2 72 (by decide +kernel) rfl)⟩
theorem fl_RX11_27 : FLk RX11 27 11 15 1 := ⟨cl_11, by decide, (tb2 73 (by decide +kernel) rfl)⟩
theorem fl_RX11_31 : FLk RX11 31 11 15 2 := ⟨cl_11, by decide, (tb2 74 (by decide +kernel) rfl)⟩
theorem fl_RX11_34 : FLk RX11 34 11 15 3 := ⟨cl_11, by decide, (tb2 75 (by decide +kernel) rfl)⟩
theorem fl_RX11_42 : FLk RX11 42 11 15 4 := ⟨cl_11, by decide, (tb2 76 (by decide +kernel) rfl)⟩
theorem fl_RX11_49 : FLk RX11 49 11 15 5 := ⟨cl_11, by decide, (tb2 77 (by decide +kernel) rfl)⟩
theorem fl_RX11_56 : FLk RX11 56 11 15 6 := ⟨cl_11, by decide, (tb2 78 (by decide +kernel) rfl)⟩
theorem fl_RX11_63 : FLk RX11 63 11 15 7 := ⟨cl_11, by decide, (tb2 79 (by decide +kernel) rfl)⟩
theorem fl_RX11_72 : FLk RX11 72 11 15 8 := ⟨cl_11, by decide, (tb2 80 (by decide +kernel) rfl)⟩
theorem fl_RX11_81 : FLk RX11 81 11 15 9 := ⟨cl_11, by decide, (tb2 81 (by decide +kernel) rfl)⟩
theorem fl_RX11_88 : FLk RX11 88 11 15 10 := ⟨cl_11, by decide, (tb2 82 (by decide +kernel) rfl)⟩
theorem fl_RX11_95 : FLk RX11 95 11 15 11 := ⟨cl_11, by decide, (tb2 83 (by decide +kernel) rfl)⟩
theorem fl_RX11_104 : FLk RX11 104 11 15 12 := ⟨cl_11, by decide, (tb2 84 (by decide +kernel) rfl)⟩
theorem fl_RX11_113 : FLk RX11 113 11 15 13 := ⟨cl_11, by decide, (tb2 85 (by decide +kernel) rfl)⟩
theorem fl_RX11_332 : FLk RX11 332 11 15 14 := ⟨cl_11, by decide, (tb2 86 (by decide +kernel) rfl)⟩
theorem fl_RX12_103 : FLk RX12 103 12 47 0 := ⟨cl_12, by decide, (tb6 14 (by decide +kernel) rfl)⟩
theorem fl_RX12_99 : FLk RX12 99 12 47 1 := ⟨cl_12, by decide, (tb6 15 (by decide +kernel) rfl)⟩
theorem fl_RX12_9 : FLk RX12 9 12 47 2 := ⟨cl_12, by decide, (tb6 16 (by decide +kernel) rfl)⟩
theorem fl_RX12_13 : FLk RX12 13 12 47 3 := ⟨cl_12, by decide, (tb6 17 (by decide +kernel) rfl)⟩
theorem fl_RX12_16 : FLk RX12 16 12 47 4 := ⟨cl_12, by decide, (tb6 18 (by decide +kernel) rfl)⟩
theorem fl_RX12_20 : FLk RX12 20 12 47 5 := ⟨cl_12, by decide, (tb6 19 (by decide +kernel) rfl)⟩
theorem fl_RX12_23 : FLk RX12 23 12 47 6 := ⟨cl_12, by decide, (tb6 20 (by decide +kernel) rfl)⟩
theorem fl_RX12_116 : FLk RX12 116 12 47 7 := ⟨cl_12, by decide, (tb6 21 (by decide +kernel) rfl)⟩
theorem fl_RX12_242 : FLk RX12 242 12 47 8 := ⟨cl_12, by decide, (tb6 22 (by decide +kernel) rfl)⟩
theorem fl_RX12_132 : FLk RX12 132 12 47 9 := ⟨cl_12, by decide, (tb6 23 (by decide +kernel) rfl)⟩
theorem fl_RX12_129 : FLk RX12 129 12 47 10 := ⟨cl_12, by decide, (tb6 24 (by decide +kernel) rfl)⟩
theorem fl_RX12_126 : FLk RX12 126 12 47 11 := ⟨cl_12, by decide, (tb6 25 (by decide +kernel) rfl)⟩
theorem fl_RX12_135 : FLk RX12 135 12 47 12 := ⟨cl_12, by decide, (tb6 26 (by decide +kernel) rfl)⟩
theorem fl_RX12_138 : FLk RX12 138 12 47 13 := ⟨cl_12, by decide, (tb6 27 (by decide +kernel) rfl)⟩
theorem fl_RX12_204 : FLk RX12 204 12 47 14 := ⟨cl_12, by decide, (tb6 28 (by decide +kernel) rfl)⟩
theorem fl_RX12_207 : FLk RX12 207 12 47 15 := ⟨cl_12, by decide, (tb6 29 (by decide +kernel) rfl)⟩
theorem fl_RX12_28 : FLk RX12 28 12 47 16 := ⟨cl_12, by decide, (tb6 30 (by decide +kernel) rfl)⟩
theorem fl_RX12_34 : FLk RX12 34 12 47 17 := ⟨cl_12, by decide, (tb6 31 (by decide +kernel) rfl)⟩
theorem fl_RX12_200 : FLk RX12 200 12 47 18 := ⟨cl_12, by decide, (tb6 32 (by decide +kernel) rfl)⟩
theorem fl_RX12_37 : FLk RX12 37 12 47 19 := ⟨cl_12, by decide, (tb6 33 (by decide +kernel) rfl)⟩
theorem fl_RX12_40 : FLk RX12 40 12 47 20 := ⟨cl_12, by decide, (tb6 34 (by decide +kernel) rfl)⟩
theorem fl_RX12_43 : FLk RX12 43 12 47 21 := ⟨cl_12, by decide, (tb6 35 (by decide +kernel) rfl)⟩
theorem fl_RX12_46 : FLk RX12 46 12 47 22 := ⟨cl_12, by decide, (tb6 36 (by decide +kernel) rfl)⟩
theorem fl_RX12_49 : FLk RX12 49 12 47 23 := ⟨cl_12, by decide, (tb6 37 (by decide +kernel) rfl)⟩
theorem fl_RX12_53 : FLk RX12 53 12 47 24 := ⟨cl_12, by decide, (tb6 38 (by decide +kernel) rfl)⟩
theorem fl_RX12_56 : FLk RX12 56 12 47 25 := ⟨cl_12, by decide, (tb6 39 (by decide +kernel) rfl)⟩
theorem fl_RX12_59 : FLk RX12 59 12 47 26 := ⟨cl_12, by decide, (tb6 40 (by decide +kernel) rfl)⟩
theorem fl_RX12_63 : FLk RX12 63 12 47 27 := ⟨cl_12, by decide, (tb6 41 (by decide +kernel) rfl)⟩
theorem fl_RX12_66 : FLk RX12 66 12 47 28 := ⟨cl_12, by decide, (tb6 42 (by decide +kernel) rfl)⟩
theorem fl_RX12_69 : FLk RX12 69 12 47 29 := ⟨cl_12, by decide, (tb6 43 (by decide +kernel) rfl)⟩
theorem fl_RX12_318 : FLk RX12 318 12 47 30 := ⟨cl_12, by decide, (tb6 44 (by decide +kernel) rfl)⟩
theorem fl_RX12_324 : FLk RX12 324 12 47 31 := ⟨cl_12, by decide, (tb6 45 (by decide +kernel) rfl)⟩
theorem fl_RX12_334 : FLk RX12 334 12 47 32 := ⟨cl_12, by decide, (tb6 46 (by decide +kernel) rfl)⟩
theorem fl_RX12_337 : FLk RX12 337 12 47 33 := ⟨cl_12, by decide, (tb6 47 (by decide +kernel) rfl)⟩
theorem fl_RX12_359 : FLk RX12 359 12 47 34 := ⟨cl_12, by decide, (tb6 48 (by decide +kernel) rfl)⟩
theorem fl_RX12_362 : FLk RX12 362 12 47 35 := ⟨cl_12, by decide, (tb6 49 (by decide +kernel) rfl)⟩
theorem fl_RX12_365 : FLk RX12 365 12 47 36 := ⟨cl_12, by decide, (tb6 50 (by decide +kernel) rfl)⟩
theorem fl_RX12_353 : FLk RX12 353 12 47 37 := ⟨cl_12, by decide, (tb6 51 (by decide +kernel) rfl)⟩
theorem fl_RX12_72 : FLk RX12 72 12 47 38 := ⟨cl_12, by decide, (tb6 52 (by decide +kernel) rfl)⟩
theorem fl_RX12_75 : FLk RX12 75 12 47 39 := ⟨cl_12, by decide, (tb6 53 (by decide +kernel) rfl)⟩
theorem fl_RX12_78 : FLk RX12 78 12 47 40 := ⟨cl_12, by decide, (tb6 54 (by decide +kernel) rfl)⟩
theorem fl_RX12_380 : FLk RX12 380 12 47 41 := ⟨cl_12, by decide, (tb6 55 (by decide +kernel) rfl)⟩
theorem fl_RX12_392 : FLk RX12 392 12 47 42 := ⟨cl_12, by decide, (tb6 56 (by decide +kernel) rfl)⟩
theorem fl_RX12_81 : FLk RX12 81 12 47 43 := ⟨cl_12, by decide, (tb6 57 (by decide +kernel) rfl)⟩
theorem fl_RX12_84 : FLk RX12 84 12 47 44 := ⟨cl_12, by decide, (tb6 58 (by decide +kernel) rfl)⟩
theorem fl_RX12_87 : FLk RX12 87 12 47 45 := ⟨cl_12, by decide, (tb6 59 (by decide +kernel) rfl)⟩
theorem fl_RX12_420 : FLk RX12 420 12 47 46 := ⟨cl_12, by decide, (tb6 60 (by decide +kernel) rfl)⟩
abbrev m_X0_init : MT := (yX0_init, cX0_init, 4, none)
theorem mo_X0_init : MtOk m_X0_init 3 := ⟨by decide +kernel, (tb2 54 (by decide +kernel) rfl), ⟨by decide +kernel, by decide +kernel⟩, by decide +kernel, by decide, (tb1 14 (by decide +kernel) rfl)⟩
theorem mi_X0_init : Cond.instanceMethod yX0_init ∈ BIG := (tb2 53 (by decide +kernel) rfl)
abbrev m_X0_pass : MT := (yX0_pass, cX0_pass, 9, (some .int))
theorem mo_X0_pass : MtOk m_X0_pass 4 := ⟨by decide +kernel, (tb4 206 (by decide +kernel) rfl), ⟨by decide +kernel, by decide +kernel⟩, by decide +kernel, by decide, (tb1 14 (by decide +kernel) rfl)⟩
theorem mi_X0_pass : Cond.instanceMethod yX0_pass ∈ BIG := (tb4 204 (by decide +kernel) rfl)
theorem mv_X0_pass : Cond.selects (yX0_pass).cls yX0_pass yX0_pass ∈ BIG := (tb4 205 (by decide +kernel) rfl)
abbrev m_X0_dyings : MT := (yX0_dyings, cX0_dyings, 4, (some .int))
theorem mo_X0_dyings : MtOk m_X0_dyings 1 := ⟨by decide +kernel, (tb4 211 (by decide +kernel) rfl), ⟨by decide +kernel, by decide +kernel⟩, by decide +kernel, by decide, (tb1 14 (by decide +kernel) rfl)⟩
theorem mi_X0_dyings : Cond.instanceMethod yX0_dyings ∈ BIG := (tb4 210 (by decide +kernel) rfl)
theorem mv_X0_dyings : Cond.selects (yX0_dyings).cls yX0_dyings yX0_dyings ∈ BIG := (tb0 24 (by decide +kernel) rfl)
abbrev m_X0_leave : MT := (yX0_leave, cX0_leave, 3, none)
theorem mo_X0_leave : MtOk m_X0_leave 1 := ⟨by decide +kernel, (tb4 218 (by decide +kernel) rfl), ⟨by decide +kernel, by decide +kernel⟩, by decide +kernel, by decide, (tb1 14 (by decide +kernel) rfl)⟩
theorem mi_X0_leave : Cond.instanceMethod yX0_leave ∈ BIG := (tb4 217 (by decide +kernel) rfl)
theorem mv_X0_leave : Cond.selects (yX0_leave).cls yX0_leave yX0_leave ∈ BIG := (tb0 25 (by decide +kernel) rfl)
abbrev m_X0_look : MT := (yX0_look, cX0_look, 6, none)
theorem mo_X0_look : MtOk m_X0_look 2 := ⟨by decide +kernel, (tb4 223 (by decide +kernel) rfl), ⟨by decide +kernel, by decide +kernel⟩, by decide +kernel, by decide, (tb1 14 (by decide +kernel) rfl)⟩
theorem mi_X0_look : Cond.instanceMethod yX0_look ∈ BIG := (tb4 222 (by decide +kernel) rfl)
theorem mv_X0_look : Cond.selects (yX0_look).cls yX0_look yX0_look ∈ BIG := (tb0 26 (by decide +kernel) rfl)
abbrev m_X0_bestStranger : MT := (yX0_bestStranger, cX0_bestStranger, 7, (some .int))
theorem mo_X0_bestStranger : MtOk m_X0_bestStranger 2 := ⟨by decide +kernel, (tb4 228 (by decide +kernel) rfl), ⟨by decide +kernel, by decide +kernel⟩, by decide +kernel, by decide, (tb1 14 (by decide +kernel) rfl)⟩
theorem mi_X0_bestStranger : Cond.instanceMethod yX0_bestStranger ∈ BIG := (tb4 227 (by decide +kernel) rfl)
theorem mv_X0_bestStranger : Cond.selects (yX0_bestStranger).cls yX0_bestStranger yX0_bestStranger ∈ BIG := (tb0 27 (by decide +kernel) rfl)
abbrev m_X0_leastKnown : MT := (yX0_leastKnown, cX0_leastKnown, 7, (some .int))
theorem mo_X0_leastKnown : MtOk m_X0_leastKnown 2 := ⟨by decide +kernel, (tb5 2 (by decide +kernel) rfl), ⟨by decide +kernel, by decide +kernel⟩, by decide +kernel, by decide, (tb1 14 (by decide +kernel) rfl)⟩
theorem mi_X0_leastKnown : Cond.instanceMethod yX0_leastKnown ∈ BIG := (tb5 1 (by decide +kernel) rfl)
theorem mv_X0_leastKnown : Cond.selects (yX0_leastKnown).cls yX0_leastKnown yX0_leastKnown ∈ BIG := (tb0 29 (by decide +kernel) rfl)
abbrev m_X0_worthOf : MT := (yX0_worthOf, cX0_worthOf, 5, (some .int))
theorem mo_X0_worthOf : MtOk m_X0_worthOf 3 := ⟨by decide +kernel, (tb4 234 (by decide +kernel) rfl), ⟨by decide +kernel, by decide +kernel⟩, by decide +kernel, by decide, (tb1 14 (by decide +kernel) rfl)⟩
theorem mi_X0_worthOf : Cond.instanceMethod yX0_worthOf ∈ BIG := (tb4 233 (by decide +kernel) rfl)
theorem mv_X0_worthOf : Cond.selects (yX0_worthOf).cls yX0_worthOf yX0_worthOf ∈ BIG := (tb0 28 (by decide +kernel) rfl)
abbrev m_X1_init : MT := (yX1_init, cX1_init, 2, none)
theorem mo_X1_init : MtOk m_X1_init 1 := ⟨by decide +kernel, (tb1 121 (by decide +kernel) rfl), ⟨by decide +kernel, by decide +kernel⟩, by decide +kernel, by decide, (tb1 6 (by decide +kernel) rfl)⟩
theorem mi_X1_init : Cond.instanceMethod yX1_init ∈ BIG := (tb1 120 (by decide +kernel) rfl)
abbrev m_X1_cutBy : MT := (yX1_cutBy, cX1_cutBy, 7, (some .int))
theorem mo_X1_cutBy : MtOk m_X1_cutBy 1 := ⟨by decide +kernel, (tb3 185 (by decide +kernel) rfl), ⟨by decide +kernel, by decide +kernel⟩, by decide +kernel, by decide, (tb1 6 (by decide +kernel) rfl)⟩
theorem mi_X1_cutBy : Cond.instanceMethod yX1_cutBy ∈ BIG := (tb3 183 (by decide +kernel) rfl)
theorem mv_X1_cutBy : Cond.selects (yX1_cutBy).cls yX1_cutBy yX1_cutBy ∈ BIG := (tb3 184 (by decide +kernel) rfl)
abbrev m_X1_keyOnes : MT := (yX1_keyOnes, cX1_keyOnes, 3, (some .int))
theorem mo_X1_keyOnes : MtOk m_X1_keyOnes 0 := ⟨by decide +kernel, (tb3 208 (by decide +kernel) rfl), ⟨by decide +kernel, by decide +kernel⟩, by decide +kernel, by decide, (tb1 6 (by decide +kernel) rfl)⟩
theorem mi_X1_keyOnes : Cond.instanceMethod yX1_keyOnes ∈ BIG := (tb3 206 (by decide +kernel) rfl)
theorem mv_X1_keyOnes : Cond.selects (yX1_keyOnes).cls yX1_keyOnes yX1_keyOnes ∈ BIG := (tb3 207 (by decide +kernel) rfl)
abbrev m_X1_parts : MT := (yX1_parts, cX1_parts, 4, (some .int))
theorem mo_X1_parts : MtOk m_X1_parts 0 := ⟨by decide +kernel, (tb3 204 (by decide +kernel) rfl), ⟨by decide +kernel, by decide +kernel⟩, by decide +kernel, by decide, (tb1 6 (by decide +kernel) rfl)⟩
theorem mi_X1_parts : Cond.instanceMethod yX1_parts ∈ BIG := (tb3 202 (by decide +kernel) rfl)
theorem mv_X1_parts : Cond.selects (yX1_parts).cls yX1_parts yX1_parts ∈ BIG := (tb3 203 (by decide +kernel) rfl)
abbrev m_X1_mending : MT := (yX1_mending, cX1_mending, 3, (some .int))
theorem mo_X1_mending : MtOk m_X1_mending 0 := ⟨by decide +kernel, (tb4 31 (by decide +kernel) rfl), ⟨by decide +kernel, by decide +kernel⟩, by decide +kernel, by decide, (tb1 6 (by decide +kernel) rfl)⟩
theorem mi_X1_mending : Cond.instanceMethod yX1_mending ∈ BIG := (tb4 29 (by decide +kernel) rfl)
theorem mv_X1_mending : Cond.selects (yX1_mending).cls yX1_mending yX1_mending ∈ BIG := (tb4 30 (by decide +kernel) rfl)
abbrev m_X1_roomOf : MT := (yX1_roomOf, cX1_roomOf, 4, (some .int))
theorem mo_X1_roomOf : MtOk m_X1_roomOf 1 := ⟨by decide +kernel, (tb4 36 (by decide +kernel) rfl), ⟨by decide +kernel, by decide +kernel⟩, by decide +kernel, by decide, (tb1 6 (by decide +kernel) rfl)⟩
theorem mi_X1_roomOf : Cond.instanceMethod yX1_roomOf ∈ BIG := (tb4 35 (by decide +kernel) rfl)
theorem mv_X1_roomOf : Cond.selects (yX1_roomOf).cls yX1_roomOf yX1_roomOf ∈ BIG := (tb0 15 (by decide +kernel) rfl)
abbrev m_X1_breakingSet : MT := (yX1_breakingSet, cX1_breakingSet, 4, (some .int))
theorem mo_X1_breakingSet : MtOk m_X1_breakingSet 1 := ⟨by decide +kernel, (tb4 9 (by decide +kernel) rfl), ⟨by decide +kernel, by decide +kernel⟩, by decide +kernel, by decide, (tb1 6 (by decide +kernel) rfl)⟩
theorem mi_X1_breakingSet : Cond.instanceMethod yX1_breakingSet ∈ BIG := (tb4 7 (by decide +kernel) rfl)
theorem mv_X1_breakingSet : Cond.selects (yX1_breakingSet).cls yX1_breakingSet yX1_breakingSet ∈ BIG := (tb4 8 (by decide +kernel) rfl)
abbrev m_X1_joined : MT := (yX1_joined, cX1_joined, 2, (some .boolean))
theorem mo_X1_joined : MtOk m_X1_joined 1 := ⟨by decide +kernel, (tb4 16 (by decide +kernel) rfl), ⟨by decide +kernel, by decide +kernel⟩, by decide +kernel, by decide, (tb1 6 (by decide +kernel) rfl)⟩
theorem mi_X1_joined : Cond.instanceMethod yX1_joined ∈ BIG := (tb4 15 (by decide +kernel) rfl)
theorem mv_X1_joined : Cond.selects (yX1_joined).cls yX1_joined yX1_joined ∈ BIG := (tb0 14 (by decide +kernel) rfl)
abbrev m_X1_bestCourier : MT := (yX1_bestCourier, cX1_bestCourier, 5, (some .int))
theorem mo_X1_bestCourier : MtOk m_X1_bestCourier 0 := ⟨by decide +kernel, (tb5 123 (by decide +kernel) rfl), ⟨by decide +kernel, by decide +kernel⟩, by decide +kernel, by decide, (tb1 6 (by decide +kernel) rfl)⟩
theorem mi_X1_bestCourier : Cond.instanceMethod yX1_bestCourier ∈ BIG := (tb5 121 (by decide +kernel) rfl)
theorem mv_X1_bestCourier : Cond.selects (yX1_bestCourier).cls yX1_bestCourier yX1_bestCourier ∈ BIG := (tb5 122 (by decide +kernel) rfl)
abbrev m_X1_moreWithout : MT := (yX1_moreWithout, cX1_moreWithout, 5, (some .int))
theorem mo_X1_moreWithout : MtOk m_X1_moreWithout 1 := ⟨by decide +kernel, (tb5 127 (by decide +kernel) rfl), ⟨by decide +kernel, by decide +kernel⟩, by decide +kernel, by decide, (tb1 6 (by decide +kernel) rfl)⟩
theorem mi_X1_moreWithout : Cond.instanceMethod yX1_moreWithout ∈ BIG := (tb5 125 (by decide +kernel) rfl)
theorem mv_X1_moreWithout : Cond.selects (yX1_moreWithout).cls yX1_moreWithout yX1_moreWithout ∈ BIG := (tb5 126 (by decide +kernel) rfl)
abbrev m_X1_lossOf : MT := (yX1_lossOf, cX1_lossOf, 5, (some .int))
theorem mo_X1_lossOf : MtOk m_X1_lossOf 2 := ⟨by decide +kernel, (tb5 137 (by decide +kernel) rfl), ⟨by decide +kernel, by decide +kernel⟩, by decide +kernel, by decide, (tb1 6 (by decide +kernel) rfl)⟩
theorem mi_X1_lossOf : Cond.instanceMethod yX1_lossOf ∈ BIG := (tb5 135 (by decide +kernel) rfl)
theorem mv_X1_lossOf : Cond.selects (yX1_lossOf).cls yX1_lossOf yX1_lossOf ∈ BIG := (tb5 136 (by decide +kernel) rfl)
abbrev m_X1_dearest : MT := (yX1_dearest, cX1_dearest, 6, (some .int))
theorem mo_X1_dearest : MtOk m_X1_dearest 0 := ⟨by decide +kernel, (tb5 148 (by decide +kernel) rfl), ⟨by decide +kernel, by decide +kernel⟩, by decide +kernel, by decide, (tb1 6 (by decide +kernel) rfl)⟩
theorem mi_X1_dearest : Cond.instanceMethod yX1_dearest ∈ BIG := (tb5 146 (by decide +kernel) rfl)
theorem mv_X1_dearest : Cond.selects (yX1_dearest).cls yX1_dearest yX1_dearest ∈ BIG := (tb5 147 (by decide +kernel) rfl)
abbrev m_X1_bestGift : MT := (yX1_bestGift, cX1_bestGift, 7, (some .int))
theorem mo_X1_bestGift : MtOk m_X1_bestGift 0 := ⟨by decide +kernel, (tb5 154 (by decide +kernel) rfl), ⟨by decide +kernel, by decide +kernel⟩, by decide +kernel, by decide, (tb1 6 (by decide +kernel) rfl)⟩
theorem mi_X1_bestGift : Cond.instanceMethod yX1_bestGift ∈ BIG := (tb5 152 (by decide +kernel) rfl)
theorem mv_X1_bestGift : Cond.selects (yX1_bestGift).cls yX1_bestGift yX1_bestGift ∈ BIG := (tb5 153 (by decide +kernel) rfl)
abbrev m_X1_mayJoin : MT := (yX1_mayJoin, cX1_mayJoin, 3, (some .boolean))
theorem mo_X1_mayJoin : MtOk m_X1_mayJoin 2 := ⟨by decide +kernel, (tb5 158 (by decide +kernel) rfl), ⟨by decide +kernel, by decide +kernel⟩, by decide +kernel, by decide, (tb1 6 (by decide +kernel) rfl)⟩
theorem mi_X1_mayJoin : Cond.instanceMethod yX1_mayJoin ∈ BIG := (tb5 157 (by decide +kernel) rfl)
theorem mv_X1_mayJoin : Cond.selects (yX1_mayJoin).cls yX1_mayJoin yX1_mayJoin ∈ BIG := (tb0 34 (by decide +kernel) rfl)
abbrev m_X1_sumsWith : MT := (yX1_sumsWith, cX1_sumsWith, 4, (some .int))
theorem mo_X1_sumsWith : MtOk m_X1_sumsWith 2 := ⟨by decide +kernel, (tb5 163 (by decide +kernel) rfl), ⟨by decide +kernel, by decide +kernel⟩, by decide +kernel, by decide, (tb1 6 (by decide +kernel) rfl)⟩
theorem mi_X1_sumsWith : Cond.instanceMethod yX1_sumsWith ∈ BIG := (tb5 162 (by decide +kernel) rfl)
theorem mv_X1_sumsWith : Cond.selects (yX1_sumsWith).cls yX1_sumsWith yX1_sumsWith ∈ BIG := (tb0 35 (by decide +kernel) rfl)
abbrev m_X2_init : MT := (yX2_init, cX2_init, 2, none)
theorem mo_X2_init : MtOk m_X2_init 1 := ⟨by decide +kernel, (tb1 228 (by decide +kernel) rfl), ⟨by decide +kernel, by decide +kernel⟩, by decide +kernel, by decide, (tb1 12 (by decide +kernel) rfl)⟩
theorem mi_X2_init : Cond.instanceMethod yX2_init ∈ BIG := (tb1 227 (by decide +kernel) rfl)
abbrev m_X2_putNeed : MT := (yX2_putNeed, cX2_putNeed, 5, (some .boolean))
theorem mo_X2_putNeed : MtOk m_X2_putNeed 3 := ⟨by decide +kernel, (tb4 45 (by decide +kernel) rfl), ⟨by decide +kernel, by decide +kernel⟩, by decide +kernel, by decide, (tb1 12 (by decide +kernel) rfl)⟩
theorem mi_X2_putNeed : Cond.instanceMethod yX2_putNeed ∈ BIG := (tb4 43 (by decide +kernel) rfl)
theorem mv_X2_putNeed : Cond.selects (yX2_putNeed).cls yX2_putNeed yX2_putNeed ∈ BIG := (tb4 44 (by decide +kernel) rfl)
abbrev m_X2_valueOf : MT := (yX2_valueOf, cX2_valueOf, 6, (some .int))
theorem mo_X2_valueOf : MtOk m_X2_valueOf 1 := ⟨by decide +kernel, (tb4 53 (by decide +kernel) rfl), ⟨by decide +kernel, by decide +kernel⟩, by decide +kernel, by decide, (tb1 12 (by decide +kernel) rfl)⟩
theorem mi_X2_valueOf : Cond.instanceMethod yX2_valueOf ∈ BIG := (tb4 51 (by decide +kernel) rfl)
theorem mv_X2_valueOf : Cond.selects (yX2_valueOf).cls yX2_valueOf yX2_valueOf ∈ BIG := (tb4 52 (by decide +kernel) rfl)
abbrev m_X2_valueAmong : MT := (yX2_valueAmong, cX2_valueAmong, 6, (some .int))
theorem mo_X2_valueAmong : MtOk m_X2_valueAmong 3 := ⟨by decide +kernel, (tb4 58 (by decide +kernel) rfl), ⟨by decide +kernel, by decide +kernel⟩, by decide +kernel, by decide, (tb1 12 (by decide +kernel) rfl)⟩
theorem mi_X2_valueAmong : Cond.instanceMethod yX2_valueAmong ∈ BIG := (tb4 57 (by decide +kernel) rfl)
theorem mv_X2_valueAmong : Cond.selects (yX2_valueAmong).cls yX2_valueAmong yX2_valueAmong ∈ BIG := (tb0 16 (by decide +kernel) rfl)
abbrev m_X2_canBe : MT := (yX2_canBe, cX2_canBe, 5, (some .boolean))
theorem mo_X2_canBe : MtOk m_X2_canBe 4 := ⟨by decide +kernel, (tb4 70 (by decide +kernel) rfl), ⟨by decide +kernel, by decide +kernel⟩, by decide +kernel, by decide, (tb1 12 (by decide +kernel) rfl)⟩
theorem mi_X2_canBe : Cond.instanceMethod yX2_canBe ∈ BIG := (tb4 68 (by decide +kernel) rfl)
theorem mv_X2_canBe : Cond.selects (yX2_canBe).cls yX2_canBe yX2_canBe ∈ BIG := (tb4 69 (by decide +kernel) rfl)
abbrev m_X2_mayDrop : MT := (yX2_mayDrop, cX2_mayDrop, 3, (some .boolean))
theorem mo_X2_mayDrop : MtOk m_X2_mayDrop 2 := ⟨by decide +kernel, (tb4 76 (by decide +kernel) rfl), ⟨by decide +kernel, by decide +kernel⟩, by decide +kernel, by decide, (tb1 12 (by decide +kernel) rfl)⟩
theorem mi_X2_mayDrop : Cond.instanceMethod yX2_mayDrop ∈ BIG := (tb4 75 (by decide +kernel) rfl)
theorem mv_X2_mayDrop : Cond.selects (yX2_mayDrop).cls yX2_mayDrop yX2_mayDrop ∈ BIG := (tb0 17 (by decide +kernel) rfl)
abbrev m_X2_make : MT := (yX2_make, cX2_make, 5, none)
theorem mo_X2_make : MtOk m_X2_make 4 := ⟨by decide +kernel, (tb4 87 (by decide +kernel) rfl), ⟨by decide +kernel, by decide +kernel⟩, by decide +kernel, by decide, (tb1 12 (by decide +kernel) rfl)⟩
theorem mi_X2_make : Cond.instanceMethod yX2_make ∈ BIG := (tb4 85 (by decide +kernel) rfl)
theorem mv_X2_make : Cond.selects (yX2_make).cls yX2_make yX2_make ∈ BIG := (tb4 86 (by decide +kernel) rfl)
abbrev m_X2_unmake : MT := (yX2_unmake, cX2_unmake, 5, none)
theorem mo_X2_unmake : MtOk m_X2_unmake 4 := ⟨by decide +kernel, (tb4 93 (by decide +kernel) rfl), ⟨by decide +kernel, by decide +kernel⟩, by decide +kernel, by decide, (tb1 12 (by decide +kernel) rfl)⟩
theorem mi_X2_unmake : Cond.instanceMethod yX2_unmake ∈ BIG := (tb4 92 (by decide +kernel) rfl)
theorem mv_X2_unmake : Cond.selects (yX2_unmake).cls yX2_unmake yX2_unmake ∈ BIG := (tb0 18 (by decide +kernel) rfl)
abbrev m_X2_gainOf : MT := (yX2_gainOf, cX2_gainOf, 10, (some .int))
theorem mo_X2_gainOf : MtOk m_X2_gainOf 5 := ⟨by decide +kernel, (tb4 82 (by decide +kernel) rfl), ⟨by decide +kernel, by decide +kernel⟩, by decide +kernel, by decide, (tb1 12 (by decide +kernel) rfl)⟩
theorem mi_X2_gainOf : Cond.instanceMethod yX2_gainOf ∈ BIG := (tb4 80 (by decide +kernel) rfl)
theorem mv_X2_gainOf : Cond.selects (yX2_gainOf).cls yX2_gainOf yX2_gainOf ∈ BIG := (tb4 81 (by decide +kernel) rfl)
abbrev m_X2_wanted : MT := (yX2_wanted, cX2_wanted, 5, (some .boolean))
theorem mo_X2_wanted : MtOk m_X2_wanted 4 := ⟨by decide +kernel, (tb4 101 (by decide +kernel) rfl), ⟨by decide +kernel, by decide +kernel⟩, by decide +kernel, by decide, (tb1 12 (by decide +kernel) rfl)⟩
theorem mi_X2_wanted : Cond.instanceMethod yX2_wanted ∈ BIG := (tb4 99 (by decide +kernel) rfl)
theorem mv_X2_wanted : Cond.selects (yX2_wanted).cls yX2_wanted yX2_wanted ∈ BIG := (tb4 100 (by decide +kernel) rfl)
abbrev m_X2_findBest : MT := (yX2_findBest, cX2_findBest, 3, (some .boolean))
theorem mo_X2_findBest : MtOk m_X2_findBest 1 := ⟨by decide +kernel, (tb4 111 (by decide +kernel) rfl), ⟨by decide +kernel, by decide +kernel⟩, by decide +kernel, by decide, (tb1 12 (by decide +kernel) rfl)⟩
theorem mi_X2_findBest : Cond.instanceMethod yX2_findBest ∈ BIG := (tb4 109 (by decide +kernel) rfl)
theorem mv_X2_findBest : Cond.selects (yX2_findBest).cls yX2_findBest yX2_findBest ∈ BIG := (tb4 110 (by decide +kernel) rfl)
abbrev m_X2_tryTaking : MT := (yX2_tryTaking, cX2_tryTaking, 4, none)
theorem mo_X2_tryTaking : MtOk m_X2_tryTaking 2 := ⟨by decide +kernel, (tb4 115 (by decide +kernel) rfl), ⟨by decide +kernel, by decide +kernel⟩, by decide +kernel, by decide, (tb1 12 (by decide +kernel) rfl)⟩
theorem mi_X2_tryTaking : Cond.instanceMethod yX2_tryTaking ∈ BIG := (tb4 114 (by decide +kernel) rfl)
theorem mv_X2_tryTaking : Cond.selects (yX2_tryTaking).cls yX2_tryTaking yX2_tryTaking ∈ BIG := (tb0 19 (by decide +kernel) rfl)
abbrev m_X2_tryDropping : MT := (yX2_tryDropping, cX2_tryDropping, 6, none)
theorem mo_X2_tryDropping : MtOk m_X2_tryDropping 3 := ⟨by decide +kernel, (tb4 119 (by decide +kernel) rfl), ⟨by decide +kernel, by decide +kernel⟩, by decide +kernel, by decide, (tb1 12 (by decide +kernel) rfl)⟩
theorem mi_X2_tryDropping : Cond.instanceMethod yX2_tryDropping ∈ BIG := (tb4 118 (by decide +kernel) rfl)
theorem mv_X2_tryDropping : Cond.selects (yX2_tryDropping).cls yX2_tryDropping yX2_tryDropping ∈ BIG := (tb0 20 (by decide +kernel) rfl)
abbrev m_X2_makeTurns : MT := (yX2_makeTurns, cX2_makeTurns, 5, (some .int))
theorem mo_X2_makeTurns : MtOk m_X2_makeTurns 0 := ⟨by decide +kernel, (tb4 132 (by decide +kernel) rfl), ⟨by decide +kernel, by decide +kernel⟩, by decide +kernel, by decide, (tb1 12 (by decide +kernel) rfl)⟩
theorem mi_X2_makeTurns : Cond.instanceMethod yX2_makeTurns ∈ BIG := (tb4 130 (by decide +kernel) rfl)
theorem mv_X2_makeTurns : Cond.selects (yX2_makeTurns).cls yX2_makeTurns yX2_makeTurns ∈ BIG := (tb4 131 (by decide +kernel) rfl)
abbrev m_X3_init : MT := (yX3_init, cX3_init, 2, none)
theorem mo_X3_init : MtOk m_X3_init 1 := ⟨by decide +kernel, (tb1 45 (by decide +kernel) rfl), ⟨by decide +kernel, by decide +kernel⟩, by decide +kernel, by decide, (tb1 3 (by decide +kernel) rfl)⟩
theorem mi_X3_init : Cond.instanceMethod yX3_init ∈ BIG := (tb1 44 (by decide +kernel) rfl)
abbrev m_X3_copy : MT := (yX3_copy, cX3_copy, 2, none)
theorem mo_X3_copy : MtOk m_X3_copy 1 := ⟨by decide +kernel, (tb4 127 (by decide +kernel) rfl), ⟨by decide +kernel, by decide +kernel⟩, by decide +kernel, by decide, (tb1 3 (by decide +kernel) rfl)⟩
theorem mi_X3_copy : Cond.instanceMethod yX3_copy ∈ BIG := (tb4 125 (by decide +kernel) rfl)
theorem mv_X3_copy : Cond.selects (yX3_copy).cls yX3_copy yX3_copy ∈ BIG := (tb4 126 (by decide +kernel) rfl)
abbrev m_X3_has : MT := (yX3_has, cX3_has, 2, (some .boolean))
theorem mo_X3_has : MtOk m_X3_has 1 := ⟨by decide +kernel, (tb2 157 (by decide +kernel) rfl), ⟨by decide +kernel, by decide +kernel⟩, by decide +kernel, by decide, (tb1 3 (by decide +kernel) rfl)⟩
theorem mi_X3_has : Cond.instanceMethod yX3_has ∈ BIG := (tb2 155 (by decide +kernel) rfl)
theorem mv_X3_has : Cond.selects (yX3_has).cls yX3_has yX3_has ∈ BIG := (tb2 156 (by decide +kernel) rfl)
abbrev m_X3_hasTwo : MT := (yX3_hasTwo, cX3_hasTwo, 3, (some .boolean))
theorem mo_X3_hasTwo : MtOk m_X3_hasTwo 2 := ⟨by decide +kernel, (tb3 100 (by decide +kernel) rfl), ⟨by decide +kernel, by decide +kernel⟩, by decide +kernel, by decide, (tb1 3 (by decide +kernel) rfl)⟩
theorem mi_X3_hasTwo : Cond.instanceMethod yX3_hasTwo ∈ BIG := (tb3 98 (by decide +kernel) rfl)
theorem mv_X3_hasTwo : Cond.selects (yX3_hasTwo).cls yX3_hasTwo yX3_hasTwo ∈ BIG := (tb3 99 (by decide +kernel) rfl)
abbrev m_X3_hasBits : MT := (yX3_hasBits, cX3_hasBits, 2, (some .boolean))
theorem mo_X3_hasBits : MtOk m_X3_hasBits 1 := ⟨by decide +kernel, (tb5 70 (by decide +kernel) rfl), ⟨by decide +kernel, by decide +kernel⟩, by decide +kernel, by decide, (tb1 3 (by decide +kernel) rfl)⟩
theorem mi_X3_hasBits : Cond.instanceMethod yX3_hasBits ∈ BIG := (tb5 68 (by decide +kernel) rfl)
theorem mv_X3_hasBits : Cond.selects (yX3_hasBits).cls yX3_hasBits yX3_hasBits ∈ BIG := (tb5 69 (by decide +kernel) rfl)
abbrev m_X3_tied : MT := (yX3_tied, cX3_tied, 3, (some .boolean))
theorem mo_X3_tied : MtOk m_X3_tied 2 := ⟨by decide +kernel, (tb3 105 (by decide +kernel) rfl), ⟨by decide +kernel, by decide +kernel⟩, by decide +kernel, by decide, (tb1 3 (by decide +kernel) rfl)⟩
theorem mi_X3_tied : Cond.instanceMethod yX3_tied ∈ BIG := (tb3 103 (by decide +kernel) rfl)
theorem mv_X3_tied : Cond.selects (yX3_tied).cls yX3_tied yX3_tied ∈ BIG := (tb3 104 (by decide +kernel) rfl)
abbrev m_X3_degree : MT := (yX3_degree, cX3_degree, 2, (some .int))
theorem mo_X3_degree : MtOk m_X3_degree 1 := ⟨by decide +kernel, (tb3 80 (by decide +kernel) rfl), ⟨by decide +kernel, by decide +kernel⟩, by decide +kernel, by decide, (tb1 3 (by decide +kernel) rfl)⟩
theorem mi_X3_degree : Cond.instanceMethod yX3_degree ∈ BIG := (tb3 78 (by decide +kernel) rfl)
theorem mv_X3_degree : Cond.selects (yX3_degree).cls yX3_degree yX3_degree ∈ BIG := (tb3 79 (by decide +kernel) rfl)
abbrev m_X3_full : MT := (yX3_full, cX3_full, 2, (some .boolean))
theorem mo_X3_full : MtOk m_X3_full 1 := ⟨by decide +kernel, (tb3 109 (by decide +kernel) rfl), ⟨by decide +kernel, by decide +kernel⟩, by decide +kernel, by decide, (tb1 3 (by decide +kernel) rfl)⟩
theorem mi_X3_full : Cond.instanceMethod yX3_full ∈ BIG := (tb3 107 (by decide +kernel) rfl)
theorem mv_X3_full : Cond.selects (yX3_full).cls yX3_full yX3_full ∈ BIG := (tb3 108 (by decide +kernel) rfl)
abbrev m_X3_join : MT := (yX3_join, cX3_join, 3, none)
theorem mo_X3_join : MtOk m_X3_join 2 := ⟨by decide +kernel, (tb3 113 (by decide +kernel) rfl), ⟨by decide +kernel, by decide +kernel⟩, by decide +kernel, by decide, (tb1 3 (by decide +kernel) rfl)⟩
theorem mi_X3_join : Cond.instanceMethod yX3_join ∈ BIG := (tb3 111 (by decide +kernel) rfl)
theorem mv_X3_join : Cond.selects (yX3_join).cls yX3_join yX3_join ∈ BIG := (tb3 112 (by decide +kernel) rfl)
abbrev m_X3_part : MT := (yX3_part, cX3_part, 3, none)
theorem mo_X3_part : MtOk m_X3_part 2 := ⟨by decide +kernel, (tb3 121 (by decide +kernel) rfl), ⟨by decide +kernel, by decide +kernel⟩, by decide +kernel, by decide, (tb1 3 (by decide +kernel) rfl)⟩
theorem mi_X3_part : Cond.instanceMethod yX3_part ∈ BIG := (tb3 119 (by decide +kernel) rfl)
theorem mv_X3_part : Cond.selects (yX3_part).cls yX3_part yX3_part ∈ BIG := (tb3 120 (by decide +kernel) rfl)
abbrev m_X3_tieCount : MT := (yX3_tieCount, cX3_tieCount, 3, (some .int))
theorem mo_X3_tieCount : MtOk m_X3_tieCount 0 := ⟨by decide +kernel, (tb3 76 (by decide +kernel) rfl), ⟨by decide +kernel, by decide +kernel⟩, by decide +kernel, by decide, (tb1 3 (by decide +kernel) rfl)⟩
theorem mi_X3_tieCount : Cond.instanceMethod yX3_tieCount ∈ BIG := (tb3 74 (by decide +kernel) rfl)
theorem mv_X3_tieCount : Cond.selects (yX3_tieCount).cls yX3_tieCount yX3_tieCount ∈ BIG := (tb3 75 (by decide +kernel) rfl)
abbrev m_X3_inCommon : MT := (yX3_inCommon, cX3_inCommon, 3, (some .int))
theorem mo_X3_inCommon : MtOk m_X3_inCommon 2 := ⟨by decide +kernel, (tb4 168 (by decide +kernel) rfl), ⟨by decide +kernel, by decide +kernel⟩, by decide +kernel, by decide, (tb1 3 (by decide +kernel) rfl)⟩
theorem mi_X3_inCommon : Cond.instanceMethod yX3_inCommon ∈ BIG := (tb4 166 (by decide +kernel) rfl)
theorem mv_X3_inCommon : Cond.selects (yX3_inCommon).cls yX3_inCommon yX3_inCommon ∈ BIG := (tb4 167 (by decide +kernel) rfl)
abbrev m_X3_around : MT := (yX3_around, cX3_around, 5, (some .int))
theorem mo_X3_around : MtOk m_X3_around 2 := ⟨by decide +kernel, (tb3 133 (by decide +kernel) rfl), ⟨by decide +kernel, by decide +kernel⟩, by decide +kernel, by decide, (tb1 3 (by decide +kernel) rfl)⟩
theorem mi_X3_around : Cond.instanceMethod yX3_around ∈ BIG := (tb3 131 (by decide +kernel) rfl)
theorem mv_X3_around : Cond.selects (yX3_around).cls yX3_around yX3_around ∈ BIG := (tb3 132 (by decide +kernel) rfl)
abbrev m_X3_reached : MT := (yX3_reached, cX3_reached, 6, (some .int))
theorem mo_X3_reached : MtOk m_X3_reached 2 := ⟨by decide +kernel, (tb3 181 (by decide +kernel) rfl), ⟨by decide +kernel, by decide +kernel⟩, by decide +kernel, by decide, (tb1 3 (by decide +kernel) rfl)⟩
theorem mi_X3_reached : Cond.instanceMethod yX3_reached ∈ BIG := (tb3 179 (by decide +kernel) rfl)
theorem mv_X3_reached : Cond.selects (yX3_reached).cls yX3_reached yX3_reached ∈ BIG := (tb3 180 (by decide +kernel) rfl)
abbrev m_X3_roundsFrom : MT := (yX3_roundsFrom, cX3_roundsFrom, 5, (some .int))
theorem mo_X3_roundsFrom : MtOk m_X3_roundsFrom 1 := ⟨by decide +kernel, (tb3 199 (by decide +kernel) rfl), ⟨by decide +kernel, by decide +kernel⟩, by decide +kernel, by decide, (tb1 3 (by decide +kernel) rfl)⟩
theorem mi_X3_roundsFrom : Cond.instanceMethod yX3_roundsFrom ∈ BIG := (tb3 197 (by decide +kernel) rfl)
theorem mv_X3_roundsFrom : Cond.selects (yX3_roundsFrom).cls yX3_roundsFrom yX3_roundsFrom ∈ BIG := (tb3 198 (by decide +kernel) rfl)
abbrev m_X3_distance : MT := (yX3_distance, cX3_distance, 7, (some .int))
theorem mo_X3_distance : MtOk m_X3_distance 3 := ⟨by decide +kernel, (tb3 129 (by decide +kernel) rfl), ⟨by decide +kernel, by decide +kernel⟩, by decide +kernel, by decide, (tb1 3 (by decide +kernel) rfl)⟩
theorem mi_X3_distance : Cond.instanceMethod yX3_distance ∈ BIG := (tb3 127 (by decide +kernel) rfl)
theorem mv_X3_distance : Cond.selects (yX3_distance).cls yX3_distance yX3_distance ∈ BIG := (tb3 128 (by decide +kernel) rfl)
abbrev m_X3_measure : MT := (yX3_measure, cX3_measure, 7, none)
theorem mo_X3_measure : MtOk m_X3_measure 2 := ⟨by decide +kernel, (tb3 165 (by decide +kernel) rfl), ⟨by decide +kernel, by decide +kernel⟩, by decide +kernel, by decide, (tb1 3 (by decide +kernel) rfl)⟩
theorem mi_X3_measure : Cond.instanceMethod yX3_measure ∈ BIG := (tb3 163 (by decide +kernel) rfl)
theorem mv_X3_measure : Cond.selects (yX3_measure).cls yX3_measure yX3_measure ∈ BIG := (tb3 164 (by decide +kernel) rfl)
abbrev m_X3_sumOver : MT := (yX3_sumOver, cX3_sumOver, 8, (some .int))
theorem mo_X3_sumOver : MtOk m_X3_sumOver 3 := ⟨by decide +kernel, (tb3 177 (by decide +kernel) rfl), ⟨by decide +kernel, by decide +kernel⟩, by decide +kernel, by decide, (tb1 3 (by decide +kernel) rfl)⟩
theorem mi_X3_sumOver : Cond.instanceMethod yX3_sumOver ∈ BIG := (tb3 175 (by decide +kernel) rfl)
theorem mv_X3_sumOver : Cond.selects (yX3_sumOver).cls yX3_sumOver yX3_sumOver ∈ BIG := (tb3 176 (by decide +kernel) rfl)
abbrev m_X3_sumOf : MT := (yX3_sumOf, cX3_sumOf, 2, (some .int))
theorem mo_X3_sumOf : MtOk m_X3_sumOf 1 := ⟨by decide +kernel, (tb3 173 (by decide +kernel) rfl), ⟨by decide +kernel, by decide +kernel⟩, by decide +kernel, by decide, (tb1 3 (by decide +kernel) rfl)⟩
theorem mi_X3_sumOf : Cond.instanceMethod yX3_sumOf ∈ BIG := (tb3 171 (by decide +kernel) rfl)
theorem mv_X3_sumOf : Cond.selects (yX3_sumOf).cls yX3_sumOf yX3_sumOf ∈ BIG := (tb3 172 (by decide +kernel) rfl)
abbrev m_X3_sums : MT := (yX3_sums, cX3_sums, 3, (some .int))
theorem mo_X3_sums : MtOk m_X3_sums 0 := ⟨by decide +kernel, (tb3 213 (by decide +kernel) rfl), ⟨by decide +kernel, by decide +kernel⟩, by decide +kernel, by decide, (tb1 3 (by decide +kernel) rfl)⟩
theorem mi_X3_sums : Cond.instanceMethod yX3_sums ∈ BIG := (tb3 211 (by decide +kernel) rfl)
theorem mv_X3_sums : Cond.selects (yX3_sums).cls yX3_sums yX3_sums ∈ BIG := (tb3 212 (by decide +kernel) rfl)
abbrev m_X3_widest : MT := (yX3_widest, cX3_widest, 3, (some .int))
theorem mo_X3_widest : MtOk m_X3_widest 0 := ⟨by decide +kernel, (tb3 195 (by decide +kernel) rfl), ⟨by decide +kernel, by decide +kernel⟩, by decide +kernel, by decide, (tb1 3 (by decide +kernel) rfl)⟩
theorem mi_X3_widest : Cond.instanceMethod yX3_widest ∈ BIG := (tb3 193 (by decide +kernel) rfl)
theorem mv_X3_widest : Cond.selects (yX3_widest).cls yX3_widest yX3_widest ∈ BIG := (tb3 194 (by decide +kernel) rfl)
abbrev m_X4_init : MT := (yX4_init, cX4_init, 3, none)
theorem mo_X4_init : MtOk m_X4_init 2 := ⟨by decide +kernel, (tb1 160 (by decide +kernel) rfl), ⟨by decide +kernel, by decide +kernel⟩, by decide +kernel, by decide, (tb1 9 (by decide +kernel) rfl)⟩
theorem mi_X4_init : Cond.instanceMethod yX4_init ∈ BIG := (tb1 159 (by decide +kernel) rfl)
abbrev m_X4_read : MT := (yX4_read, cX4_read, 4, (some .int))
theorem mo_X4_read : MtOk m_X4_read 0 := ⟨by decide +kernel, (tb2 140 (by decide +kernel) rfl), ⟨by decide +kernel, by decide +kernel⟩, by decide +kernel, by decide, (tb1 9 (by decide +kernel) rfl)⟩
theorem mi_X4_read : Cond.instanceMethod yX4_read ∈ BIG := (tb2 138 (by decide +kernel) rfl)
theorem mv_X4_read : Cond.selects (yX4_read).cls yX4_read yX4_read ∈ BIG := (tb2 139 (by decide +kernel) rfl)
abbrev m_X4_whose : MT := (yX4_whose, cX4_whose, 3, (some .int))
theorem mo_X4_whose : MtOk m_X4_whose 1 := ⟨by decide +kernel, (tb2 149 (by decide +kernel) rfl), ⟨by decide +kernel, by decide +kernel⟩, by decide +kernel, by decide, (tb1 9 (by decide +kernel) rfl)⟩
theorem mi_X4_whose : Cond.instanceMethod yX4_whose ∈ BIG := (tb2 148 (by decide +kernel) rfl)
theorem mv_X4_whose : Cond.selects (yX4_whose).cls yX4_whose yX4_whose ∈ BIG := (tb0 0 (by decide +kernel) rfl)
abbrev m_X4_joined : MT := (yX4_joined, cX4_joined, 3, (some .boolean))
theorem mo_X4_joined : MtOk m_X4_joined 2 := ⟨by decide +kernel, (tb2 161 (by decide +kernel) rfl), ⟨by decide +kernel, by decide +kernel⟩, by decide +kernel, by decide, (tb1 9 (by decide +kernel) rfl)⟩
theorem mi_X4_joined : Cond.instanceMethod yX4_joined ∈ BIG := (tb2 160 (by decide +kernel) rfl)
theorem mv_X4_joined : Cond.selects (yX4_joined).cls yX4_joined yX4_joined ∈ BIG := (tb0 1 (by decide +kernel) rfl)
abbrev m_X4_hasMost : MT := (yX4_hasMost, cX4_hasMost, 2, (some .boolean))
theorem mo_X4_hasMost : MtOk m_X4_hasMost 1 := ⟨by decide +kernel, (tb2 165 (by decide +kernel) rfl), ⟨by decide +kernel, by decide +kernel⟩, by decide +kernel, by decide, (tb1 9 (by decide +kernel) rfl)⟩
theorem mi_X4_hasMost : Cond.instanceMethod yX4_hasMost ∈ BIG := (tb2 164 (by decide +kernel) rfl)
theorem mv_X4_hasMost : Cond.selects (yX4_hasMost).cls yX4_hasMost yX4_hasMost ∈ BIG := (tb0 2 (by decide +kernel) rfl)
abbrev m_X5_init : MT := (yX5_init, cX5_init, 2, none)
theorem mo_X5_init : MtOk m_X5_init 1 := ⟨by decide +kernel, (tb1 92 (by decide +kernel) rfl), ⟨by decide +kernel, by decide +kernel⟩, by decide +kernel, by decide, (tb1 5 (by decide +kernel) rfl)⟩
theorem mi_X5_init : Cond.instanceMethod yX5_init ∈ BIG := (tb1 91 (by decide +kernel) rfl)
abbrev m_X5_waysBetween : MT := (yX5_waysBetween, cX5_waysBetween, 8, (some .long))
theorem mo_X5_waysBetween : MtOk m_X5_waysBetween 2 := ⟨by decide +kernel, (tb3 143 (by decide +kernel) rfl), ⟨by decide +kernel, by decide +kernel⟩, by decide +kernel, by decide, (tb1 5 (by decide +kernel) rfl)⟩
theorem mi_X5_waysBetween : Cond.instanceMethod yX5_waysBetween ∈ BIG := (tb3 141 (by decide +kernel) rfl)
theorem mv_X5_waysBetween : Cond.selects (yX5_waysBetween).cls yX5_waysBetween yX5_waysBetween ∈ BIG := (tb3 142 (by decide +kernel) rfl)
abbrev m_X5_waysOver : MT := (yX5_waysOver, cX5_waysOver, 5, (some .long))
theorem mo_X5_waysOver : MtOk m_X5_waysOver 1 := ⟨by decide +kernel, (tb3 148 (by decide +kernel) rfl), ⟨by decide +kernel, by decide +kernel⟩, by decide +kernel, by decide, (tb1 5 (by decide +kernel) rfl)⟩
theorem mi_X5_waysOver : Cond.instanceMethod yX5_waysOver ∈ BIG := (tb3 147 (by decide +kernel) rfl)
theorem mv_X5_waysOver : Cond.selects (yX5_waysOver).cls yX5_waysOver yX5_waysOver ∈ BIG := (tb0 11 (by decide +kernel) rfl)
abbrev m_X5_onAll : MT := (yX5_onAll, cX5_onAll, 6, (some .int))
theorem mo_X5_onAll : MtOk m_X5_onAll 2 := ⟨by decide +kernel, (tb3 156 (by decide +kernel) rfl), ⟨by decide +kernel, by decide +kernel⟩, by decide +kernel, by decide, (tb1 5 (by decide +kernel) rfl)⟩
theorem mi_X5_onAll : Cond.instanceMethod yX5_onAll ∈ BIG := (tb3 154 (by decide +kernel) rfl)
theorem mv_X5_onAll : Cond.selects (yX5_onAll).cls yX5_onAll yX5_onAll ∈ BIG := (tb3 155 (by decide +kernel) rfl)
abbrev m_X5_onSome : MT := (yX5_onSome, cX5_onSome, 6, (some .int))
theorem mo_X5_onSome : MtOk m_X5_onSome 2 := ⟨by decide +kernel, (tb3 161 (by decide +kernel) rfl), ⟨by decide +kernel, by decide +kernel⟩, by decide +kernel, by decide, (tb1 5 (by decide +kernel) rfl)⟩
theorem mi_X5_onSome : Cond.instanceMethod yX5_onSome ∈ BIG := (tb3 159 (by decide +kernel) rfl)
theorem mv_X5_onSome : Cond.selects (yX5_onSome).cls yX5_onSome yX5_onSome ∈ BIG := (tb3 160 (by decide +kernel) rfl)
abbrev m_X5_loadOf : MT := (yX5_loadOf, cX5_loadOf, 6, (some .int))
theorem mo_X5_loadOf : MtOk m_X5_loadOf 2 := ⟨by decide +kernel, (tb3 222 (by decide +kernel) rfl), ⟨by decide +kernel, by decide +kernel⟩, by decide +kernel, by decide, (tb1 5 (by decide +kernel) rfl)⟩
theorem mi_X5_loadOf : Cond.instanceMethod yX5_loadOf ∈ BIG := (tb3 220 (by decide +kernel) rfl)
theorem mv_X5_loadOf : Cond.selects (yX5_loadOf).cls yX5_loadOf yX5_loadOf ∈ BIG := (tb3 221 (by decide +kernel) rfl)
abbrev m_X5_rowsApart : MT := (yX5_rowsApart, cX5_rowsApart, 4, (some .int))
theorem mo_X5_rowsApart : MtOk m_X5_rowsApart 2 := ⟨by decide +kernel, (tb3 232 (by decide +kernel) rfl), ⟨by decide +kernel, by decide +kernel⟩, by decide +kernel, by decide, (tb1 5 (by decide +kernel) rfl)⟩
theorem mi_X5_rowsApart : Cond.instanceMethod yX5_rowsApart ∈ BIG := (tb3 230 (by decide +kernel) rfl)
theorem mv_X5_rowsApart : Cond.selects (yX5_rowsApart).cls yX5_rowsApart yX5_rowsApart ∈ BIG := (tb3 231 (by decide +kernel) rfl)
abbrev m_X5_findRow : MT := (yX5_findRow, cX5_findRow, 9, (some .boolean))
theorem mo_X5_findRow : MtOk m_X5_findRow 2 := ⟨by decide +kernel, (tb3 236 (by decide +kernel) rfl), ⟨by decide +kernel, by decide +kernel⟩, by decide +kernel, by decide, (tb1 5 (by decide +kernel) rfl)⟩
theorem mi_X5_findRow : Cond.instanceMethod yX5_findRow ∈ BIG := (tb3 235 (by decide +kernel) rfl)
theorem mv_X5_findRow : Cond.selects (yX5_findRow).cls yX5_findRow yX5_findRow ∈ BIG := (tb0 12 (by decide +kernel) rfl)
abbrev m_X5_turnRow : MT := (yX5_turnRow, cX5_turnRow, 6, none)
theorem mo_X5_turnRow : MtOk m_X5_turnRow 2 := ⟨by decide +kernel, (tb4 1 (by decide +kernel) rfl), ⟨by decide +kernel, by decide +kernel⟩, by decide +kernel, by decide, (tb1 5 (by decide +kernel) rfl)⟩
theorem mi_X5_turnRow : Cond.instanceMethod yX5_turnRow ∈ BIG := (tb4 0 (by decide +kernel) rfl)
theorem mv_X5_turnRow : Cond.selects (yX5_turnRow).cls yX5_turnRow yX5_turnRow ∈ BIG := (tb0 13 (by decide +kernel) rfl)
abbrev m_X6_init : MT := (yX6_init, cX6_init, 3, none)
theorem mo_X6_init : MtOk m_X6_init 2 := ⟨by decide +kernel, (tb2 30 (by decide +kernel) rfl), ⟨by decide +kernel, by decide +kernel⟩, by decide +kernel, by decide, (tb1 13 (by decide +kernel) rfl)⟩
theorem mi_X6_init : Cond.instanceMethod yX6_init ∈ BIG := (tb2 29 (by decide +kernel) rfl)
abbrev m_X6_carry : MT := (yX6_carry, cX6_carry, 6, (some .boolean))
theorem mo_X6_carry : MtOk m_X6_carry 3 := ⟨by decide +kernel, (tb4 149 (by decide +kernel) rfl), ⟨by decide +kernel, by decide +kernel⟩, by decide +kernel, by decide, (tb1 13 (by decide +kernel) rfl)⟩
theorem mi_X6_carry : Cond.instanceMethod yX6_carry ∈ BIG := (tb4 147 (by decide +kernel) rfl)
theorem mv_X6_carry : Cond.selects (yX6_carry).cls yX6_carry yX6_carry ∈ BIG := (tb4 148 (by decide +kernel) rfl)
abbrev m_X6_heir : MT := (yX6_heir, cX6_heir, 8, (some .int))
theorem mo_X6_heir : MtOk m_X6_heir 3 := ⟨by decide +kernel, (tb4 159 (by decide +kernel) rfl), ⟨by decide +kernel, by decide +kernel⟩, by decide +kernel, by decide, (tb1 13 (by decide +kernel) rfl)⟩
theorem mi_X6_heir : Cond.instanceMethod yX6_heir ∈ BIG := (tb4 158 (by decide +kernel) rfl)
theorem mv_X6_heir : Cond.selects (yX6_heir).cls yX6_heir yX6_heir ∈ BIG := (tb0 21 (by decide +kernel) rfl)
abbrev m_X6_tellLetters : MT := (yX6_tellLetters, cX6_tellLetters, 5, none)
theorem mo_X6_tellLetters : MtOk m_X6_tellLetters 3 := ⟨by decide +kernel, (tb4 163 (by decide +kernel) rfl), ⟨by decide +kernel, by decide +kernel⟩, by decide +kernel, by decide, (tb1 13 (by decide +kernel) rfl)⟩
theorem mi_X6_tellLetters : Cond.instanceMethod yX6_tellLetters ∈ BIG := (tb4 162 (by decide +kernel) rfl)
theorem mv_X6_tellLetters : Cond.selects (yX6_tellLetters).cls yX6_tellLetters yX6_tellLetters ∈ BIG := (tb0 22 (by decide +kernel) rfl)
abbrev m_X6_carryAll : MT := (yX6_carryAll, cX6_carryAll, 6, (some .int))
theorem mo_X6_carryAll : MtOk m_X6_carryAll 2 := ⟨by decide +kernel, (tb4 197 (by decide +kernel) rfl), ⟨by decide +kernel, by decide +kernel⟩, by decide +kernel, by decide, (tb1 13 (by decide +kernel) rfl)⟩
theorem mi_X6_carryAll : Cond.instanceMethod yX6_carryAll ∈ BIG := (tb4 195 (by decide +kernel) rfl)
theorem mv_X6_carryAll : Cond.selects (yX6_carryAll).cls yX6_carryAll yX6_carryAll ∈ BIG := (tb4 196 (by decide +kernel) rfl)
abbrev m_X7_init : MT := (yX7_init, cX7_init, 2, none)
theorem mo_X7_init : MtOk m_X7_init 1 := ⟨by decide +kernel, (tb1 177 (by decide +kernel) rfl), ⟨by decide +kernel, by decide +kernel⟩, by decide +kernel, by decide, (tb1 10 (by decide +kernel) rfl)⟩
theorem mi_X7_init : Cond.instanceMethod yX7_init ∈ BIG := (tb1 176 (by decide +kernel) rfl)
abbrev m_X7_read : MT := (yX7_read, cX7_read, 4, (some .int))
theorem mo_X7_read : MtOk m_X7_read 0 := ⟨by decide +kernel, (tb2 175 (by decide +kernel) rfl), ⟨by decide +kernel, by decide +kernel⟩, by decide +kernel, by decide, (tb1 10 (by decide +kernel) rfl)⟩
theorem mi_X7_read : Cond.instanceMethod yX7_read ∈ BIG := (tb2 173 (by decide +kernel) rfl)
theorem mv_X7_read : Cond.selects (yX7_read).cls yX7_read yX7_read ∈ BIG := (tb2 174 (by decide +kernel) rfl)
abbrev m_X7_next : MT := (yX7_next, cX7_next, 1, (some .int))
theorem mo_X7_next : MtOk m_X7_next 0 := ⟨by decide +kernel, (tb2 183 (by decide +kernel) rfl), ⟨by decide +kernel, by decide +kernel⟩, by decide +kernel, by decide, (tb1 10 (by decide +kernel) rfl)⟩
theorem mi_X7_next : Cond.instanceMethod yX7_next ∈ BIG := (tb2 182 (by decide +kernel) rfl)
theorem mv_X7_next : Cond.selects (yX7_next).cls yX7_next yX7_next ∈ BIG := (tb0 4 (by decide +kernel) rfl)
abbrev m_X7_expect : MT := (yX7_expect, cX7_expect, 2, none)
theorem mo_X7_expect : MtOk m_X7_expect 1 := ⟨by decide +kernel, (tb2 179 (by decide +kernel) rfl), ⟨by decide +kernel, by decide +kernel⟩, by decide +kernel, by decide, (tb1 10 (by decide +kernel) rfl)⟩
theorem mi_X7_expect : Cond.instanceMethod yX7_expect ∈ BIG := (tb2 178 (by decide +kernel) rfl)
theorem mv_X7_expect : Cond.selects (yX7_expect).cls yX7_expect yX7_expect ∈ BIG := (tb0 3 (by decide +kernel) rfl)
abbrev m_X7_write : MT := (yX7_write, cX7_write, 3, none)
theorem mo_X7_write : MtOk m_X7_write 2 := ⟨by decide +kernel, (tb2 204 (by decide +kernel) rfl), ⟨by decide +kernel, by decide +kernel⟩, by decide +kernel, by decide, (tb1 10 (by decide +kernel) rfl)⟩
theorem mi_X7_write : Cond.instanceMethod yX7_write ∈ BIG := (tb2 203 (by decide +kernel) rfl)
theorem mv_X7_write : Cond.selects (yX7_write).cls yX7_write yX7_write ∈ BIG := (tb0 8 (by decide +kernel) rfl)
abbrev m_X7_condition : MT := (yX7_condition, cX7_condition, 7, none)
theorem mo_X7_condition : MtOk m_X7_condition 2 := ⟨by decide +kernel, (tb3 60 (by decide +kernel) rfl), ⟨by decide +kernel, by decide +kernel⟩, by decide +kernel, by decide, (tb1 10 (by decide +kernel) rfl)⟩
theorem mi_X7_condition : Cond.instanceMethod yX7_condition ∈ BIG := (tb3 59 (by decide +kernel) rfl)
theorem mv_X7_condition : Cond.selects (yX7_condition).cls yX7_condition yX7_condition ∈ BIG := (tb0 9 (by decide +kernel) rfl)
abbrev m_X7_unit : MT := (yX7_unit, cX7_unit, 5, none)
theorem mo_X7_unit : MtOk m_X7_unit 2 := ⟨by decide +kernel, (tb3 64 (by decide +kernel) rfl), ⟨by decide +kernel, by decide +kernel⟩, by decide +kernel, by decide, (tb1 10 (by decide +kernel) rfl)⟩
theorem mi_X7_unit : Cond.instanceMethod yX7_unit ∈ BIG := (tb3 63 (by decide +kernel) rfl)
theorem mv_X7_unit : Cond.selects (yX7_unit).cls yX7_unit yX7_unit ∈ BIG := (tb0 10 (by decide +kernel) rfl)
abbrev m_X7_sum : MT := (yX7_sum, cX7_sum, 6, none)
theorem mo_X7_sum : MtOk m_X7_sum 1 := ⟨by decide +kernel, (tb2 189 (by decide +kernel) rfl), ⟨by decide +kernel, by decide +kernel⟩, by decide +kernel, by decide, (tb1 10 (by decide +kernel) rfl)⟩
theorem mi_X7_sum : Cond.instanceMethod yX7_sum ∈ BIG := (tb2 188 (by decide +kernel) rfl)
theorem mv_X7_sum : Cond.selects (yX7_sum).cls yX7_sum yX7_sum ∈ BIG := (tb0 5 (by decide +kernel) rfl)
abbrev m_X7_atom : MT := (yX7_atom, cX7_atom, 3, none)
theorem mo_X7_atom : MtOk m_X7_atom 1 := ⟨by decide +kernel, (tb2 193 (by decide +kernel) rfl), ⟨by decide +kernel, by decide +kernel⟩, by decide +kernel, by decide, (tb1 10 (by decide +kernel) rfl)⟩
theorem mi_X7_atom : Cond.instanceMethod yX7_atom ∈ BIG := (tb2 192 (by decide +kernel) rfl)
theorem mv_X7_atom : Cond.selects (yX7_atom).cls yX7_atom yX7_atom ∈ BIG := (tb0 6 (by decide +kernel) rfl)
abbrev m_X7_number : MT := (yX7_number, cX7_number, 3, none)
theorem mo_X7_number : MtOk m_X7_number 0 := ⟨by decide +kernel, (tb2 200 (by decide +kernel) rfl), ⟨by decide +kernel, by decide +kernel⟩, by decide +kernel, by decide, (tb1 10 (by decide +kernel) rfl)⟩
theorem mi_X7_number : Cond.instanceMethod yX7_number ∈ BIG := (tb2 199 (by decide +kernel) rfl)
theorem mv_X7_number : Cond.selects (yX7_number).cls yX7_number yX7_number ∈ BIG := (tb0 7 (by decide +kernel) rfl)
abbrev m_X7_isDigit : MT := (yX7_isDigit, cX7_isDigit, 1, (some .boolean))
theorem mo_X7_isDigit : MtOk m_X7_isDigit 1 := ⟨by decide +kernel, (tb2 196 (by decide +kernel) rfl), ⟨by decide +kernel, by decide +kernel⟩, by decide +kernel, by decide, (tb1 10 (by decide +kernel) rfl)⟩
theorem mz_X7_isDigit : Cond.static yX7_isDigit ∈ BIG := (tb2 195 (by decide +kernel) rfl)
abbrev m_X7_comparing : MT := (yX7_comparing, cX7_comparing, 1, (some .int))
theorem mo_X7_comparing : MtOk m_X7_comparing 1 := ⟨by decide +kernel, (tb3 56 (by decide +kernel) rfl), ⟨by decide +kernel, by decide +kernel⟩, by decide +kernel, by decide, (tb1 10 (by decide +kernel) rfl)⟩
theorem mz_X7_comparing : Cond.static yX7_comparing ∈ BIG := (tb3 55 (by decide +kernel) rfl)
abbrev m_X7_adding : MT := (yX7_adding, cX7_adding, 1, (some .int))
theorem mo_X7_adding : MtOk m_X7_adding 1 := ⟨by decide +kernel, (tb3 53 (by decide +kernel) rfl), ⟨by decide +kernel, by decide +kernel⟩, by decide +kernel, by decide, (tb1 10 (by decide +kernel) rfl)⟩
theorem mz_X7_adding : Cond.static yX7_adding ∈ BIG := (tb3 52 (by decide +kernel) rfl)
abbrev m_X7_multiplying : MT := (yX7_multiplying, cX7_multiplying, 1, (some .int))
theorem mo_X7_multiplying : MtOk m_X7_multiplying 1 := ⟨by decide +kernel, (tb3 50 (by decide +kernel) rfl), ⟨by decide +kernel, by decide +kernel⟩, by decide +kernel, by decide, (tb1 10 (by decide +kernel) rfl)⟩
theorem mz_X7_multiplying : Cond.static yX7_multiplying ∈ BIG := (tb3 49 (by decide +kernel) rfl)
abbrev m_X8_init : MT := (yX8_init, cX8_init, 1, none)
theorem mo_X8_init : MtOk m_X8_init 0 := ⟨by decide +kernel, (tb1 201 (by decide +kernel) rfl), ⟨by decide +kernel, by decide +kernel⟩, by decide +kernel, by decide, (tb1 11 (by decide +kernel) rfl)⟩
theorem mi_X8_init : Cond.instanceMethod yX8_init ∈ BIG := (tb1 200 (by decide +kernel) rfl)
abbrev m_X8_has : MT := (yX8_has, cX8_has, 2, (some .boolean))
theorem mo_X8_has : MtOk m_X8_has 1 := ⟨by decide +kernel, (tb4 145 (by decide +kernel) rfl), ⟨by decide +kernel, by decide +kernel⟩, by decide +kernel, by decide, (tb1 11 (by decide +kernel) rfl)⟩
theorem mi_X8_has : Cond.instanceMethod yX8_has ∈ BIG := (tb4 143 (by decide +kernel) rfl)
theorem mv_X8_has : Cond.selects (yX8_has).cls yX8_has yX8_has ∈ BIG := (tb4 144 (by decide +kernel) rfl)
abbrev m_X8_add : MT := (yX8_add, cX8_add, 3, (some .int))
theorem mo_X8_add : MtOk m_X8_add 2 := ⟨by decide +kernel, (tb3 85 (by decide +kernel) rfl), ⟨by decide +kernel, by decide +kernel⟩, by decide +kernel, by decide, (tb1 11 (by decide +kernel) rfl)⟩
theorem mi_X8_add : Cond.instanceMethod yX8_add ∈ BIG := (tb3 83 (by decide +kernel) rfl)
theorem mv_X8_add : Cond.selects (yX8_add).cls yX8_add yX8_add ∈ BIG := (tb3 84 (by decide +kernel) rfl)
abbrev m_X8_forgetLetters : MT := (yX8_forgetLetters, cX8_forgetLetters, 1, none)
theorem mo_X8_forgetLetters : MtOk m_X8_forgetLetters 0 := ⟨by decide +kernel, (tb4 153 (by decide +kernel) rfl), ⟨by decide +kernel, by decide +kernel⟩, by decide +kernel, by decide, (tb1 11 (by decide +kernel) rfl)⟩
theorem mi_X8_forgetLetters : Cond.instanceMethod yX8_forgetLetters ∈ BIG := (tb4 151 (by decide +kernel) rfl)
theorem mv_X8_forgetLetters : Cond.selects (yX8_forgetLetters).cls yX8_forgetLetters yX8_forgetLetters ∈ BIG := (tb4 152 (by decide +kernel) rfl)
abbrev m_X8_worth : MT := (yX8_worth, cX8_worth, 7, (some .int))
theorem mo_X8_worth : MtOk m_X8_worth 1 := ⟨by decide +kernel, (tb4 175 (by decide +kernel) rfl), ⟨by decide +kernel, by decide +kernel⟩, by decide +kernel, by decide, (tb1 11 (by decide +kernel) rfl)⟩
theorem mi_X8_worth : Cond.instanceMethod yX8_worth ∈ BIG := (tb4 173 (by decide +kernel) rfl)
theorem mv_X8_worth : Cond.selects (yX8_worth).cls yX8_worth yX8_worth ∈ BIG := (tb4 174 (by decide +kernel) rfl)
abbrev m_X8_told : MT := (yX8_told, cX8_told, 3, (some .int))
theorem mo_X8_told : MtOk m_X8_told 2 := ⟨by decide +kernel, (tb4 179 (by decide +kernel) rfl), ⟨by decide +kernel, by decide +kernel⟩, by decide +kernel, by decide, (tb1 11 (by decide +kernel) rfl)⟩
theorem mi_X8_told : Cond.instanceMethod yX8_told ∈ BIG := (tb4 178 (by decide +kernel) rfl)
theorem mv_X8_told : Cond.selects (yX8_told).cls yX8_told yX8_told ∈ BIG := (tb0 23 (by decide +kernel) rfl)
abbrev m_X8_joined : MT := (yX8_joined, cX8_joined, 3, (some .int))
theorem mo_X8_joined : MtOk m_X8_joined 3 := ⟨by decide +kernel, (tb4 182 (by decide +kernel) rfl), ⟨by decide +kernel, by decide +kernel⟩, by decide +kernel, by decide, (tb1 11 (by decide +kernel) rfl)⟩
theorem mz_X8_joined : Cond.static yX8_joined ∈ BIG := (tb4 181 (by decide +kernel) rfl)
abbrev m_X8_bounded : MT := (yX8_bounded, cX8_bounded, 2, (some .int))
theorem mo_X8_bounded : MtOk m_X8_bounded 1 := ⟨by decide +kernel, (tb4 185 (by decide +kernel) rfl), ⟨by decide +kernel, by decide +kernel⟩, by decide +kernel, by decide, (tb1 11 (by decide +kernel) rfl)⟩
theorem mz_X8_bounded : Cond.static yX8_bounded ∈ BIG := (tb4 184 (by decide +kernel) rfl)
abbrev m_X9_init : MT := (yX9_init, cX9_init, 2, none)
theorem mo_X9_init : MtOk m_X9_init 1 := ⟨by decide +kernel, (tb1 131 (by decide +kernel) rfl), ⟨by decide +kernel, by decide +kernel⟩, by decide +kernel, by decide, (tb1 7 (by decide +kernel) rfl)⟩
theorem mi_X9_init : Cond.instanceMethod yX9_init ∈ BIG := (tb1 130 (by decide +kernel) rfl)
abbrev m_X9_circle : MT := (yX9_circle, cX9_circle, 1, (some .int))
theorem mo_X9_circle : MtOk m_X9_circle 0 := ⟨by decide +kernel, (tb5 43 (by decide +kernel) rfl), ⟨by decide +kernel, by decide +kernel⟩, by decide +kernel, by decide, (tb1 7 (by decide +kernel) rfl)⟩
theorem mi_X9_circle : Cond.instanceMethod yX9_circle ∈ BIG := (tb5 41 (by decide +kernel) rfl)
theorem mv_X9_circle : Cond.selects (yX9_circle).cls yX9_circle yX9_circle ∈ BIG := (tb5 42 (by decide +kernel) rfl)
abbrev m_X9_apartness : MT := (yX9_apartness, cX9_apartness, 2, (some .int))
theorem mo_X9_apartness : MtOk m_X9_apartness 0 := ⟨by decide +kernel, (tb5 51 (by decide +kernel) rfl), ⟨by decide +kernel, by decide +kernel⟩, by decide +kernel, by decide, (tb1 7 (by decide +kernel) rfl)⟩
theorem mi_X9_apartness : Cond.instanceMethod yX9_apartness ∈ BIG := (tb5 49 (by decide +kernel) rfl)
theorem mv_X9_apartness : Cond.selects (yX9_apartness).cls yX9_apartness yX9_apartness ∈ BIG := (tb5 50 (by decide +kernel) rfl)
abbrev m_X9_grow : MT := (yX9_grow, cX9_grow, 8, (some .int))
theorem mo_X9_grow : MtOk m_X9_grow 5 := ⟨by decide +kernel, (tb5 46 (by decide +kernel) rfl), ⟨by decide +kernel, by decide +kernel⟩, by decide +kernel, by decide, (tb1 7 (by decide +kernel) rfl)⟩
theorem mz_X9_grow : Cond.static yX9_grow ∈ BIG := (tb5 45 (by decide +kernel) rfl)
abbrev m_X9_hosts : MT := (yX9_hosts, cX9_hosts, 4, (some .int))
theorem mo_X9_hosts : MtOk m_X9_hosts 0 := ⟨by decide +kernel, (tb5 55 (by decide +kernel) rfl), ⟨by decide +kernel, by decide +kernel⟩, by decide +kernel, by decide, (tb1 7 (by decide +kernel) rfl)⟩
theorem mi_X9_hosts : Cond.instanceMethod yX9_hosts ∈ BIG := (tb5 53 (by decide +kernel) rfl)
theorem mv_X9_hosts : Cond.selects (yX9_hosts).cls yX9_hosts yX9_hosts ∈ BIG := (tb5 54 (by decide +kernel) rfl)
abbrev m_X9_cover : MT := (yX9_cover, cX9_cover, 7, (some .int))
theorem mo_X9_cover : MtOk m_X9_cover 6 := ⟨by decide +kernel, (tb5 59 (by decide +kernel) rfl), ⟨by decide +kernel, by decide +kernel⟩, by decide +kernel, by decide, (tb1 7 (by decide +kernel) rfl)⟩
theorem mz_X9_cover : Cond.static yX9_cover ∈ BIG := (tb5 58 (by decide +kernel) rfl)
abbrev m_X9_servedBehind : MT := (yX9_servedBehind, cX9_servedBehind, 5, (some .boolean))
theorem mo_X9_servedBehind : MtOk m_X9_servedBehind 3 := ⟨by decide +kernel, (tb5 62 (by decide +kernel) rfl), ⟨by decide +kernel, by decide +kernel⟩, by decide +kernel, by decide, (tb1 7 (by decide +kernel) rfl)⟩
theorem mz_X9_servedBehind : Cond.static yX9_servedBehind ∈ BIG := (tb5 61 (by decide +kernel) rfl)
abbrev m_X9_beginners : MT := (yX9_beginners, cX9_beginners, 9, (some .int))
theorem mo_X9_beginners : MtOk m_X9_beginners 1 := ⟨by decide +kernel, (tb5 84 (by decide +kernel) rfl), ⟨by decide +kernel, by decide +kernel⟩, by decide +kernel, by decide, (tb1 7 (by decide +kernel) rfl)⟩
theorem mi_X9_beginners : Cond.instanceMethod yX9_beginners ∈ BIG := (tb5 82 (by decide +kernel) rfl)
theorem mv_X9_beginners : Cond.selects (yX9_beginners).cls yX9_beginners yX9_beginners ∈ BIG := (tb5 83 (by decide +kernel) rfl)
abbrev m_X9_likeliest : MT := (yX9_likeliest, cX9_likeliest, 5, (some .int))
theorem mo_X9_likeliest : MtOk m_X9_likeliest 0 := ⟨by decide +kernel, (tb5 101 (by decide +kernel) rfl), ⟨by decide +kernel, by decide +kernel⟩, by decide +kernel, by decide, (tb1 7 (by decide +kernel) rfl)⟩
theorem mi_X9_likeliest : Cond.instanceMethod yX9_likeliest ∈ BIG := (tb5 99 (by decide +kernel) rfl)
theorem mv_X9_likeliest : Cond.selects (yX9_likeliest).cls yX9_likeliest yX9_likeliest ∈ BIG := (tb5 100 (by decide +kernel) rfl)
abbrev m_X9_countThrees : MT := (yX9_countThrees, cX9_countThrees, 5, (some .int))
theorem mo_X9_countThrees : MtOk m_X9_countThrees 1 := ⟨by decide +kernel, (tb5 111 (by decide +kernel) rfl), ⟨by decide +kernel, by decide +kernel⟩, by decide +kernel, by decide, (tb1 7 (by decide +kernel) rfl)⟩
theorem mi_X9_countThrees : Cond.instanceMethod yX9_countThrees ∈ BIG := (tb5 109 (by decide +kernel) rfl)
theorem mv_X9_countThrees : Cond.selects (yX9_countThrees).cls yX9_countThrees yX9_countThrees ∈ BIG := (tb5 110 (by decide +kernel) rfl)
abbrev m_X9_threesWith : MT := (yX9_threesWith, cX9_threesWith, 7, (some .int))
theorem mo_X9_threesWith : MtOk m_X9_threesWith 1 := ⟨by decide +kernel, (tb5 115 (by decide +kernel) rfl), ⟨by decide +kernel, by decide +kernel⟩, by decide +kernel, by decide, (tb1 7 (by decide +kernel) rfl)⟩
theorem mi_X9_threesWith : Cond.instanceMethod yX9_threesWith ∈ BIG := (tb5 114 (by decide +kernel) rfl)
theorem mv_X9_threesWith : Cond.selects (yX9_threesWith).cls yX9_threesWith yX9_threesWith ∈ BIG := (tb0 33 (by decide +kernel) rfl)
abbrev m_X10_init : MT := (yX10_init, cX10_init, 1, none)
theorem mo_X10_init : MtOk m_X10_init 0 := ⟨by decide +kernel, (tb1 144 (by decide +kernel) rfl), ⟨by decide +kernel, by decide +kernel⟩, by decide +kernel, by decide, (tb1 8 (by decide +kernel) rfl)⟩
theorem mi_X10_init : Cond.instanceMethod yX10_init ∈ BIG := (tb1 143 (by decide +kernel) rfl)
abbrev m_X10_filled : MT := (yX10_filled, cX10_filled, 3, (some .int))
theorem mo_X10_filled : MtOk m_X10_filled 1 := ⟨by decide +kernel, (tb2 124 (by decide +kernel) rfl), ⟨by decide +kernel, by decide +kernel⟩, by decide +kernel, by decide, (tb1 8 (by decide +kernel) rfl)⟩
theorem mz_X10_filled : Cond.static yX10_filled ∈ BIG := (tb2 123 (by decide +kernel) rfl)
abbrev m_X10_add : MT := (yX10_add, cX10_add, 4, none)
theorem mo_X10_add : MtOk m_X10_add 1 := ⟨by decide +kernel, (tb2 128 (by decide +kernel) rfl), ⟨by decide +kernel, by decide +kernel⟩, by decide +kernel, by decide, (tb1 8 (by decide +kernel) rfl)⟩
theorem mi_X10_add : Cond.instanceMethod yX10_add ∈ BIG := (tb2 126 (by decide +kernel) rfl)
theorem mv_X10_add : Cond.selects (yX10_add).cls yX10_add yX10_add ∈ BIG := (tb2 127 (by decide +kernel) rfl)
abbrev m_X10_sign : MT := (yX10_sign, cX10_sign, 2, (some .int))
theorem mo_X10_sign : MtOk m_X10_sign 1 := ⟨by decide +kernel, (tb2 153 (by decide +kernel) rfl), ⟨by decide +kernel, by decide +kernel⟩, by decide +kernel, by decide, (tb1 8 (by decide +kernel) rfl)⟩
theorem mi_X10_sign : Cond.instanceMethod yX10_sign ∈ BIG := (tb2 151 (by decide +kernel) rfl)
theorem mv_X10_sign : Cond.selects (yX10_sign).cls yX10_sign yX10_sign ∈ BIG := (tb2 152 (by decide +kernel) rfl)
abbrev m_X10_pastBlanks : MT := (yX10_pastBlanks, cX10_pastBlanks, 3, (some .int))
theorem mo_X10_pastBlanks : MtOk m_X10_pastBlanks 1 := ⟨by decide +kernel, (tb2 145 (by decide +kernel) rfl), ⟨by decide +kernel, by decide +kernel⟩, by decide +kernel, by decide, (tb1 8 (by decide +kernel) rfl)⟩
theorem mi_X10_pastBlanks : Cond.instanceMethod yX10_pastBlanks ∈ BIG := (tb2 143 (by decide +kernel) rfl)
theorem mv_X10_pastBlanks : Cond.selects (yX10_pastBlanks).cls yX10_pastBlanks yX10_pastBlanks ∈ BIG := (tb2 144 (by decide +kernel) rfl)
abbrev m_X11_init : MT := (yX11_init, cX11_init, 2, none)
theorem mo_X11_init : MtOk m_X11_init 1 := ⟨by decide +kernel, (tb1 31 (by decide +kernel) rfl), ⟨by decide +kernel, by decide +kernel⟩, by decide +kernel, by decide, (tb1 1 (by decide +kernel) rfl)⟩
theorem mi_X11_init : Cond.instanceMethod yX11_init ∈ BIG := (tb1 30 (by decide +kernel) rfl)
abbrev m_X11_feed : MT := (yX11_feed, cX11_feed, 7, (some .int))
theorem mo_X11_feed : MtOk m_X11_feed 5 := ⟨by decide +kernel, (tb2 121 (by decide +kernel) rfl), ⟨by decide +kernel, by decide +kernel⟩, by decide +kernel, by decide, (tb1 1 (by decide +kernel) rfl)⟩
theorem mi_X11_feed : Cond.instanceMethod yX11_feed ∈ BIG := (tb2 119 (by decide +kernel) rfl)
theorem mv_X11_feed : Cond.selects (yX11_feed).cls yX11_feed yX11_feed ∈ BIG := (tb2 120 (by decide +kernel) rfl)
abbrev m_X11_end : MT := (yX11_end, cX11_end, 2, (some .boolean))
theorem mo_X11_end : MtOk m_X11_end 1 := ⟨by decide +kernel, (tb2 132 (by decide +kernel) rfl), ⟨by decide +kernel, by decide +kernel⟩, by decide +kernel, by decide, (tb1 1 (by decide +kernel) rfl)⟩
theorem mi_X11_end : Cond.instanceMethod yX11_end ∈ BIG := (tb2 130 (by decide +kernel) rfl)
theorem mv_X11_end : Cond.selects (yX11_end).cls yX11_end yX11_end ∈ BIG := (tb2 131 (by decide +kernel) rfl)
abbrev m_X11_fault : MT := (yX11_fault, cX11_fault, 2, (some .int))
theorem mo_X11_fault : MtOk m_X11_fault 1 := ⟨by decide +kernel, (tb2 136 (by decide +kernel) rfl), ⟨by decide +kernel, by decide +kernel⟩, by decide +kernel, by decide, (tb1 1 (by decide +kernel) rfl)⟩
theorem mi_X11_fault : Cond.instanceMethod yX11_fault ∈ BIG := (tb2 134 (by decide +kernel) rfl)
theorem mv_X11_fault : Cond.selects (yX11_fault).cls yX11_fault yX11_fault ∈ BIG := (tb2 135 (by decide +kernel) rfl)
abbrev m_X11_text : MT := (yX11_text, cX11_text, 2, (some .int))
theorem mo_X11_text : MtOk m_X11_text 1 := ⟨by decide +kernel, (tb3 69 (by decide +kernel) rfl), ⟨by decide +kernel, by decide +kernel⟩, by decide +kernel, by decide, (tb1 1 (by decide +kernel) rfl)⟩
theorem mi_X11_text : Cond.instanceMethod yX11_text ∈ BIG := (tb3 67 (by decide +kernel) rfl)
theorem mv_X11_text : Cond.selects (yX11_text).cls yX11_text yX11_text ∈ BIG := (tb3 68 (by decide +kernel) rfl)
abbrev m_X11_most : MT := (yX11_most, cX11_most, 3, (some .boolean))
theorem mo_X11_most : MtOk m_X11_most 2 := ⟨by decide +kernel, (tb3 90 (by decide +kernel) rfl), ⟨by decide +kernel, by decide +kernel⟩, by decide +kernel, by decide, (tb1 1 (by decide +kernel) rfl)⟩
theorem mi_X11_most : Cond.instanceMethod yX11_most ∈ BIG := (tb3 88 (by decide +kernel) rfl)
theorem mv_X11_most : Cond.selects (yX11_most).cls yX11_most yX11_most ∈ BIG := (tb3 89 (by decide +kernel) rfl)
abbrev m_X11_tie : MT := (yX11_tie, cX11_tie, 3, (some .boolean))
theorem mo_X11_tie : MtOk m_X11_tie 2 := ⟨by decide +kernel, (tb3 96 (by decide +kernel) rfl), ⟨by decide +kernel, by decide +kernel⟩, by decide +kernel, by decide, (tb1 1 (by decide +kernel) rfl)⟩
theorem mi_X11_tie : Cond.instanceMethod yX11_tie ∈ BIG := (tb3 94 (by decide +kernel) rfl)
theorem mv_X11_tie : Cond.selects (yX11_tie).cls yX11_tie yX11_tie ∈ BIG := (tb3 95 (by decide +kernel) rfl)
abbrev m_X11_drop : MT := (yX11_drop, cX11_drop, 3, (some .boolean))
theorem mo_X11_drop : MtOk m_X11_drop 2 := ⟨by decide +kernel, (tb3 117 (by decide +kernel) rfl), ⟨by decide +kernel, by decide +kernel⟩, by decide +kernel, by decide, (tb1 1 (by decide +kernel) rfl)⟩
theorem mi_X11_drop : Cond.instanceMethod yX11_drop ∈ BIG := (tb3 115 (by decide +kernel) rfl)
theorem mv_X11_drop : Cond.selects (yX11_drop).cls yX11_drop yX11_drop ∈ BIG := (tb3 116 (by decide +kernel) rfl)
abbrev m_X11_knows : MT := (yX11_knows, cX11_knows, 2, (some .int))
theorem mo_X11_knows : MtOk m_X11_knows 1 := ⟨by decide +kernel, (tb5 178 (by decide +kernel) rfl), ⟨by decide +kernel, by decide +kernel⟩, by decide +kernel, by decide, (tb1 1 (by decide +kernel) rfl)⟩
theorem mi_X11_knows : Cond.instanceMethod yX11_knows ∈ BIG := (tb5 176 (by decide +kernel) rfl)
theorem mv_X11_knows : Cond.selects (yX11_knows).cls yX11_knows yX11_knows ∈ BIG := (tb5 177 (by decide +kernel) rfl)
abbrev m_X11_far : MT := (yX11_far, cX11_far, 3, (some .int))
theorem mo_X11_far : MtOk m_X11_far 2 := ⟨by decide +kernel, (tb3 125 (by decide +kernel) rfl), ⟨by decide +kernel, by decide +kernel⟩, by decide +kernel, by decide, (tb1 1 (by decide +kernel) rfl)⟩
theorem mi_X11_far : Cond.instanceMethod yX11_far ∈ BIG := (tb3 123 (by decide +kernel) rfl)
theorem mv_X11_far : Cond.selects (yX11_far).cls yX11_far yX11_far ∈ BIG := (tb3 124 (by decide +kernel) rfl)
abbrev m_X11_ways : MT := (yX11_ways, cX11_ways, 3, (some .long))
theorem mo_X11_ways : MtOk m_X11_ways 2 := ⟨by decide +kernel, (tb3 137 (by decide +kernel) rfl), ⟨by decide +kernel, by decide +kernel⟩, by decide +kernel, by decide, (tb1 1 (by decide +kernel) rfl)⟩
theorem mi_X11_ways : Cond.instanceMethod yX11_ways ∈ BIG := (tb3 135 (by decide +kernel) rfl)
theorem mv_X11_ways : Cond.selects (yX11_ways).cls yX11_ways yX11_ways ∈ BIG := (tb3 136 (by decide +kernel) rfl)
abbrev m_X11_over : MT := (yX11_over, cX11_over, 4, (some .int))
theorem mo_X11_over : MtOk m_X11_over 3 := ⟨by decide +kernel, (tb3 152 (by decide +kernel) rfl), ⟨by decide +kernel, by decide +kernel⟩, by decide +kernel, by decide, (tb1 1 (by decide +kernel) rfl)⟩
theorem mi_X11_over : Cond.instanceMethod yX11_over ∈ BIG := (tb3 150 (by decide +kernel) rfl)
theorem mv_X11_over : Cond.selects (yX11_over).cls yX11_over yX11_over ∈ BIG := (tb3 151 (by decide +kernel) rfl)
abbrev m_X11_of : MT := (yX11_of, cX11_of, 3, (some .int))
theorem mo_X11_of : MtOk m_X11_of 2 := ⟨by decide +kernel, (tb3 169 (by decide +kernel) rfl), ⟨by decide +kernel, by decide +kernel⟩, by decide +kernel, by decide, (tb1 1 (by decide +kernel) rfl)⟩
theorem mi_X11_of : Cond.instanceMethod yX11_of ∈ BIG := (tb3 167 (by decide +kernel) rfl)
theorem mv_X11_of : Cond.selects (yX11_of).cls yX11_of yX11_of ∈ BIG := (tb3 168 (by decide +kernel) rfl)
abbrev m_X11_all : MT := (yX11_all, cX11_all, 2, (some .int))
theorem mo_X11_all : MtOk m_X11_all 1 := ⟨by decide +kernel, (tb3 191 (by decide +kernel) rfl), ⟨by decide +kernel, by decide +kernel⟩, by decide +kernel, by decide, (tb1 1 (by decide +kernel) rfl)⟩
theorem mi_X11_all : Cond.instanceMethod yX11_all ∈ BIG := (tb3 189 (by decide +kernel) rfl)
theorem mv_X11_all : Cond.selects (yX11_all).cls yX11_all yX11_all ∈ BIG := (tb3 190 (by decide +kernel) rfl)
abbrev m_X11_load : MT := (yX11_load, cX11_load, 3, (some .int))
theorem mo_X11_load : MtOk m_X11_load 2 := ⟨by decide +kernel, (tb3 218 (by decide +kernel) rfl), ⟨by decide +kernel, by decide +kernel⟩, by decide +kernel, by decide, (tb1 1 (by decide +kernel) rfl)⟩
theorem mi_X11_load : Cond.instanceMethod yX11_load ∈ BIG := (tb3 216 (by decide +kernel) rfl)
theorem mv_X11_load : Cond.selects (yX11_load).cls yX11_load yX11_load ∈ BIG := (tb3 217 (by decide +kernel) rfl)
abbrev m_X11_apart : MT := (yX11_apart, cX11_apart, 3, (some .int))
theorem mo_X11_apart : MtOk m_X11_apart 2 := ⟨by decide +kernel, (tb3 228 (by decide +kernel) rfl), ⟨by decide +kernel, by decide +kernel⟩, by decide +kernel, by decide, (tb1 1 (by decide +kernel) rfl)⟩
theorem mi_X11_apart : Cond.instanceMethod yX11_apart ∈ BIG := (tb3 226 (by decide +kernel) rfl)
theorem mv_X11_apart : Cond.selects (yX11_apart).cls yX11_apart yX11_apart ∈ BIG := (tb3 227 (by decide +kernel) rfl)
abbrev m_X11_bears : MT := (yX11_bears, cX11_bears, 2, (some .int))
theorem mo_X11_bears : MtOk m_X11_bears 1 := ⟨by decide +kernel, (tb4 5 (by decide +kernel) rfl), ⟨by decide +kernel, by decide +kernel⟩, by decide +kernel, by decide, (tb1 1 (by decide +kernel) rfl)⟩
theorem mi_X11_bears : Cond.instanceMethod yX11_bears ∈ BIG := (tb4 3 (by decide +kernel) rfl)
theorem mv_X11_bears : Cond.selects (yX11_bears).cls yX11_bears yX11_bears ∈ BIG := (tb4 4 (by decide +kernel) rfl)
abbrev m_X11_broken : MT := (yX11_broken, cX11_broken, 2, (some .int))
theorem mo_X11_broken : MtOk m_X11_broken 1 := ⟨by decide +kernel, (tb4 23 (by decide +kernel) rfl), ⟨by decide +kernel, by decide +kernel⟩, by decide +kernel, by decide, (tb1 1 (by decide +kernel) rfl)⟩
theorem mi_X11_broken : Cond.instanceMethod yX11_broken ∈ BIG := (tb4 21 (by decide +kernel) rfl)
theorem mv_X11_broken : Cond.selects (yX11_broken).cls yX11_broken yX11_broken ∈ BIG := (tb4 22 (by decide +kernel) rfl)
abbrev m_X11_mend : MT := (yX11_mend, cX11_mend, 1, (some .int))
theorem mo_X11_mend : MtOk m_X11_mend 0 := ⟨by decide +kernel, (tb4 27 (by decide +kernel) rfl), ⟨by decide +kernel, by decide +kernel⟩, by decide +kernel, by decide, (tb1 1 (by decide +kernel) rfl)⟩
theorem mi_X11_mend : Cond.instanceMethod yX11_mend ∈ BIG := (tb4 25 (by decide +kernel) rfl)
theorem mv_X11_mend : Cond.selects (yX11_mend).cls yX11_mend yX11_mend ∈ BIG := (tb4 26 (by decide +kernel) rfl)
abbrev m_X11_need : MT := (yX11_need, cX11_need, 4, (some .boolean))
theorem mo_X11_need : MtOk m_X11_need 3 := ⟨by decide +kernel, (tb4 41 (by decide +kernel) rfl), ⟨by decide +kernel, by decide +kernel⟩, by decide +kernel, by decide, (tb1 1 (by decide +kernel) rfl)⟩
theorem mi_X11_need : Cond.instanceMethod yX11_need ∈ BIG := (tb4 39 (by decide +kernel) rfl)
theorem mv_X11_need : Cond.selects (yX11_need).cls yX11_need yX11_need ∈ BIG := (tb4 40 (by decide +kernel) rfl)
abbrev m_X11_value : MT := (yX11_value, cX11_value, 2, (some .int))
theorem mo_X11_value : MtOk m_X11_value 1 := ⟨by decide +kernel, (tb4 49 (by decide +kernel) rfl), ⟨by decide +kernel, by decide +kernel⟩, by decide +kernel, by decide, (tb1 1 (by decide +kernel) rfl)⟩
theorem mi_X11_value : Cond.instanceMethod yX11_value ∈ BIG := (tb4 47 (by decide +kernel) rfl)
theorem mv_X11_value : Cond.selects (yX11_value).cls yX11_value yX11_value ∈ BIG := (tb4 48 (by decide +kernel) rfl)
abbrev m_X11_cost : MT := (yX11_cost, cX11_cost, 2, (some .boolean))
theorem mo_X11_cost : MtOk m_X11_cost 1 := ⟨by decide +kernel, (tb4 62 (by decide +kernel) rfl), ⟨by decide +kernel, by decide +kernel⟩, by decide +kernel, by decide, (tb1 1 (by decide +kernel) rfl)⟩
theorem mi_X11_cost : Cond.instanceMethod yX11_cost ∈ BIG := (tb4 60 (by decide +kernel) rfl)
theorem mv_X11_cost : Cond.selects (yX11_cost).cls yX11_cost yX11_cost ∈ BIG := (tb4 61 (by decide +kernel) rfl)
abbrev m_X11_gain : MT := (yX11_gain, cX11_gain, 6, (some .int))
theorem mo_X11_gain : MtOk m_X11_gain 5 := ⟨by decide +kernel, (tb4 66 (by decide +kernel) rfl), ⟨by decide +kernel, by decide +kernel⟩, by decide +kernel, by decide, (tb1 1 (by decide +kernel) rfl)⟩
theorem mi_X11_gain : Cond.instanceMethod yX11_gain ∈ BIG := (tb4 64 (by decide +kernel) rfl)
theorem mv_X11_gain : Cond.selects (yX11_gain).cls yX11_gain yX11_gain ∈ BIG := (tb4 65 (by decide +kernel) rfl)
abbrev m_X11_change : MT := (yX11_change, cX11_change, 5, (some .boolean))
theorem mo_X11_change : MtOk m_X11_change 4 := ⟨by decide +kernel, (tb4 97 (by decide +kernel) rfl), ⟨by decide +kernel, by decide +kernel⟩, by decide +kernel, by decide, (tb1 1 (by decide +kernel) rfl)⟩
theorem mi_X11_change : Cond.instanceMethod yX11_change ∈ BIG := (tb4 95 (by decide +kernel) rfl)
theorem mv_X11_change : Cond.selects (yX11_change).cls yX11_change yX11_change ∈ BIG := (tb4 96 (by decide +kernel) rfl)
abbrev m_X11_best : MT := (yX11_best, cX11_best, 3, (some .int))
theorem mo_X11_best : MtOk m_X11_best 2 := ⟨by decide +kernel, (tb4 107 (by decide +kernel) rfl), ⟨by decide +kernel, by decide +kernel⟩, by decide +kernel, by decide, (tb1 1 (by decide +kernel) rfl)⟩
theorem mi_X11_best : Cond.instanceMethod yX11_best ∈ BIG := (tb4 105 (by decide +kernel) rfl)
theorem mv_X11_best : Cond.selects (yX11_best).cls yX11_best yX11_best ∈ BIG := (tb4 106 (by decide +kernel) rfl)
abbrev m_X11_turn : MT := (yX11_turn, cX11_turn, 2, (some .int))
theorem mo_X11_turn : MtOk m_X11_turn 0 := ⟨by decide +kernel, (tb4 123 (by decide +kernel) rfl), ⟨by decide +kernel, by decide +kernel⟩, by decide +kernel, by decide, (tb1 1 (by decide +kernel) rfl)⟩
theorem mi_X11_turn : Cond.instanceMethod yX11_turn ∈ BIG := (tb4 121 (by decide +kernel) rfl)
theorem mv_X11_turn : Cond.selects (yX11_turn).cls yX11_turn yX11_turn ∈ BIG := (tb4 122 (by decide +kernel) rfl)
abbrev m_X11_stable : MT := (yX11_stable, cX11_stable, 2, (some .boolean))
theorem mo_X11_stable : MtOk m_X11_stable 0 := ⟨by decide +kernel, (tb4 137 (by decide +kernel) rfl), ⟨by decide +kernel, by decide +kernel⟩, by decide +kernel, by decide, (tb1 1 (by decide +kernel) rfl)⟩
theorem mi_X11_stable : Cond.instanceMethod yX11_stable ∈ BIG := (tb4 135 (by decide +kernel) rfl)
theorem mv_X11_stable : Cond.selects (yX11_stable).cls yX11_stable yX11_stable ∈ BIG := (tb4 136 (by decide +kernel) rfl)
abbrev m_X11_send : MT := (yX11_send, cX11_send, 6, (some .int))
theorem mo_X11_send : MtOk m_X11_send 4 := ⟨by decide +kernel, (tb4 141 (by decide +kernel) rfl), ⟨by decide +kernel, by decide +kernel⟩, by decide +kernel, by decide, (tb1 1 (by decide +kernel) rfl)⟩
theorem mi_X11_send : Cond.instanceMethod yX11_send ∈ BIG := (tb4 139 (by decide +kernel) rfl)
theorem mv_X11_send : Cond.selects (yX11_send).cls yX11_send yX11_send ∈ BIG := (tb4 140 (by decide +kernel) rfl)
abbrev m_X11_comes : MT := (yX11_comes, cX11_comes, 3, (some .int))
theorem mo_X11_comes : MtOk m_X11_comes 2 := ⟨by decide +kernel, (tb4 193 (by decide +kernel) rfl), ⟨by decide +kernel, by decide +kernel⟩, by decide +kernel, by decide, (tb1 1 (by decide +kernel) rfl)⟩
theorem mi_X11_comes : Cond.instanceMethod yX11_comes ∈ BIG := (tb4 191 (by decide +kernel) rfl)
theorem mv_X11_comes : Cond.selects (yX11_comes).cls yX11_comes yX11_comes ∈ BIG := (tb4 192 (by decide +kernel) rfl)
abbrev m_X11_years : MT := (yX11_years, cX11_years, 6, (some .int))
theorem mo_X11_years : MtOk m_X11_years 4 := ⟨by decide +kernel, (tb4 202 (by decide +kernel) rfl), ⟨by decide +kernel, by decide +kernel⟩, by decide +kernel, by decide, (tb1 1 (by decide +kernel) rfl)⟩
theorem mi_X11_years : Cond.instanceMethod yX11_years ∈ BIG := (tb4 200 (by decide +kernel) rfl)
theorem mv_X11_years : Cond.selects (yX11_years).cls yX11_years yX11_years ∈ BIG := (tb4 201 (by decide +kernel) rfl)
abbrev m_X11_ring : MT := (yX11_ring, cX11_ring, 3, (some .int))
theorem mo_X11_ring : MtOk m_X11_ring 1 := ⟨by decide +kernel, (tb5 6 (by decide +kernel) rfl), ⟨by decide +kernel, by decide +kernel⟩, by decide +kernel, by decide, (tb1 1 (by decide +kernel) rfl)⟩
theorem mi_X11_ring : Cond.instanceMethod yX11_ring ∈ BIG := (tb5 4 (by decide +kernel) rfl)
theorem mv_X11_ring : Cond.selects (yX11_ring).cls yX11_ring yX11_ring ∈ BIG := (tb5 5 (by decide +kernel) rfl)
abbrev m_X11_mayJump : MT := (yX11_mayJump, cX11_mayJump, 2, (some .boolean))
theorem mo_X11_mayJump : MtOk m_X11_mayJump 1 := ⟨by decide +kernel, (tb5 10 (by decide +kernel) rfl), ⟨by decide +kernel, by decide +kernel⟩, by decide +kernel, by decide, (tb1 1 (by decide +kernel) rfl)⟩
theorem mi_X11_mayJump : Cond.instanceMethod yX11_mayJump ∈ BIG := (tb5 9 (by decide +kernel) rfl)
theorem mv_X11_mayJump : Cond.selects (yX11_mayJump).cls yX11_mayJump yX11_mayJump ∈ BIG := (tb0 30 (by decide +kernel) rfl)
abbrev m_X11_ringRow : MT := (yX11_ringRow, cX11_ringRow, 7, (some .int))
theorem mo_X11_ringRow : MtOk m_X11_ringRow 2 := ⟨by decide +kernel, (tb5 14 (by decide +kernel) rfl), ⟨by decide +kernel, by decide +kernel⟩, by decide +kernel, by decide, (tb1 1 (by decide +kernel) rfl)⟩
theorem mi_X11_ringRow : Cond.instanceMethod yX11_ringRow ∈ BIG := (tb5 13 (by decide +kernel) rfl)
theorem mv_X11_ringRow : Cond.selects (yX11_ringRow).cls yX11_ringRow yX11_ringRow ∈ BIG := (tb0 31 (by decide +kernel) rfl)
abbrev m_X11_tieRing : MT := (yX11_tieRing, cX11_tieRing, 4, none)
theorem mo_X11_tieRing : MtOk m_X11_tieRing 2 := ⟨by decide +kernel, (tb5 19 (by decide +kernel) rfl), ⟨by decide +kernel, by decide +kernel⟩, by decide +kernel, by decide, (tb1 1 (by decide +kernel) rfl)⟩
theorem mi_X11_tieRing : Cond.instanceMethod yX11_tieRing ∈ BIG := (tb5 18 (by decide +kernel) rfl)
theorem mv_X11_tieRing : Cond.selects (yX11_tieRing).cls yX11_tieRing yX11_tieRing ∈ BIG := (tb0 32 (by decide +kernel) rfl)
abbrev m_X11_fine : MT := (yX11_fine, cX11_fine, 7, (some .int))
theorem mo_X11_fine : MtOk m_X11_fine 2 := ⟨by decide +kernel, (tb5 23 (by decide +kernel) rfl), ⟨by decide +kernel, by decide +kernel⟩, by decide +kernel, by decide, (tb1 1 (by decide +kernel) rfl)⟩
theorem mi_X11_fine : Cond.instanceMethod yX11_fine ∈ BIG := (tb5 21 (by decide +kernel) rfl)
theorem mv_X11_fine : Cond.selects (yX11_fine).cls yX11_fine yX11_fine ∈ BIG := (tb5 22 (by decide +kernel) rfl)
abbrev m_X11_bound : MT := (yX11_bound, cX11_bound, 7, (some .int))
theorem mo_X11_bound : MtOk m_X11_bound 1 := ⟨by decide +kernel, (tb5 27 (by decide +kernel) rfl), ⟨by decide +kernel, by decide +kernel⟩, by decide +kernel, by decide, (tb1 1 (by decide +kernel) rfl)⟩
theorem mi_X11_bound : Cond.instanceMethod yX11_bound ∈ BIG := (tb5 25 (by decide +kernel) rfl)
theorem mv_X11_bound : Cond.selects (yX11_bound).cls yX11_bound yX11_bound ∈ BIG := (tb5 26 (by decide +kernel) rfl)
abbrev m_X11_image : MT := (yX11_image, cX11_image, 1, (some .int))
theorem mo_X11_image : MtOk m_X11_image 0 := ⟨by decide +kernel, (tb5 31 (by decide +kernel) rfl), ⟨by decide +kernel, by decide +kernel⟩, by decide +kernel, by decide, (tb1 1 (by decide +kernel) rfl)⟩
theorem mi_X11_image : Cond.instanceMethod yX11_image ∈ BIG := (tb5 29 (by decide +kernel) rfl)
theorem mv_X11_image : Cond.selects (yX11_image).cls yX11_image yX11_image ∈ BIG := (tb5 30 (by decide +kernel) rfl)
abbrev m_X11_back : MT := (yX11_back, cX11_back, 1, (some .int))
theorem mo_X11_back : MtOk m_X11_back 0 := ⟨by decide +kernel, (tb5 35 (by decide +kernel) rfl), ⟨by decide +kernel, by decide +kernel⟩, by decide +kernel, by decide, (tb1 1 (by decide +kernel) rfl)⟩
theorem mi_X11_back : Cond.instanceMethod yX11_back ∈ BIG := (tb5 33 (by decide +kernel) rfl)
theorem mv_X11_back : Cond.selects (yX11_back).cls yX11_back yX11_back ∈ BIG := (tb5 34 (by decide +kernel) rfl)
abbrev m_X11_set : MT := (yX11_set, cX11_set, 2, (some .int))
theorem mo_X11_set : MtOk m_X11_set 1 := ⟨by decide +kernel, (tb5 39 (by decide +kernel) rfl), ⟨by decide +kernel, by decide +kernel⟩, by decide +kernel, by decide, (tb1 1 (by decide +kernel) rfl)⟩
theorem mi_X11_set : Cond.instanceMethod yX11_set ∈ BIG := (tb5 37 (by decide +kernel) rfl)
theorem mv_X11_set : Cond.selects (yX11_set).cls yX11_set yX11_set ∈ BIG := (tb5 38 (by decide +kernel) rfl)
abbrev m_X11_word : MT := (yX11_word, cX11_word, 5, (some .int))
theorem mo_X11_word : MtOk m_X11_word 2 := ⟨by decide +kernel, (tb5 66 (by decide +kernel) rfl), ⟨by decide +kernel, by decide +kernel⟩, by decide +kernel, by decide, (tb1 1 (by decide +kernel) rfl)⟩
theorem mi_X11_word : Cond.instanceMethod yX11_word ∈ BIG := (tb5 64 (by decide +kernel) rfl)
theorem mv_X11_word : Cond.selects (yX11_word).cls yX11_word yX11_word ∈ BIG := (tb5 65 (by decide +kernel) rfl)
abbrev m_X11_out : MT := (yX11_out, cX11_out, 2, (some .int))
theorem mo_X11_out : MtOk m_X11_out 1 := ⟨by decide +kernel, (tb5 75 (by decide +kernel) rfl), ⟨by decide +kernel, by decide +kernel⟩, by decide +kernel, by decide, (tb1 1 (by decide +kernel) rfl)⟩
theorem mi_X11_out : Cond.instanceMethod yX11_out ∈ BIG := (tb5 73 (by decide +kernel) rfl)
theorem mv_X11_out : Cond.selects (yX11_out).cls yX11_out yX11_out ∈ BIG := (tb5 74 (by decide +kernel) rfl)
abbrev m_X11_begin : MT := (yX11_begin, cX11_begin, 2, (some .int))
theorem mo_X11_begin : MtOk m_X11_begin 1 := ⟨by decide +kernel, (tb5 80 (by decide +kernel) rfl), ⟨by decide +kernel, by decide +kernel⟩, by decide +kernel, by decide, (tb1 1 (by decide +kernel) rfl)⟩
theorem mi_X11_begin : Cond.instanceMethod yX11_begin ∈ BIG := (tb5 78 (by decide +kernel) rfl)
theorem mv_X11_begin : Cond.selects (yX11_begin).cls yX11_begin yX11_begin ∈ BIG := (tb5 79 (by decide +kernel) rfl)
abbrev m_X11_common : MT := (yX11_common, cX11_common, 3, (some .int))
theorem mo_X11_common : MtOk m_X11_common 2 := ⟨by decide +kernel, (tb5 92 (by decide +kernel) rfl), ⟨by decide +kernel, by decide +kernel⟩, by decide +kernel, by decide, (tb1 1 (by decide +kernel) rfl)⟩
theorem mi_X11_common : Cond.instanceMethod yX11_common ∈ BIG := (tb5 90 (by decide +kernel) rfl)
theorem mv_X11_common : Cond.selects (yX11_common).cls yX11_common yX11_common ∈ BIG := (tb5 91 (by decide +kernel) rfl)
abbrev m_X11_likely : MT := (yX11_likely, cX11_likely, 1, (some .int))
theorem mo_X11_likely : MtOk m_X11_likely 0 := ⟨by decide +kernel, (tb5 97 (by decide +kernel) rfl), ⟨by decide +kernel, by decide +kernel⟩, by decide +kernel, by decide, (tb1 1 (by decide +kernel) rfl)⟩
theorem mi_X11_likely : Cond.instanceMethod yX11_likely ∈ BIG := (tb5 95 (by decide +kernel) rfl)
theorem mv_X11_likely : Cond.selects (yX11_likely).cls yX11_likely yX11_likely ∈ BIG := (tb5 96 (by decide +kernel) rfl)
abbrev m_X11_threes : MT := (yX11_threes, cX11_threes, 2, (some .int))
theorem mo_X11_threes : MtOk m_X11_threes 1 := ⟨by decide +kernel, (tb5 107 (by decide +kernel) rfl), ⟨by decide +kernel, by decide +kernel⟩, by decide +kernel, by decide, (tb1 1 (by decide +kernel) rfl)⟩
theorem mi_X11_threes : Cond.instanceMethod yX11_threes ∈ BIG := (tb5 105 (by decide +kernel) rfl)
theorem mv_X11_threes : Cond.selects (yX11_threes).cls yX11_threes yX11_threes ∈ BIG := (tb5 106 (by decide +kernel) rfl)
abbrev m_X11_courier : MT := (yX11_courier, cX11_courier, 3, (some .int))
theorem mo_X11_courier : MtOk m_X11_courier 1 := ⟨by decide +kernel, (tb5 119 (by decide +kernel) rfl), ⟨by decide +kernel, by decide +kernel⟩, by decide +kernel, by decide, (tb1 1 (by decide +kernel) rfl)⟩
theorem mi_X11_courier : Cond.instanceMethod yX11_courier ∈ BIG := (tb5 117 (by decide +kernel) rfl)
theorem mv_X11_courier : Cond.selects (yX11_courier).cls yX11_courier yX11_courier ∈ BIG := (tb5 118 (by decide +kernel) rfl)
abbrev m_X11_loss : MT := (yX11_loss, cX11_loss, 3, (some .int))
theorem mo_X11_loss : MtOk m_X11_loss 2 := ⟨by decide +kernel, (tb5 133 (by decide +kernel) rfl), ⟨by decide +kernel, by decide +kernel⟩, by decide +kernel, by decide, (tb1 1 (by decide +kernel) rfl)⟩
theorem mi_X11_loss : Cond.instanceMethod yX11_loss ∈ BIG := (tb5 131 (by decide +kernel) rfl)
theorem mv_X11_loss : Cond.selects (yX11_loss).cls yX11_loss yX11_loss ∈ BIG := (tb5 132 (by decide +kernel) rfl)
abbrev m_X11_dear : MT := (yX11_dear, cX11_dear, 2, (some .int))
theorem mo_X11_dear : MtOk m_X11_dear 1 := ⟨by decide +kernel, (tb5 144 (by decide +kernel) rfl), ⟨by decide +kernel, by decide +kernel⟩, by decide +kernel, by decide, (tb1 1 (by decide +kernel) rfl)⟩
theorem mi_X11_dear : Cond.instanceMethod yX11_dear ∈ BIG := (tb5 142 (by decide +kernel) rfl)
theorem mv_X11_dear : Cond.selects (yX11_dear).cls yX11_dear yX11_dear ∈ BIG := (tb5 143 (by decide +kernel) rfl)
abbrev m_X11_count : MT := (yX11_count, cX11_count, 2, (some .int))
theorem mo_X11_count : MtOk m_X11_count 1 := ⟨by decide +kernel, (tb5 167 (by decide +kernel) rfl), ⟨by decide +kernel, by decide +kernel⟩, by decide +kernel, by decide, (tb1 1 (by decide +kernel) rfl)⟩
theorem mi_X11_count : Cond.instanceMethod yX11_count ∈ BIG := (tb5 165 (by decide +kernel) rfl)
theorem mv_X11_count : Cond.selects (yX11_count).cls yX11_count yX11_count ∈ BIG := (tb5 166 (by decide +kernel) rfl)
abbrev m_X11_firstSet : MT := (yX11_firstSet, cX11_firstSet, 2, (some .int))
theorem mo_X11_firstSet : MtOk m_X11_firstSet 2 := ⟨by decide +kernel, (tb4 12 (by decide +kernel) rfl), ⟨by decide +kernel, by decide +kernel⟩, by decide +kernel, by decide, (tb1 1 (by decide +kernel) rfl)⟩
theorem mz_X11_firstSet : Cond.static yX11_firstSet ∈ BIG := (tb4 11 (by decide +kernel) rfl)
abbrev m_X11_nextSet : MT := (yX11_nextSet, cX11_nextSet, 6, (some .int))
theorem mo_X11_nextSet : MtOk m_X11_nextSet 2 := ⟨by decide +kernel, (tb4 19 (by decide +kernel) rfl), ⟨by decide +kernel, by decide +kernel⟩, by decide +kernel, by decide, (tb1 1 (by decide +kernel) rfl)⟩
theorem mz_X11_nextSet : Cond.static yX11_nextSet ∈ BIG := (tb4 18 (by decide +kernel) rfl)
abbrev m_X12_init : MT := (yX12_init, cX12_init, 3, none)
theorem mo_X12_init : MtOk m_X12_init 1 := ⟨by decide +kernel, (tb6 8 (by decide +kernel) rfl), ⟨by decide +kernel, by decide +kernel⟩, by decide +kernel, by decide, (tb1 15 (by decide +kernel) rfl)⟩
theorem mi_X12_init : Cond.instanceMethod yX12_init ∈ BIG := (tb6 7 (by decide +kernel) rfl)
abbrev m_X12_thrown : MT := (yX12_thrown, cX12_thrown, 1, (some .int))
theorem mo_X12_thrown : MtOk m_X12_thrown 0 := ⟨by decide +kernel, (tb6 160 (by decide +kernel) rfl), ⟨by decide +kernel, by decide +kernel⟩, by decide +kernel, by decide, (tb1 15 (by decide +kernel) rfl)⟩
theorem mi_X12_thrown : Cond.instanceMethod yX12_thrown ∈ BIG := (tb6 158 (by decide +kernel) rfl)
theorem mv_X12_thrown : Cond.selects (yX12_thrown).cls yX12_thrown yX12_thrown ∈ BIG := (tb6 159 (by decide +kernel) rfl)
abbrev m_X12_isIn : MT := (yX12_isIn, cX12_isIn, 3, (some .boolean))
theorem mo_X12_isIn : MtOk m_X12_isIn 3 := ⟨by decide +kernel, (tb6 182 (by decide +kernel) rfl), ⟨by decide +kernel, by decide +kernel⟩, by decide +kernel, by decide, (tb1 15 (by decide +kernel) rfl)⟩
theorem mz_X12_isIn : Cond.static yX12_isIn ∈ BIG := (tb6 181 (by decide +kernel) rfl)
abbrev m_X12_has : MT := (yX12_has, cX12_has, 2, (some .boolean))
theorem mo_X12_has : MtOk m_X12_has 2 := ⟨by decide +kernel, (tb6 209 (by decide +kernel) rfl), ⟨by decide +kernel, by decide +kernel⟩, by decide +kernel, by decide, (tb1 15 (by decide +kernel) rfl)⟩
theorem mz_X12_has : Cond.static yX12_has ∈ BIG := (tb6 208 (by decide +kernel) rfl)
abbrev m_X12_isAmong : MT := (yX12_isAmong, cX12_isAmong, 3, (some .boolean))
theorem mo_X12_isAmong : MtOk m_X12_isAmong 2 := ⟨by decide +kernel, (tb6 221 (by decide +kernel) rfl), ⟨by decide +kernel, by decide +kernel⟩, by decide +kernel, by decide, (tb1 15 (by decide +kernel) rfl)⟩
theorem mz_X12_isAmong : Cond.static yX12_isAmong ∈ BIG := (tb6 220 (by decide +kernel) rfl)
abbrev m_X12_bytesIn : MT := (yX12_bytesIn, cX12_bytesIn, 3, (some .int))
theorem mo_X12_bytesIn : MtOk m_X12_bytesIn 1 := ⟨by decide +kernel, (tb6 167 (by decide +kernel) rfl), ⟨by decide +kernel, by decide +kernel⟩, by decide +kernel, by decide, (tb1 15 (by decide +kernel) rfl)⟩
theorem mz_X12_bytesIn : Cond.static yX12_bytesIn ∈ BIG := (tb6 166 (by decide +kernel) rfl)
abbrev m_X12_put : MT := (yX12_put, cX12_put, 3, none)
theorem mo_X12_put : MtOk m_X12_put 1 := ⟨by decide +kernel, (tb6 171 (by decide +kernel) rfl), ⟨by decide +kernel, by decide +kernel⟩, by decide +kernel, by decide, (tb1 15 (by decide +kernel) rfl)⟩
theorem mi_X12_put : Cond.instanceMethod yX12_put ∈ BIG := (tb6 170 (by decide +kernel) rfl)
theorem mv_X12_put : Cond.selects (yX12_put).cls yX12_put yX12_put ∈ BIG := (tb0 37 (by decide +kernel) rfl)
abbrev m_X12_feed : MT := (yX12_feed, cX12_feed, 6, (some .int))
theorem mo_X12_feed : MtOk m_X12_feed 5 := ⟨by decide +kernel, (tb6 164 (by decide +kernel) rfl), ⟨by decide +kernel, by decide +kernel⟩, by decide +kernel, by decide, (tb1 15 (by decide +kernel) rfl)⟩
theorem mi_X12_feed : Cond.instanceMethod yX12_feed ∈ BIG := (tb6 162 (by decide +kernel) rfl)
theorem mv_X12_feed : Cond.selects (yX12_feed).cls yX12_feed yX12_feed ∈ BIG := (tb6 163 (by decide +kernel) rfl)
abbrev m_X12_end : MT := (yX12_end, cX12_end, 2, (some .boolean))
theorem mo_X12_end : MtOk m_X12_end 1 := ⟨by decide +kernel, (tb6 175 (by decide +kernel) rfl), ⟨by decide +kernel, by decide +kernel⟩, by decide +kernel, by decide, (tb1 15 (by decide +kernel) rfl)⟩
theorem mi_X12_end : Cond.instanceMethod yX12_end ∈ BIG := (tb6 173 (by decide +kernel) rfl)
theorem mv_X12_end : Cond.selects (yX12_end).cls yX12_end yX12_end ∈ BIG := (tb6 174 (by decide +kernel) rfl)
abbrev m_X12_look : MT := (yX12_look, cX12_look, 1, (some .int))
theorem mo_X12_look : MtOk m_X12_look 0 := ⟨by decide +kernel, (tb6 194 (by decide +kernel) rfl), ⟨by decide +kernel, by decide +kernel⟩, by decide +kernel, by decide, (tb1 15 (by decide +kernel) rfl)⟩
theorem mi_X12_look : Cond.instanceMethod yX12_look ∈ BIG := (tb6 193 (by decide +kernel) rfl)
theorem mv_X12_look : Cond.selects (yX12_look).cls yX12_look yX12_look ∈ BIG := (tb0 40 (by decide +kernel) rfl)
abbrev m_X12_fails : MT := (yX12_fails, cX12_fails, 1, (some .boolean))
theorem mo_X12_fails : MtOk m_X12_fails 0 := ⟨by decide +kernel, (tb6 206 (by decide +kernel) rfl), ⟨by decide +kernel, by decide +kernel⟩, by decide +kernel, by decide, (tb1 15 (by decide +kernel) rfl)⟩
theorem mi_X12_fails : Cond.instanceMethod yX12_fails ∈ BIG := (tb6 205 (by decide +kernel) rfl)
theorem mv_X12_fails : Cond.selects (yX12_fails).cls yX12_fails yX12_fails ∈ BIG := (tb0 43 (by decide +kernel) rfl)
abbrev m_X12_goesIn : MT := (yX12_goesIn, cX12_goesIn, 1, (some .boolean))
theorem mo_X12_goesIn : MtOk m_X12_goesIn 0 := ⟨by decide +kernel, (tb7 34 (by decide +kernel) rfl), ⟨by decide +kernel, by decide +kernel⟩, by decide +kernel, by decide, (tb1 15 (by decide +kernel) rfl)⟩
theorem mi_X12_goesIn : Cond.instanceMethod yX12_goesIn ∈ BIG := (tb7 33 (by decide +kernel) rfl)
theorem mv_X12_goesIn : Cond.selects (yX12_goesIn).cls yX12_goesIn yX12_goesIn ∈ BIG := (tb0 53 (by decide +kernel) rfl)
abbrev m_X12_takes : MT := (yX12_takes, cX12_takes, 2, (some .boolean))
theorem mo_X12_takes : MtOk m_X12_takes 1 := ⟨by decide +kernel, (tb7 6 (by decide +kernel) rfl), ⟨by decide +kernel, by decide +kernel⟩, by decide +kernel, by decide, (tb1 15 (by decide +kernel) rfl)⟩
theorem mi_X12_takes : Cond.instanceMethod yX12_takes ∈ BIG := (tb7 5 (by decide +kernel) rfl)
theorem mv_X12_takes : Cond.selects (yX12_takes).cls yX12_takes yX12_takes ∈ BIG := (tb0 46 (by decide +kernel) rfl)
abbrev m_X12_isDigit : MT := (yX12_isDigit, cX12_isDigit, 1, (some .boolean))
theorem mo_X12_isDigit : MtOk m_X12_isDigit 0 := ⟨by decide +kernel, (tb7 38 (by decide +kernel) rfl), ⟨by decide +kernel, by decide +kernel⟩, by decide +kernel, by decide, (tb1 15 (by decide +kernel) rfl)⟩
theorem mi_X12_isDigit : Cond.instanceMethod yX12_isDigit ∈ BIG := (tb7 37 (by decide +kernel) rfl)
theorem mv_X12_isDigit : Cond.selects (yX12_isDigit).cls yX12_isDigit yX12_isDigit ∈ BIG := (tb0 54 (by decide +kernel) rfl)
abbrev m_X12_within : MT := (yX12_within, cX12_within, 2, (some .int))
theorem mo_X12_within : MtOk m_X12_within 1 := ⟨by decide +kernel, (tb7 41 (by decide +kernel) rfl), ⟨by decide +kernel, by decide +kernel⟩, by decide +kernel, by decide, (tb1 15 (by decide +kernel) rfl)⟩
theorem mz_X12_within : Cond.static yX12_within ∈ BIG := (tb7 40 (by decide +kernel) rfl)
abbrev m_X12_atom : MT := (yX12_atom, cX12_atom, 4, (some .int))
theorem mo_X12_atom : MtOk m_X12_atom 0 := ⟨by decide +kernel, (tb7 30 (by decide +kernel) rfl), ⟨by decide +kernel, by decide +kernel⟩, by decide +kernel, by decide, (tb1 15 (by decide +kernel) rfl)⟩
theorem mi_X12_atom : Cond.instanceMethod yX12_atom ∈ BIG := (tb7 29 (by decide +kernel) rfl)
theorem mv_X12_atom : Cond.selects (yX12_atom).cls yX12_atom yX12_atom ∈ BIG := (tb0 52 (by decide +kernel) rfl)
abbrev m_X12_term : MT := (yX12_term, cX12_term, 5, (some .int))
theorem mo_X12_term : MtOk m_X12_term 0 := ⟨by decide +kernel, (tb7 26 (by decide +kernel) rfl), ⟨by decide +kernel, by decide +kernel⟩, by decide +kernel, by decide, (tb1 15 (by decide +kernel) rfl)⟩
theorem mi_X12_term : Cond.instanceMethod yX12_term ∈ BIG := (tb7 25 (by decide +kernel) rfl)
theorem mv_X12_term : Cond.selects (yX12_term).cls yX12_term yX12_term ∈ BIG := (tb0 51 (by decide +kernel) rfl)
abbrev m_X12_sum : MT := (yX12_sum, cX12_sum, 5, (some .int))
theorem mo_X12_sum : MtOk m_X12_sum 0 := ⟨by decide +kernel, (tb7 22 (by decide +kernel) rfl), ⟨by decide +kernel, by decide +kernel⟩, by decide +kernel, by decide, (tb1 15 (by decide +kernel) rfl)⟩
theorem mi_X12_sum : Cond.instanceMethod yX12_sum ∈ BIG := (tb7 21 (by decide +kernel) rfl)
theorem mv_X12_sum : Cond.selects (yX12_sum).cls yX12_sum yX12_sum ∈ BIG := (tb0 50 (by decide +kernel) rfl)
abbrev m_X12_isSign : MT := (yX12_isSign, cX12_isSign, 1, (some .boolean))
theorem mo_X12_isSign : MtOk m_X12_isSign 1 := ⟨by decide +kernel, (tb7 52 (by decide +kernel) rfl), ⟨by decide +kernel, by decide +kernel⟩, by decide +kernel, by decide, (tb1 15 (by decide +kernel) rfl)⟩
theorem mz_X12_isSign : Cond.static yX12_isSign ∈ BIG := (tb7 51 (by decide +kernel) rfl)
abbrev m_X12_compares : MT := (yX12_compares, cX12_compares, 6, (some .boolean))
theorem mo_X12_compares : MtOk m_X12_compares 2 := ⟨by decide +kernel, (tb7 18 (by decide +kernel) rfl), ⟨by decide +kernel, by decide +kernel⟩, by decide +kernel, by decide, (tb1 15 (by decide +kernel) rfl)⟩
theorem mi_X12_compares : Cond.instanceMethod yX12_compares ∈ BIG := (tb7 17 (by decide +kernel) rfl)
theorem mv_X12_compares : Cond.selects (yX12_compares).cls yX12_compares yX12_compares ∈ BIG := (tb0 49 (by decide +kernel) rfl)
abbrev m_X12_unit : MT := (yX12_unit, cX12_unit, 3, (some .boolean))
theorem mo_X12_unit : MtOk m_X12_unit 0 := ⟨by decide +kernel, (tb7 56 (by decide +kernel) rfl), ⟨by decide +kernel, by decide +kernel⟩, by decide +kernel, by decide, (tb1 15 (by decide +kernel) rfl)⟩
theorem mi_X12_unit : Cond.instanceMethod yX12_unit ∈ BIG := (tb7 55 (by decide +kernel) rfl)
theorem mv_X12_unit : Cond.selects (yX12_unit).cls yX12_unit yX12_unit ∈ BIG := (tb0 55 (by decide +kernel) rfl)
abbrev m_X12_part : MT := (yX12_part, cX12_part, 5, (some .boolean))
theorem mo_X12_part : MtOk m_X12_part 2 := ⟨by decide +kernel, (tb7 14 (by decide +kernel) rfl), ⟨by decide +kernel, by decide +kernel⟩, by decide +kernel, by decide, (tb1 15 (by decide +kernel) rfl)⟩
theorem mi_X12_part : Cond.instanceMethod yX12_part ∈ BIG := (tb7 13 (by decide +kernel) rfl)
theorem mv_X12_part : Cond.selects (yX12_part).cls yX12_part yX12_part ∈ BIG := (tb0 48 (by decide +kernel) rfl)
abbrev m_X12_condition : MT := (yX12_condition, cX12_condition, 5, (some .boolean))
theorem mo_X12_condition : MtOk m_X12_condition 2 := ⟨by decide +kernel, (tb7 10 (by decide +kernel) rfl), ⟨by decide +kernel, by decide +kernel⟩, by decide +kernel, by decide, (tb1 15 (by decide +kernel) rfl)⟩
theorem mi_X12_condition : Cond.instanceMethod yX12_condition ∈ BIG := (tb7 9 (by decide +kernel) rfl)
theorem mv_X12_condition : Cond.selects (yX12_condition).cls yX12_condition yX12_condition ∈ BIG := (tb0 47 (by decide +kernel) rfl)
abbrev m_X12_clause : MT := (yX12_clause, cX12_clause, 5, none)
theorem mo_X12_clause : MtOk m_X12_clause 0 := ⟨by decide +kernel, (tb6 218 (by decide +kernel) rfl), ⟨by decide +kernel, by decide +kernel⟩, by decide +kernel, by decide, (tb1 15 (by decide +kernel) rfl)⟩
theorem mi_X12_clause : Cond.instanceMethod yX12_clause ∈ BIG := (tb6 217 (by decide +kernel) rfl)
theorem mv_X12_clause : Cond.selects (yX12_clause).cls yX12_clause yX12_clause ∈ BIG := (tb0 45 (by decide +kernel) rfl)
abbrev m_X12_opens : MT := (yX12_opens, cX12_opens, 4, none)
theorem mo_X12_opens : MtOk m_X12_opens 3 := ⟨by decide +kernel, (tb6 190 (by decide +kernel) rfl), ⟨by decide +kernel, by decide +kernel⟩, by decide +kernel, by decide, (tb1 15 (by decide +kernel) rfl)⟩
theorem mi_X12_opens : Cond.instanceMethod yX12_opens ∈ BIG := (tb6 189 (by decide +kernel) rfl)
theorem mv_X12_opens : Cond.selects (yX12_opens).cls yX12_opens yX12_opens ∈ BIG := (tb0 39 (by decide +kernel) rfl)
abbrev m_X12_goThrough : MT := (yX12_goThrough, cX12_goThrough, 4, none)
theorem mo_X12_goThrough : MtOk m_X12_goThrough 3 := ⟨by decide +kernel, (tb6 214 (by decide +kernel) rfl), ⟨by decide +kernel, by decide +kernel⟩, by decide +kernel, by decide, (tb1 15 (by decide +kernel) rfl)⟩
theorem mi_X12_goThrough : Cond.instanceMethod yX12_goThrough ∈ BIG := (tb6 213 (by decide +kernel) rfl)
theorem mv_X12_goThrough : Cond.selects (yX12_goThrough).cls yX12_goThrough yX12_goThrough ∈ BIG := (tb0 44 (by decide +kernel) rfl)
abbrev m_X12_isLetterOf : MT := (yX12_isLetterOf, cX12_isLetterOf, 2, (some .boolean))
theorem mo_X12_isLetterOf : MtOk m_X12_isLetterOf 1 := ⟨by decide +kernel, (tb6 202 (by decide +kernel) rfl), ⟨by decide +kernel, by decide +kernel⟩, by decide +kernel, by decide, (tb1 15 (by decide +kernel) rfl)⟩
theorem mi_X12_isLetterOf : Cond.instanceMethod yX12_isLetterOf ∈ BIG := (tb6 201 (by decide +kernel) rfl)
theorem mv_X12_isLetterOf : Cond.selects (yX12_isLetterOf).cls yX12_isLetterOf yX12_isLetterOf ∈ BIG := (tb0 42 (by decide +kernel) rfl)
abbrev m_X12_readTie : MT := (yX12_readTie, cX12_readTie, 3, (some .boolean))
theorem mo_X12_readTie : MtOk m_X12_readTie 0 := ⟨by decide +kernel, (tb6 198 (by decide +kernel) rfl), ⟨by decide +kernel, by decide +kernel⟩, by decide +kernel, by decide, (tb1 15 (by decide +kernel) rfl)⟩
theorem mi_X12_readTie : Cond.instanceMethod yX12_readTie ∈ BIG := (tb6 197 (by decide +kernel) rfl)
theorem mv_X12_readTie : Cond.selects (yX12_readTie).cls yX12_readTie yX12_readTie ∈ BIG := (tb0 41 (by decide +kernel) rfl)
abbrev m_X12_readNet : MT := (yX12_readNet, cX12_readNet, 2, none)
theorem mo_X12_readNet : MtOk m_X12_readNet 0 := ⟨by decide +kernel, (tb6 186 (by decide +kernel) rfl), ⟨by decide +kernel, by decide +kernel⟩, by decide +kernel, by decide, (tb1 15 (by decide +kernel) rfl)⟩
theorem mi_X12_readNet : Cond.instanceMethod yX12_readNet ∈ BIG := (tb6 185 (by decide +kernel) rfl)
theorem mv_X12_readNet : Cond.selects (yX12_readNet).cls yX12_readNet yX12_readNet ∈ BIG := (tb0 38 (by decide +kernel) rfl)
abbrev m_X12_fault : MT := (yX12_fault, cX12_fault, 2, (some .int))
theorem mo_X12_fault : MtOk m_X12_fault 1 := ⟨by decide +kernel, (tb6 179 (by decide +kernel) rfl), ⟨by decide +kernel, by decide +kernel⟩, by decide +kernel, by decide, (tb1 15 (by decide +kernel) rfl)⟩
theorem mi_X12_fault : Cond.instanceMethod yX12_fault ∈ BIG := (tb6 177 (by decide +kernel) rfl)
theorem mv_X12_fault : Cond.selects (yX12_fault).cls yX12_fault yX12_fault ∈ BIG := (tb6 178 (by decide +kernel) rfl)
abbrev m_X12_ties : MT := (yX12_ties, cX12_ties, 3, (some .int))
theorem mo_X12_ties : MtOk m_X12_ties 0 := ⟨by decide +kernel, (tb7 65 (by decide +kernel) rfl), ⟨by decide +kernel, by decide +kernel⟩, by decide +kernel, by decide, (tb1 15 (by decide +kernel) rfl)⟩
theorem mi_X12_ties : Cond.instanceMethod yX12_ties ∈ BIG := (tb7 64 (by decide +kernel) rfl)
theorem mv_X12_ties : Cond.selects (yX12_ties).cls yX12_ties yX12_ties ∈ BIG := (tb0 56 (by decide +kernel) rfl)
abbrev m_X12_text : MT := (yX12_text, cX12_text, 3, (some .int))
theorem mo_X12_text : MtOk m_X12_text 1 := ⟨by decide +kernel, (tb7 60 (by decide +kernel) rfl), ⟨by decide +kernel, by decide +kernel⟩, by decide +kernel, by decide, (tb1 15 (by decide +kernel) rfl)⟩
theorem mi_X12_text : Cond.instanceMethod yX12_text ∈ BIG := (tb7 58 (by decide +kernel) rfl)
theorem mv_X12_text : Cond.selects (yX12_text).cls yX12_text yX12_text ∈ BIG := (tb7 59 (by decide +kernel) rfl)
abbrev m_X12_isOne : MT := (yX12_isOne, cX12_isOne, 2, (some .boolean))
theorem mo_X12_isOne : MtOk m_X12_isOne 1 := ⟨by decide +kernel, (tb7 73 (by decide +kernel) rfl), ⟨by decide +kernel, by decide +kernel⟩, by decide +kernel, by decide, (tb1 15 (by decide +kernel) rfl)⟩
theorem mi_X12_isOne : Cond.instanceMethod yX12_isOne ∈ BIG := (tb7 72 (by decide +kernel) rfl)
theorem mv_X12_isOne : Cond.selects (yX12_isOne).cls yX12_isOne yX12_isOne ∈ BIG := (tb0 57 (by decide +kernel) rfl)
abbrev m_X12_areTwo : MT := (yX12_areTwo, cX12_areTwo, 3, (some .boolean))
theorem mo_X12_areTwo : MtOk m_X12_areTwo 2 := ⟨by decide +kernel, (tb7 85 (by decide +kernel) rfl), ⟨by decide +kernel, by decide +kernel⟩, by decide +kernel, by decide, (tb1 15 (by decide +kernel) rfl)⟩
theorem mi_X12_areTwo : Cond.instanceMethod yX12_areTwo ∈ BIG := (tb7 84 (by decide +kernel) rfl)
theorem mv_X12_areTwo : Cond.selects (yX12_areTwo).cls yX12_areTwo yX12_areTwo ∈ BIG := (tb0 59 (by decide +kernel) rfl)
abbrev m_X12_many : MT := (yX12_many, cX12_many, 2, (some .int))
theorem mo_X12_many : MtOk m_X12_many 1 := ⟨by decide +kernel, (tb7 77 (by decide +kernel) rfl), ⟨by decide +kernel, by decide +kernel⟩, by decide +kernel, by decide, (tb1 15 (by decide +kernel) rfl)⟩
theorem mi_X12_many : Cond.instanceMethod yX12_many ∈ BIG := (tb7 76 (by decide +kernel) rfl)
theorem mv_X12_many : Cond.selects (yX12_many).cls yX12_many yX12_many ∈ BIG := (tb0 58 (by decide +kernel) rfl)
abbrev m_X12_most : MT := (yX12_most, cX12_most, 3, (some .boolean))
theorem mo_X12_most : MtOk m_X12_most 2 := ⟨by decide +kernel, (tb7 69 (by decide +kernel) rfl), ⟨by decide +kernel, by decide +kernel⟩, by decide +kernel, by decide, (tb1 15 (by decide +kernel) rfl)⟩
theorem mi_X12_most : Cond.instanceMethod yX12_most ∈ BIG := (tb7 67 (by decide +kernel) rfl)
theorem mv_X12_most : Cond.selects (yX12_most).cls yX12_most yX12_most ∈ BIG := (tb7 68 (by decide +kernel) rfl)
abbrev m_X12_join : MT := (yX12_join, cX12_join, 3, none)
theorem mo_X12_join : MtOk m_X12_join 2 := ⟨by decide +kernel, (tb7 89 (by decide +kernel) rfl), ⟨by decide +kernel, by decide +kernel⟩, by decide +kernel, by decide, (tb1 15 (by decide +kernel) rfl)⟩
theorem mi_X12_join : Cond.instanceMethod yX12_join ∈ BIG := (tb7 88 (by decide +kernel) rfl)
theorem mv_X12_join : Cond.selects (yX12_join).cls yX12_join yX12_join ∈ BIG := (tb0 60 (by decide +kernel) rfl)
abbrev m_X12_part_ : MT := (yX12_part_, cX12_part_, 3, none)
theorem mo_X12_part_ : MtOk m_X12_part_ 2 := ⟨by decide +kernel, (tb7 97 (by decide +kernel) rfl), ⟨by decide +kernel, by decide +kernel⟩, by decide +kernel, by decide, (tb1 15 (by decide +kernel) rfl)⟩
theorem mi_X12_part_ : Cond.instanceMethod yX12_part_ ∈ BIG := (tb7 96 (by decide +kernel) rfl)
theorem mv_X12_part_ : Cond.selects (yX12_part_).cls yX12_part_ yX12_part_ ∈ BIG := (tb0 61 (by decide +kernel) rfl)
abbrev m_X12_tie : MT := (yX12_tie, cX12_tie, 3, (some .boolean))
theorem mo_X12_tie : MtOk m_X12_tie 2 := ⟨by decide +kernel, (tb7 81 (by decide +kernel) rfl), ⟨by decide +kernel, by decide +kernel⟩, by decide +kernel, by decide, (tb1 15 (by decide +kernel) rfl)⟩
theorem mi_X12_tie : Cond.instanceMethod yX12_tie ∈ BIG := (tb7 79 (by decide +kernel) rfl)
theorem mv_X12_tie : Cond.selects (yX12_tie).cls yX12_tie yX12_tie ∈ BIG := (tb7 80 (by decide +kernel) rfl)
abbrev m_X12_drop : MT := (yX12_drop, cX12_drop, 3, (some .boolean))
theorem mo_X12_drop : MtOk m_X12_drop 2 := ⟨by decide +kernel, (tb7 93 (by decide +kernel) rfl), ⟨by decide +kernel, by decide +kernel⟩, by decide +kernel, by decide, (tb1 15 (by decide +kernel) rfl)⟩
theorem mi_X12_drop : Cond.instanceMethod yX12_drop ∈ BIG := (tb7 91 (by decide +kernel) rfl)
theorem mv_X12_drop : Cond.selects (yX12_drop).cls yX12_drop yX12_drop ∈ BIG := (tb7 92 (by decide +kernel) rfl)
abbrev m_X12_knows : MT := (yX12_knows, cX12_knows, 2, (some .int))
theorem mo_X12_knows : MtOk m_X12_knows 1 := ⟨by decide +kernel, (tb7 101 (by decide +kernel) rfl), ⟨by decide +kernel, by decide +kernel⟩, by decide +kernel, by decide, (tb1 15 (by decide +kernel) rfl)⟩
theorem mi_X12_knows : Cond.instanceMethod yX12_knows ∈ BIG := (tb7 99 (by decide +kernel) rfl)
theorem mv_X12_knows : Cond.selects (yX12_knows).cls yX12_knows yX12_knows ∈ BIG := (tb7 100 (by decide +kernel) rfl)
abbrev m_X12_around : MT := (yX12_around, cX12_around, 5, (some .int))
theorem mo_X12_around : MtOk m_X12_around 2 := ⟨by decide +kernel, (tb7 113 (by decide +kernel) rfl), ⟨by decide +kernel, by decide +kernel⟩, by decide +kernel, by decide, (tb1 15 (by decide +kernel) rfl)⟩
theorem mi_X12_around : Cond.instanceMethod yX12_around ∈ BIG := (tb7 112 (by decide +kernel) rfl)
theorem mv_X12_around : Cond.selects (yX12_around).cls yX12_around yX12_around ∈ BIG := (tb0 63 (by decide +kernel) rfl)
abbrev m_X12_partOf : MT := (yX12_partOf, cX12_partOf, 5, (some .int))
theorem mo_X12_partOf : MtOk m_X12_partOf 2 := ⟨by decide +kernel, (tb7 146 (by decide +kernel) rfl), ⟨by decide +kernel, by decide +kernel⟩, by decide +kernel, by decide, (tb1 15 (by decide +kernel) rfl)⟩
theorem mi_X12_partOf : Cond.instanceMethod yX12_partOf ∈ BIG := (tb7 145 (by decide +kernel) rfl)
theorem mv_X12_partOf : Cond.selects (yX12_partOf).cls yX12_partOf yX12_partOf ∈ BIG := (tb0 68 (by decide +kernel) rfl)
abbrev m_X12_farOf : MT := (yX12_farOf, cX12_farOf, 5, (some .int))
theorem mo_X12_farOf : MtOk m_X12_farOf 2 := ⟨by decide +kernel, (tb7 109 (by decide +kernel) rfl), ⟨by decide +kernel, by decide +kernel⟩, by decide +kernel, by decide, (tb1 15 (by decide +kernel) rfl)⟩
theorem mi_X12_farOf : Cond.instanceMethod yX12_farOf ∈ BIG := (tb7 108 (by decide +kernel) rfl)
theorem mv_X12_farOf : Cond.selects (yX12_farOf).cls yX12_farOf yX12_farOf ∈ BIG := (tb0 62 (by decide +kernel) rfl)
abbrev m_X12_far : MT := (yX12_far, cX12_far, 3, (some .int))
theorem mo_X12_far : MtOk m_X12_far 2 := ⟨by decide +kernel, (tb7 105 (by decide +kernel) rfl), ⟨by decide +kernel, by decide +kernel⟩, by decide +kernel, by decide, (tb1 15 (by decide +kernel) rfl)⟩
theorem mi_X12_far : Cond.instanceMethod yX12_far ∈ BIG := (tb7 103 (by decide +kernel) rfl)
theorem mv_X12_far : Cond.selects (yX12_far).cls yX12_far yX12_far ∈ BIG := (tb7 104 (by decide +kernel) rfl)
abbrev m_X12_farNow : MT := (yX12_farNow, cX12_farNow, 3, (some .int))
theorem mo_X12_farNow : MtOk m_X12_farNow 2 := ⟨by decide +kernel, (tb7 126 (by decide +kernel) rfl), ⟨by decide +kernel, by decide +kernel⟩, by decide +kernel, by decide, (tb1 15 (by decide +kernel) rfl)⟩
theorem mi_X12_farNow : Cond.instanceMethod yX12_farNow ∈ BIG := (tb7 125 (by decide +kernel) rfl)
theorem mv_X12_farNow : Cond.selects (yX12_farNow).cls yX12_farNow yX12_farNow ∈ BIG := (tb0 65 (by decide +kernel) rfl)
abbrev m_X12_rowsNow : MT := (yX12_rowsNow, cX12_rowsNow, 3, (some .long))
theorem mo_X12_rowsNow : MtOk m_X12_rowsNow 2 := ⟨by decide +kernel, (tb7 130 (by decide +kernel) rfl), ⟨by decide +kernel, by decide +kernel⟩, by decide +kernel, by decide, (tb1 15 (by decide +kernel) rfl)⟩
theorem mi_X12_rowsNow : Cond.instanceMethod yX12_rowsNow ∈ BIG := (tb7 129 (by decide +kernel) rfl)
theorem mv_X12_rowsNow : Cond.selects (yX12_rowsNow).cls yX12_rowsNow yX12_rowsNow ∈ BIG := (tb0 66 (by decide +kernel) rfl)
abbrev m_X12_layFrom : MT := (yX12_layFrom, cX12_layFrom, 5, none)
theorem mo_X12_layFrom : MtOk m_X12_layFrom 1 := ⟨by decide +kernel, (tb7 122 (by decide +kernel) rfl), ⟨by decide +kernel, by decide +kernel⟩, by decide +kernel, by decide, (tb1 15 (by decide +kernel) rfl)⟩
theorem mi_X12_layFrom : Cond.instanceMethod yX12_layFrom ∈ BIG := (tb7 121 (by decide +kernel) rfl)
theorem mv_X12_layFrom : Cond.selects (yX12_layFrom).cls yX12_layFrom yX12_layFrom ∈ BIG := (tb0 64 (by decide +kernel) rfl)
abbrev m_X12_layAll : MT := (yX12_layAll, cX12_layAll, 2, none)
theorem mo_X12_layAll : MtOk m_X12_layAll 0 := ⟨by decide +kernel, (tb7 166 (by decide +kernel) rfl), ⟨by decide +kernel, by decide +kernel⟩, by decide +kernel, by decide, (tb1 15 (by decide +kernel) rfl)⟩
theorem mi_X12_layAll : Cond.instanceMethod yX12_layAll ∈ BIG := (tb7 165 (by decide +kernel) rfl)
theorem mv_X12_layAll : Cond.selects (yX12_layAll).cls yX12_layAll yX12_layAll ∈ BIG := (tb0 71 (by decide +kernel) rfl)
abbrev m_X12_ways : MT := (yX12_ways, cX12_ways, 3, (some .long))
theorem mo_X12_ways : MtOk m_X12_ways 2 := ⟨by decide +kernel, (tb7 117 (by decide +kernel) rfl), ⟨by decide +kernel, by decide +kernel⟩, by decide +kernel, by decide, (tb1 15 (by decide +kernel) rfl)⟩
theorem mi_X12_ways : Cond.instanceMethod yX12_ways ∈ BIG := (tb7 115 (by decide +kernel) rfl)
theorem mv_X12_ways : Cond.selects (yX12_ways).cls yX12_ways yX12_ways ∈ BIG := (tb7 116 (by decide +kernel) rfl)
abbrev m_X12_over : MT := (yX12_over, cX12_over, 6, (some .int))
theorem mo_X12_over : MtOk m_X12_over 3 := ⟨by decide +kernel, (tb7 134 (by decide +kernel) rfl), ⟨by decide +kernel, by decide +kernel⟩, by decide +kernel, by decide, (tb1 15 (by decide +kernel) rfl)⟩
theorem mi_X12_over : Cond.instanceMethod yX12_over ∈ BIG := (tb7 132 (by decide +kernel) rfl)
theorem mv_X12_over : Cond.selects (yX12_over).cls yX12_over yX12_over ∈ BIG := (tb7 133 (by decide +kernel) rfl)
abbrev m_X12_sumOf : MT := (yX12_sumOf, cX12_sumOf, 5, (some .int))
theorem mo_X12_sumOf : MtOk m_X12_sumOf 1 := ⟨by decide +kernel, (tb7 142 (by decide +kernel) rfl), ⟨by decide +kernel, by decide +kernel⟩, by decide +kernel, by decide, (tb1 15 (by decide +kernel) rfl)⟩
theorem mi_X12_sumOf : Cond.instanceMethod yX12_sumOf ∈ BIG := (tb7 141 (by decide +kernel) rfl)
theorem mv_X12_sumOf : Cond.selects (yX12_sumOf).cls yX12_sumOf yX12_sumOf ∈ BIG := (tb0 67 (by decide +kernel) rfl)
abbrev m_X12_cutBy : MT := (yX12_cutBy, cX12_cutBy, 4, (some .int))
theorem mo_X12_cutBy : MtOk m_X12_cutBy 1 := ⟨by decide +kernel, (tb7 150 (by decide +kernel) rfl), ⟨by decide +kernel, by decide +kernel⟩, by decide +kernel, by decide, (tb1 15 (by decide +kernel) rfl)⟩
theorem mi_X12_cutBy : Cond.instanceMethod yX12_cutBy ∈ BIG := (tb7 149 (by decide +kernel) rfl)
theorem mv_X12_cutBy : Cond.selects (yX12_cutBy).cls yX12_cutBy yX12_cutBy ∈ BIG := (tb0 69 (by decide +kernel) rfl)
abbrev m_X12_of : MT := (yX12_of, cX12_of, 3, (some .int))
theorem mo_X12_of : MtOk m_X12_of 2 := ⟨by decide +kernel, (tb7 138 (by decide +kernel) rfl), ⟨by decide +kernel, by decide +kernel⟩, by decide +kernel, by decide, (tb1 15 (by decide +kernel) rfl)⟩
theorem mi_X12_of : Cond.instanceMethod yX12_of ∈ BIG := (tb7 136 (by decide +kernel) rfl)
theorem mv_X12_of : Cond.selects (yX12_of).cls yX12_of yX12_of ∈ BIG := (tb7 137 (by decide +kernel) rfl)
abbrev m_X12_partsNow : MT := (yX12_partsNow, cX12_partsNow, 4, (some .int))
theorem mo_X12_partsNow : MtOk m_X12_partsNow 0 := ⟨by decide +kernel, (tb7 158 (by decide +kernel) rfl), ⟨by decide +kernel, by decide +kernel⟩, by decide +kernel, by decide, (tb1 15 (by decide +kernel) rfl)⟩
theorem mi_X12_partsNow : Cond.instanceMethod yX12_partsNow ∈ BIG := (tb7 157 (by decide +kernel) rfl)
theorem mv_X12_partsNow : Cond.selects (yX12_partsNow).cls yX12_partsNow yX12_partsNow ∈ BIG := (tb0 70 (by decide +kernel) rfl)
abbrev m_X12_all : MT := (yX12_all, cX12_all, 5, (some .int))
theorem mo_X12_all : MtOk m_X12_all 1 := ⟨by decide +kernel, (tb7 154 (by decide +kernel) rfl), ⟨by decide +kernel, by decide +kernel⟩, by decide +kernel, by decide, (tb1 15 (by decide +kernel) rfl)⟩
theorem mi_X12_all : Cond.instanceMethod yX12_all ∈ BIG := (tb7 152 (by decide +kernel) rfl)
theorem mv_X12_all : Cond.selects (yX12_all).cls yX12_all yX12_all ∈ BIG := (tb7 153 (by decide +kernel) rfl)
abbrev m_X12_goesBy : MT := (yX12_goesBy, cX12_goesBy, 5, (some .boolean))
theorem mo_X12_goesBy : MtOk m_X12_goesBy 4 := ⟨by decide +kernel, (tb7 170 (by decide +kernel) rfl), ⟨by decide +kernel, by decide +kernel⟩, by decide +kernel, by decide, (tb1 15 (by decide +kernel) rfl)⟩
theorem mi_X12_goesBy : Cond.instanceMethod yX12_goesBy ∈ BIG := (tb7 169 (by decide +kernel) rfl)
theorem mv_X12_goesBy : Cond.selects (yX12_goesBy).cls yX12_goesBy yX12_goesBy ∈ BIG := (tb0 72 (by decide +kernel) rfl)
abbrev m_X12_load : MT := (yX12_load, cX12_load, 6, (some .int))
theorem mo_X12_load : MtOk m_X12_load 2 := ⟨by decide +kernel, (tb7 162 (by decide +kernel) rfl), ⟨by decide +kernel, by decide +kernel⟩, by decide +kernel, by decide, (tb1 15 (by decide +kernel) rfl)⟩
theorem mi_X12_load : Cond.instanceMethod yX12_load ∈ BIG := (tb7 160 (by decide +kernel) rfl)
theorem mv_X12_load : Cond.selects (yX12_load).cls yX12_load yX12_load ∈ BIG := (tb7 161 (by decide +kernel) rfl)
abbrev m_X12_openAll : MT := (yX12_openAll, cX12_openAll, 3, none)
theorem mo_X12_openAll : MtOk m_X12_openAll 0 := ⟨by decide +kernel, (tb7 178 (by decide +kernel) rfl), ⟨by decide +kernel, by decide +kernel⟩, by decide +kernel, by decide, (tb1 15 (by decide +kernel) rfl)⟩
theorem mi_X12_openAll : Cond.instanceMethod yX12_openAll ∈ BIG := (tb7 177 (by decide +kernel) rfl)
theorem mv_X12_openAll : Cond.selects (yX12_openAll).cls yX12_openAll yX12_openAll ∈ BIG := (tb0 73 (by decide +kernel) rfl)
abbrev m_X12_oneMore : MT := (yX12_oneMore, cX12_oneMore, 6, (some .boolean))
theorem mo_X12_oneMore : MtOk m_X12_oneMore 2 := ⟨by decide +kernel, (tb7 182 (by decide +kernel) rfl), ⟨by decide +kernel, by decide +kernel⟩, by decide +kernel, by decide, (tb1 15 (by decide +kernel) rfl)⟩
theorem mi_X12_oneMore : Cond.instanceMethod yX12_oneMore ∈ BIG := (tb7 181 (by decide +kernel) rfl)
theorem mv_X12_oneMore : Cond.selects (yX12_oneMore).cls yX12_oneMore yX12_oneMore ∈ BIG := (tb0 74 (by decide +kernel) rfl)
abbrev m_X12_apart : MT := (yX12_apart, cX12_apart, 4, (some .int))
theorem mo_X12_apart : MtOk m_X12_apart 2 := ⟨by decide +kernel, (tb7 174 (by decide +kernel) rfl), ⟨by decide +kernel, by decide +kernel⟩, by decide +kernel, by decide, (tb1 15 (by decide +kernel) rfl)⟩
theorem mi_X12_apart : Cond.instanceMethod yX12_apart ∈ BIG := (tb7 172 (by decide +kernel) rfl)
theorem mv_X12_apart : Cond.selects (yX12_apart).cls yX12_apart yX12_apart ∈ BIG := (tb7 173 (by decide +kernel) rfl)
abbrev m_X12_areJoinedWithout : MT := (yX12_areJoinedWithout, cX12_areJoinedWithout, 3, (some .boolean))
theorem mo_X12_areJoinedWithout : MtOk m_X12_areJoinedWithout 1 := ⟨by decide +kernel, (tb7 194 (by decide +kernel) rfl), ⟨by decide +kernel, by decide +kernel⟩, by decide +kernel, by decide, (tb1 15 (by decide +kernel) rfl)⟩
theorem mi_X12_areJoinedWithout : Cond.instanceMethod yX12_areJoinedWithout ∈ BIG := (tb7 193 (by decide +kernel) rfl)
theorem mv_X12_areJoinedWithout : Cond.selects (yX12_areJoinedWithout).cls yX12_areJoinedWithout yX12_areJoinedWithout ∈ BIG := (tb0 76 (by decide +kernel) rfl)
abbrev m_X12_firstBreak : MT := (yX12_firstBreak, cX12_firstBreak, 6, (some .int))
theorem mo_X12_firstBreak : MtOk m_X12_firstBreak 3 := ⟨by decide +kernel, (tb7 190 (by decide +kernel) rfl), ⟨by decide +kernel, by decide +kernel⟩, by decide +kernel, by decide, (tb1 15 (by decide +kernel) rfl)⟩
theorem mi_X12_firstBreak : Cond.instanceMethod yX12_firstBreak ∈ BIG := (tb7 189 (by decide +kernel) rfl)
theorem mv_X12_firstBreak : Cond.selects (yX12_firstBreak).cls yX12_firstBreak yX12_firstBreak ∈ BIG := (tb0 75 (by decide +kernel) rfl)
abbrev m_X12_bears : MT := (yX12_bears, cX12_bears, 2, (some .int))
theorem mo_X12_bears : MtOk m_X12_bears 1 := ⟨by decide +kernel, (tb7 186 (by decide +kernel) rfl), ⟨by decide +kernel, by decide +kernel⟩, by decide +kernel, by decide, (tb1 15 (by decide +kernel) rfl)⟩
theorem mi_X12_bears : Cond.instanceMethod yX12_bears ∈ BIG := (tb7 184 (by decide +kernel) rfl)
theorem mv_X12_bears : Cond.selects (yX12_bears).cls yX12_bears yX12_bears ∈ BIG := (tb7 185 (by decide +kernel) rfl)
abbrev m_X12_broken : MT := (yX12_broken, cX12_broken, 2, (some .int))
theorem mo_X12_broken : MtOk m_X12_broken 1 := ⟨by decide +kernel, (tb7 202 (by decide +kernel) rfl), ⟨by decide +kernel, by decide +kernel⟩, by decide +kernel, by decide, (tb1 15 (by decide +kernel) rfl)⟩
theorem mi_X12_broken : Cond.instanceMethod yX12_broken ∈ BIG := (tb7 200 (by decide +kernel) rfl)
theorem mv_X12_broken : Cond.selects (yX12_broken).cls yX12_broken yX12_broken ∈ BIG := (tb7 201 (by decide +kernel) rfl)
abbrev m_X12_mend : MT := (yX12_mend, cX12_mend, 8, (some .int))
theorem mo_X12_mend : MtOk m_X12_mend 0 := ⟨by decide +kernel, (tb7 206 (by decide +kernel) rfl), ⟨by decide +kernel, by decide +kernel⟩, by decide +kernel, by decide, (tb1 15 (by decide +kernel) rfl)⟩
theorem mi_X12_mend : Cond.instanceMethod yX12_mend ∈ BIG := (tb7 204 (by decide +kernel) rfl)
theorem mv_X12_mend : Cond.selects (yX12_mend).cls yX12_mend yX12_mend ∈ BIG := (tb7 205 (by decide +kernel) rfl)
abbrev m_X12_need : MT := (yX12_need, cX12_need, 5, (some .boolean))
theorem mo_X12_need : MtOk m_X12_need 3 := ⟨by decide +kernel, (tb7 210 (by decide +kernel) rfl), ⟨by decide +kernel, by decide +kernel⟩, by decide +kernel, by decide, (tb1 15 (by decide +kernel) rfl)⟩
theorem mi_X12_need : Cond.instanceMethod yX12_need ∈ BIG := (tb7 208 (by decide +kernel) rfl)
theorem mv_X12_need : Cond.selects (yX12_need).cls yX12_need yX12_need ∈ BIG := (tb7 209 (by decide +kernel) rfl)
abbrev m_X12_valueOf : MT := (yX12_valueOf, cX12_valueOf, 6, (some .int))
theorem mo_X12_valueOf : MtOk m_X12_valueOf 1 := ⟨by decide +kernel, (tb7 218 (by decide +kernel) rfl), ⟨by decide +kernel, by decide +kernel⟩, by decide +kernel, by decide, (tb1 15 (by decide +kernel) rfl)⟩
theorem mi_X12_valueOf : Cond.instanceMethod yX12_valueOf ∈ BIG := (tb7 217 (by decide +kernel) rfl)
theorem mv_X12_valueOf : Cond.selects (yX12_valueOf).cls yX12_valueOf yX12_valueOf ∈ BIG := (tb0 77 (by decide +kernel) rfl)
abbrev m_X12_value : MT := (yX12_value, cX12_value, 2, (some .int))
theorem mo_X12_value : MtOk m_X12_value 1 := ⟨by decide +kernel, (tb7 214 (by decide +kernel) rfl), ⟨by decide +kernel, by decide +kernel⟩, by decide +kernel, by decide, (tb1 15 (by decide +kernel) rfl)⟩
theorem mi_X12_value : Cond.instanceMethod yX12_value ∈ BIG := (tb7 212 (by decide +kernel) rfl)
theorem mv_X12_value : Cond.selects (yX12_value).cls yX12_value yX12_value ∈ BIG := (tb7 213 (by decide +kernel) rfl)
abbrev m_X12_cost : MT := (yX12_cost, cX12_cost, 2, (some .boolean))
theorem mo_X12_cost : MtOk m_X12_cost 1 := ⟨by decide +kernel, (tb7 222 (by decide +kernel) rfl), ⟨by decide +kernel, by decide +kernel⟩, by decide +kernel, by decide, (tb1 15 (by decide +kernel) rfl)⟩
theorem mi_X12_cost : Cond.instanceMethod yX12_cost ∈ BIG := (tb7 220 (by decide +kernel) rfl)
theorem mv_X12_cost : Cond.selects (yX12_cost).cls yX12_cost yX12_cost ∈ BIG := (tb7 221 (by decide +kernel) rfl)
abbrev m_X12_mayDrop : MT := (yX12_mayDrop, cX12_mayDrop, 3, (some .boolean))
theorem mo_X12_mayDrop : MtOk m_X12_mayDrop 2 := ⟨by decide +kernel, (tb7 234 (by decide +kernel) rfl), ⟨by decide +kernel, by decide +kernel⟩, by decide +kernel, by decide, (tb1 15 (by decide +kernel) rfl)⟩
theorem mi_X12_mayDrop : Cond.instanceMethod yX12_mayDrop ∈ BIG := (tb7 233 (by decide +kernel) rfl)
theorem mv_X12_mayDrop : Cond.selects (yX12_mayDrop).cls yX12_mayDrop yX12_mayDrop ∈ BIG := (tb0 79 (by decide +kernel) rfl)
abbrev m_X12_canChange : MT := (yX12_canChange, cX12_canChange, 5, (some .boolean))
theorem mo_X12_canChange : MtOk m_X12_canChange 4 := ⟨by decide +kernel, (tb7 230 (by decide +kernel) rfl), ⟨by decide +kernel, by decide +kernel⟩, by decide +kernel, by decide, (tb1 15 (by decide +kernel) rfl)⟩
theorem mi_X12_canChange : Cond.instanceMethod yX12_canChange ∈ BIG := (tb7 229 (by decide +kernel) rfl)
theorem mv_X12_canChange : Cond.selects (yX12_canChange).cls yX12_canChange yX12_canChange ∈ BIG := (tb0 78 (by decide +kernel) rfl)
abbrev m_X12_doChange : MT := (yX12_doChange, cX12_doChange, 5, none)
theorem mo_X12_doChange : MtOk m_X12_doChange 4 := ⟨by decide +kernel, (tb8 3 (by decide +kernel) rfl), ⟨by decide +kernel, by decide +kernel⟩, by decide +kernel, by decide, (tb1 15 (by decide +kernel) rfl)⟩
theorem mi_X12_doChange : Cond.instanceMethod yX12_doChange ∈ BIG := (tb8 2 (by decide +kernel) rfl)
theorem mv_X12_doChange : Cond.selects (yX12_doChange).cls yX12_doChange yX12_doChange ∈ BIG := (tb0 81 (by decide +kernel) rfl)
abbrev m_X12_undoChange : MT := (yX12_undoChange, cX12_undoChange, 5, none)
theorem mo_X12_undoChange : MtOk m_X12_undoChange 4 := ⟨by decide +kernel, (tb8 7 (by decide +kernel) rfl), ⟨by decide +kernel, by decide +kernel⟩, by decide +kernel, by decide, (tb1 15 (by decide +kernel) rfl)⟩
theorem mi_X12_undoChange : Cond.instanceMethod yX12_undoChange ∈ BIG := (tb8 6 (by decide +kernel) rfl)
theorem mv_X12_undoChange : Cond.selects (yX12_undoChange).cls yX12_undoChange yX12_undoChange ∈ BIG := (tb0 82 (by decide +kernel) rfl)
abbrev m_X12_layGains : MT := (yX12_layGains, cX12_layGains, 7, none)
theorem mo_X12_layGains : MtOk m_X12_layGains 4 := ⟨by decide +kernel, (tb7 239 (by decide +kernel) rfl), ⟨by decide +kernel, by decide +kernel⟩, by decide +kernel, by decide, (tb1 15 (by decide +kernel) rfl)⟩
theorem mi_X12_layGains : Cond.instanceMethod yX12_layGains ∈ BIG := (tb7 238 (by decide +kernel) rfl)
theorem mv_X12_layGains : Cond.selects (yX12_layGains).cls yX12_layGains yX12_layGains ∈ BIG := (tb0 80 (by decide +kernel) rfl)
abbrev m_X12_gain : MT := (yX12_gain, cX12_gain, 6, (some .int))
theorem mo_X12_gain : MtOk m_X12_gain 5 := ⟨by decide +kernel, (tb7 226 (by decide +kernel) rfl), ⟨by decide +kernel, by decide +kernel⟩, by decide +kernel, by decide, (tb1 15 (by decide +kernel) rfl)⟩
theorem mi_X12_gain : Cond.instanceMethod yX12_gain ∈ BIG := (tb7 224 (by decide +kernel) rfl)
theorem mv_X12_gain : Cond.selects (yX12_gain).cls yX12_gain yX12_gain ∈ BIG := (tb7 225 (by decide +kernel) rfl)
abbrev m_X12_isWanted : MT := (yX12_isWanted, cX12_isWanted, 5, (some .boolean))
theorem mo_X12_isWanted : MtOk m_X12_isWanted 4 := ⟨by decide +kernel, (tb8 15 (by decide +kernel) rfl), ⟨by decide +kernel, by decide +kernel⟩, by decide +kernel, by decide, (tb1 15 (by decide +kernel) rfl)⟩
theorem mi_X12_isWanted : Cond.instanceMethod yX12_isWanted ∈ BIG := (tb8 14 (by decide +kernel) rfl)
theorem mv_X12_isWanted : Cond.selects (yX12_isWanted).cls yX12_isWanted yX12_isWanted ∈ BIG := (tb0 83 (by decide +kernel) rfl)
abbrev m_X12_change : MT := (yX12_change, cX12_change, 5, (some .boolean))
theorem mo_X12_change : MtOk m_X12_change 4 := ⟨by decide +kernel, (tb8 11 (by decide +kernel) rfl), ⟨by decide +kernel, by decide +kernel⟩, by decide +kernel, by decide, (tb1 15 (by decide +kernel) rfl)⟩
theorem mi_X12_change : Cond.instanceMethod yX12_change ∈ BIG := (tb8 9 (by decide +kernel) rfl)
theorem mv_X12_change : Cond.selects (yX12_change).cls yX12_change yX12_change ∈ BIG := (tb8 10 (by decide +kernel) rfl)
abbrev m_X12_hasNeeds : MT := (yX12_hasNeeds, cX12_hasNeeds, 3, (some .boolean))
theorem mo_X12_hasNeeds : MtOk m_X12_hasNeeds 1 := ⟨by decide +kernel, (tb8 27 (by decide +kernel) rfl), ⟨by decide +kernel, by decide +kernel⟩, by decide +kernel, by decide, (tb1 15 (by decide +kernel) rfl)⟩
theorem mi_X12_hasNeeds : Cond.instanceMethod yX12_hasNeeds ∈ BIG := (tb8 26 (by decide +kernel) rfl)
theorem mv_X12_hasNeeds : Cond.selects (yX12_hasNeeds).cls yX12_hasNeeds yX12_hasNeeds ∈ BIG := (tb0 85 (by decide +kernel) rfl)
abbrev m_X12_hasBest : MT := (yX12_hasBest, cX12_hasBest, 5, (some .boolean))
theorem mo_X12_hasBest : MtOk m_X12_hasBest 1 := ⟨by decide +kernel, (tb8 23 (by decide +kernel) rfl), ⟨by decide +kernel, by decide +kernel⟩, by decide +kernel, by decide, (tb1 15 (by decide +kernel) rfl)⟩
theorem mi_X12_hasBest : Cond.instanceMethod yX12_hasBest ∈ BIG := (tb8 22 (by decide +kernel) rfl)
theorem mv_X12_hasBest : Cond.selects (yX12_hasBest).cls yX12_hasBest yX12_hasBest ∈ BIG := (tb0 84 (by decide +kernel) rfl)
abbrev m_X12_best : MT := (yX12_best, cX12_best, 3, (some .int))
theorem mo_X12_best : MtOk m_X12_best 2 := ⟨by decide +kernel, (tb8 19 (by decide +kernel) rfl), ⟨by decide +kernel, by decide +kernel⟩, by decide +kernel, by decide, (tb1 15 (by decide +kernel) rfl)⟩
theorem mi_X12_best : Cond.instanceMethod yX12_best ∈ BIG := (tb8 17 (by decide +kernel) rfl)
theorem mv_X12_best : Cond.selects (yX12_best).cls yX12_best yX12_best ∈ BIG := (tb8 18 (by decide +kernel) rfl)
abbrev m_X12_turn : MT := (yX12_turn, cX12_turn, 5, (some .int))
theorem mo_X12_turn : MtOk m_X12_turn 0 := ⟨by decide +kernel, (tb8 31 (by decide +kernel) rfl), ⟨by decide +kernel, by decide +kernel⟩, by decide +kernel, by decide, (tb1 15 (by decide +kernel) rfl)⟩
theorem mi_X12_turn : Cond.instanceMethod yX12_turn ∈ BIG := (tb8 29 (by decide +kernel) rfl)
theorem mv_X12_turn : Cond.selects (yX12_turn).cls yX12_turn yX12_turn ∈ BIG := (tb8 30 (by decide +kernel) rfl)
abbrev m_X12_stable : MT := (yX12_stable, cX12_stable, 2, (some .boolean))
theorem mo_X12_stable : MtOk m_X12_stable 0 := ⟨by decide +kernel, (tb8 35 (by decide +kernel) rfl), ⟨by decide +kernel, by decide +kernel⟩, by decide +kernel, by decide, (tb1 15 (by decide +kernel) rfl)⟩
theorem mi_X12_stable : Cond.instanceMethod yX12_stable ∈ BIG := (tb8 33 (by decide +kernel) rfl)
theorem mv_X12_stable : Cond.selects (yX12_stable).cls yX12_stable yX12_stable ∈ BIG := (tb8 34 (by decide +kernel) rfl)
abbrev m_X12_isRule : MT := (yX12_isRule, cX12_isRule, 2, (some .boolean))
theorem mo_X12_isRule : MtOk m_X12_isRule 1 := ⟨by decide +kernel, (tb8 43 (by decide +kernel) rfl), ⟨by decide +kernel, by decide +kernel⟩, by decide +kernel, by decide, (tb1 15 (by decide +kernel) rfl)⟩
theorem mi_X12_isRule : Cond.instanceMethod yX12_isRule ∈ BIG := (tb8 42 (by decide +kernel) rfl)
theorem mv_X12_isRule : Cond.selects (yX12_isRule).cls yX12_isRule yX12_isRule ∈ BIG := (tb0 86 (by decide +kernel) rfl)
abbrev m_X12_clearLetters : MT := (yX12_clearLetters, cX12_clearLetters, 2, none)
theorem mo_X12_clearLetters : MtOk m_X12_clearLetters 0 := ⟨by decide +kernel, (tb8 55 (by decide +kernel) rfl), ⟨by decide +kernel, by decide +kernel⟩, by decide +kernel, by decide, (tb1 15 (by decide +kernel) rfl)⟩
theorem mi_X12_clearLetters : Cond.instanceMethod yX12_clearLetters ∈ BIG := (tb8 54 (by decide +kernel) rfl)
theorem mv_X12_clearLetters : Cond.selects (yX12_clearLetters).cls yX12_clearLetters yX12_clearLetters ∈ BIG := (tb0 89 (by decide +kernel) rfl)
abbrev m_X12_worthBy : MT := (yX12_worthBy, cX12_worthBy, 2, (some .int))
theorem mo_X12_worthBy : MtOk m_X12_worthBy 1 := ⟨by decide +kernel, (tb8 60 (by decide +kernel) rfl), ⟨by decide +kernel, by decide +kernel⟩, by decide +kernel, by decide, (tb1 15 (by decide +kernel) rfl)⟩
theorem mi_X12_worthBy : Cond.instanceMethod yX12_worthBy ∈ BIG := (tb8 59 (by decide +kernel) rfl)
theorem mv_X12_worthBy : Cond.selects (yX12_worthBy).cls yX12_worthBy yX12_worthBy ∈ BIG := (tb0 90 (by decide +kernel) rfl)
abbrev m_X12_givesTo : MT := (yX12_givesTo, cX12_givesTo, 8, (some .int))
theorem mo_X12_givesTo : MtOk m_X12_givesTo 3 := ⟨by decide +kernel, (tb8 51 (by decide +kernel) rfl), ⟨by decide +kernel, by decide +kernel⟩, by decide +kernel, by decide, (tb1 15 (by decide +kernel) rfl)⟩
theorem mi_X12_givesTo : Cond.instanceMethod yX12_givesTo ∈ BIG := (tb8 50 (by decide +kernel) rfl)
theorem mv_X12_givesTo : Cond.selects (yX12_givesTo).cls yX12_givesTo yX12_givesTo ∈ BIG := (tb0 88 (by decide +kernel) rfl)
abbrev m_X12_goes : MT := (yX12_goes, cX12_goes, 5, (some .boolean))
theorem mo_X12_goes : MtOk m_X12_goes 3 := ⟨by decide +kernel, (tb8 47 (by decide +kernel) rfl), ⟨by decide +kernel, by decide +kernel⟩, by decide +kernel, by decide, (tb1 15 (by decide +kernel) rfl)⟩
theorem mi_X12_goes : Cond.instanceMethod yX12_goes ∈ BIG := (tb8 46 (by decide +kernel) rfl)
theorem mv_X12_goes : Cond.selects (yX12_goes).cls yX12_goes yX12_goes ∈ BIG := (tb0 87 (by decide +kernel) rfl)
abbrev m_X12_send : MT := (yX12_send, cX12_send, 6, (some .int))
theorem mo_X12_send : MtOk m_X12_send 4 := ⟨by decide +kernel, (tb8 39 (by decide +kernel) rfl), ⟨by decide +kernel, by decide +kernel⟩, by decide +kernel, by decide, (tb1 15 (by decide +kernel) rfl)⟩
theorem mi_X12_send : Cond.instanceMethod yX12_send ∈ BIG := (tb8 37 (by decide +kernel) rfl)
theorem mv_X12_send : Cond.selects (yX12_send).cls yX12_send yX12_send ∈ BIG := (tb8 38 (by decide +kernel) rfl)
abbrev m_X12_comes : MT := (yX12_comes, cX12_comes, 6, (some .int))
theorem mo_X12_comes : MtOk m_X12_comes 2 := ⟨by decide +kernel, (tb8 64 (by decide +kernel) rfl), ⟨by decide +kernel, by decide +kernel⟩, by decide +kernel, by decide, (tb1 15 (by decide +kernel) rfl)⟩
theorem mi_X12_comes : Cond.instanceMethod yX12_comes ∈ BIG := (tb8 62 (by decide +kernel) rfl)
theorem mv_X12_comes : Cond.selects (yX12_comes).cls yX12_comes yX12_comes ∈ BIG := (tb8 63 (by decide +kernel) rfl)
abbrev m_X12_draw : MT := (yX12_draw, cX12_draw, 1, (some .int))
theorem mo_X12_draw : MtOk m_X12_draw 0 := ⟨by decide +kernel, (tb8 72 (by decide +kernel) rfl), ⟨by decide +kernel, by decide +kernel⟩, by decide +kernel, by decide, (tb1 15 (by decide +kernel) rfl)⟩
theorem mi_X12_draw : Cond.instanceMethod yX12_draw ∈ BIG := (tb8 71 (by decide +kernel) rfl)
theorem mv_X12_draw : Cond.selects (yX12_draw).cls yX12_draw yX12_draw ∈ BIG := (tb0 91 (by decide +kernel) rfl)
abbrev m_X12_worthTo : MT := (yX12_worthTo, cX12_worthTo, 5, (some .int))
theorem mo_X12_worthTo : MtOk m_X12_worthTo 3 := ⟨by decide +kernel, (tb8 83 (by decide +kernel) rfl), ⟨by decide +kernel, by decide +kernel⟩, by decide +kernel, by decide, (tb1 15 (by decide +kernel) rfl)⟩
theorem mi_X12_worthTo : Cond.instanceMethod yX12_worthTo ∈ BIG := (tb8 82 (by decide +kernel) rfl)
theorem mv_X12_worthTo : Cond.selects (yX12_worthTo).cls yX12_worthTo yX12_worthTo ∈ BIG := (tb0 93 (by decide +kernel) rfl)
abbrev m_X12_looks : MT := (yX12_looks, cX12_looks, 9, none)
theorem mo_X12_looks : MtOk m_X12_looks 2 := ⟨by decide +kernel, (tb8 79 (by decide +kernel) rfl), ⟨by decide +kernel, by decide +kernel⟩, by decide +kernel, by decide, (tb1 15 (by decide +kernel) rfl)⟩
theorem mi_X12_looks : Cond.instanceMethod yX12_looks ∈ BIG := (tb8 78 (by decide +kernel) rfl)
theorem mv_X12_looks : Cond.selects (yX12_looks).cls yX12_looks yX12_looks ∈ BIG := (tb0 92 (by decide +kernel) rfl)
abbrev m_X12_years : MT := (yX12_years, cX12_years, 10, (some .int))
theorem mo_X12_years : MtOk m_X12_years 4 := ⟨by decide +kernel, (tb8 68 (by decide +kernel) rfl), ⟨by decide +kernel, by decide +kernel⟩, by decide +kernel, by decide, (tb1 15 (by decide +kernel) rfl)⟩
theorem mi_X12_years : Cond.instanceMethod yX12_years ∈ BIG := (tb8 66 (by decide +kernel) rfl)
theorem mv_X12_years : Cond.selects (yX12_years).cls yX12_years yX12_years ∈ BIG := (tb8 67 (by decide +kernel) rfl)
abbrev m_X12_areJumps : MT := (yX12_areJumps, cX12_areJumps, 2, (some .boolean))
theorem mo_X12_areJumps : MtOk m_X12_areJumps 1 := ⟨by decide +kernel, (tb8 91 (by decide +kernel) rfl), ⟨by decide +kernel, by decide +kernel⟩, by decide +kernel, by decide, (tb1 15 (by decide +kernel) rfl)⟩
theorem mi_X12_areJumps : Cond.instanceMethod yX12_areJumps ∈ BIG := (tb8 90 (by decide +kernel) rfl)
theorem mv_X12_areJumps : Cond.selects (yX12_areJumps).cls yX12_areJumps yX12_areJumps ∈ BIG := (tb0 94 (by decide +kernel) rfl)
abbrev m_X12_ringOf : MT := (yX12_ringOf, cX12_ringOf, 4, (some .int))
theorem mo_X12_ringOf : MtOk m_X12_ringOf 1 := ⟨by decide +kernel, (tb8 95 (by decide +kernel) rfl), ⟨by decide +kernel, by decide +kernel⟩, by decide +kernel, by decide, (tb1 15 (by decide +kernel) rfl)⟩
theorem mi_X12_ringOf : Cond.instanceMethod yX12_ringOf ∈ BIG := (tb8 94 (by decide +kernel) rfl)
theorem mv_X12_ringOf : Cond.selects (yX12_ringOf).cls yX12_ringOf yX12_ringOf ∈ BIG := (tb0 95 (by decide +kernel) rfl)
abbrev m_X12_ring : MT := (yX12_ring, cX12_ring, 4, (some .int))
theorem mo_X12_ring : MtOk m_X12_ring 1 := ⟨by decide +kernel, (tb8 87 (by decide +kernel) rfl), ⟨by decide +kernel, by decide +kernel⟩, by decide +kernel, by decide, (tb1 15 (by decide +kernel) rfl)⟩
theorem mi_X12_ring : Cond.instanceMethod yX12_ring ∈ BIG := (tb8 85 (by decide +kernel) rfl)
theorem mv_X12_ring : Cond.selects (yX12_ring).cls yX12_ring yX12_ring ∈ BIG := (tb8 86 (by decide +kernel) rfl)
abbrev m_X12_layRing : MT := (yX12_layRing, cX12_layRing, 4, none)
theorem mo_X12_layRing : MtOk m_X12_layRing 1 := ⟨by decide +kernel, (tb8 99 (by decide +kernel) rfl), ⟨by decide +kernel, by decide +kernel⟩, by decide +kernel, by decide, (tb1 15 (by decide +kernel) rfl)⟩
theorem mi_X12_layRing : Cond.instanceMethod yX12_layRing ∈ BIG := (tb8 98 (by decide +kernel) rfl)
theorem mv_X12_layRing : Cond.selects (yX12_layRing).cls yX12_layRing yX12_layRing ∈ BIG := (tb0 96 (by decide +kernel) rfl)
abbrev m_X12_fine : MT := (yX12_fine, cX12_fine, 7, (some .int))
theorem mo_X12_fine : MtOk m_X12_fine 2 := ⟨by decide +kernel, (tb8 103 (by decide +kernel) rfl), ⟨by decide +kernel, by decide +kernel⟩, by decide +kernel, by decide, (tb1 15 (by decide +kernel) rfl)⟩
theorem mi_X12_fine : Cond.instanceMethod yX12_fine ∈ BIG := (tb8 101 (by decide +kernel) rfl)
theorem mv_X12_fine : Cond.selects (yX12_fine).cls yX12_fine yX12_fine ∈ BIG := (tb8 102 (by decide +kernel) rfl)
abbrev m_X12_bound : MT := (yX12_bound, cX12_bound, 7, (some .int))
theorem mo_X12_bound : MtOk m_X12_bound 1 := ⟨by decide +kernel, (tb8 107 (by decide +kernel) rfl), ⟨by decide +kernel, by decide +kernel⟩, by decide +kernel, by decide, (tb1 15 (by decide +kernel) rfl)⟩
theorem mi_X12_bound : Cond.instanceMethod yX12_bound ∈ BIG := (tb8 105 (by decide +kernel) rfl)
theorem mv_X12_bound : Cond.selects (yX12_bound).cls yX12_bound yX12_bound ∈ BIG := (tb8 106 (by decide +kernel) rfl)
abbrev m_X12_image : MT := (yX12_image, cX12_image, 2, (some .int))
theorem mo_X12_image : MtOk m_X12_image 0 := ⟨by decide +kernel, (tb8 111 (by decide +kernel) rfl), ⟨by decide +kernel, by decide +kernel⟩, by decide +kernel, by decide, (tb1 15 (by decide +kernel) rfl)⟩
theorem mi_X12_image : Cond.instanceMethod yX12_image ∈ BIG := (tb8 109 (by decide +kernel) rfl)
theorem mv_X12_image : Cond.selects (yX12_image).cls yX12_image yX12_image ∈ BIG := (tb8 110 (by decide +kernel) rfl)
abbrev m_X12_back : MT := (yX12_back, cX12_back, 2, (some .int))
theorem mo_X12_back : MtOk m_X12_back 0 := ⟨by decide +kernel, (tb8 115 (by decide +kernel) rfl), ⟨by decide +kernel, by decide +kernel⟩, by decide +kernel, by decide, (tb1 15 (by decide +kernel) rfl)⟩
theorem mi_X12_back : Cond.instanceMethod yX12_back ∈ BIG := (tb8 113 (by decide +kernel) rfl)
theorem mv_X12_back : Cond.selects (yX12_back).cls yX12_back yX12_back ∈ BIG := (tb8 114 (by decide +kernel) rfl)
abbrev m_X12_isBetter : MT := (yX12_isBetter, cX12_isBetter, 6, (some .boolean))
theorem mo_X12_isBetter : MtOk m_X12_isBetter 3 := ⟨by decide +kernel, (tb8 122 (by decide +kernel) rfl), ⟨by decide +kernel, by decide +kernel⟩, by decide +kernel, by decide, (tb1 15 (by decide +kernel) rfl)⟩
theorem mz_X12_isBetter : Cond.static yX12_isBetter ∈ BIG := (tb8 121 (by decide +kernel) rfl)
abbrev m_X12_isSet : MT := (yX12_isSet, cX12_isSet, 5, (some .boolean))
theorem mo_X12_isSet : MtOk m_X12_isSet 2 := ⟨by decide +kernel, (tb8 126 (by decide +kernel) rfl), ⟨by decide +kernel, by decide +kernel⟩, by decide +kernel, by decide, (tb1 15 (by decide +kernel) rfl)⟩
theorem mi_X12_isSet : Cond.instanceMethod yX12_isSet ∈ BIG := (tb8 125 (by decide +kernel) rfl)
theorem mv_X12_isSet : Cond.selects (yX12_isSet).cls yX12_isSet yX12_isSet ∈ BIG := (tb0 97 (by decide +kernel) rfl)
abbrev m_X12_set : MT := (yX12_set, cX12_set, 4, (some .int))
theorem mo_X12_set : MtOk m_X12_set 1 := ⟨by decide +kernel, (tb8 119 (by decide +kernel) rfl), ⟨by decide +kernel, by decide +kernel⟩, by decide +kernel, by decide, (tb1 15 (by decide +kernel) rfl)⟩
theorem mi_X12_set : Cond.instanceMethod yX12_set ∈ BIG := (tb8 117 (by decide +kernel) rfl)
theorem mv_X12_set : Cond.selects (yX12_set).cls yX12_set yX12_set ∈ BIG := (tb8 118 (by decide +kernel) rfl)
abbrev m_X12_areSome : MT := (yX12_areSome, cX12_areSome, 2, (some .boolean))
theorem mo_X12_areSome : MtOk m_X12_areSome 1 := ⟨by decide +kernel, (tb8 134 (by decide +kernel) rfl), ⟨by decide +kernel, by decide +kernel⟩, by decide +kernel, by decide, (tb1 15 (by decide +kernel) rfl)⟩
theorem mi_X12_areSome : Cond.instanceMethod yX12_areSome ∈ BIG := (tb8 133 (by decide +kernel) rfl)
theorem mv_X12_areSome : Cond.selects (yX12_areSome).cls yX12_areSome yX12_areSome ∈ BIG := (tb0 98 (by decide +kernel) rfl)
abbrev m_X12_word : MT := (yX12_word, cX12_word, 5, (some .int))
theorem mo_X12_word : MtOk m_X12_word 2 := ⟨by decide +kernel, (tb8 130 (by decide +kernel) rfl), ⟨by decide +kernel, by decide +kernel⟩, by decide +kernel, by decide, (tb1 15 (by decide +kernel) rfl)⟩
theorem mi_X12_word : Cond.instanceMethod yX12_word ∈ BIG := (tb8 128 (by decide +kernel) rfl)
theorem mv_X12_word : Cond.selects (yX12_word).cls yX12_word yX12_word ∈ BIG := (tb8 129 (by decide +kernel) rfl)
abbrev m_X12_outFrom : MT := (yX12_outFrom, cX12_outFrom, 5, (some .int))
theorem mo_X12_outFrom : MtOk m_X12_outFrom 1 := ⟨by decide +kernel, (tb8 142 (by decide +kernel) rfl), ⟨by decide +kernel, by decide +kernel⟩, by decide +kernel, by decide, (tb1 15 (by decide +kernel) rfl)⟩
theorem mi_X12_outFrom : Cond.instanceMethod yX12_outFrom ∈ BIG := (tb8 141 (by decide +kernel) rfl)
theorem mv_X12_outFrom : Cond.selects (yX12_outFrom).cls yX12_outFrom yX12_outFrom ∈ BIG := (tb0 99 (by decide +kernel) rfl)
abbrev m_X12_out : MT := (yX12_out, cX12_out, 2, (some .int))
theorem mo_X12_out : MtOk m_X12_out 1 := ⟨by decide +kernel, (tb8 138 (by decide +kernel) rfl), ⟨by decide +kernel, by decide +kernel⟩, by decide +kernel, by decide, (tb1 15 (by decide +kernel) rfl)⟩
theorem mi_X12_out : Cond.instanceMethod yX12_out ∈ BIG := (tb8 136 (by decide +kernel) rfl)
theorem mv_X12_out : Cond.selects (yX12_out).cls yX12_out yX12_out ∈ BIG := (tb8 137 (by decide +kernel) rfl)
abbrev m_X12_heardFrom : MT := (yX12_heardFrom, cX12_heardFrom, 4, (some .int))
theorem mo_X12_heardFrom : MtOk m_X12_heardFrom 1 := ⟨by decide +kernel, (tb8 150 (by decide +kernel) rfl), ⟨by decide +kernel, by decide +kernel⟩, by decide +kernel, by decide, (tb1 15 (by decide +kernel) rfl)⟩
theorem mi_X12_heardFrom : Cond.instanceMethod yX12_heardFrom ∈ BIG := (tb8 149 (by decide +kernel) rfl)
theorem mv_X12_heardFrom : Cond.selects (yX12_heardFrom).cls yX12_heardFrom yX12_heardFrom ∈ BIG := (tb0 100 (by decide +kernel) rfl)
abbrev m_X12_begin : MT := (yX12_begin, cX12_begin, 9, (some .int))
theorem mo_X12_begin : MtOk m_X12_begin 1 := ⟨by decide +kernel, (tb8 146 (by decide +kernel) rfl), ⟨by decide +kernel, by decide +kernel⟩, by decide +kernel, by decide, (tb1 15 (by decide +kernel) rfl)⟩
theorem mi_X12_begin : Cond.instanceMethod yX12_begin ∈ BIG := (tb8 144 (by decide +kernel) rfl)
theorem mv_X12_begin : Cond.selects (yX12_begin).cls yX12_begin yX12_begin ∈ BIG := (tb8 145 (by decide +kernel) rfl)
abbrev m_X12_commonOf : MT := (yX12_commonOf, cX12_commonOf, 3, (some .int))
theorem mo_X12_commonOf : MtOk m_X12_commonOf 2 := ⟨by decide +kernel, (tb8 158 (by decide +kernel) rfl), ⟨by decide +kernel, by decide +kernel⟩, by decide +kernel, by decide, (tb1 15 (by decide +kernel) rfl)⟩
theorem mi_X12_commonOf : Cond.instanceMethod yX12_commonOf ∈ BIG := (tb8 157 (by decide +kernel) rfl)
theorem mv_X12_commonOf : Cond.selects (yX12_commonOf).cls yX12_commonOf yX12_commonOf ∈ BIG := (tb0 101 (by decide +kernel) rfl)
abbrev m_X12_common : MT := (yX12_common, cX12_common, 3, (some .int))
theorem mo_X12_common : MtOk m_X12_common 2 := ⟨by decide +kernel, (tb8 154 (by decide +kernel) rfl), ⟨by decide +kernel, by decide +kernel⟩, by decide +kernel, by decide, (tb1 15 (by decide +kernel) rfl)⟩
theorem mi_X12_common : Cond.instanceMethod yX12_common ∈ BIG := (tb8 152 (by decide +kernel) rfl)
theorem mv_X12_common : Cond.selects (yX12_common).cls yX12_common yX12_common ∈ BIG := (tb8 153 (by decide +kernel) rfl)
abbrev m_X12_likely : MT := (yX12_likely, cX12_likely, 5, (some .int))
theorem mo_X12_likely : MtOk m_X12_likely 0 := ⟨by decide +kernel, (tb8 162 (by decide +kernel) rfl), ⟨by decide +kernel, by decide +kernel⟩, by decide +kernel, by decide, (tb1 15 (by decide +kernel) rfl)⟩
theorem mi_X12_likely : Cond.instanceMethod yX12_likely ∈ BIG := (tb8 160 (by decide +kernel) rfl)
theorem mv_X12_likely : Cond.selects (yX12_likely).cls yX12_likely yX12_likely ∈ BIG := (tb8 161 (by decide +kernel) rfl)
abbrev m_X12_threesOf : MT := (yX12_threesOf, cX12_threesOf, 6, (some .int))
theorem mo_X12_threesOf : MtOk m_X12_threesOf 1 := ⟨by decide +kernel, (tb8 170 (by decide +kernel) rfl), ⟨by decide +kernel, by decide +kernel⟩, by decide +kernel, by decide, (tb1 15 (by decide +kernel) rfl)⟩
theorem mi_X12_threesOf : Cond.instanceMethod yX12_threesOf ∈ BIG := (tb8 169 (by decide +kernel) rfl)
theorem mv_X12_threesOf : Cond.selects (yX12_threesOf).cls yX12_threesOf yX12_threesOf ∈ BIG := (tb0 102 (by decide +kernel) rfl)
abbrev m_X12_threes : MT := (yX12_threes, cX12_threes, 4, (some .int))
theorem mo_X12_threes : MtOk m_X12_threes 1 := ⟨by decide +kernel, (tb8 166 (by decide +kernel) rfl), ⟨by decide +kernel, by decide +kernel⟩, by decide +kernel, by decide, (tb1 15 (by decide +kernel) rfl)⟩
theorem mi_X12_threes : Cond.instanceMethod yX12_threes ∈ BIG := (tb8 164 (by decide +kernel) rfl)
theorem mv_X12_threes : Cond.selects (yX12_threes).cls yX12_threes yX12_threes ∈ BIG := (tb8 165 (by decide +kernel) rfl)
abbrev m_X12_farsOfOthers : MT := (yX12_farsOfOthers, cX12_farsOfOthers, 8, (some .int))
theorem mo_X12_farsOfOthers : MtOk m_X12_farsOfOthers 2 := ⟨by decide +kernel, (tb8 178 (by decide +kernel) rfl), ⟨by decide +kernel, by decide +kernel⟩, by decide +kernel, by decide, (tb1 15 (by decide +kernel) rfl)⟩
theorem mi_X12_farsOfOthers : Cond.instanceMethod yX12_farsOfOthers ∈ BIG := (tb8 177 (by decide +kernel) rfl)
theorem mv_X12_farsOfOthers : Cond.selects (yX12_farsOfOthers).cls yX12_farsOfOthers yX12_farsOfOthers ∈ BIG := (tb0 103 (by decide +kernel) rfl)
abbrev m_X12_courier : MT := (yX12_courier, cX12_courier, 6, (some .int))
theorem mo_X12_courier : MtOk m_X12_courier 1 := ⟨by decide +kernel, (tb8 174 (by decide +kernel) rfl), ⟨by decide +kernel, by decide +kernel⟩, by decide +kernel, by decide, (tb1 15 (by decide +kernel) rfl)⟩
theorem mi_X12_courier : Cond.instanceMethod yX12_courier ∈ BIG := (tb8 172 (by decide +kernel) rfl)
theorem mv_X12_courier : Cond.selects (yX12_courier).cls yX12_courier yX12_courier ∈ BIG := (tb8 173 (by decide +kernel) rfl)
abbrev m_X12_sumOfAll : MT := (yX12_sumOfAll, cX12_sumOfAll, 3, (some .int))
theorem mo_X12_sumOfAll : MtOk m_X12_sumOfAll 0 := ⟨by decide +kernel, (tb8 190 (by decide +kernel) rfl), ⟨by decide +kernel, by decide +kernel⟩, by decide +kernel, by decide, (tb1 15 (by decide +kernel) rfl)⟩
theorem mi_X12_sumOfAll : Cond.instanceMethod yX12_sumOfAll ∈ BIG := (tb8 189 (by decide +kernel) rfl)
theorem mv_X12_sumOfAll : Cond.selects (yX12_sumOfAll).cls yX12_sumOfAll yX12_sumOfAll ∈ BIG := (tb0 105 (by decide +kernel) rfl)
abbrev m_X12_lossOf : MT := (yX12_lossOf, cX12_lossOf, 5, (some .int))
theorem mo_X12_lossOf : MtOk m_X12_lossOf 2 := ⟨by decide +kernel, (tb8 186 (by decide +kernel) rfl), ⟨by decide +kernel, by decide +kernel⟩, by decide +kernel, by decide, (tb1 15 (by decide +kernel) rfl)⟩
theorem mi_X12_lossOf : Cond.instanceMethod yX12_lossOf ∈ BIG := (tb8 185 (by decide +kernel) rfl)
theorem mv_X12_lossOf : Cond.selects (yX12_lossOf).cls yX12_lossOf yX12_lossOf ∈ BIG := (tb0 104 (by decide +kernel) rfl)
abbrev m_X12_loss : MT := (yX12_loss, cX12_loss, 3, (some .int))
theorem mo_X12_loss : MtOk m_X12_loss 2 := ⟨by decide +kernel, (tb8 182 (by decide +kernel) rfl), ⟨by decide +kernel, by decide +kernel⟩, by decide +kernel, by decide, (tb1 15 (by decide +kernel) rfl)⟩
theorem mi_X12_loss : Cond.instanceMethod yX12_loss ∈ BIG := (tb8 180 (by decide +kernel) rfl)
theorem mv_X12_loss : Cond.selects (yX12_loss).cls yX12_loss yX12_loss ∈ BIG := (tb8 181 (by decide +kernel) rfl)
abbrev m_X12_giftOf : MT := (yX12_giftOf, cX12_giftOf, 5, (some .int))
theorem mo_X12_giftOf : MtOk m_X12_giftOf 2 := ⟨by decide +kernel, (tb8 198 (by decide +kernel) rfl), ⟨by decide +kernel, by decide +kernel⟩, by decide +kernel, by decide, (tb1 15 (by decide +kernel) rfl)⟩
theorem mi_X12_giftOf : Cond.instanceMethod yX12_giftOf ∈ BIG := (tb8 197 (by decide +kernel) rfl)
theorem mv_X12_giftOf : Cond.selects (yX12_giftOf).cls yX12_giftOf yX12_giftOf ∈ BIG := (tb0 106 (by decide +kernel) rfl)
abbrev m_X12_dear : MT := (yX12_dear, cX12_dear, 8, (some .int))
theorem mo_X12_dear : MtOk m_X12_dear 1 := ⟨by decide +kernel, (tb8 194 (by decide +kernel) rfl), ⟨by decide +kernel, by decide +kernel⟩, by decide +kernel, by decide, (tb1 15 (by decide +kernel) rfl)⟩
theorem mi_X12_dear : Cond.instanceMethod yX12_dear ∈ BIG := (tb8 192 (by decide +kernel) rfl)
theorem mv_X12_dear : Cond.selects (yX12_dear).cls yX12_dear yX12_dear ∈ BIG := (tb8 193 (by decide +kernel) rfl)
abbrev m_X12_count : MT := (yX12_count, cX12_count, 2, (some .int))
theorem mo_X12_count : MtOk m_X12_count 1 := ⟨by decide +kernel, (tb8 202 (by decide +kernel) rfl), ⟨by decide +kernel, by decide +kernel⟩, by decide +kernel, by decide, (tb1 15 (by decide +kernel) rfl)⟩
theorem mi_X12_count : Cond.instanceMethod yX12_count ∈ BIG := (tb8 200 (by decide +kernel) rfl)
theorem mv_X12_count : Cond.selects (yX12_count).cls yX12_count yX12_count ∈ BIG := (tb8 201 (by decide +kernel) rfl)
abbrev m_J11_isValidCodePoint_9a6ad : MT := (yJ11_isValidCodePoint_9a6ad, cJ11_isValidCodePoint_9a6ad, 2, (some .boolean))
theorem mo_J11_isValidCodePoint_9a6ad : MtOk m_J11_isValidCodePoint_9a6ad 1 := ⟨by decide +kernel, (tb3 39 (by decide +kernel) rfl), ⟨by decide +kernel, by decide +kernel⟩, by decide +kernel, by decide, (tb1 21 (by decide +kernel) rfl)⟩
theorem mz_J11_isValidCodePoint_9a6ad : Cond.static yJ11_isValidCodePoint_9a6ad ∈ BIG := (tb3 38 (by decide +kernel) rfl)
abbrev m_J11_highSurrogate_5068e : MT := (yJ11_highSurrogate_5068e, cJ11_highSurrogate_5068e, 1, (some .char))
theorem mo_J11_highSurrogate_5068e : MtOk m_J11_highSurrogate_5068e 1 := ⟨by decide +kernel, (tb3 42 (by decide +kernel) rfl), ⟨by decide +kernel, by decide +kernel⟩, by decide +kernel, by decide, (tb1 21 (by decide +kernel) rfl)⟩
theorem mz_J11_highSurrogate_5068e : Cond.static yJ11_highSurrogate_5068e ∈ BIG := (tb3 41 (by decide +kernel) rfl)
abbrev m_J11_lowSurrogate_5068e : MT := (yJ11_lowSurrogate_5068e, cJ11_lowSurrogate_5068e, 1, (some .char))
theorem mo_J11_lowSurrogate_5068e : MtOk m_J11_lowSurrogate_5068e 1 := ⟨by decide +kernel, (tb3 46 (by decide +kernel) rfl), ⟨by decide +kernel, by decide +kernel⟩, by decide +kernel, by decide, (tb1 21 (by decide +kernel) rfl)⟩
theorem mz_J11_lowSurrogate_5068e : Cond.static yJ11_lowSurrogate_5068e ∈ BIG := (tb3 45 (by decide +kernel) rfl)
abbrev m_J6_numberOfTrailingZeros_0f7a4 : MT := (yJ6_numberOfTrailingZeros_0f7a4, cJ6_numberOfTrailingZeros_0f7a4, 2, (some .int))
theorem mo_J6_numberOfTrailingZeros_0f7a4 : MtOk m_J6_numberOfTrailingZeros_0f7a4 1 := ⟨by decide +kernel, (tb7 197 (by decide +kernel) rfl), ⟨by decide +kernel, by decide +kernel⟩, by decide +kernel, by decide, (tb1 16 (by decide +kernel) rfl)⟩
theorem mz_J6_numberOfTrailingZeros_0f7a4 : Cond.static yJ6_numberOfTrailingZeros_0f7a4 ∈ BIG := (tb7 196 (by decide +kernel) rfl)
abbrev m_J6_bitCount_0f7a4 : MT := (yJ6_bitCount_0f7a4, cJ6_bitCount_0f7a4, 1, (some .int))
theorem mo_J6_bitCount_0f7a4 : MtOk m_J6_bitCount_0f7a4 1 := ⟨by decide +kernel, (tb2 168 (by decide +kernel) rfl), ⟨by decide +kernel, by decide +kernel⟩, by decide +kernel, by decide, (tb1 16 (by decide +kernel) rfl)⟩
theorem mz_J6_bitCount_0f7a4 : Cond.static yJ6_bitCount_0f7a4 ∈ BIG := (tb2 167 (by decide +kernel) rfl)
abbrev m_J0_length_8abf5 : MT := (yJ0_length_8abf5, cJ0_length_8abf5, 1, (some .int))
theorem mo_J0_length_8abf5 : MtOk m_J0_length_8abf5 0 := ⟨by decide +kernel, (tb2 223 (by decide +kernel) rfl), ⟨by decide +kernel, by decide +kernel⟩, by decide +kernel, by decide, (tb1 17 (by decide +kernel) rfl)⟩
theorem mi_J0_length_8abf5 : Cond.instanceMethod yJ0_length_8abf5 ∈ BIG := (tb2 221 (by decide +kernel) rfl)
theorem mv_J0_length_8abf5 : Cond.selects (yJ0_length_8abf5).cls yJ0_length_8abf5 yJ0_length_8abf5 ∈ BIG := (tb2 222 (by decide +kernel) rfl)
abbrev m_J0_charAt_5068e : MT := (yJ0_charAt_5068e, cJ0_charAt_5068e, 2, (some .char))
theorem mo_J0_charAt_5068e : MtOk m_J0_charAt_5068e 1 := ⟨by decide +kernel, (tb6 226 (by decide +kernel) rfl), ⟨by decide +kernel, by decide +kernel⟩, by decide +kernel, by decide, (tb1 17 (by decide +kernel) rfl)⟩
theorem mi_J0_charAt_5068e : Cond.instanceMethod yJ0_charAt_5068e ∈ BIG := (tb6 224 (by decide +kernel) rfl)
theorem mv_J0_charAt_5068e : Cond.selects (yJ0_charAt_5068e).cls yJ0_charAt_5068e yJ0_charAt_5068e ∈ BIG := (tb6 225 (by decide +kernel) rfl)
abbrev m_J0_indexOf_0f7a4 : MT := (yJ0_indexOf_0f7a4, cJ0_indexOf_0f7a4, 2, (some .int))
theorem mo_J0_indexOf_0f7a4 : MtOk m_J0_indexOf_0f7a4 1 := ⟨by decide +kernel, (tb2 209 (by decide +kernel) rfl), ⟨by decide +kernel, by decide +kernel⟩, by decide +kernel, by decide, (tb1 17 (by decide +kernel) rfl)⟩
theorem mi_J0_indexOf_0f7a4 : Cond.instanceMethod yJ0_indexOf_0f7a4 ∈ BIG := (tb2 207 (by decide +kernel) rfl)
theorem mv_J0_indexOf_0f7a4 : Cond.selects (yJ0_indexOf_0f7a4).cls yJ0_indexOf_0f7a4 yJ0_indexOf_0f7a4 ∈ BIG := (tb2 208 (by decide +kernel) rfl)
abbrev m_J0_indexOf_7cf53 : MT := (yJ0_indexOf_7cf53, cJ0_indexOf_7cf53, 3, (some .int))
theorem mo_J0_indexOf_7cf53 : MtOk m_J0_indexOf_7cf53 2 := ⟨by decide +kernel, (tb2 213 (by decide +kernel) rfl), ⟨by decide +kernel, by decide +kernel⟩, by decide +kernel, by decide, (tb1 17 (by decide +kernel) rfl)⟩
theorem mi_J0_indexOf_7cf53 : Cond.instanceMethod yJ0_indexOf_7cf53 ∈ BIG := (tb2 211 (by decide +kernel) rfl)
theorem mv_J0_indexOf_7cf53 : Cond.selects (yJ0_indexOf_7cf53).cls yJ0_indexOf_7cf53 yJ0_indexOf_7cf53 ∈ BIG := (tb2 212 (by decide +kernel) rfl)
abbrev m_J0_coder_7d493 : MT := (yJ0_coder_7d493, cJ0_coder_7d493, 1, (some .byte))
theorem mo_J0_coder_7d493 : MtOk m_J0_coder_7d493 0 := ⟨by decide +kernel, (tb2 227 (by decide +kernel) rfl), ⟨by decide +kernel, by decide +kernel⟩, by decide +kernel, by decide, (tb1 17 (by decide +kernel) rfl)⟩
theorem mi_J0_coder_7d493 : Cond.instanceMethod yJ0_coder_7d493 ∈ BIG := (tb2 225 (by decide +kernel) rfl)
theorem mv_J0_coder_7d493 : Cond.selects (yJ0_coder_7d493).cls yJ0_coder_7d493 yJ0_coder_7d493 ∈ BIG := (tb2 226 (by decide +kernel) rfl)
abbrev m_J0_isLatin1_aae02 : MT := (yJ0_isLatin1_aae02, cJ0_isLatin1_aae02, 1, (some .boolean))
theorem mo_J0_isLatin1_aae02 : MtOk m_J0_isLatin1_aae02 0 := ⟨by decide +kernel, (tb2 217 (by decide +kernel) rfl), ⟨by decide +kernel, by decide +kernel⟩, by decide +kernel, by decide, (tb1 17 (by decide +kernel) rfl)⟩
theorem mi_J0_isLatin1_aae02 : Cond.instanceMethod yJ0_isLatin1_aae02 ∈ BIG := (tb2 215 (by decide +kernel) rfl)
theorem mv_J0_isLatin1_aae02 : Cond.selects (yJ0_isLatin1_aae02).cls yJ0_isLatin1_aae02 yJ0_isLatin1_aae02 ∈ BIG := (tb2 216 (by decide +kernel) rfl)
abbrev m_J0_checkIndex_df160 : MT := (yJ0_checkIndex_df160, cJ0_checkIndex_df160, 2, none)
theorem mo_J0_checkIndex_df160 : MtOk m_J0_checkIndex_df160 2 := ⟨by decide +kernel, (tb6 232 (by decide +kernel) rfl), ⟨by decide +kernel, by decide +kernel⟩, by decide +kernel, by decide, (tb1 17 (by decide +kernel) rfl)⟩
theorem mz_J0_checkIndex_df160 : Cond.static yJ0_checkIndex_df160 ∈ BIG := (tb6 231 (by decide +kernel) rfl)
abbrev m_J0_checkBoundsBeginEnd_23922 : MT := (yJ0_checkBoundsBeginEnd_23922, cJ0_checkBoundsBeginEnd_23922, 3, none)
theorem mo_J0_checkBoundsBeginEnd_23922 : MtOk m_J0_checkBoundsBeginEnd_23922 3 := ⟨by decide +kernel, (tb3 16 (by decide +kernel) rfl), ⟨by decide +kernel, by decide +kernel⟩, by decide +kernel, by decide, (tb1 17 (by decide +kernel) rfl)⟩
theorem mz_J0_checkBoundsBeginEnd_23922 : Cond.static yJ0_checkBoundsBeginEnd_23922 ∈ BIG := (tb3 15 (by decide +kernel) rfl)
abbrev m_J1_charAt_3b067 : MT := (yJ1_charAt_3b067, cJ1_charAt_3b067, 2, (some .char))
theorem mo_J1_charAt_3b067 : MtOk m_J1_charAt_3b067 2 := ⟨by decide +kernel, (tb6 229 (by decide +kernel) rfl), ⟨by decide +kernel, by decide +kernel⟩, by decide +kernel, by decide, (tb1 18 (by decide +kernel) rfl)⟩
theorem mz_J1_charAt_3b067 : Cond.static yJ1_charAt_3b067 ∈ BIG := (tb6 228 (by decide +kernel) rfl)
abbrev m_J1_canEncode_9a6ad : MT := (yJ1_canEncode_9a6ad, cJ1_canEncode_9a6ad, 1, (some .boolean))
theorem mo_J1_canEncode_9a6ad : MtOk m_J1_canEncode_9a6ad 1 := ⟨by decide +kernel, (tb2 233 (by decide +kernel) rfl), ⟨by decide +kernel, by decide +kernel⟩, by decide +kernel, by decide, (tb1 18 (by decide +kernel) rfl)⟩
theorem mz_J1_canEncode_9a6ad : Cond.static yJ1_canEncode_9a6ad ∈ BIG := (tb2 232 (by decide +kernel) rfl)
abbrev m_J1_indexOf_4cfef : MT := (yJ1_indexOf_4cfef, cJ1_indexOf_4cfef, 4, (some .int))
theorem mo_J1_indexOf_4cfef : MtOk m_J1_indexOf_4cfef 4 := ⟨by decide +kernel, (tb2 230 (by decide +kernel) rfl), ⟨by decide +kernel, by decide +kernel⟩, by decide +kernel, by decide, (tb1 18 (by decide +kernel) rfl)⟩
theorem mz_J1_indexOf_4cfef : Cond.static yJ1_indexOf_4cfef ∈ BIG := (tb2 229 (by decide +kernel) rfl)
abbrev m_J1_indexOfChar_4cfef : MT := (yJ1_indexOfChar_4cfef, cJ1_indexOfChar_4cfef, 6, (some .int))
theorem mo_J1_indexOfChar_4cfef : MtOk m_J1_indexOfChar_4cfef 4 := ⟨by decide +kernel, (tb2 238 (by decide +kernel) rfl), ⟨by decide +kernel, by decide +kernel⟩, by decide +kernel, by decide, (tb1 18 (by decide +kernel) rfl)⟩
theorem mz_J1_indexOfChar_4cfef : Cond.static yJ1_indexOfChar_4cfef ∈ BIG := (tb2 237 (by decide +kernel) rfl)
abbrev m_J2_getChar_3b067 : MT := (yJ2_getChar_3b067, cJ2_getChar_3b067, 2, (some .char))
theorem mo_J2_getChar_3b067 : MtOk m_J2_getChar_3b067 2 := ⟨by decide +kernel, (tb3 27 (by decide +kernel) rfl), ⟨by decide +kernel, by decide +kernel⟩, by decide +kernel, by decide, (tb1 19 (by decide +kernel) rfl)⟩
theorem mz_J2_getChar_3b067 : Cond.static yJ2_getChar_3b067 ∈ BIG := (tb3 26 (by decide +kernel) rfl)
abbrev m_J2_length_9d52b : MT := (yJ2_length_9d52b, cJ2_length_9d52b, 1, (some .int))
theorem mo_J2_length_9d52b : MtOk m_J2_length_9d52b 1 := ⟨by decide +kernel, (tb3 13 (by decide +kernel) rfl), ⟨by decide +kernel, by decide +kernel⟩, by decide +kernel, by decide, (tb1 19 (by decide +kernel) rfl)⟩
theorem mz_J2_length_9d52b : Cond.static yJ2_length_9d52b ∈ BIG := (tb3 12 (by decide +kernel) rfl)
abbrev m_J2_indexOf_4cfef : MT := (yJ2_indexOf_4cfef, cJ2_indexOf_4cfef, 4, (some .int))
theorem mo_J2_indexOf_4cfef : MtOk m_J2_indexOf_4cfef 4 := ⟨by decide +kernel, (tb3 1 (by decide +kernel) rfl), ⟨by decide +kernel, by decide +kernel⟩, by decide +kernel, by decide, (tb1 19 (by decide +kernel) rfl)⟩
theorem mz_J2_indexOf_4cfef : Cond.static yJ2_indexOf_4cfef ∈ BIG := (tb3 0 (by decide +kernel) rfl)
abbrev m_J2_indexOfChar_4cfef : MT := (yJ2_indexOfChar_4cfef, cJ2_indexOfChar_4cfef, 4, (some .int))
theorem mo_J2_indexOfChar_4cfef : MtOk m_J2_indexOfChar_4cfef 4 := ⟨by decide +kernel, (tb3 7 (by decide +kernel) rfl), ⟨by decide +kernel, by decide +kernel⟩, by decide +kernel, by decide, (tb1 19 (by decide +kernel) rfl)⟩
theorem mz_J2_indexOfChar_4cfef : Cond.static yJ2_indexOfChar_4cfef ∈ BIG := (tb3 6 (by decide +kernel) rfl)
abbrev m_J2_indexOfCharUnsafe_4cfef : MT := (yJ2_indexOfCharUnsafe_4cfef, cJ2_indexOfCharUnsafe_4cfef, 5, (some .int))
theorem mo_J2_indexOfCharUnsafe_4cfef : MtOk m_J2_indexOfCharUnsafe_4cfef 4 := ⟨by decide +kernel, (tb3 24 (by decide +kernel) rfl), ⟨by decide +kernel, by decide +kernel⟩, by decide +kernel, by decide, (tb1 19 (by decide +kernel) rfl)⟩
theorem mz_J2_indexOfCharUnsafe_4cfef : Cond.static yJ2_indexOfCharUnsafe_4cfef ∈ BIG := (tb3 23 (by decide +kernel) rfl)
abbrev m_J2_indexOfSupplementary_4cfef : MT := (yJ2_indexOfSupplementary_4cfef, cJ2_indexOfSupplementary_4cfef, 7, (some .int))
theorem mo_J2_indexOfSupplementary_4cfef : MtOk m_J2_indexOfSupplementary_4cfef 4 := ⟨by decide +kernel, (tb3 36 (by decide +kernel) rfl), ⟨by decide +kernel, by decide +kernel⟩, by decide +kernel, by decide, (tb1 19 (by decide +kernel) rfl)⟩
theorem mz_J2_indexOfSupplementary_4cfef : Cond.static yJ2_indexOfSupplementary_4cfef ∈ BIG := (tb3 35 (by decide +kernel) rfl)
abbrev m_J2_charAt_3b067 : MT := (yJ2_charAt_3b067, cJ2_charAt_3b067, 2, (some .char))
theorem mo_J2_charAt_3b067 : MtOk m_J2_charAt_3b067 2 := ⟨by decide +kernel, (tb6 238 (by decide +kernel) rfl), ⟨by decide +kernel, by decide +kernel⟩, by decide +kernel, by decide, (tb1 19 (by decide +kernel) rfl)⟩
theorem mz_J2_charAt_3b067 : Cond.static yJ2_charAt_3b067 ∈ BIG := (tb6 237 (by decide +kernel) rfl)
abbrev m_J2_checkIndex_2214a : MT := (yJ2_checkIndex_2214a, cJ2_checkIndex_2214a, 2, none)
theorem mo_J2_checkIndex_2214a : MtOk m_J2_checkIndex_2214a 2 := ⟨by decide +kernel, (tb7 1 (by decide +kernel) rfl), ⟨by decide +kernel, by decide +kernel⟩, by decide +kernel, by decide, (tb1 19 (by decide +kernel) rfl)⟩
theorem mz_J2_checkIndex_2214a : Cond.static yJ2_checkIndex_2214a ∈ BIG := (tb7 0 (by decide +kernel) rfl)
abbrev m_J2_checkBoundsBeginEnd_d044e : MT := (yJ2_checkBoundsBeginEnd_d044e, cJ2_checkBoundsBeginEnd_d044e, 3, none)
theorem mo_J2_checkBoundsBeginEnd_d044e : MtOk m_J2_checkBoundsBeginEnd_d044e 3 := ⟨by decide +kernel, (tb3 10 (by decide +kernel) rfl), ⟨by decide +kernel, by decide +kernel⟩, by decide +kernel, by decide, (tb1 19 (by decide +kernel) rfl)⟩
theorem mz_J2_checkBoundsBeginEnd_d044e : Cond.static yJ2_checkBoundsBeginEnd_d044e ∈ BIG := (tb3 9 (by decide +kernel) rfl)
abbrev m_J7_fill_53178 : MT := (yJ7_fill_53178, cJ7_fill_53178, 4, none)
theorem mo_J7_fill_53178 : MtOk m_J7_fill_53178 2 := ⟨by decide +kernel, (tb1 49 (by decide +kernel) rfl), ⟨by decide +kernel, by decide +kernel⟩, by decide +kernel, by decide, (tb1 4 (by decide +kernel) rfl)⟩
theorem mz_J7_fill_53178 : Cond.static yJ7_fill_53178 ∈ BIG := (tb1 48 (by decide +kernel) rfl)
abbrev m_J3_checkIndex_8e157 : MT := (yJ3_checkIndex_8e157, cJ3_checkIndex_8e157, 3, (some .int))
theorem mo_J3_checkIndex_8e157 : MtOk m_J3_checkIndex_8e157 3 := ⟨by decide +kernel, (tb6 235 (by decide +kernel) rfl), ⟨by decide +kernel, by decide +kernel⟩, by decide +kernel, by decide, (tb1 20 (by decide +kernel) rfl)⟩
theorem mz_J3_checkIndex_8e157 : Cond.static yJ3_checkIndex_8e157 ∈ BIG := (tb6 234 (by decide +kernel) rfl)
abbrev m_J3_checkFromToIndex_8c36e : MT := (yJ3_checkFromToIndex_8c36e, cJ3_checkFromToIndex_8c36e, 4, (some .int))
theorem mo_J3_checkFromToIndex_8c36e : MtOk m_J3_checkFromToIndex_8c36e 4 := ⟨by decide +kernel, (tb3 21 (by decide +kernel) rfl), ⟨by decide +kernel, by decide +kernel⟩, by decide +kernel, by decide, (tb1 20 (by decide +kernel) rfl)⟩
theorem mz_J3_checkFromToIndex_8c36e : Cond.static yJ3_checkFromToIndex_8c36e ∈ BIG := (tb3 20 (by decide +kernel) rfl)
abbrev m_L_cell : MT := (yL_cell, cL_cell, 2, (some .int))
theorem mo_L_cell : MtOk m_L_cell 2 := ⟨by decide +kernel, (tb5 170 (by decide +kernel) rfl), ⟨by decide +kernel, by decide +kernel⟩, by decide +kernel, by decide, (tb1 0 (by decide +kernel) rfl)⟩
theorem mz_L_cell : Cond.static yL_cell ∈ BIG := (tb5 169 (by decide +kernel) rfl)
theorem ml_RL_21 : Cond.methodLink RL 21 yX11_init ∈ BIG := (tb1 29 (by decide +kernel) rfl)
theorem ml_RX11_24 : Cond.methodLink RX11 24 yX3_init ∈ BIG := (tb1 43 (by decide +kernel) rfl)
theorem ml_RX3_28 : Cond.methodLink RX3 28 yJ7_fill_53178 ∈ BIG := (tb1 47 (by decide +kernel) rfl)
theorem ml_RX11_39 : Cond.methodLink RX11 39 yX5_init ∈ BIG := (tb1 90 (by decide +kernel) rfl)
theorem ml_RX11_48 : Cond.methodLink RX11 48 yX1_init ∈ BIG := (tb1 119 (by decide +kernel) rfl)
theorem ml_RX11_55 : Cond.methodLink RX11 55 yX9_init ∈ BIG := (tb1 129 (by decide +kernel) rfl)
theorem ml_RX11_69 : Cond.methodLink RX11 69 yX4_init ∈ BIG := (tb1 158 (by decide +kernel) rfl)
theorem ml_RX11_78 : Cond.methodLink RX11 78 yX7_init ∈ BIG := (tb1 175 (by decide +kernel) rfl)
theorem ml_RX11_94 : Cond.methodLink RX11 94 yX2_init ∈ BIG := (tb1 226 (by decide +kernel) rfl)
theorem ml_RX11_101 : Cond.methodLink RX11 101 yX6_init ∈ BIG := (tb2 28 (by decide +kernel) rfl)
theorem ml_RX11_110 : Cond.methodLink RX11 110 yX0_init ∈ BIG := (tb2 52 (by decide +kernel) rfl)
theorem ml_RL_27 : Cond.methodLink RL 27 yX11_feed ∈ BIG := (tb2 118 (by decide +kernel) rfl)
theorem ml_RX11_117 : Cond.methodLink RX11 117 yX10_filled ∈ BIG := (tb2 122 (by decide +kernel) rfl)
theorem ml_RX11_124 : Cond.methodLink RX11 124 yX10_add ∈ BIG := (tb2 125 (by decide +kernel) rfl)
theorem ml_RL_32 : Cond.methodLink RL 32 yX11_end ∈ BIG := (tb2 129 (by decide +kernel) rfl)
theorem ml_RL_37 : Cond.methodLink RL 37 yX11_fault ∈ BIG := (tb2 133 (by decide +kernel) rfl)
theorem ml_RX11_127 : Cond.methodLink RX11 127 yX4_read ∈ BIG := (tb2 137 (by decide +kernel) rfl)
theorem ml_RX4_23 : Cond.methodLink RX4 23 yJ7_fill_53178 ∈ BIG := (tb2 141 (by decide +kernel) rfl)
theorem ml_RX4_29 : Cond.methodLink RX4 29 yX10_pastBlanks ∈ BIG := (tb2 142 (by decide +kernel) rfl)
theorem ml_RX4_39 : Cond.methodLink RX4 39 yX4_whose ∈ BIG := (tb2 146 (by decide +kernel) rfl)
theorem ml_RX4_46 : Cond.methodLink RX4 46 yX10_sign ∈ BIG := (tb2 150 (by decide +kernel) rfl)
theorem ml_RX4_49 : Cond.methodLink RX4 49 yX3_has ∈ BIG := (tb2 154 (by decide +kernel) rfl)
theorem ml_RX4_42 : Cond.methodLink RX4 42 yX4_joined ∈ BIG := (tb2 158 (by decide +kernel) rfl)
theorem ml_RX4_55 : Cond.methodLink RX4 55 yX4_hasMost ∈ BIG := (tb2 162 (by decide +kernel) rfl)
theorem ml_RX4_58 : Cond.methodLink RX4 58 yJ6_bitCount_0f7a4 ∈ BIG := (tb2 166 (by decide +kernel) rfl)
theorem ml_RX11_131 : Cond.methodLink RX11 131 yX7_read ∈ BIG := (tb2 172 (by decide +kernel) rfl)
theorem ml_RX7_30 : Cond.methodLink RX7 30 yX7_expect ∈ BIG := (tb2 176 (by decide +kernel) rfl)
theorem ml_RX7_34 : Cond.methodLink RX7 34 yX7_next ∈ BIG := (tb2 180 (by decide +kernel) rfl)
theorem ml_RX7_60 : Cond.methodLink RX7 60 yX10_pastBlanks ∈ BIG := (tb2 184 (by decide +kernel) rfl)
theorem ml_RX7_63 : Cond.methodLink RX7 63 yX10_sign ∈ BIG := (tb2 185 (by decide +kernel) rfl)
theorem ml_RX7_38 : Cond.methodLink RX7 38 yX7_sum ∈ BIG := (tb2 186 (by decide +kernel) rfl)
theorem ml_RX7_69 : Cond.methodLink RX7 69 yX7_atom ∈ BIG := (tb2 190 (by decide +kernel) rfl)
theorem ml_RX7_78 : Cond.methodLink RX7 78 yX7_isDigit ∈ BIG := (tb2 194 (by decide +kernel) rfl)
theorem ml_RX7_82 : Cond.methodLink RX7 82 yX7_number ∈ BIG := (tb2 197 (by decide +kernel) rfl)
theorem ml_RX7_51 : Cond.methodLink RX7 51 yX7_write ∈ BIG := (tb2 201 (by decide +kernel) rfl)
theorem ml_RX7_87 : Cond.methodLink RX7 87 yJ0_indexOf_0f7a4 ∈ BIG := (tb2 206 (by decide +kernel) rfl)
theorem ml_RJ0_633 : Cond.methodLink RJ0 633 yJ0_indexOf_7cf53 ∈ BIG := (tb2 210 (by decide +kernel) rfl)
theorem ml_RJ0_492 : Cond.methodLink RJ0 492 yJ0_isLatin1_aae02 ∈ BIG := (tb2 214 (by decide +kernel) rfl)
theorem ml_RJ0_505 : Cond.methodLink RJ0 505 yJ0_length_8abf5 ∈ BIG := (tb2 220 (by decide +kernel) rfl)
theorem ml_RJ0_335 : Cond.methodLink RJ0 335 yJ0_coder_7d493 ∈ BIG := (tb2 224 (by decide +kernel) rfl)
theorem ml_RJ0_637 : Cond.methodLink RJ0 637 yJ1_indexOf_4cfef ∈ BIG := (tb2 228 (by decide +kernel) rfl)
theorem ml_RJ1_88 : Cond.methodLink RJ1 88 yJ1_canEncode_9a6ad ∈ BIG := (tb2 231 (by decide +kernel) rfl)
theorem ml_RJ1_95 : Cond.methodLink RJ1 95 yJ1_indexOfChar_4cfef ∈ BIG := (tb2 236 (by decide +kernel) rfl)
theorem ml_RJ0_640 : Cond.methodLink RJ0 640 yJ2_indexOf_4cfef ∈ BIG := (tb2 239 (by decide +kernel) rfl)
theorem ml_RJ2_228 : Cond.methodLink RJ2 228 yJ2_indexOfChar_4cfef ∈ BIG := (tb3 5 (by decide +kernel) rfl)
theorem ml_RJ2_96 : Cond.methodLink RJ2 96 yJ2_checkBoundsBeginEnd_d044e ∈ BIG := (tb3 8 (by decide +kernel) rfl)
theorem ml_RJ2_48 : Cond.methodLink RJ2 48 yJ2_length_9d52b ∈ BIG := (tb3 11 (by decide +kernel) rfl)
theorem ml_RJ2_241 : Cond.methodLink RJ2 241 yJ0_checkBoundsBeginEnd_23922 ∈ BIG := (tb3 14 (by decide +kernel) rfl)
theorem ml_RJ0_1062 : Cond.methodLink RJ0 1062 yJ3_checkFromToIndex_8c36e ∈ BIG := (tb3 19 (by decide +kernel) rfl)
theorem ml_RJ2_244 : Cond.methodLink RJ2 244 yJ2_indexOfCharUnsafe_4cfef ∈ BIG := (tb3 22 (by decide +kernel) rfl)
theorem ml_RJ2_71 : Cond.methodLink RJ2 71 yJ2_getChar_3b067 ∈ BIG := (tb3 25 (by decide +kernel) rfl)
theorem ml_RJ2_232 : Cond.methodLink RJ2 232 yJ2_indexOfSupplementary_4cfef ∈ BIG := (tb3 34 (by decide +kernel) rfl)
theorem ml_RJ2_164 : Cond.methodLink RJ2 164 yJ11_isValidCodePoint_9a6ad ∈ BIG := (tb3 37 (by decide +kernel) rfl)
theorem ml_RJ2_157 : Cond.methodLink RJ2 157 yJ11_highSurrogate_5068e ∈ BIG := (tb3 40 (by decide +kernel) rfl)
theorem ml_RJ2_161 : Cond.methodLink RJ2 161 yJ11_lowSurrogate_5068e ∈ BIG := (tb3 44 (by decide +kernel) rfl)
theorem ml_RX7_72 : Cond.methodLink RX7 72 yX7_multiplying ∈ BIG := (tb3 48 (by decide +kernel) rfl)
theorem ml_RX7_75 : Cond.methodLink RX7 75 yX7_adding ∈ BIG := (tb3 51 (by decide +kernel) rfl)
theorem ml_RX7_41 : Cond.methodLink RX7 41 yX7_comparing ∈ BIG := (tb3 54 (by decide +kernel) rfl)
theorem ml_RX7_45 : Cond.methodLink RX7 45 yX7_condition ∈ BIG := (tb3 57 (by decide +kernel) rfl)
theorem ml_RX7_66 : Cond.methodLink RX7 66 yX7_unit ∈ BIG := (tb3 61 (by decide +kernel) rfl)
theorem ml_RL_41 : Cond.methodLink RL 41 yX11_text ∈ BIG := (tb3 66 (by decide +kernel) rfl)
theorem ml_RX11_145 : Cond.methodLink RX11 145 yX3_tieCount ∈ BIG := (tb3 73 (by decide +kernel) rfl)
theorem ml_RX3_50 : Cond.methodLink RX3 50 yX3_degree ∈ BIG := (tb3 77 (by decide +kernel) rfl)
theorem ml_RX3_44 : Cond.methodLink RX3 44 yJ6_bitCount_0f7a4 ∈ BIG := (tb3 81 (by decide +kernel) rfl)
theorem ml_RX11_157 : Cond.methodLink RX11 157 yX8_add ∈ BIG := (tb3 82 (by decide +kernel) rfl)
theorem ml_RL_45 : Cond.methodLink RL 45 yX11_most ∈ BIG := (tb3 87 (by decide +kernel) rfl)
theorem ml_RX11_160 : Cond.methodLink RX11 160 yX3_has ∈ BIG := (tb3 91 (by decide +kernel) rfl)
theorem ml_RX11_164 : Cond.methodLink RX11 164 yX3_degree ∈ BIG := (tb3 92 (by decide +kernel) rfl)
theorem ml_RL_50 : Cond.methodLink RL 50 yX11_tie ∈ BIG := (tb3 93 (by decide +kernel) rfl)
theorem ml_RX11_170 : Cond.methodLink RX11 170 yX3_hasTwo ∈ BIG := (tb3 97 (by decide +kernel) rfl)
theorem ml_RX3_40 : Cond.methodLink RX3 40 yX3_has ∈ BIG := (tb3 101 (by decide +kernel) rfl)
theorem ml_RX11_174 : Cond.methodLink RX11 174 yX3_tied ∈ BIG := (tb3 102 (by decide +kernel) rfl)
theorem ml_RX11_177 : Cond.methodLink RX11 177 yX3_full ∈ BIG := (tb3 106 (by decide +kernel) rfl)
theorem ml_RX11_180 : Cond.methodLink RX11 180 yX3_join ∈ BIG := (tb3 110 (by decide +kernel) rfl)
theorem ml_RL_54 : Cond.methodLink RL 54 yX11_drop ∈ BIG := (tb3 114 (by decide +kernel) rfl)
theorem ml_RX11_184 : Cond.methodLink RX11 184 yX3_part ∈ BIG := (tb3 118 (by decide +kernel) rfl)
theorem ml_RL_66 : Cond.methodLink RL 66 yX11_far ∈ BIG := (tb3 122 (by decide +kernel) rfl)
theorem ml_RX11_197 : Cond.methodLink RX11 197 yX3_distance ∈ BIG := (tb3 126 (by decide +kernel) rfl)
theorem ml_RX3_53 : Cond.methodLink RX3 53 yX3_around ∈ BIG := (tb3 130 (by decide +kernel) rfl)
theorem ml_RL_71 : Cond.methodLink RL 71 yX11_ways ∈ BIG := (tb3 134 (by decide +kernel) rfl)
theorem ml_RX11_201 : Cond.methodLink RX11 201 yX11_far ∈ BIG := (tb3 138 (by decide +kernel) rfl)
theorem ml_RX11_206 : Cond.methodLink RX11 206 yX5_waysBetween ∈ BIG := (tb3 140 (by decide +kernel) rfl)
theorem ml_RX5_44 : Cond.methodLink RX5 44 yX3_around ∈ BIG := (tb3 144 (by decide +kernel) rfl)
theorem ml_RX5_51 : Cond.methodLink RX5 51 yX5_waysOver ∈ BIG := (tb3 145 (by decide +kernel) rfl)
theorem ml_RL_76 : Cond.methodLink RL 76 yX11_over ∈ BIG := (tb3 149 (by decide +kernel) rfl)
theorem ml_RX11_210 : Cond.methodLink RX11 210 yX5_onAll ∈ BIG := (tb3 153 (by decide +kernel) rfl)
theorem ml_RX5_55 : Cond.methodLink RX5 55 yX3_distance ∈ BIG := (tb3 157 (by decide +kernel) rfl)
theorem ml_RX11_213 : Cond.methodLink RX11 213 yX5_onSome ∈ BIG := (tb3 158 (by decide +kernel) rfl)
theorem ml_RX5_59 : Cond.methodLink RX5 59 yX3_measure ∈ BIG := (tb3 162 (by decide +kernel) rfl)
theorem ml_RL_81 : Cond.methodLink RL 81 yX11_of ∈ BIG := (tb3 166 (by decide +kernel) rfl)
theorem ml_RX11_216 : Cond.methodLink RX11 216 yX3_sumOf ∈ BIG := (tb3 170 (by decide +kernel) rfl)
theorem ml_RX3_57 : Cond.methodLink RX3 57 yX3_sumOver ∈ BIG := (tb3 174 (by decide +kernel) rfl)
theorem ml_RX11_219 : Cond.methodLink RX11 219 yX3_reached ∈ BIG := (tb3 178 (by decide +kernel) rfl)
theorem ml_RX11_222 : Cond.methodLink RX11 222 yX1_cutBy ∈ BIG := (tb3 182 (by decide +kernel) rfl)
theorem ml_RX1_21 : Cond.methodLink RX1 21 yX3_reached ∈ BIG := (tb3 186 (by decide +kernel) rfl)
theorem ml_RX1_28 : Cond.methodLink RX1 28 yJ6_bitCount_0f7a4 ∈ BIG := (tb3 187 (by decide +kernel) rfl)
theorem ml_RL_85 : Cond.methodLink RL 85 yX11_all ∈ BIG := (tb3 188 (by decide +kernel) rfl)
theorem ml_RX11_228 : Cond.methodLink RX11 228 yX3_widest ∈ BIG := (tb3 192 (by decide +kernel) rfl)
theorem ml_RX3_64 : Cond.methodLink RX3 64 yX3_roundsFrom ∈ BIG := (tb3 196 (by decide +kernel) rfl)
theorem ml_RX11_231 : Cond.methodLink RX11 231 yX1_parts ∈ BIG := (tb3 201 (by decide +kernel) rfl)
theorem ml_RX11_234 : Cond.methodLink RX11 234 yX1_keyOnes ∈ BIG := (tb3 205 (by decide +kernel) rfl)
theorem ml_RX1_34 : Cond.methodLink RX1 34 yX1_cutBy ∈ BIG := (tb3 209 (by decide +kernel) rfl)
theorem ml_RX11_237 : Cond.methodLink RX11 237 yX3_sums ∈ BIG := (tb3 210 (by decide +kernel) rfl)
theorem ml_RX3_61 : Cond.methodLink RX3 61 yX3_sumOf ∈ BIG := (tb3 214 (by decide +kernel) rfl)
theorem ml_RL_89 : Cond.methodLink RL 89 yX11_load ∈ BIG := (tb3 215 (by decide +kernel) rfl)
theorem ml_RX11_240 : Cond.methodLink RX11 240 yX5_loadOf ∈ BIG := (tb3 219 (by decide +kernel) rfl)
theorem ml_RX5_63 : Cond.methodLink RX5 63 yX3_part ∈ BIG := (tb3 223 (by decide +kernel) rfl)
theorem ml_RX5_67 : Cond.methodLink RX5 67 yX3_join ∈ BIG := (tb3 224 (by decide +kernel) rfl)
theorem ml_RL_93 : Cond.methodLink RL 93 yX11_apart ∈ BIG := (tb3 225 (by decide +kernel) rfl)
theorem ml_RX11_243 : Cond.methodLink RX11 243 yX5_rowsApart ∈ BIG := (tb3 229 (by decide +kernel) rfl)
theorem ml_RX5_70 : Cond.methodLink RX5 70 yX5_findRow ∈ BIG := (tb3 233 (by decide +kernel) rfl)
theorem ml_RX5_74 : Cond.methodLink RX5 74 yX5_turnRow ∈ BIG := (tb3 238 (by decide +kernel) rfl)
theorem ml_RL_97 : Cond.methodLink RL 97 yX11_bears ∈ BIG := (tb4 2 (by decide +kernel) rfl)
theorem ml_RX11_246 : Cond.methodLink RX11 246 yX1_breakingSet ∈ BIG := (tb4 6 (by decide +kernel) rfl)
theorem ml_RX1_54 : Cond.methodLink RX1 54 yX1_joined ∈ BIG := (tb4 13 (by decide +kernel) rfl)
theorem ml_RL_101 : Cond.methodLink RL 101 yX11_broken ∈ BIG := (tb4 20 (by decide +kernel) rfl)
theorem ml_RL_105 : Cond.methodLink RL 105 yX11_mend ∈ BIG := (tb4 24 (by decide +kernel) rfl)
theorem ml_RX11_249 : Cond.methodLink RX11 249 yX1_mending ∈ BIG := (tb4 28 (by decide +kernel) rfl)
theorem ml_RX1_37 : Cond.methodLink RX1 37 yX1_parts ∈ BIG := (tb4 32 (by decide +kernel) rfl)
theorem ml_RX1_41 : Cond.methodLink RX1 41 yX1_roomOf ∈ BIG := (tb4 33 (by decide +kernel) rfl)
theorem ml_RX1_48 : Cond.methodLink RX1 48 yX3_degree ∈ BIG := (tb4 37 (by decide +kernel) rfl)
theorem ml_RL_109 : Cond.methodLink RL 109 yX11_need ∈ BIG := (tb4 38 (by decide +kernel) rfl)
theorem ml_RX11_252 : Cond.methodLink RX11 252 yX2_putNeed ∈ BIG := (tb4 42 (by decide +kernel) rfl)
theorem ml_RL_114 : Cond.methodLink RL 114 yX11_value ∈ BIG := (tb4 46 (by decide +kernel) rfl)
theorem ml_RX11_256 : Cond.methodLink RX11 256 yX2_valueOf ∈ BIG := (tb4 50 (by decide +kernel) rfl)
theorem ml_RX2_36 : Cond.methodLink RX2 36 yX3_around ∈ BIG := (tb4 54 (by decide +kernel) rfl)
theorem ml_RX2_40 : Cond.methodLink RX2 40 yX2_valueAmong ∈ BIG := (tb4 55 (by decide +kernel) rfl)
theorem ml_RL_118 : Cond.methodLink RL 118 yX11_cost ∈ BIG := (tb4 59 (by decide +kernel) rfl)
theorem ml_RL_122 : Cond.methodLink RL 122 yX11_gain ∈ BIG := (tb4 63 (by decide +kernel) rfl)
theorem ml_RX11_262 : Cond.methodLink RX11 262 yX2_canBe ∈ BIG := (tb4 67 (by decide +kernel) rfl)
theorem ml_RX2_44 : Cond.methodLink RX2 44 yX3_hasTwo ∈ BIG := (tb4 71 (by decide +kernel) rfl)
theorem ml_RX2_48 : Cond.methodLink RX2 48 yX3_tied ∈ BIG := (tb4 72 (by decide +kernel) rfl)
theorem ml_RX2_51 : Cond.methodLink RX2 51 yX2_mayDrop ∈ BIG := (tb4 73 (by decide +kernel) rfl)
theorem ml_RX2_54 : Cond.methodLink RX2 54 yX3_full ∈ BIG := (tb4 77 (by decide +kernel) rfl)
theorem ml_RX11_267 : Cond.methodLink RX11 267 yX2_gainOf ∈ BIG := (tb4 79 (by decide +kernel) rfl)
theorem ml_RX2_68 : Cond.methodLink RX2 68 yX2_valueOf ∈ BIG := (tb4 83 (by decide +kernel) rfl)
theorem ml_RX2_72 : Cond.methodLink RX2 72 yX2_make ∈ BIG := (tb4 84 (by decide +kernel) rfl)
theorem ml_RX2_58 : Cond.methodLink RX2 58 yX3_part ∈ BIG := (tb4 88 (by decide +kernel) rfl)
theorem ml_RX2_62 : Cond.methodLink RX2 62 yX3_join ∈ BIG := (tb4 89 (by decide +kernel) rfl)
theorem ml_RX2_76 : Cond.methodLink RX2 76 yX2_unmake ∈ BIG := (tb4 90 (by decide +kernel) rfl)
theorem ml_RL_126 : Cond.methodLink RL 126 yX11_change ∈ BIG := (tb4 94 (by decide +kernel) rfl)
theorem ml_RX11_271 : Cond.methodLink RX11 271 yX2_wanted ∈ BIG := (tb4 98 (by decide +kernel) rfl)
theorem ml_RX2_79 : Cond.methodLink RX2 79 yX2_gainOf ∈ BIG := (tb4 102 (by decide +kernel) rfl)
theorem ml_RX11_274 : Cond.methodLink RX11 274 yX2_make ∈ BIG := (tb4 103 (by decide +kernel) rfl)
theorem ml_RL_131 : Cond.methodLink RL 131 yX11_best ∈ BIG := (tb4 104 (by decide +kernel) rfl)
theorem ml_RX11_278 : Cond.methodLink RX11 278 yX2_findBest ∈ BIG := (tb4 108 (by decide +kernel) rfl)
theorem ml_RX2_86 : Cond.methodLink RX2 86 yX2_tryTaking ∈ BIG := (tb4 112 (by decide +kernel) rfl)
theorem ml_RX2_89 : Cond.methodLink RX2 89 yX2_tryDropping ∈ BIG := (tb4 116 (by decide +kernel) rfl)
theorem ml_RL_135 : Cond.methodLink RL 135 yX11_turn ∈ BIG := (tb4 120 (by decide +kernel) rfl)
theorem ml_RX11_293 : Cond.methodLink RX11 293 yX3_copy ∈ BIG := (tb4 124 (by decide +kernel) rfl)
theorem ml_RX11_296 : Cond.methodLink RX11 296 yX2_makeTurns ∈ BIG := (tb4 129 (by decide +kernel) rfl)
theorem ml_RX2_102 : Cond.methodLink RX2 102 yX2_findBest ∈ BIG := (tb4 133 (by decide +kernel) rfl)
theorem ml_RL_139 : Cond.methodLink RL 139 yX11_stable ∈ BIG := (tb4 134 (by decide +kernel) rfl)
theorem ml_RL_144 : Cond.methodLink RL 144 yX11_send ∈ BIG := (tb4 138 (by decide +kernel) rfl)
theorem ml_RX11_299 : Cond.methodLink RX11 299 yX8_has ∈ BIG := (tb4 142 (by decide +kernel) rfl)
theorem ml_RX11_300 : Cond.methodLink RX11 300 yX6_carry ∈ BIG := (tb4 146 (by decide +kernel) rfl)
theorem ml_RX6_26 : Cond.methodLink RX6 26 yX8_forgetLetters ∈ BIG := (tb4 150 (by decide +kernel) rfl)
theorem ml_RX8_36 : Cond.methodLink RX8 36 yJ7_fill_53178 ∈ BIG := (tb4 154 (by decide +kernel) rfl)
theorem ml_RX6_31 : Cond.methodLink RX6 31 yJ7_fill_53178 ∈ BIG := (tb4 155 (by decide +kernel) rfl)
theorem ml_RX6_41 : Cond.methodLink RX6 41 yX6_heir ∈ BIG := (tb4 156 (by decide +kernel) rfl)
theorem ml_RX6_53 : Cond.methodLink RX6 53 yX6_tellLetters ∈ BIG := (tb4 160 (by decide +kernel) rfl)
theorem ml_RX6_64 : Cond.methodLink RX6 64 yX3_degree ∈ BIG := (tb4 164 (by decide +kernel) rfl)
theorem ml_RX6_67 : Cond.methodLink RX6 67 yX3_inCommon ∈ BIG := (tb4 165 (by decide +kernel) rfl)
theorem ml_RX6_57 : Cond.methodLink RX6 57 yX8_worth ∈ BIG := (tb4 172 (by decide +kernel) rfl)
theorem ml_RX8_42 : Cond.methodLink RX8 42 yX8_told ∈ BIG := (tb4 176 (by decide +kernel) rfl)
theorem ml_RX8_46 : Cond.methodLink RX8 46 yX8_joined ∈ BIG := (tb4 180 (by decide +kernel) rfl)
theorem ml_RX8_50 : Cond.methodLink RX8 50 yX8_bounded ∈ BIG := (tb4 183 (by decide +kernel) rfl)
theorem ml_RL_149 : Cond.methodLink RL 149 yX11_comes ∈ BIG := (tb4 190 (by decide +kernel) rfl)
theorem ml_RX11_309 : Cond.methodLink RX11 309 yX6_carryAll ∈ BIG := (tb4 194 (by decide +kernel) rfl)
theorem ml_RX6_76 : Cond.methodLink RX6 76 yX6_carry ∈ BIG := (tb4 198 (by decide +kernel) rfl)
theorem ml_RL_155 : Cond.methodLink RL 155 yX11_years ∈ BIG := (tb4 199 (by decide +kernel) rfl)
theorem ml_RX11_313 : Cond.methodLink RX11 313 yX0_pass ∈ BIG := (tb4 203 (by decide +kernel) rfl)
theorem ml_RX0_27 : Cond.methodLink RX0 27 yX8_forgetLetters ∈ BIG := (tb4 207 (by decide +kernel) rfl)
theorem ml_RX0_36 : Cond.methodLink RX0 36 yX0_dyings ∈ BIG := (tb4 208 (by decide +kernel) rfl)
theorem ml_RX0_56 : Cond.methodLink RX0 56 yX0_leave ∈ BIG := (tb4 215 (by decide +kernel) rfl)
theorem ml_RX0_63 : Cond.methodLink RX0 63 yX3_part ∈ BIG := (tb4 219 (by decide +kernel) rfl)
theorem ml_RX0_46 : Cond.methodLink RX0 46 yX0_look ∈ BIG := (tb4 220 (by decide +kernel) rfl)
theorem ml_RX0_66 : Cond.methodLink RX0 66 yX3_measure ∈ BIG := (tb4 224 (by decide +kernel) rfl)
theorem ml_RX0_70 : Cond.methodLink RX0 70 yX0_bestStranger ∈ BIG := (tb4 225 (by decide +kernel) rfl)
theorem ml_RX0_93 : Cond.methodLink RX0 93 yX3_tied ∈ BIG := (tb4 229 (by decide +kernel) rfl)
theorem ml_RX0_78 : Cond.methodLink RX0 78 yX3_full ∈ BIG := (tb4 230 (by decide +kernel) rfl)
theorem ml_RX0_74 : Cond.methodLink RX0 74 yX0_worthOf ∈ BIG := (tb4 231 (by decide +kernel) rfl)
theorem ml_RX0_100 : Cond.methodLink RX0 100 yX3_degree ∈ BIG := (tb4 235 (by decide +kernel) rfl)
theorem ml_RX0_103 : Cond.methodLink RX0 103 yX3_inCommon ∈ BIG := (tb4 236 (by decide +kernel) rfl)
theorem ml_RX0_109 : Cond.methodLink RX0 109 yX8_worth ∈ BIG := (tb4 237 (by decide +kernel) rfl)
theorem ml_RX0_82 : Cond.methodLink RX0 82 yX3_join ∈ BIG := (tb4 238 (by decide +kernel) rfl)
theorem ml_RX0_85 : Cond.methodLink RX0 85 yX0_leastKnown ∈ BIG := (tb4 239 (by decide +kernel) rfl)
theorem ml_RL_160 : Cond.methodLink RL 160 yX11_ring ∈ BIG := (tb5 3 (by decide +kernel) rfl)
theorem ml_RX11_317 : Cond.methodLink RX11 317 yX11_mayJump ∈ BIG := (tb5 7 (by decide +kernel) rfl)
theorem ml_RX11_320 : Cond.methodLink RX11 320 yX11_ringRow ∈ BIG := (tb5 11 (by decide +kernel) rfl)
theorem ml_RX11_323 : Cond.methodLink RX11 323 yJ6_bitCount_0f7a4 ∈ BIG := (tb5 15 (by decide +kernel) rfl)
theorem ml_RX11_328 : Cond.methodLink RX11 328 yX11_tieRing ∈ BIG := (tb5 16 (by decide +kernel) rfl)
theorem ml_RL_164 : Cond.methodLink RL 164 yX11_fine ∈ BIG := (tb5 20 (by decide +kernel) rfl)
theorem ml_RL_168 : Cond.methodLink RL 168 yX11_bound ∈ BIG := (tb5 24 (by decide +kernel) rfl)
theorem ml_RL_172 : Cond.methodLink RL 172 yX11_image ∈ BIG := (tb5 28 (by decide +kernel) rfl)
theorem ml_RL_176 : Cond.methodLink RL 176 yX11_back ∈ BIG := (tb5 32 (by decide +kernel) rfl)
theorem ml_RL_180 : Cond.methodLink RL 180 yX11_set ∈ BIG := (tb5 36 (by decide +kernel) rfl)
theorem ml_RX11_336 : Cond.methodLink RX11 336 yX9_circle ∈ BIG := (tb5 40 (by decide +kernel) rfl)
theorem ml_RX9_31 : Cond.methodLink RX9 31 yX9_grow ∈ BIG := (tb5 44 (by decide +kernel) rfl)
theorem ml_RX9_35 : Cond.methodLink RX9 35 yJ6_bitCount_0f7a4 ∈ BIG := (tb5 47 (by decide +kernel) rfl)
theorem ml_RX11_339 : Cond.methodLink RX11 339 yX9_apartness ∈ BIG := (tb5 48 (by decide +kernel) rfl)
theorem ml_RX11_342 : Cond.methodLink RX11 342 yX9_hosts ∈ BIG := (tb5 52 (by decide +kernel) rfl)
theorem ml_RX9_47 : Cond.methodLink RX9 47 yX9_cover ∈ BIG := (tb5 57 (by decide +kernel) rfl)
theorem ml_RX9_51 : Cond.methodLink RX9 51 yX9_servedBehind ∈ BIG := (tb5 60 (by decide +kernel) rfl)
theorem ml_RL_184 : Cond.methodLink RL 184 yX11_word ∈ BIG := (tb5 63 (by decide +kernel) rfl)
theorem ml_RX11_345 : Cond.methodLink RX11 345 yX3_hasBits ∈ BIG := (tb5 67 (by decide +kernel) rfl)
theorem ml_RX11_348 : Cond.methodLink RX11 348 yX3_around ∈ BIG := (tb5 71 (by decide +kernel) rfl)
theorem ml_RL_188 : Cond.methodLink RL 188 yX11_out ∈ BIG := (tb5 72 (by decide +kernel) rfl)
theorem ml_RX11_351 : Cond.methodLink RX11 351 yX3_roundsFrom ∈ BIG := (tb5 76 (by decide +kernel) rfl)
theorem ml_RL_192 : Cond.methodLink RL 192 yX11_begin ∈ BIG := (tb5 77 (by decide +kernel) rfl)
theorem ml_RX11_354 : Cond.methodLink RX11 354 yX9_beginners ∈ BIG := (tb5 81 (by decide +kernel) rfl)
theorem ml_RX9_58 : Cond.methodLink RX9 58 yX3_reached ∈ BIG := (tb5 86 (by decide +kernel) rfl)
theorem ml_RX9_61 : Cond.methodLink RX9 61 yX3_roundsFrom ∈ BIG := (tb5 87 (by decide +kernel) rfl)
theorem ml_RL_196 : Cond.methodLink RL 196 yX11_common ∈ BIG := (tb5 89 (by decide +kernel) rfl)
theorem ml_RX11_357 : Cond.methodLink RX11 357 yX3_inCommon ∈ BIG := (tb5 93 (by decide +kernel) rfl)
theorem ml_RL_200 : Cond.methodLink RL 200 yX11_likely ∈ BIG := (tb5 94 (by decide +kernel) rfl)
theorem ml_RX11_360 : Cond.methodLink RX11 360 yX9_likeliest ∈ BIG := (tb5 98 (by decide +kernel) rfl)
theorem ml_RX9_67 : Cond.methodLink RX9 67 yX3_tied ∈ BIG := (tb5 102 (by decide +kernel) rfl)
theorem ml_RX9_71 : Cond.methodLink RX9 71 yX3_inCommon ∈ BIG := (tb5 103 (by decide +kernel) rfl)
theorem ml_RL_204 : Cond.methodLink RL 204 yX11_threes ∈ BIG := (tb5 104 (by decide +kernel) rfl)
theorem ml_RX11_363 : Cond.methodLink RX11 363 yX9_countThrees ∈ BIG := (tb5 108 (by decide +kernel) rfl)
theorem ml_RX9_74 : Cond.methodLink RX9 74 yX9_threesWith ∈ BIG := (tb5 112 (by decide +kernel) rfl)
theorem ml_RL_208 : Cond.methodLink RL 208 yX11_courier ∈ BIG := (tb5 116 (by decide +kernel) rfl)
theorem ml_RX11_366 : Cond.methodLink RX11 366 yX1_bestCourier ∈ BIG := (tb5 120 (by decide +kernel) rfl)
theorem ml_RX1_61 : Cond.methodLink RX1 61 yX1_moreWithout ∈ BIG := (tb5 124 (by decide +kernel) rfl)
theorem ml_RX1_64 : Cond.methodLink RX1 64 yX3_sumOver ∈ BIG := (tb5 128 (by decide +kernel) rfl)
theorem ml_RX11_369 : Cond.methodLink RX11 369 yX1_moreWithout ∈ BIG := (tb5 129 (by decide +kernel) rfl)
theorem ml_RL_212 : Cond.methodLink RL 212 yX11_loss ∈ BIG := (tb5 130 (by decide +kernel) rfl)
theorem ml_RX11_372 : Cond.methodLink RX11 372 yX1_lossOf ∈ BIG := (tb5 134 (by decide +kernel) rfl)
theorem ml_RX1_68 : Cond.methodLink RX1 68 yX3_sums ∈ BIG := (tb5 138 (by decide +kernel) rfl)
theorem ml_RX1_71 : Cond.methodLink RX1 71 yX3_part ∈ BIG := (tb5 139 (by decide +kernel) rfl)
theorem ml_RX1_75 : Cond.methodLink RX1 75 yX3_join ∈ BIG := (tb5 140 (by decide +kernel) rfl)
theorem ml_RL_216 : Cond.methodLink RL 216 yX11_dear ∈ BIG := (tb5 141 (by decide +kernel) rfl)
theorem ml_RX11_375 : Cond.methodLink RX11 375 yX1_dearest ∈ BIG := (tb5 145 (by decide +kernel) rfl)
theorem ml_RX1_78 : Cond.methodLink RX1 78 yX3_tied ∈ BIG := (tb5 149 (by decide +kernel) rfl)
theorem ml_RX1_82 : Cond.methodLink RX1 82 yX1_lossOf ∈ BIG := (tb5 150 (by decide +kernel) rfl)
theorem ml_RX11_378 : Cond.methodLink RX11 378 yX1_bestGift ∈ BIG := (tb5 151 (by decide +kernel) rfl)
theorem ml_RX1_85 : Cond.methodLink RX1 85 yX1_mayJoin ∈ BIG := (tb5 155 (by decide +kernel) rfl)
theorem ml_RX1_91 : Cond.methodLink RX1 91 yX3_full ∈ BIG := (tb5 159 (by decide +kernel) rfl)
theorem ml_RX1_88 : Cond.methodLink RX1 88 yX1_sumsWith ∈ BIG := (tb5 160 (by decide +kernel) rfl)
theorem ml_RL_220 : Cond.methodLink RL 220 yX11_count ∈ BIG := (tb5 164 (by decide +kernel) rfl)
theorem ml_RL_15 : Cond.methodLink RL 15 yL_cell ∈ BIG := (tb5 168 (by decide +kernel) rfl)
theorem ml_RL_7 : Cond.methodLink RL 7 yX11_knows ∈ BIG := (tb5 175 (by decide +kernel) rfl)
theorem ml_RL_26 : Cond.methodLink RL 26 yX12_init ∈ BIG := (tb6 6 (by decide +kernel) rfl)
theorem ml_RL_62 : Cond.methodLink RL 62 yX12_thrown ∈ BIG := (tb6 157 (by decide +kernel) rfl)
theorem ml_RL_31 : Cond.methodLink RL 31 yX12_feed ∈ BIG := (tb6 161 (by decide +kernel) rfl)
theorem ml_RX12_118 : Cond.methodLink RX12 118 yX12_bytesIn ∈ BIG := (tb6 165 (by decide +kernel) rfl)
theorem ml_RX12_122 : Cond.methodLink RX12 122 yX12_put ∈ BIG := (tb6 168 (by decide +kernel) rfl)
theorem ml_RL_36 : Cond.methodLink RL 36 yX12_end ∈ BIG := (tb6 172 (by decide +kernel) rfl)
theorem ml_RL_40 : Cond.methodLink RL 40 yX12_fault ∈ BIG := (tb6 176 (by decide +kernel) rfl)
theorem ml_RX12_232 : Cond.methodLink RX12 232 yX12_isIn ∈ BIG := (tb6 180 (by decide +kernel) rfl)
theorem ml_RX12_236 : Cond.methodLink RX12 236 yX12_readNet ∈ BIG := (tb6 183 (by decide +kernel) rfl)
theorem ml_RX12_210 : Cond.methodLink RX12 210 yX12_opens ∈ BIG := (tb6 187 (by decide +kernel) rfl)
theorem ml_RX12_145 : Cond.methodLink RX12 145 yX12_look ∈ BIG := (tb6 191 (by decide +kernel) rfl)
theorem ml_RX12_229 : Cond.methodLink RX12 229 yX12_readTie ∈ BIG := (tb6 195 (by decide +kernel) rfl)
theorem ml_RX12_217 : Cond.methodLink RX12 217 yX12_isLetterOf ∈ BIG := (tb6 199 (by decide +kernel) rfl)
theorem ml_RX12_141 : Cond.methodLink RX12 141 yX12_fails ∈ BIG := (tb6 203 (by decide +kernel) rfl)
theorem ml_RX12_220 : Cond.methodLink RX12 220 yX12_has ∈ BIG := (tb6 207 (by decide +kernel) rfl)
theorem ml_RX12_224 : Cond.methodLink RX12 224 yJ6_bitCount_0f7a4 ∈ BIG := (tb6 210 (by decide +kernel) rfl)
theorem ml_RX12_239 : Cond.methodLink RX12 239 yX12_goThrough ∈ BIG := (tb6 211 (by decide +kernel) rfl)
theorem ml_RX12_214 : Cond.methodLink RX12 214 yX12_clause ∈ BIG := (tb6 215 (by decide +kernel) rfl)
theorem ml_RX12_157 : Cond.methodLink RX12 157 yX12_isAmong ∈ BIG := (tb6 219 (by decide +kernel) rfl)
theorem ml_RX12_106 : Cond.methodLink RX12 106 yJ0_length_8abf5 ∈ BIG := (tb6 222 (by decide +kernel) rfl)
theorem ml_RX12_112 : Cond.methodLink RX12 112 yJ0_charAt_5068e ∈ BIG := (tb6 223 (by decide +kernel) rfl)
theorem ml_RJ0_495 : Cond.methodLink RJ0 495 yJ1_charAt_3b067 ∈ BIG := (tb6 227 (by decide +kernel) rfl)
theorem ml_RJ1_9 : Cond.methodLink RJ1 9 yJ0_checkIndex_df160 ∈ BIG := (tb6 230 (by decide +kernel) rfl)
theorem ml_RJ0_1059 : Cond.methodLink RJ0 1059 yJ3_checkIndex_8e157 ∈ BIG := (tb6 233 (by decide +kernel) rfl)
theorem ml_RJ0_498 : Cond.methodLink RJ0 498 yJ2_charAt_3b067 ∈ BIG := (tb6 236 (by decide +kernel) rfl)
theorem ml_RJ2_67 : Cond.methodLink RJ2 67 yJ2_checkIndex_2214a ∈ BIG := (tb6 239 (by decide +kernel) rfl)
theorem ml_RJ2_414 : Cond.methodLink RJ2 414 yJ0_checkIndex_df160 ∈ BIG := (tb7 2 (by decide +kernel) rfl)
theorem ml_RX12_167 : Cond.methodLink RX12 167 yX12_takes ∈ BIG := (tb7 3 (by decide +kernel) rfl)
theorem ml_RX12_190 : Cond.methodLink RX12 190 yX12_condition ∈ BIG := (tb7 7 (by decide +kernel) rfl)
theorem ml_RX12_197 : Cond.methodLink RX12 197 yX12_part ∈ BIG := (tb7 11 (by decide +kernel) rfl)
theorem ml_RX12_194 : Cond.methodLink RX12 194 yX12_compares ∈ BIG := (tb7 15 (by decide +kernel) rfl)
theorem ml_RX12_164 : Cond.methodLink RX12 164 yX12_sum ∈ BIG := (tb7 19 (by decide +kernel) rfl)
theorem ml_RX12_181 : Cond.methodLink RX12 181 yX12_term ∈ BIG := (tb7 23 (by decide +kernel) rfl)
theorem ml_RX12_174 : Cond.methodLink RX12 174 yX12_atom ∈ BIG := (tb7 27 (by decide +kernel) rfl)
theorem ml_RX12_161 : Cond.methodLink RX12 161 yX12_goesIn ∈ BIG := (tb7 31 (by decide +kernel) rfl)
theorem ml_RX12_171 : Cond.methodLink RX12 171 yX12_isDigit ∈ BIG := (tb7 35 (by decide +kernel) rfl)
theorem ml_RX12_177 : Cond.methodLink RX12 177 yX12_within ∈ BIG := (tb7 39 (by decide +kernel) rfl)
theorem ml_RX12_184 : Cond.methodLink RX12 184 yX12_isSign ∈ BIG := (tb7 50 (by decide +kernel) rfl)
theorem ml_RX12_187 : Cond.methodLink RX12 187 yX12_unit ∈ BIG := (tb7 53 (by decide +kernel) rfl)
theorem ml_RL_44 : Cond.methodLink RL 44 yX12_text ∈ BIG := (tb7 57 (by decide +kernel) rfl)
theorem ml_RX12_245 : Cond.methodLink RX12 245 yX12_fault ∈ BIG := (tb7 61 (by decide +kernel) rfl)
theorem ml_RX12_247 : Cond.methodLink RX12 247 yX12_ties ∈ BIG := (tb7 62 (by decide +kernel) rfl)
theorem ml_RL_49 : Cond.methodLink RL 49 yX12_most ∈ BIG := (tb7 66 (by decide +kernel) rfl)
theorem ml_RX12_250 : Cond.methodLink RX12 250 yX12_isOne ∈ BIG := (tb7 70 (by decide +kernel) rfl)
theorem ml_RX12_253 : Cond.methodLink RX12 253 yX12_many ∈ BIG := (tb7 74 (by decide +kernel) rfl)
theorem ml_RL_53 : Cond.methodLink RL 53 yX12_tie ∈ BIG := (tb7 78 (by decide +kernel) rfl)
theorem ml_RX12_256 : Cond.methodLink RX12 256 yX12_areTwo ∈ BIG := (tb7 82 (by decide +kernel) rfl)
theorem ml_RX12_259 : Cond.methodLink RX12 259 yX12_join ∈ BIG := (tb7 86 (by decide +kernel) rfl)
theorem ml_RL_57 : Cond.methodLink RL 57 yX12_drop ∈ BIG := (tb7 90 (by decide +kernel) rfl)
theorem ml_RX12_263 : Cond.methodLink RX12 263 yX12_part_ ∈ BIG := (tb7 94 (by decide +kernel) rfl)
theorem ml_RL_61 : Cond.methodLink RL 61 yX12_knows ∈ BIG := (tb7 98 (by decide +kernel) rfl)
theorem ml_RL_70 : Cond.methodLink RL 70 yX12_far ∈ BIG := (tb7 102 (by decide +kernel) rfl)
theorem ml_RX12_268 : Cond.methodLink RX12 268 yX12_farOf ∈ BIG := (tb7 106 (by decide +kernel) rfl)
theorem ml_RX12_265 : Cond.methodLink RX12 265 yX12_around ∈ BIG := (tb7 110 (by decide +kernel) rfl)
theorem ml_RL_75 : Cond.methodLink RL 75 yX12_ways ∈ BIG := (tb7 114 (by decide +kernel) rfl)
theorem ml_RX12_278 : Cond.methodLink RX12 278 yX12_layFrom ∈ BIG := (tb7 119 (by decide +kernel) rfl)
theorem ml_RX12_271 : Cond.methodLink RX12 271 yX12_farNow ∈ BIG := (tb7 123 (by decide +kernel) rfl)
theorem ml_RX12_274 : Cond.methodLink RX12 274 yX12_rowsNow ∈ BIG := (tb7 127 (by decide +kernel) rfl)
theorem ml_RL_80 : Cond.methodLink RL 80 yX12_over ∈ BIG := (tb7 131 (by decide +kernel) rfl)
theorem ml_RL_84 : Cond.methodLink RL 84 yX12_of ∈ BIG := (tb7 135 (by decide +kernel) rfl)
theorem ml_RX12_286 : Cond.methodLink RX12 286 yX12_sumOf ∈ BIG := (tb7 139 (by decide +kernel) rfl)
theorem ml_RX12_283 : Cond.methodLink RX12 283 yX12_partOf ∈ BIG := (tb7 143 (by decide +kernel) rfl)
theorem ml_RX12_289 : Cond.methodLink RX12 289 yX12_cutBy ∈ BIG := (tb7 147 (by decide +kernel) rfl)
theorem ml_RL_88 : Cond.methodLink RL 88 yX12_all ∈ BIG := (tb7 151 (by decide +kernel) rfl)
theorem ml_RX12_292 : Cond.methodLink RX12 292 yX12_partsNow ∈ BIG := (tb7 155 (by decide +kernel) rfl)
theorem ml_RL_92 : Cond.methodLink RL 92 yX12_load ∈ BIG := (tb7 159 (by decide +kernel) rfl)
theorem ml_RX12_295 : Cond.methodLink RX12 295 yX12_layAll ∈ BIG := (tb7 163 (by decide +kernel) rfl)
theorem ml_RX12_298 : Cond.methodLink RX12 298 yX12_goesBy ∈ BIG := (tb7 167 (by decide +kernel) rfl)
theorem ml_RL_96 : Cond.methodLink RL 96 yX12_apart ∈ BIG := (tb7 171 (by decide +kernel) rfl)
theorem ml_RX12_302 : Cond.methodLink RX12 302 yX12_openAll ∈ BIG := (tb7 175 (by decide +kernel) rfl)
theorem ml_RX12_305 : Cond.methodLink RX12 305 yX12_oneMore ∈ BIG := (tb7 179 (by decide +kernel) rfl)
theorem ml_RL_100 : Cond.methodLink RL 100 yX12_bears ∈ BIG := (tb7 183 (by decide +kernel) rfl)
theorem ml_RX12_314 : Cond.methodLink RX12 314 yX12_firstBreak ∈ BIG := (tb7 187 (by decide +kernel) rfl)
theorem ml_RX12_311 : Cond.methodLink RX12 311 yX12_areJoinedWithout ∈ BIG := (tb7 191 (by decide +kernel) rfl)
theorem ml_RX12_308 : Cond.methodLink RX12 308 yJ6_numberOfTrailingZeros_0f7a4 ∈ BIG := (tb7 195 (by decide +kernel) rfl)
theorem ml_RL_104 : Cond.methodLink RL 104 yX12_broken ∈ BIG := (tb7 199 (by decide +kernel) rfl)
theorem ml_RL_108 : Cond.methodLink RL 108 yX12_mend ∈ BIG := (tb7 203 (by decide +kernel) rfl)
theorem ml_RL_113 : Cond.methodLink RL 113 yX12_need ∈ BIG := (tb7 207 (by decide +kernel) rfl)
theorem ml_RL_117 : Cond.methodLink RL 117 yX12_value ∈ BIG := (tb7 211 (by decide +kernel) rfl)
theorem ml_RX12_321 : Cond.methodLink RX12 321 yX12_valueOf ∈ BIG := (tb7 215 (by decide +kernel) rfl)
theorem ml_RL_121 : Cond.methodLink RL 121 yX12_cost ∈ BIG := (tb7 219 (by decide +kernel) rfl)
theorem ml_RL_125 : Cond.methodLink RL 125 yX12_gain ∈ BIG := (tb7 223 (by decide +kernel) rfl)
theorem ml_RX12_343 : Cond.methodLink RX12 343 yX12_canChange ∈ BIG := (tb7 227 (by decide +kernel) rfl)
theorem ml_RX12_327 : Cond.methodLink RX12 327 yX12_mayDrop ∈ BIG := (tb7 231 (by decide +kernel) rfl)
theorem ml_RX12_347 : Cond.methodLink RX12 347 yX12_layGains ∈ BIG := (tb7 236 (by decide +kernel) rfl)
theorem ml_RX12_330 : Cond.methodLink RX12 330 yX12_doChange ∈ BIG := (tb8 0 (by decide +kernel) rfl)
theorem ml_RX12_340 : Cond.methodLink RX12 340 yX12_undoChange ∈ BIG := (tb8 4 (by decide +kernel) rfl)
theorem ml_RL_130 : Cond.methodLink RL 130 yX12_change ∈ BIG := (tb8 8 (by decide +kernel) rfl)
theorem ml_RX12_350 : Cond.methodLink RX12 350 yX12_isWanted ∈ BIG := (tb8 12 (by decide +kernel) rfl)
theorem ml_RL_134 : Cond.methodLink RL 134 yX12_best ∈ BIG := (tb8 16 (by decide +kernel) rfl)
theorem ml_RX12_368 : Cond.methodLink RX12 368 yX12_hasBest ∈ BIG := (tb8 20 (by decide +kernel) rfl)
theorem ml_RX12_356 : Cond.methodLink RX12 356 yX12_hasNeeds ∈ BIG := (tb8 24 (by decide +kernel) rfl)
theorem ml_RL_138 : Cond.methodLink RL 138 yX12_turn ∈ BIG := (tb8 28 (by decide +kernel) rfl)
theorem ml_RL_143 : Cond.methodLink RL 143 yX12_stable ∈ BIG := (tb8 32 (by decide +kernel) rfl)
theorem ml_RL_148 : Cond.methodLink RL 148 yX12_send ∈ BIG := (tb8 36 (by decide +kernel) rfl)
theorem ml_RX12_386 : Cond.methodLink RX12 386 yX12_isRule ∈ BIG := (tb8 40 (by decide +kernel) rfl)
theorem ml_RX12_389 : Cond.methodLink RX12 389 yX12_goes ∈ BIG := (tb8 44 (by decide +kernel) rfl)
theorem ml_RX12_383 : Cond.methodLink RX12 383 yX12_givesTo ∈ BIG := (tb8 48 (by decide +kernel) rfl)
theorem ml_RX12_371 : Cond.methodLink RX12 371 yX12_clearLetters ∈ BIG := (tb8 52 (by decide +kernel) rfl)
theorem ml_RX12_377 : Cond.methodLink RX12 377 yX12_worthBy ∈ BIG := (tb8 57 (by decide +kernel) rfl)
theorem ml_RL_152 : Cond.methodLink RL 152 yX12_comes ∈ BIG := (tb8 61 (by decide +kernel) rfl)
theorem ml_RL_159 : Cond.methodLink RL 159 yX12_years ∈ BIG := (tb8 65 (by decide +kernel) rfl)
theorem ml_RX12_405 : Cond.methodLink RX12 405 yX12_draw ∈ BIG := (tb8 69 (by decide +kernel) rfl)
theorem ml_RX12_408 : Cond.methodLink RX12 408 yX12_looks ∈ BIG := (tb8 76 (by decide +kernel) rfl)
theorem ml_RX12_402 : Cond.methodLink RX12 402 yX12_worthTo ∈ BIG := (tb8 80 (by decide +kernel) rfl)
theorem ml_RL_163 : Cond.methodLink RL 163 yX12_ring ∈ BIG := (tb8 84 (by decide +kernel) rfl)
theorem ml_RX12_411 : Cond.methodLink RX12 411 yX12_areJumps ∈ BIG := (tb8 88 (by decide +kernel) rfl)
theorem ml_RX12_414 : Cond.methodLink RX12 414 yX12_ringOf ∈ BIG := (tb8 92 (by decide +kernel) rfl)
theorem ml_RX12_417 : Cond.methodLink RX12 417 yX12_layRing ∈ BIG := (tb8 96 (by decide +kernel) rfl)
theorem ml_RL_167 : Cond.methodLink RL 167 yX12_fine ∈ BIG := (tb8 100 (by decide +kernel) rfl)
theorem ml_RL_171 : Cond.methodLink RL 171 yX12_bound ∈ BIG := (tb8 104 (by decide +kernel) rfl)
theorem ml_RL_175 : Cond.methodLink RL 175 yX12_image ∈ BIG := (tb8 108 (by decide +kernel) rfl)
theorem ml_RL_179 : Cond.methodLink RL 179 yX12_back ∈ BIG := (tb8 112 (by decide +kernel) rfl)
theorem ml_RL_183 : Cond.methodLink RL 183 yX12_set ∈ BIG := (tb8 116 (by decide +kernel) rfl)
theorem ml_RX12_423 : Cond.methodLink RX12 423 yX12_isBetter ∈ BIG := (tb8 120 (by decide +kernel) rfl)
theorem ml_RX12_427 : Cond.methodLink RX12 427 yX12_isSet ∈ BIG := (tb8 123 (by decide +kernel) rfl)
theorem ml_RL_187 : Cond.methodLink RL 187 yX12_word ∈ BIG := (tb8 127 (by decide +kernel) rfl)
theorem ml_RX12_430 : Cond.methodLink RX12 430 yX12_areSome ∈ BIG := (tb8 131 (by decide +kernel) rfl)
theorem ml_RL_191 : Cond.methodLink RL 191 yX12_out ∈ BIG := (tb8 135 (by decide +kernel) rfl)
theorem ml_RX12_433 : Cond.methodLink RX12 433 yX12_outFrom ∈ BIG := (tb8 139 (by decide +kernel) rfl)
theorem ml_RL_195 : Cond.methodLink RL 195 yX12_begin ∈ BIG := (tb8 143 (by decide +kernel) rfl)
theorem ml_RX12_436 : Cond.methodLink RX12 436 yX12_heardFrom ∈ BIG := (tb8 147 (by decide +kernel) rfl)
theorem ml_RL_199 : Cond.methodLink RL 199 yX12_common ∈ BIG := (tb8 151 (by decide +kernel) rfl)
theorem ml_RX12_439 : Cond.methodLink RX12 439 yX12_commonOf ∈ BIG := (tb8 155 (by decide +kernel) rfl)
theorem ml_RL_203 : Cond.methodLink RL 203 yX12_likely ∈ BIG := (tb8 159 (by decide +kernel) rfl)
theorem ml_RL_207 : Cond.methodLink RL 207 yX12_threes ∈ BIG := (tb8 163 (by decide +kernel) rfl)
theorem ml_RX12_442 : Cond.methodLink RX12 442 yX12_threesOf ∈ BIG := (tb8 167 (by decide +kernel) rfl)
theorem ml_RL_211 : Cond.methodLink RL 211 yX12_courier ∈ BIG := (tb8 171 (by decide +kernel) rfl)
theorem ml_RX12_445 : Cond.methodLink RX12 445 yX12_farsOfOthers ∈ BIG := (tb8 175 (by decide +kernel) rfl)
theorem ml_RL_215 : Cond.methodLink RL 215 yX12_loss ∈ BIG := (tb8 179 (by decide +kernel) rfl)
theorem ml_RX12_452 : Cond.methodLink RX12 452 yX12_lossOf ∈ BIG := (tb8 183 (by decide +kernel) rfl)
theorem ml_RX12_449 : Cond.methodLink RX12 449 yX12_sumOfAll ∈ BIG := (tb8 187 (by decide +kernel) rfl)
theorem ml_RL_219 : Cond.methodLink RL 219 yX12_dear ∈ BIG := (tb8 191 (by decide +kernel) rfl)
theorem ml_RX12_455 : Cond.methodLink RX12 455 yX12_giftOf ∈ BIG := (tb8 195 (by decide +kernel) rfl)
theorem ml_RL_223 : Cond.methodLink RL 223 yX12_count ∈ BIG := (tb8 199 (by decide +kernel) rfl)
theorem mn_RX11_62 : ((RX11, 62, yX10_init, "SevenTown") : String × Nat × MethodName × String) ∈ NEST := List.mem_of_getElem? (i := 0) rfl
theorem mn_RX11_87 : ((RX11, 87, yX8_init, "SevenTown") : String × Nat × MethodName × String) ∈ NEST := List.mem_of_getElem? (i := 1) rfl
theorem mn_RX1_51 : ((RX1, 51, yX11_firstSet, "SevenTown") : String × Nat × MethodName × String) ∈ NEST := List.mem_of_getElem? (i := 2) rfl
theorem mn_RX1_58 : ((RX1, 58, yX11_nextSet, "SevenTown") : String × Nat × MethodName × String) ∈ NEST := List.mem_of_getElem? (i := 3) rfl
theorem mn_RX9_55 : ((RX9, 55, yX11_firstSet, "SevenTown") : String × Nat × MethodName × String) ∈ NEST := List.mem_of_getElem? (i := 4) rfl
theorem mn_RX9_64 : ((RX9, 64, yX11_nextSet, "SevenTown") : String × Nat × MethodName × String) ∈ NEST := List.mem_of_getElem? (i := 5) rfl
theorem mc_mmax : Cond.code Lib.Math.max.name Lib.Math.max.code 2 (some .int) ∈ BIG := (tb1 40 (by decide +kernel) rfl)
theorem mz_mmax : Cond.static Lib.Math.max.name ∈ BIG := (tb1 39 (by decide +kernel) rfl)
theorem ml_RX11_15 : Cond.methodLink RX11 15 Lib.Math.max.name ∈ BIG := (tb1 38 (by decide +kernel) rfl)
theorem ml_RJ1_92 : Cond.methodLink RJ1 92 Lib.Math.max.name ∈ BIG := (tb2 234 (by decide +kernel) rfl)
theorem ml_RJ2_224 : Cond.methodLink RJ2 224 Lib.Math.max.name ∈ BIG := (tb3 2 (by decide +kernel) rfl)
theorem ml_RX3_67 : Cond.methodLink RX3 67 Lib.Math.max.name ∈ BIG := (tb3 200 (by decide +kernel) rfl)
theorem ml_RX9_41 : Cond.methodLink RX9 41 Lib.Math.max.name ∈ BIG := (tb5 56 (by decide +kernel) rfl)
theorem ml_RX12_96 : Cond.methodLink RX12 96 Lib.Math.max.name ∈ BIG := (tb6 13 (by decide +kernel) rfl)
theorem mc_mmin : Cond.code Lib.Math.min.name Lib.Math.min.code 2 (some .int) ∈ BIG := (tb1 37 (by decide +kernel) rfl)
theorem mz_mmin : Cond.static Lib.Math.min.name ∈ BIG := (tb1 36 (by decide +kernel) rfl)
theorem ml_RX11_9 : Cond.methodLink RX11 9 Lib.Math.min.name ∈ BIG := (tb1 35 (by decide +kernel) rfl)
theorem ml_RJ1_38 : Cond.methodLink RJ1 38 Lib.Math.min.name ∈ BIG := (tb2 235 (by decide +kernel) rfl)
theorem ml_RJ2_183 : Cond.methodLink RJ2 183 Lib.Math.min.name ∈ BIG := (tb3 3 (by decide +kernel) rfl)
theorem ml_RX12_90 : Cond.methodLink RX12 90 Lib.Math.min.name ∈ BIG := (tb6 12 (by decide +kernel) rfl)
theorem mc_mabs : Cond.code Lib.Math.abs.name Lib.Math.abs.code 1 (some .int) ∈ BIG := (tb4 171 (by decide +kernel) rfl)
theorem mz_mabs : Cond.static Lib.Math.abs.name ∈ BIG := (tb4 170 (by decide +kernel) rfl)
theorem ml_RX6_71 : Cond.methodLink RX6 71 Lib.Math.abs.name ∈ BIG := (tb4 169 (by decide +kernel) rfl)
theorem ml_RX12_374 : Cond.methodLink RX12 374 Lib.Math.abs.name ∈ BIG := (tb8 56 (by decide +kernel) rfl)
theorem mc_mmaxl : Cond.code Lib.MathLoose.max_long.x Lib.MathLoose.max_long.code 4 (some .long) ∈ BIG := (tb7 49 (by decide +kernel) rfl)
theorem mz_mmaxl : Cond.static Lib.MathLoose.max_long.x ∈ BIG := (tb7 48 (by decide +kernel) rfl)
theorem ml_RX12_155 : Cond.methodLink RX12 155 Lib.MathLoose.max_long.x ∈ BIG := (tb7 47 (by decide +kernel) rfl)
theorem mc_mminl : Cond.code Lib.MathLoose.min_long.x Lib.MathLoose.min_long.code 4 (some .long) ∈ BIG := (tb7 46 (by decide +kernel) rfl)
theorem mz_mminl : Cond.static Lib.MathLoose.min_long.x ∈ BIG := (tb7 45 (by decide +kernel) rfl)
theorem ml_RX12_152 : Cond.methodLink RX12 152 Lib.MathLoose.min_long.x ∈ BIG := (tb7 44 (by decide +kernel) rfl)
theorem in_math : Cond.initialized "java/lang/Math" ∈ BIG := (tb1 2 (by decide +kernel) rfl)
theorem in_sys : Cond.initialized "java/lang/System" ∈ BIG := (tb1 22 (by decide +kernel) rfl)
theorem nat_ac : Cond.native arraycopyName ∈ BIG := (tb3 72 (by decide +kernel) rfl)
theorem mz_ac : Cond.static arraycopyName ∈ BIG := (tb3 71 (by decide +kernel) rfl)
theorem ml_RX11_139 : Cond.methodLink RX11 139 arraycopyName ∈ BIG := (tb3 70 (by decide +kernel) rfl)
theorem ml_RX8_30 : Cond.methodLink RX8 30 arraycopyName ∈ BIG := (tb3 86 (by decide +kernel) rfl)
theorem ml_RX3_34 : Cond.methodLink RX3 34 arraycopyName ∈ BIG := (tb4 128 (by decide +kernel) rfl)
theorem fs_RJ0_38 : Cond.fieldLink RJ0 38 "java/lang/String" "COMPACT_STRINGS" "Z" ∈ BIG := (tb2 218 (by decide +kernel) rfl)
theorem fs_RJ0_1053 : Cond.fieldLink RJ0 1053 "jdk/internal/util/Preconditions" "SIOOBE_FORMATTER" "Ljava/util/function/BiFunction;" ∈ BIG := (tb3 17 (by decide +kernel) rfl)
theorem fs_RJ0_15 : Cond.fieldLink RJ0 15 "java/lang/String" "coder" "B" ∈ BIG := (tb8 221 (by decide +kernel) rfl)
theorem fs_RJ0_9 : Cond.fieldLink RJ0 9 "java/lang/String" "value" "[B" ∈ BIG := (tb8 222 (by decide +kernel) rfl)
theorem kc_RJ6_265 : Cond.constant RJ6 265 (1431655765) ∈ BIG := (tb2 169 (by decide +kernel) rfl)
theorem kc_RJ6_266 : Cond.constant RJ6 266 (858993459) ∈ BIG := (tb2 170 (by decide +kernel) rfl)
theorem kc_RJ6_267 : Cond.constant RJ6 267 (252645135) ∈ BIG := (tb2 171 (by decide +kernel) rfl)
theorem kc_RJ2_227 : Cond.constant RJ2 227 (65536) ∈ BIG := (tb3 4 (by decide +kernel) rfl)
theorem kc_RJ11_110 : Cond.constant RJ11 110 (55232) ∈ BIG := (tb3 43 (by decide +kernel) rfl)
theorem kc_RJ11_76 : Cond.constant RJ11 76 (56320) ∈ BIG := (tb3 47 (by decide +kernel) rfl)
theorem kc_RX11_266 : Cond.constant RX11 266 (-1000000) ∈ BIG := (tb4 78 (by decide +kernel) rfl)
theorem kc_RX8_56 : Cond.constant RX8 56 (1000000) ∈ BIG := (tb4 187 (by decide +kernel) rfl)
theorem kc_RX8_59 : Cond.constant RX8 59 (-1000000) ∈ BIG := (tb4 189 (by decide +kernel) rfl)
theorem kc_RJ6_264 : Cond.constant RJ6 264 (65536) ∈ BIG := (tb7 198 (by decide +kernel) rfl)
theorem kc_RX12_346 : Cond.constant RX12 346 (-1000000) ∈ BIG := (tb7 235 (by decide +kernel) rfl)
theorem kl_RX11_204 : Cond.constantLong RX11 204 (-1) ∈ BIG := (tb3 139 (by decide +kernel) rfl)
theorem kl_RX5_77 : Cond.constantLong RX5 77 (-1) ∈ BIG := (tb3 237 (by decide +kernel) rfl)
theorem kl_RX8_54 : Cond.constantLong RX8 54 (1000000) ∈ BIG := (tb4 186 (by decide +kernel) rfl)
theorem kl_RX8_57 : Cond.constantLong RX8 57 (-1000000) ∈ BIG := (tb4 188 (by decide +kernel) rfl)
theorem kl_RX0_50 : Cond.constantLong RX0 50 (6364136223846793005) ∈ BIG := (tb4 212 (by decide +kernel) rfl)
theorem kl_RX0_52 : Cond.constantLong RX0 52 (1442695040888963407) ∈ BIG := (tb4 213 (by decide +kernel) rfl)
theorem kl_RX0_54 : Cond.constantLong RX0 54 (100) ∈ BIG := (tb4 214 (by decide +kernel) rfl)
theorem kl_RX12_148 : Cond.constantLong RX12 148 (-1000000) ∈ BIG := (tb7 42 (by decide +kernel) rfl)
theorem kl_RX12_150 : Cond.constantLong RX12 150 (1000000) ∈ BIG := (tb7 43 (by decide +kernel) rfl)
theorem kl_RX12_281 : Cond.constantLong RX12 281 (-1) ∈ BIG := (tb7 118 (by decide +kernel) rfl)
theorem kl_RX12_396 : Cond.constantLong RX12 396 (6364136223846793005) ∈ BIG := (tb8 73 (by decide +kernel) rfl)
theorem kl_RX12_398 : Cond.constantLong RX12 398 (1442695040888963407) ∈ BIG := (tb8 74 (by decide +kernel) rfl)
theorem kl_RX12_400 : Cond.constantLong RX12 400 (100) ∈ BIG := (tb8 75 (by decide +kernel) rfl)
theorem kl_RL_153 : Cond.constantLong RL 153 (4294967295) ∈ BIG := (tb8 203 (by decide +kernel) rfl)
/-- where references lead, once all is made (but the text that the other side reads) -/
def R0l : List ((Nat × Nat) × Nat) := [((0, 1), 1), ((0, 2), 5), ((0, 3), 9), ((0, 4), 13), ((0, 5), 20), ((0, 6), 21), ((0, 7), 23), ((0, 8), 25), ((0, 9), 27), ((0, 10), 29), ((0, 11), 40), ((0, 12), 63), ((0, 13), 66), ((1, 2), 2), ((1, 3), 3), ((1, 4), 4), ((5, 2), 6), ((5, 3), 7), ((5, 4), 8), ((9, 2), 10), ((9, 3), 11), ((9, 4), 12), ((13, 0), 1), ((13, 1), 14), ((13, 2), 15), ((13, 3), 16), ((13, 4), 17), ((13, 5), 18), ((13, 6), 19), ((20, 0), 1), ((21, 0), 1), ((21, 1), 22), ((23, 0), 24), ((25, 0), 23), ((25, 1), 1), ((25, 2), 26), ((27, 0), 23), ((27, 1), 28), ((29, 0), 30), ((29, 1), 37), ((29, 2), 38), ((29, 3), 39), ((30, 0), 31), ((30, 1), 32), ((30, 2), 33), ((30, 3), 34), ((30, 4), 35), ((30, 5), 36), ((40, 0), 1), ((40, 1), 41), ((40, 2), 62), ((41, 0), 42), ((41, 1), 43), ((41, 2), 44), ((41, 3), 45), ((41, 4), 46), ((41, 5), 47), ((41, 6), 48), ((41, 7), 49), ((41, 8), 50), ((41, 9), 51), ((41, 10), 52), ((41, 11), 53), ((41, 12), 54), ((41, 13), 55), ((41, 14), 56), ((41, 15), 57), ((41, 16), 58), ((41, 17), 59), ((41, 18), 60), ((41, 19), 61), ((63, 0), 1), ((63, 1), 29), ((63, 2), 64), ((63, 3), 65), ((66, 0), 1), ((66, 1), 29), ((66, 2), 40), ((66, 3), 67), ((68, 2), 69), ((68, 3), 70), ((68, 4), 71), ((68, 5), 72), ((68, 16), 10001), ((68, 17), 10000), ((68, 19), 73), ((68, 20), 74), ((68, 21), 75), ((68, 22), 76), ((68, 23), 77), ((68, 24), 78), ((68, 25), 79), ((68, 26), 80), ((68, 27), 81), ((68, 28), 82), ((68, 29), 83), ((68, 38), 84), ((68, 39), 85), ((68, 40), 86), ((68, 43), 87), ((68, 44), 88), ((68, 45), 89)]
def R0 (k j : Nat) : Option Nat := R0l.lookup (k, j)
def Fx (h : AH) : Prop := ∀ k j r : Nat, R0 k j = some r → h.2.2 k j = some r
def IsNet (a : Nat) : Prop := a = 1 ∨ a = 5 ∨ a = 9
theorem ltA {a k : Nat} (h : 91 ≤ a) (hk : Nat.blt k 91 = true) : k < a := Nat.lt_of_lt_of_le (Nat.blt_eq.mp hk) h
theorem vp_lit {i : Int32} {n : Nat} (h : ¬ (i < 0 ∨ n ≤ i.toNatClampNeg)) : vp_in i n := h
theorem kd_0 {X : CX} : kd X 0 = (11, 15) := rfl
theorem kd_1 {X : CX} : kd X 1 = (3, 5) := rfl
theorem kd_2 {X : CX} : kd X 2 = (20, 20) := rfl
theorem kd_3 {X : CX} : kd X 3 = (20, 20) := rfl
theorem kd_4 {X : CX} : kd X 4 = (20, 20) := rfl
theorem kd_5 {X : CX} : kd X 5 = (3, 5) := rfl
theorem kd_6 {X : CX} : kd X 6 = (20, 20) := rfl
theorem kd_7 {X : CX} : kd X 7 = (20, 20) := rfl
theorem kd_8 {X : CX} : kd X 8 = (20, 20) := rfl
theorem kd_9 {X : CX} : kd X 9 = (3, 5) := rfl
theorem kd_10 {X : CX} : kd X 10 = (20, 20) := rfl
theorem kd_11 {X : CX} : kd X 11 = (20, 20) := rfl
theorem kd_12 {X : CX} : kd X 12 = (20, 20) := rfl
theorem kd_13 {X : CX} : kd X 13 = (5, 7) := rfl
theorem kd_14 {X : CX} : kd X 14 = (23, 20) := rfl
theorem kd_15 {X : CX} : kd X 15 = (20, 20) := rfl
theorem kd_16 {X : CX} : kd X 16 = (20, 20) := rfl
theorem kd_17 {X : CX} : kd X 17 = (23, 40) := rfl
theorem kd_18 {X : CX} : kd X 18 = (20, 40) := rfl
theorem kd_19 {X : CX} : kd X 19 = (20, 40) := rfl
theorem kd_20 {X : CX} : kd X 20 = (1, 1) := rfl
theorem kd_21 {X : CX} : kd X 21 = (9, 2) := rfl
theorem kd_22 {X : CX} : kd X 22 = (20, (nX X)) := rfl
theorem kd_23 {X : CX} : kd X 23 = (10, 2) := rfl
theorem kd_24 {X : CX} : kd X 24 = (20, 200) := rfl
theorem kd_25 {X : CX} : kd X 25 = (4, 3) := rfl
theorem kd_26 {X : CX} : kd X 26 = (20, 20) := rfl
theorem kd_27 {X : CX} : kd X 27 = (7, 5) := rfl
theorem kd_28 {X : CX} : kd X 28 = (20, 200) := rfl
theorem kd_29 {X : CX} : kd X 29 = (8, 5) := rfl
theorem kd_30 {X : CX} : kd X 30 = (24, 6) := rfl
theorem kd_31 {X : CX} : kd X 31 = (20, 200) := rfl
theorem kd_32 {X : CX} : kd X 32 = (20, 200) := rfl
theorem kd_33 {X : CX} : kd X 33 = (20, 200) := rfl
theorem kd_34 {X : CX} : kd X 34 = (20, 200) := rfl
theorem kd_35 {X : CX} : kd X 35 = (20, 200) := rfl
theorem kd_36 {X : CX} : kd X 36 = (20, 200) := rfl
theorem kd_37 {X : CX} : kd X 37 = (20, 6) := rfl
theorem kd_38 {X : CX} : kd X 38 = (20, 48) := rfl
theorem kd_39 {X : CX} : kd X 39 = (20, 9) := rfl
theorem kd_40 {X : CX} : kd X 40 = (2, 9) := rfl
theorem kd_41 {X : CX} : kd X 41 = (24, 20) := rfl
theorem kd_42 {X : CX} : kd X 42 = (20, 20) := rfl
theorem kd_43 {X : CX} : kd X 43 = (20, 20) := rfl
theorem kd_44 {X : CX} : kd X 44 = (20, 20) := rfl
theorem kd_45 {X : CX} : kd X 45 = (20, 20) := rfl
theorem kd_46 {X : CX} : kd X 46 = (20, 20) := rfl
theorem kd_47 {X : CX} : kd X 47 = (20, 20) := rfl
theorem kd_48 {X : CX} : kd X 48 = (20, 20) := rfl
theorem kd_49 {X : CX} : kd X 49 = (20, 20) := rfl
theorem kd_50 {X : CX} : kd X 50 = (20, 20) := rfl
theorem kd_51 {X : CX} : kd X 51 = (20, 20) := rfl
theorem kd_52 {X : CX} : kd X 52 = (20, 20) := rfl
theorem kd_53 {X : CX} : kd X 53 = (20, 20) := rfl
theorem kd_54 {X : CX} : kd X 54 = (20, 20) := rfl
theorem kd_55 {X : CX} : kd X 55 = (20, 20) := rfl
theorem kd_56 {X : CX} : kd X 56 = (20, 20) := rfl
theorem kd_57 {X : CX} : kd X 57 = (20, 20) := rfl
theorem kd_58 {X : CX} : kd X 58 = (20, 20) := rfl
theorem kd_59 {X : CX} : kd X 59 = (20, 20) := rfl
theorem kd_60 {X : CX} : kd X 60 = (20, 20) := rfl
theorem kd_61 {X : CX} : kd X 61 = (20, 20) := rfl
theorem kd_62 {X : CX} : kd X 62 = (20, 20) := rfl
theorem kd_63 {X : CX} : kd X 63 = (6, 5) := rfl
theorem kd_64 {X : CX} : kd X 64 = (20, 20) := rfl
theorem kd_65 {X : CX} : kd X 65 = (20, 61) := rfl
theorem kd_66 {X : CX} : kd X 66 = (0, 5) := rfl
theorem kd_67 {X : CX} : kd X 67 = (20, 20) := rfl
theorem kd_68 {X : CX} : kd X 68 = (12, 47) := rfl
theorem kd_69 {X : CX} : kd X 69 = (21, 200) := rfl
theorem kd_70 {X : CX} : kd X 70 = (21, 1200) := rfl
theorem kd_71 {X : CX} : kd X 71 = (20, 6) := rfl
theorem kd_72 {X : CX} : kd X 72 = (20, 128) := rfl
theorem kd_73 {X : CX} : kd X 73 = (20, 20) := rfl
theorem kd_74 {X : CX} : kd X 74 = (20, 20) := rfl
theorem kd_75 {X : CX} : kd X 75 = (20, 20) := rfl
theorem kd_76 {X : CX} : kd X 76 = (20, 20) := rfl
theorem kd_77 {X : CX} : kd X 77 = (23, 20) := rfl
theorem kd_78 {X : CX} : kd X 78 = (20, 400) := rfl
theorem kd_79 {X : CX} : kd X 79 = (23, 400) := rfl
theorem kd_80 {X : CX} : kd X 80 = (22, 1600) := rfl
theorem kd_81 {X : CX} : kd X 81 = (20, 40) := rfl
theorem kd_82 {X : CX} : kd X 82 = (20, 40) := rfl
theorem kd_83 {X : CX} : kd X 83 = (20, 400) := rfl
theorem kd_84 {X : CX} : kd X 84 = (20, 20) := rfl
theorem kd_85 {X : CX} : kd X 85 = (20, 20) := rfl
theorem kd_86 {X : CX} : kd X 86 = (20, 61) := rfl
theorem kd_87 {X : CX} : kd X 87 = (20, 20) := rfl
theorem kd_88 {X : CX} : kd X 88 = (20, 20) := rfl
theorem kd_89 {X : CX} : kd X 89 = (20, 20) := rfl
theorem kd_90 {X : CX} : kd X 90 = (23, 1) := rfl
theorem net_kd {X : CX} {a : Nat} (h : IsNet a) : kd X a = (3, 5) := by rcases h with rfl | rfl | rfl <;> rfl
theorem net_lt {a A : Nat} (h : IsNet a) (hA : 91 ≤ A) : a < A := by rcases h with rfl | rfl | rfl <;> omega
theorem net_r1 {a : Nat} {h : AH} (hn : IsNet a) (hF : Fx h) : h.2.2 a 2 = some (a + 1) := by rcases hn with rfl | rfl | rfl <;> exact hF _ _ _ rfl
theorem net_kd1 {X : CX} {a : Nat} (h : IsNet a) : kd X (a + 1) = (20, 20) := by rcases h with rfl | rfl | rfl <;> rfl
theorem net_lt1 {a A : Nat} (h : IsNet a) (hA : 91 ≤ A) : a + 1 < A := by rcases h with rfl | rfl | rfl <;> omega
theorem net_r2 {a : Nat} {h : AH} (hn : IsNet a) (hF : Fx h) : h.2.2 a 3 = some (a + 2) := by rcases hn with rfl | rfl | rfl <;> exact hF _ _ _ rfl
theorem net_kd2 {X : CX} {a : Nat} (h : IsNet a) : kd X (a + 2) = (20, 20) := by rcases h with rfl | rfl | rfl <;> rfl
theorem net_lt2 {a A : Nat} (h : IsNet a) (hA : 91 ≤ A) : a + 2 < A := by rcases h with rfl | rfl | rfl <;> omega
theorem net_r3 {a : Nat} {h : AH} (hn : IsNet a) (hF : Fx h) : h.2.2 a 4 = some (a + 3) := by rcases hn with rfl | rfl | rfl <;> exact hF _ _ _ rfl
theorem net_kd3 {X : CX} {a : Nat} (h : IsNet a) : kd X (a + 3) = (20, 20) := by rcases h with rfl | rfl | rfl <;> rfl
theorem net_lt3 {a A : Nat} (h : IsNet a) (hA : 91 ≤ A) : a + 3 < A := by rcases h with rfl | rfl | rfl <;> omega
theorem ci_m1 : Int32.ofInt (-1) = -1 := by decide
theorem ci_0 : Int32.ofInt (0) = 0 := by decide
theorem ci_1 : Int32.ofInt (1) = 1 := by decide
theorem ci_2 : Int32.ofInt (2) = 2 := by decide
theorem ci_3 : Int32.ofInt (3) = 3 := by decide
theorem ci_4 : Int32.ofInt (4) = 4 := by decide
theorem ci_5 : Int32.ofInt (5) = 5 := by decide
theorem cb_m2 : (Int8.ofInt (-2)).toInt32 = -2 := by decide
theorem cb_6 : (Int8.ofInt (6)).toInt32 = 6 := by decide
theorem cb_7 : (Int8.ofInt (7)).toInt32 = 7 := by decide
theorem cb_8 : (Int8.ofInt (8)).toInt32 = 8 := by decide
theorem cb_9 : (Int8.ofInt (9)).toInt32 = 9 := by decide
theorem cb_10 : (Int8.ofInt (10)).toInt32 = 10 := by decide
theorem cb_11 : (Int8.ofInt (11)).toInt32 = 11 := by decide
theorem cb_12 : (Int8.ofInt (12)).toInt32 = 12 := by decide
theorem cb_13 : (Int8.ofInt (13)).toInt32 = 13 := by decide
theorem cb_15 : (Int8.ofInt (15)).toInt32 = 15 := by decide
theorem cb_16 : (Int8.ofInt (16)).toInt32 = 16 := by decide
theorem cb_17 : (Int8.ofInt (17)).toInt32 = 17 := by decide
theorem cb_20 : (Int8.ofInt (20)).toInt32 = 20 := by decide
theorem cb_24 : (Int8.ofInt (24)).toInt32 = 24 := by decide
theorem cb_30 : (Int8.ofInt (30)).toInt32 = 30 := by decide
theorem cb_32 : (Int8.ofInt (32)).toInt32 = 32 := by decide
theorem cb_33 : (Int8.ofInt (33)).toInt32 = 33 := by decide
theorem cb_38 : (Int8.ofInt (38)).toInt32 = 38 := by decide
theorem cb_40 : (Int8.ofInt (40)).toInt32 = 40 := by decide
theorem cb_41 : (Int8.ofInt (41)).toInt32 = 41 := by decide
theorem cb_42 : (Int8.ofInt (42)).toInt32 = 42 := by decide
theorem cb_43 : (Int8.ofInt (43)).toInt32 = 43 := by decide
theorem cb_44 : (Int8.ofInt (44)).toInt32 = 44 := by decide
theorem cb_45 : (Int8.ofInt (45)).toInt32 = 45 := by decide
theorem cb_47 : (Int8.ofInt (47)).toInt32 = 47 := by decide
theorem cb_48 : (Int8.ofInt (48)).toInt32 = 48 := by decide
theorem cb_57 : (Int8.ofInt (57)).toInt32 = 57 := by decide
theorem cb_58 : (Int8.ofInt (58)).toInt32 = 58 := by decide
theorem cb_59 : (Int8.ofInt (59)).toInt32 = 59 := by decide
theorem cb_60 : (Int8.ofInt (60)).toInt32 = 60 := by decide
theorem cb_61 : (Int8.ofInt (61)).toInt32 = 61 := by decide
theorem cb_62 : (Int8.ofInt (62)).toInt32 = 62 := by decide
theorem cb_63 : (Int8.ofInt (63)).toInt32 = 63 := by decide
theorem cb_80 : (Int8.ofInt (80)).toInt32 = 80 := by decide
theorem cb_91 : (Int8.ofInt (91)).toInt32 = 91 := by decide
theorem cb_93 : (Int8.ofInt (93)).toInt32 = 93 := by decide
theorem cb_97 : (Int8.ofInt (97)).toInt32 = 97 := by decide
theorem cb_98 : (Int8.ofInt (98)).toInt32 = 98 := by decide
theorem cb_99 : (Int8.ofInt (99)).toInt32 = 99 := by decide
theorem cb_100 : (Int8.ofInt (100)).toInt32 = 100 := by decide
theorem cb_102 : (Int8.ofInt (102)).toInt32 = 102 := by decide
theorem cb_107 : (Int8.ofInt (107)).toInt32 = 107 := by decide
theorem cb_111 : (Int8.ofInt (111)).toInt32 = 111 := by decide
theorem cb_114 : (Int8.ofInt (114)).toInt32 = 114 := by decide
theorem cb_116 : (Int8.ofInt (116)).toInt32 = 116 := by decide
theorem cb_121 : (Int8.ofInt (121)).toInt32 = 121 := by decide
theorem cb_124 : (Int8.ofInt (124)).toInt32 = 124 := by decide
theorem cs_128 : (Int16.ofInt (128)).toInt32 = 128 := by decide
theorem cs_200 : (Int16.ofInt (200)).toInt32 = 200 := by decide
theorem cs_255 : (Int16.ofInt (255)).toInt32 = 255 := by decide
theorem cs_256 : (Int16.ofInt (256)).toInt32 = 256 := by decide
theorem cs_400 : (Int16.ofInt (400)).toInt32 = 400 := by decide
theorem cs_1023 : (Int16.ofInt (1023)).toInt32 = 1023 := by decide
theorem cs_1024 : (Int16.ofInt (1024)).toInt32 = 1024 := by decide
theorem cs_1140 : (Int16.ofInt (1140)).toInt32 = 1140 := by decide
theorem cs_1200 : (Int16.ofInt (1200)).toInt32 = 1200 := by decide
theorem cs_1600 : (Int16.ofInt (1600)).toInt32 = 1600 := by decide
theorem cs_3000 : (Int16.ofInt (3000)).toInt32 = 3000 := by decide
theorem cl_l0 : Int64.ofNat ((0 : Fin 2) : Nat) = 0 := by decide
theorem cl_l1 : Int64.ofNat ((1 : Fin 2) : Nat) = 1 := by decide
