/-! texts: the JDK's own methods over the constants -/
section ST
variable {X : CX} {d nx sz : Nat} {h : AH}
theorem s_J3_checkIndex {x0 x1 : Int32} {v : Value} (hv : v = .null ∨ v = .ref 10500) (h0 : ¬ x0 < 0) (h1 : x0 < x1) : Mk X d m_J3_checkIndex_8e157 [.int x0, .int x1, v] h nx sz (RI fun y g => y = x0 ∧ g = h) := by
  have hlen : (ent0 [.int x0, .int x1, v]).length ≤ 3 := by rcases hv with rfl | rfl <;> exact Nat.le_refl _
  refine Mok.ofV mo_J3_checkIndex_8e157 hlen (L := [some (.int x0), some (.int x1)]) (lvLe_s (lvLe_s lvLe_e)) (v_grow (n := 1) ?_)
  refine v_iload_n dJ3_checkIndex_8e157_0 rfl ?_
  refine v_if_lt (tgt := 9) dJ3_checkIndex_8e157_1 (by decide) (fun c0 => absurd c0 h0) (fun c0 => ?_)
  refine v_iload_n dJ3_checkIndex_8e157_4 rfl ?_
  refine v_iload_n dJ3_checkIndex_8e157_5 rfl ?_
  refine v_icmp_lt (tgt := 16) dJ3_checkIndex_8e157_6 (by decide) (fun c1 => ?_) (fun c1 => absurd h1 c1)
  refine v_iload_n dJ3_checkIndex_8e157_16 rfl ?_
  exact v_iret dJ3_checkIndex_8e157_17 rfl ⟨_, rfl, rfl, rfl⟩
theorem s_J0_checkIndex {x0 x1 : Int32} (h0 : ¬ x0 < 0) (h1 : x0 < x1) : Mk X (d + 1) m_J0_checkIndex_df160 [.int x0, .int x1] h nx sz (RV fun g => g = h) := by
  refine Mok.ofV mo_J0_checkIndex_df160 (Nat.le_of_ble_eq_true rfl) (L := [some (.int x0), some (.int x1)]) (lvLe_s (lvLe_s lvLe_e)) (v_grow (n := 0) ?_)
  refine v_iload_n dJ0_checkIndex_df160_0 rfl ?_
  refine v_iload_n dJ0_checkIndex_df160_1 rfl ?_
  refine v_gsf dJ0_checkIndex_df160_2 fs_RJ0_1053 (fun v hv => ?_)
  refine v_cSI (mt := m_J0_checkIndex_df160) mo_J3_checkIndex_8e157 ml_RJ0_1059 mz_J3_checkIndex_8e157 rfl RO_rm ⟨Nat.le_refl _, Nat.le_refl _⟩ (Nat.le_of_ble_eq_true rfl) dJ0_checkIndex_df160_5 rfl (s_J3_checkIndex hv h0 h1) (fun y g hp => ?_)
  obtain ⟨-, rfl⟩ := hp
  refine v_pop dJ0_checkIndex_df160_8 rfl ?_
  exact v_vret dJ0_checkIndex_df160_9 rfl ⟨rfl, rfl⟩
theorem s_coder {i : Nat} (hi : i < 3) : Mk X d m_J0_coder_7d493 [.ref (10000 + i)] h nx sz (RI fun y g => y = 0 ∧ g = h) :=
  e_J0_coder_7d493 (c_J0_coder_7d493_0 hi ⟨_, rfl, rfl, rfl⟩)
theorem s_isLatin1 {i : Nat} (hi : i < 3) : Mk X d m_J0_isLatin1_aae02 [.ref (10000 + i)] h nx sz (RI fun y g => y = 1 ∧ g = h) :=
  e_J0_isLatin1_aae02 (c_J0_isLatin1_aae02_0 hi ⟨_, rfl, rfl, rfl⟩)
end ST
