/-! the law's switch, its loop, its beginning and its end -/
theorem and63 (x : Int32) : ∃ t, t < 64 ∧ x &&& 63 = nI t := by
  refine ⟨(x.toBitVec &&& 63#32).toNat, ?_, ?_⟩
  · rw [BitVec.toNat_and]
    exact Nat.lt_of_le_of_lt Nat.and_le_right (by decide)
  · apply Int32.toBitVec_inj.mp
    show x.toBitVec &&& 63#32 = BitVec.ofNat 32 _
    rw [BitVec.ofNat_toNat]
    simp
theorem lo_in {Ln i : Nat} (hL : Ln ≤ 3073) (hi : i ≤ 4000) (c : ¬ nI Ln - nI 6 < nI i) : i + 6 ≤ Ln := by
  by_cases h6 : 6 ≤ Ln
  · rw [nI_subN h6] at c
    have c := Int32.le_iff_toInt_le.mp (Int32.not_lt.mp c)
    rw [nI_toInt (by omega), nI_toInt (by omega)] at c
    omega
  · exfalso
    apply c
    have e : (nI Ln - nI 6).toInt < 0 := by
      have : Ln = 0 ∨ Ln = 1 ∨ Ln = 2 ∨ Ln = 3 ∨ Ln = 4 ∨ Ln = 5 := by omega
      rcases this with rfl | rfl | rfl | rfl | rfl | rfl <;> decide
    refine Int32.lt_iff_toInt_lt.mpr ?_
    rw [nI_toInt (n := i) (by omega)]
    omega
/-- what the law owes at its end, said of the launch's own start -/
def ZG (X : CX) : ZX := fun args below s t => s.heap.size ≤ X.2.1 ∧ args = #[.ref (X.2.2.2.2.1 600)] → lw_Z below args s t
abbrev ZL (X : CX) (Ln : Nat) (xs : Nat → Int32) : ZX := ZA (ZF X Ln xs (ZG X))
section CO
variable {X : CX} {Z : ZX} {A : AX} {h : AH} {n i Ln : Nat} {xs : Nat → Int32} {nm : String}
theorem lw_sw (hX : nX X = n) (hl9 : X.1.stackTraces = false) (lk : LK X Ln xs Z A i) (hc1 : A.2.2.1 + 1 ≤ 601024) (hs1 : A.2.2.2 + 6 ≤ 7293000) (iv : Inv h n) (K : ∀ g, Inv g n → V X (m_law nm) room_1 Z A 1781 (LL i) [] g) (K2 : ∀ g z, Inv g n → V X (m_law nm) room_1 Z (A.1, z, A.2.2.1 + 1, A.2.2.2 + 6) 1781 (LL i) [] g) : V X (m_law nm) room_1 Z A 43 (LL i) [] h := by
  have hi := lk.2.2.1
  have hL := lk.2.1
  refine v_aload_n dL_law_43 rfl ?_
  refine v_iload dL_law_44 rfl ?_
  refine v_sld lk.1 dL_law_46 (vp_in_nI (by omega) (by omega)) ?_
  refine v_bipush (x := 63) dL_law_47 (by decide) ?_
  refine v_iand dL_law_49 ?_
  obtain ⟨t, ht, e⟩ := and63 (xs (nI i).toNatClampNeg)
  rw [e]
  by_cases c : 44 < t
  · exact v_tableOut (tgt := 1781) dL_law_50 (Or.inr (by rw [nI_toInt (by omega)]; omega)) (by decide) (K h iv)
  · have ht : t < 45 := by omega
    clear e c
    exact match t, ht with
    | 0, _ => v_tableIn (tgt := 244) (off := 194) dL_law_50 (by decide) (by decide) rfl (by decide) (lc_feed lk iv K)
    | 1, _ => v_tableIn (tgt := 317) (off := 267) dL_law_50 (by decide) (by decide) rfl (by decide) (lc_end lk iv K)
    | 2, _ => v_tableIn (tgt := 342) (off := 292) dL_law_50 (by decide) (by decide) rfl (by decide) (lc_fault lk iv K)
    | 3, _ => v_tableIn (tgt := 367) (off := 317) dL_law_50 (by decide) (by decide) rfl (by decide) (lc_text lk iv K)
    | 4, _ => v_tableIn (tgt := 392) (off := 342) dL_law_50 (by decide) (by decide) rfl (by decide) (lc_most lk iv K)
    | 5, _ => v_tableIn (tgt := 429) (off := 379) dL_law_50 (by decide) (by decide) rfl (by decide) (lc_tie lk iv K)
    | 6, _ => v_tableIn (tgt := 466) (off := 416) dL_law_50 (by decide) (by decide) rfl (by decide) (lc_drop lk iv K)
    | 7, _ => v_tableIn (tgt := 503) (off := 453) dL_law_50 (by decide) (by decide) rfl (by decide) (lc_knows hl9 lk hc1 hs1 iv K2)
    | 8, _ => v_tableIn (tgt := 559) (off := 509) dL_law_50 (by decide) (by decide) rfl (by decide) (lc_far lk iv K)
    | 9, _ => v_tableIn (tgt := 596) (off := 546) dL_law_50 (by decide) (by decide) rfl (by decide) (lc_ways lk iv K)
    | 10, _ => v_tableIn (tgt := 634) (off := 584) dL_law_50 (by decide) (by decide) rfl (by decide) (lc_over lk iv K)
    | 11, _ => v_tableIn (tgt := 683) (off := 633) dL_law_50 (by decide) (by decide) rfl (by decide) (lc_of lk iv K)
    | 12, _ => v_tableIn (tgt := 720) (off := 670) dL_law_50 (by decide) (by decide) rfl (by decide) (lc_all lk iv K)
    | 13, _ => v_tableIn (tgt := 745) (off := 695) dL_law_50 (by decide) (by decide) rfl (by decide) (lc_load lk iv K)
    | 14, _ => v_tableIn (tgt := 782) (off := 732) dL_law_50 (by decide) (by decide) rfl (by decide) (lc_apart lk iv K)
    | 15, _ => v_tableIn (tgt := 819) (off := 769) dL_law_50 (by decide) (by decide) rfl (by decide) (lc_bears lk iv K)
    | 16, _ => v_tableIn (tgt := 844) (off := 794) dL_law_50 (by decide) (by decide) rfl (by decide) (lc_broken lk iv K)
    | 17, _ => v_tableIn (tgt := 869) (off := 819) dL_law_50 (by decide) (by decide) rfl (by decide) (lc_mend lk iv K)
    | 18, _ => v_tableIn (tgt := 882) (off := 832) dL_law_50 (by decide) (by decide) rfl (by decide) (lc_need lk iv K)
    | 19, _ => v_tableIn (tgt := 931) (off := 881) dL_law_50 (by decide) (by decide) rfl (by decide) (lc_value lk iv K)
    | 20, _ => v_tableIn (tgt := 956) (off := 906) dL_law_50 (by decide) (by decide) rfl (by decide) (lc_cost lk iv K)
    | 21, _ => v_tableIn (tgt := 981) (off := 931) dL_law_50 (by decide) (by decide) rfl (by decide) (lc_gain lk iv K)
    | 22, _ => v_tableIn (tgt := 1054) (off := 1004) dL_law_50 (by decide) (by decide) rfl (by decide) (lc_change lk iv K)
    | 23, _ => v_tableIn (tgt := 1115) (off := 1065) dL_law_50 (by decide) (by decide) rfl (by decide) (lc_best lk iv K)
    | 24, _ => v_tableIn (tgt := 1152) (off := 1102) dL_law_50 (by decide) (by decide) rfl (by decide) (lc_turn lk iv K)
    | 25, _ => v_tableIn (tgt := 1165) (off := 1115) dL_law_50 (by decide) (by decide) rfl (by decide) (lc_stable lk iv K)
    | 26, _ => v_tableIn (tgt := 1178) (off := 1128) dL_law_50 (by decide) (by decide) rfl (by decide) (lc_send lk iv K)
    | 27, _ => v_tableIn (tgt := 1239) (off := 1189) dL_law_50 (by decide) (by decide) rfl (by decide) (lc_comes lk iv K)
    | 28, _ => v_tableIn (tgt := 1276) (off := 1226) dL_law_50 (by decide) (by decide) rfl (by decide) (lc_years lk iv K)
    | 29, _ => v_tableIn (tgt := 1369) (off := 1319) dL_law_50 (by decide) (by decide) rfl (by decide) (lc_ring lk iv K)
    | 30, _ => v_tableIn (tgt := 1394) (off := 1344) dL_law_50 (by decide) (by decide) rfl (by decide) (lc_fine lk iv K)
    | 31, _ => v_tableIn (tgt := 1431) (off := 1381) dL_law_50 (by decide) (by decide) rfl (by decide) (lc_bound lk iv K)
    | 32, _ => v_tableIn (tgt := 1456) (off := 1406) dL_law_50 (by decide) (by decide) rfl (by decide) (lc_image lk iv K)
    | 33, _ => v_tableIn (tgt := 1469) (off := 1419) dL_law_50 (by decide) (by decide) rfl (by decide) (lc_back lk iv K)
    | 34, _ => v_tableIn (tgt := 1482) (off := 1432) dL_law_50 (by decide) (by decide) rfl (by decide) (lc_set hX lk iv K)
    | 35, _ => v_tableIn (tgt := 1507) (off := 1457) dL_law_50 (by decide) (by decide) rfl (by decide) (lc_word lk iv K)
    | 36, _ => v_tableIn (tgt := 1544) (off := 1494) dL_law_50 (by decide) (by decide) rfl (by decide) (lc_out lk iv K)
    | 37, _ => v_tableIn (tgt := 1569) (off := 1519) dL_law_50 (by decide) (by decide) rfl (by decide) (lc_begin lk iv K)
    | 38, _ => v_tableIn (tgt := 1594) (off := 1544) dL_law_50 (by decide) (by decide) rfl (by decide) (lc_common lk iv K)
    | 39, _ => v_tableIn (tgt := 1631) (off := 1581) dL_law_50 (by decide) (by decide) rfl (by decide) (lc_likely lk iv K)
    | 40, _ => v_tableIn (tgt := 1644) (off := 1594) dL_law_50 (by decide) (by decide) rfl (by decide) (lc_threes lk iv K)
    | 41, _ => v_tableIn (tgt := 1669) (off := 1619) dL_law_50 (by decide) (by decide) rfl (by decide) (lc_courier lk iv K)
    | 42, _ => v_tableIn (tgt := 1694) (off := 1644) dL_law_50 (by decide) (by decide) rfl (by decide) (lc_loss lk iv K)
    | 43, _ => v_tableIn (tgt := 1731) (off := 1681) dL_law_50 (by decide) (by decide) rfl (by decide) (lc_dear lk iv K)
    | 44, _ => v_tableIn (tgt := 1756) (off := 1706) dL_law_50 (by decide) (by decide) rfl (by decide) (lc_count lk iv K)
    | t + 45, q => absurd q (by omega)
theorem v_end {L : List (Option Value)} (hc : A.2.2.1 ≤ 601024) (hs : A.2.2.2 ≤ 7293000) : V X (m_law nm) room_1 (ZL X Ln xs) A 1788 L [.int 1] h := by
  intro p e s m args below meth c0 H locs ls hF hH hz hl
  by_cases g : s.heap.size ≤ X.2.1 ∧ args = #[.ref (X.2.2.2.2.1 600)]
  case neg => exact W_triv (fun t _ _ z => absurd z g)
  obtain ⟨g1, rfl⟩ := g
  refine Wq_mono (fun t z _ _ _ => z) ?_
  refine va_forget (fun q hq => Nat.le_trans g1 (hH.2.2.2 q hq)) ?_
  refine W.widen hc hs ?_
  exact lw_ret hF.1 hF.2.1 hF.2.2.1 hF.2.2.2.1 dL_law_1788
theorem lw_loop (hX : nX X = n) (hl9 : X.1.stackTraces = false) (hL : Ln ≤ 3073) : ∀ (k i mc ms sz : Nat) (h : AH), Ln ≤ i + k → i ≤ 3100 → mc ≤ 91 + i → ms ≤ 7409 + 6 * i → Inv h n → V X (m_law nm) room_1 (ZL X Ln xs) (91, sz, mc, ms) 33 (LL i) [] h := by
  intro k
  induction k with
  | zero =>
    intro i mc ms sz h hk hi hmc hms iv
    refine v_iload dL_law_33 rfl ?_
    refine v_aload_n dL_law_35 rfl ?_
    refine v_slen Vac.f.a dL_law_36 ?_
    refine v_bipush (x := nI 6) dL_law_37 (by decide) ?_
    refine v_isub dL_law_39 ?_
    refine v_icmp_gt (tgt := 1787) dL_law_40 (by decide) (fun _ => ?_) (fun c => ?_)
    · refine v_iconst (x := 1) dL_law_1787 (by decide) ?_
      exact v_end (show mc ≤ 601024 by omega) (show ms ≤ 7293000 by omega)
    · have := lo_in (i := i) hL (by omega) c
      omega
  | succ k ih =>
    intro i mc ms sz h hk hi hmc hms iv
    refine v_iload dL_law_33 rfl ?_
    refine v_aload_n dL_law_35 rfl ?_
    refine v_slen Vac.f.a dL_law_36 ?_
    refine v_bipush (x := nI 6) dL_law_37 (by decide) ?_
    refine v_isub dL_law_39 ?_
    refine v_icmp_gt (tgt := 1787) dL_law_40 (by decide) (fun _ => ?_) (fun c => ?_)
    · refine v_iconst (x := 1) dL_law_1787 (by decide) ?_
      exact v_end (show mc ≤ 601024 by omega) (show ms ≤ 7293000 by omega)
    · have hin := lo_in (i := i) hL (by omega) c
      have nxt : ∀ (g : AH) (z mc ms : Nat), mc ≤ 92 + i → ms ≤ 7415 + 6 * i → Inv g n → V X (m_law nm) room_1 (ZL X Ln xs) (91, z, mc, ms) 1781 (LL i) [] g := fun g z mc ms q1 q2 iv2 => by
        refine v_iinc (y := nI (i + 6)) dL_law_1781 rfl (nI_add_e rfl rfl) (show 4 < 7 by decide) rfl ?_
        refine v_goto (tgt := 33) dL_law_1784 (by decide) ?_
        exact ih (i + 6) mc ms z g (by omega) (by omega) (by omega) (by omega) iv2
      exact lw_sw (A := (91, sz, mc, ms)) hX hl9 ⟨Vac.f.a, hL, hin, Nat.le_refl _, (show mc ≤ 601024 by omega), (show ms ≤ 7293000 by omega)⟩ (show mc + 1 ≤ 601024 by omega) (show ms + 6 ≤ 7293000 by omega) iv (fun g iv2 => nxt g sz mc ms (by omega) (by omega) iv2) (fun g z iv2 => nxt g z (mc + 1) (ms + 6) (by omega) (by omega) iv2)
end CO
