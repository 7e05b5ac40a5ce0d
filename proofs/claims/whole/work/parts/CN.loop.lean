/-! the law's case of knows, its switch, its loop -/
section CN
variable {X : CX} {Z : ZX} {A : AX} {h : AH} {n i Ln d nx sz : Nat} {xs : Nat → Int32} {nm : String}
theorem t_knows {k : Nat} (hA0 : 91 ≤ nx) (hp : MP h n) (hF : Fx h) (hn : n ≤ 20) (hk : k < n) : Mk X (d + 1) m_X12_knows [.ref 68, .int (nI k)] h nx sz (RE (h.1 73 k) (setI h 68 0 0)) := by
  refine Mk.re fun Q hq => e_X12_knows (c_X12_knows_0 hA0 RO_rm hcs0 (t_isOne (d := d) hA0 hp) ?_)
  rintro y g ⟨rfl, rfl⟩
  rw [hasI_nI (by omega) hk]
  refine c_X12_knows_6 hA0 hF (fun z => by cases z) (fun _ => vin (by omega) (by omega)) (fun _ => ?_)
  rw [tN (by omega)]
  exact hq
theorem t_knows_bad {x : Int32} (hA0 : 91 ≤ nx) (hp : MP h n) (hF : Fx h) (hx : hasI n x = 0) : Mk X (d + 1) m_X12_knows [.ref 68, .int x] h nx sz (RE 0 (setI h 68 0 1)) := by
  refine Mk.re fun Q hq => e_X12_knows (c_X12_knows_0 hA0 RO_rm hcs0 (t_isOne (d := d) hA0 hp) ?_)
  rintro y g ⟨rfl, rfl⟩
  rw [hx]
  exact c_X12_knows_6 hA0 hF (fun _ => hq) (fun z => absurd rfl z) (fun z => absurd rfl z)
theorem t_thrown (hA0 : 91 ≤ nx) : Mk X d m_X12_thrown [.ref 68] h nx sz (RE (h.1 68 0) h) := Mk.re fun Q hq => e_X12_thrown (c_X12_thrown_0 hA0 hq)
theorem v_callK {x : Int32} {sz' : Nat} {Q : Option Value → AH → Prop} {L : List (Option Value)} (hZ : Vac X Ln xs Z) (hM : MokK X Ln xs 59 x h A.1 A.2.1 sz' Q) (hcs : A.2.2.1 + 1 ≤ 601024 ∧ A.2.2.2 + 6 ≤ 7293000) (hle : A.2.1 ≤ sz')
    (q : ∀ (r : Option Value) (h' : AH), Q r h' → V X (m_law nm) room_1 Z (A.1, sz', A.2.2.1 + 1, A.2.2.2 + 6) 514 L (r.toList ++ []) h') : V X (m_law nm) room_1 Z A 511 L [.ref 90, .int x, .ref 0] h := by
  intro p e s m args below meth c0 H locs ls hF hH hz hl
  by_cases sf : SF X Ln xs s s.heap
  case neg => exact W_triv (fun t => hZ _ _ _ _ sf)
  have hF' := hF
  obtain ⟨hx, hb, -, -, hml, hown, -, hts, hK, -⟩ := hF'
  have hG : GoodIn BIG (va_wsS RL 58 yL_knows wsK) := goodIn_BIG (fun w hw => by
    rcases List.mem_append.mp hw with h1 | h1
    · simp only [List.mem_cons, List.not_mem_nil, or_false] at h1
      rcases h1 with rfl | rfl | rfl
      · exact tb5 171 (by decide +kernel) rfl
      · exact tb5 172 (by decide +kernel) rfl
      · exact tb1 0 (by decide +kernel) rfl
    · rcases List.mem_cons.mp h1 with e | e
      · rw [e]; exact wsK_in
      · exact e)
  have hpc : ∀ U : State, U.heap = H → s.WarmedH U.vm → PcM X [.ref 0, .int x, .ref 90] h A.1 A.2.1 ([.ref (ad X 0), .int x, .ref (ad X 90)] : List Value).toArray U ∧ SF X Ln xs U U.heap := fun U hU hW => ⟨PcM.at (av := [.ref 0, .int x, .ref 90]) hF hH hz U hU hW, SF.at (A := A) (p := p) (m := m) (args := args) (meth := meth) (c0 := c0) sf hH U hU hW⟩
  exact v_back (rest := []) hF hH hl hz hle (vx_runSW (As := [.ref (ad X 0), .int x, .ref (ad X 90)]) (g := F0 m 511 ls [.ref (ad X 90), .int x, .ref (ad X 0)]) ⟨hx, hb, hml, hown, hts⟩ hM (vx_cwSW 3 hts hG rfl rfl rfl ⟨by decide +kernel, by decide +kernel, by decide +kernel⟩ ⟨Nat.le_of_ble_eq_true rfl, Nat.le_of_ble_eq_true rfl⟩) ⟨PcF.blind, hpc⟩ rfl rfl hl.1 rfl (lv_room (Nat.le_of_ble_eq_true rfl)) dL_law_511 hcs) q
theorem lc_knows (hl9 : X.1.stackTraces = false) (lk : LK X Ln xs Z A i) (hc1 : A.2.2.1 + 1 ≤ 601024) (hs1 : A.2.2.2 + 6 ≤ 7293000) (iv : Inv h n) (K : ∀ g z, Inv g n → V X (m_law nm) room_1 Z (A.1, z, A.2.2.1 + 1, A.2.2.2 + 6) 1781 (LL i) [] g) : V X (m_law nm) room_1 Z A 503 (LL i) [] h := by
  have hA0 := lk.2.2.2.1
  have hn := iv.n20
  refine v_aload_n dL_law_503 rfl ?_
  refine v_arg (kk := 1) lk (Nat.le_of_ble_eq_true rfl) dL_law_504 dL_law_505 dL_law_507 rfl dL_law_508 dL_law_509 ?_
  refine v_aload_n dL_law_510 rfl ?_
  generalize hx : xs (i + 1) = x
  rcases hasI_0 (n := n) (x := x) with hb | hg
  · refine v_callK (nm := nm) lk.1 (k_bad (d := 52) hl9 hA0 (iv.P.np (Or.inl rfl)) iv.F hb) ⟨hc1, hs1⟩ (Nat.le_succ _) (fun r h' q => ?_)
    obtain ⟨y, rfl, rfl, rfl⟩ := q
    have lk2 : LK X Ln xs Z (A.1, A.2.1 + 1, A.2.2.1 + 1, A.2.2.2 + 6) i := ⟨lk.1, lk.2.1, lk.2.2.1, hA0, hc1, hs1⟩
    refine v_istore dL_law_514 (show 5 < 7 by decide) rfl ?_
    have qq : V X (m_law nm) room_1 Z (A.1, A.2.1 + 1, A.2.2.1 + 1, A.2.2.2 + 6) 516 [some (.ref 10600), some (.ref 0), some (.ref 68), some (.ref 90), some (.int (nI i)), some (.int 1), none] [] h' := by
      refine v_aload_n dL_law_516 rfl ?_
      refine v_aload_n dL_law_517 rfl ?_
      refine v_iload dL_law_518 rfl ?_
      refine v_iconst dL_law_520 (show Int32.ofInt 1 = nI 1 from rfl) ?_
      refine v_iadd dL_law_521 ?_
      rw [nI_add]
      refine v_sld lk.1 dL_law_522 (vp_in_nI (by have := lk.2.2.1; omega) (by have := lk.2.1; omega)) ?_
      rw [tN (by have := lk.2.2.1; have := lk.2.1; omega), hx]
      refine v_cVI (mt := m_law nm) (A := (A.1, A.2.1 + 1, A.2.2.1 + 1, A.2.2.2 + 6)) (d := 60) mo_X12_knows ml_RL_61 mi_X12_knows mv_X12_knows rfl kd_68 cl_12 rfl (ltA hA0 rfl) RO_law ⟨hc1, hs1⟩ (Nat.le_of_ble_eq_true rfl) dL_law_523 rfl (t_knows_bad (d := 59) hA0 iv.P.mp iv.F hb) ?_
      rintro y g ⟨rfl, rfl⟩
      refine v_istore dL_law_526 (show 6 < 7 by decide) rfl ?_
      refine v_aload_n dL_law_528 rfl ?_
      refine v_cVI (mt := m_law nm) (A := (A.1, A.2.1 + 1, A.2.2.1 + 1, A.2.2.2 + 6)) (d := 60) mo_X12_thrown ml_RL_62 mi_X12_thrown mv_X12_thrown rfl kd_68 cl_12 rfl (ltA hA0 rfl) RO_law ⟨hc1, hs1⟩ (Nat.le_of_ble_eq_true rfl) dL_law_529 rfl (t_thrown (d := 60) hA0) ?_
      rintro y g ⟨rfl, rfl⟩
      refine v_iload dL_law_532 rfl ?_
      refine v_icmp_eq (tgt := 539) dL_law_534 (by decide) (fun _ => ?_) (fun z => absurd rfl z)
      refine v_iload dL_law_539 rfl ?_
      refine v_if_ne (tgt := 556) dL_law_541 (by decide) (fun _ => ?_) (fun z => by cases z)
      refine v_goto (tgt := 1781) dL_law_556 (by decide) ?_
      exact v_drop (lvLe_s (lvLe_s (lvLe_s (lvLe_s (lvLe_s (lvLe_n (lvLe_n lvLe_e))))))) (K _ _ (iv.sc (Sc.rfl.setI rfl)))
    exact qq
  · obtain ⟨k, hk, rfl⟩ := (hasI_1 (by omega)).mp hg
    refine v_callK (nm := nm) lk.1 (k_good (d := 52) hA0 (iv.P.np (Or.inl rfl)) iv.F hk) ⟨hc1, hs1⟩ (Nat.le_refl _) (fun r h' q => ?_)
    obtain ⟨y, rfl, rfl, rfl⟩ := q
    have iv2 : Inv (setL h 90 0 (h.1 2 k).toInt64) n := iv.sc Sc.rfl.setL
    refine v_istore dL_law_514 (show 5 < 7 by decide) rfl ?_
    have qq : V X (m_law nm) room_1 Z (A.1, A.2.1, A.2.2.1 + 1, A.2.2.2 + 6) 516 [some (.ref 10600), some (.ref 0), some (.ref 68), some (.ref 90), some (.int (nI i)), some (.int 0), none] [] (setL h 90 0 (h.1 2 k).toInt64) := by
      refine v_aload_n dL_law_516 rfl ?_
      refine v_aload_n dL_law_517 rfl ?_
      refine v_iload dL_law_518 rfl ?_
      refine v_iconst dL_law_520 (show Int32.ofInt 1 = nI 1 from rfl) ?_
      refine v_iadd dL_law_521 ?_
      rw [nI_add]
      refine v_sld lk.1 dL_law_522 (vp_in_nI (by have := lk.2.2.1; omega) (by have := lk.2.1; omega)) ?_
      rw [tN (by have := lk.2.2.1; have := lk.2.1; omega), hx]
      refine v_cVI (mt := m_law nm) (A := (A.1, A.2.1, A.2.2.1 + 1, A.2.2.2 + 6)) (d := 60) mo_X12_knows ml_RL_61 mi_X12_knows mv_X12_knows rfl kd_68 cl_12 rfl (ltA hA0 rfl) RO_law ⟨hc1, hs1⟩ (Nat.le_of_ble_eq_true rfl) dL_law_523 rfl (t_knows (d := 59) hA0 iv2.P.mp iv2.F hn hk) ?_
      rintro y g ⟨rfl, rfl⟩
      refine v_istore dL_law_526 (show 6 < 7 by decide) rfl ?_
      refine v_aload_n dL_law_528 rfl ?_
      refine v_cVI (mt := m_law nm) (A := (A.1, A.2.1, A.2.2.1 + 1, A.2.2.2 + 6)) (d := 60) mo_X12_thrown ml_RL_62 mi_X12_thrown mv_X12_thrown rfl kd_68 cl_12 rfl (ltA hA0 rfl) RO_law ⟨hc1, hs1⟩ (Nat.le_of_ble_eq_true rfl) dL_law_529 rfl (t_thrown (d := 60) hA0) ?_
      rintro y g ⟨rfl, rfl⟩
      refine v_iload dL_law_532 rfl ?_
      refine v_icmp_eq (tgt := 539) dL_law_534 (by decide) (fun _ => ?_) (fun z => absurd rfl z)
      refine v_iload dL_law_539 rfl ?_
      refine v_if_ne (tgt := 556) dL_law_541 (by decide) (fun z => absurd rfl z) (fun _ => ?_)
      refine v_aload_n dL_law_544 rfl ?_
      refine v_iconst (x := 0) dL_law_545 (by decide) ?_
      refine v_lald dL_law_546 kd_90 (ltA hA0 rfl) (vp_in_nI (n := 0) (by decide) (by decide)) ?_
      refine v_iload dL_law_547 rfl ?_
      refine v_i2l dL_law_549 ?_
      refine v_lcmp dL_law_550 ?_
      have e : (setL h 90 0 (h.1 2 k).toInt64).1 73 k = h.1 2 k := congrFun iv.G.1 k
      rw [e, show (setI (setL h 90 0 (h.1 2 k).toInt64) 68 0 0).2.1 90 (0 : Int32).toNatClampNeg = (h.1 2 k).toInt64 from rfl, lg_eq]
      refine v_if_eq (tgt := 556) dL_law_551 (by decide) (fun _ => ?_) (fun z => absurd rfl z)
      refine v_goto (tgt := 1781) dL_law_556 (by decide) ?_
      exact v_drop (lvLe_s (lvLe_s (lvLe_s (lvLe_s (lvLe_s (lvLe_n (lvLe_n lvLe_e))))))) (K _ _ (iv2.sc (Sc.rfl.setI rfl)))
    exact qq
end CN
