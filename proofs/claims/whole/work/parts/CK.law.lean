/-! the law's own cases: the frame, an argument out of the script -/
abbrev m_law (nm : String) : MT := (⟨RL, nm, ""⟩, cL_law, 7, some .boolean)
abbrev LL (i : Nat) : List (Option Value) := [some (.ref 10600), some (.ref 0), some (.ref 68), some (.ref 90), some (.int (nI i)), none, none]
theorem cl_153 : Cond.constantLong RL 153 4294967295 ∈ BIG := tb8 203 (by decide +kernel) rfl
theorem RO_law : RO room_1 61 := ⟨by decide, by decide⟩
theorem lg_eq {x : Int64} : lg_cmp x x = 0 := by
  unfold lg_cmp
  rw [if_neg (fun z => Int64.lt_irrefl z), if_pos rfl]
def LK (X : CX) (Ln : Nat) (xs : Nat → Int32) (Z : ZX) (A : AX) (i : Nat) : Prop := Vac X Ln xs Z ∧ Ln ≤ 3073 ∧ i + 6 ≤ Ln ∧ 91 ≤ A.1 ∧ A.2.2.1 ≤ 601024 ∧ A.2.2.2 ≤ 7293000
section CK
variable {X : CX} {Z : ZX} {A : AX} {h : AH} {n i Ln : Nat} {xs : Nat → Int32} {nm : String}
theorem v_arg {pc kk : Nat} {v : Int} {st : List Value} (lk : LK X Ln xs Z A i) (hk : kk ≤ 5) (d0 : decode cL_law pc = .ok (.aload_n 0, 1)) (d1 : decode cL_law (pc + 1) = .ok (.iload 4, 2)) (d3 : decode cL_law (pc + 3) = .ok (.iconst v, 1)) (hv : Int32.ofInt v = nI kk) (d4 : decode cL_law (pc + 4) = .ok (.iadd, 1)) (d5 : decode cL_law (pc + 5) = .ok (.iaload, 1)) (q : V X (m_law nm) room_1 Z A (pc + 6) (LL i) (.int (xs (i + kk)) :: st) h) : V X (m_law nm) room_1 Z A pc (LL i) st h := by
  obtain ⟨hZ, hL, hi, -⟩ := lk
  refine v_aload_n d0 rfl ?_
  refine v_iload d1 rfl ?_
  refine v_iconst d3 hv ?_
  refine v_iadd d4 ?_
  rw [nI_add]
  refine v_sld hZ d5 (vp_in_nI (by omega) (by omega)) ?_
  rw [tN (by omega)]
  exact q
end CK
