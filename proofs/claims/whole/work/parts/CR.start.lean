/-! whole_start -/
section CR
theorem st_X {s : State} {args : Array Value} (l : Launch) (b nn : Nat) (hts : ∀ w ∈ lw_tbl, w.before args s = true) (hgv : (Jvm.Cond.and given_1 narrow_1).before args s = true) :
    ∃ X : CX, X.1 = l ∧ X.2.1 = s.heap.size ∧ X.2.2.2.2.1 600 = b ∧ nX X = nn ∧ va_K X.2.2.1 vwCl (tysOf X) s ∧ StrV X s ∧ StrH X s s.heap ∧ TF X s s.heap := by
  have hB : ∀ w ∈ BIG, w.before args s = true := fun w hw => hts w (BIG_t hw)
  have hs := flat_of_before _ hgv
  have hA : ∀ a : Nat, a < s.heap.size → ¬ s.heap.size ≤ a := fun a h => Nat.not_le.mpr h
  obtain ⟨D, hD⟩ := st_D hB
  obtain ⟨a20, k20⟩ := arr_K2 (ty := .int) (fun C h => by cases h) (hts _ (BIG_t (tb1 87 (by decide +kernel) rfl)))
  obtain ⟨a21, k21⟩ := arr_K2 (ty := .byte) (fun C h => by cases h) (hts _ (BIG_t (tb3 65 (by decide +kernel) rfl)))
  obtain ⟨a22, k22⟩ := arr_K2 (ty := .boolean) (fun C h => by cases h) (hts _ (BIG_t (tb6 156 (by decide +kernel) rfl)))
  obtain ⟨a23, k23⟩ := arr_K2 (ty := .long) (fun C h => by cases h) (hts _ (BIG_t (tb1 116 (by decide +kernel) rfl)))
  obtain ⟨a24, k24⟩ := arr_K1 (ty := .array .int) (fun C h => by cases h) (ov_arr (hts (.arrayOver (.array .int)) (by decide +kernel)))
  obtain ⟨adK, adV, hS, hev⟩ := st_S (A := fun q => s.heap.size ≤ q) hgv hA
  have hZ1 : va_Z "java/lang/String" "COMPACT_STRINGS" "Z" (.int 1) (fun q => s.heap.size ≤ q) s s.heap := va_Zof (hts _ (by decide +kernel)) (hts _ (BIG_t (tb1 17 (by decide +kernel) rfl))) (Cond.eq_int (hs (.eq (.static "java/lang/String" "COMPACT_STRINGS" "Z") (.int 1)) (by decide +kernel)) rfl) hA
  have hZ2 : va_Zq "jdk/internal/util/Preconditions" "SIOOBE_FORMATTER" "Ljava/util/function/BiFunction;" (fun q => s.heap.size ≤ q) s s.heap := va_Zqof (hts _ (by decide +kernel)) (hts _ (BIG_t (tb1 20 (by decide +kernel) rfl))) (hs _ (by decide +kernel)) hA
  have hU : vx_Zq Bundle.tN "UNASSIGNED_STACK" Bundle.steD (fun q => s.heap.size ≤ q) s s.heap := vx_Zqof (hts _ (by decide +kernel)) (hts _ (by decide +kernel)) (hs _ (by decide +kernel)) hA
  have hN : vx_Zq Bundle.tN "SUPPRESSED_SENTINEL" Bundle.listD (fun q => s.heap.size ≤ q) s s.heap := vx_Zqof (hts _ (by decide +kernel)) (hts _ (by decide +kernel)) (hs _ (by decide +kernel)) hA
  obtain ⟨t, hZ3⟩ : ∃ t, va_Z "jdk/internal/util/Preconditions" "SIOOBE_FORMATTER" "Ljava/util/function/BiFunction;" .null (fun q => s.heap.size ≤ q) s s.heap ∨ va_Z "jdk/internal/util/Preconditions" "SIOOBE_FORMATTER" "Ljava/util/function/BiFunction;" (.ref t) (fun q => s.heap.size ≤ q) s s.heap := by
    rcases hZ2 with h | ⟨t, h⟩
    · exact ⟨0, Or.inl h⟩
    · exact ⟨t, Or.inr h⟩
  -- the fourth text is the first
  have h32 : (Term.string "SevenTownModel" 32).eval args s none [] s = some (.ref (adK 0)) := by
    obtain ⟨y, e1, e2⟩ := Cond.eq_one (hs (.eq (.string "SevenTown$RuleText" 85) (.string "SevenTownModel" 32)) (by decide +kernel))
    have e3 := hev 0 (by decide)
    have e3 : (Term.string "SevenTown$RuleText" 85).eval args s none [] s = some (.ref (adK 0)) := e3
    rw [e2, ← e1, e3]
  let X : CX := (l, s.heap.size, D, (fun k => if k = 20 then a20 else if k = 21 then a21 else if k = 22 then a22 else if k = 23 then a23 else a24), (fun k => if k = 700 then nn else if k = 600 then b else if k = 500 then t else adK k), adV)
  have hST : vk_S 3 strN strB X.2.2.2.2.1 adV (fun q => s.heap.size ≤ q) s s.heap := by
    have e : ∀ i, i < 3 → X.2.2.2.2.1 i = adK i := fun i hi => (if_neg (by omega)).trans ((if_neg (by omega)).trans (if_neg (by omega)))
    refine ⟨fun i hi => ?_, fun i j hi hj q => hS.2 i j hi hj ?_⟩
    · rw [e i hi]
      exact hS.1 i hi
    · rw [← e i hi, ← e j hj]
      exact q
  refine ⟨X, rfl, rfl, rfl, rfl, ⟨hD, fun k q hk => ?_⟩, ⟨fun q hq => ?_, ?_, ?_, ?_, ?_⟩, ⟨hST, hZ1, hZ3⟩, ?_, hU, hN⟩
  · rcases k with _ | _ | _ | _ | _ | k
    · cases hk; exact k20
    · cases hk; exact k21
    · cases hk; exact k22
    · cases hk; exact k23
    · cases hk; exact k24
    · cases hk
  · simp only [NEST, List.mem_cons, List.not_mem_nil, or_false] at hq
    rcases hq with rfl | rfl | rfl | rfl | rfl | rfl
    · exact va_tabs rfl rfl (hts _ (by decide +kernel))
    · exact va_tabs rfl rfl (hts _ (by decide +kernel))
    · exact va_tabs rfl rfl (hts _ (by decide +kernel))
    · exact va_tabs rfl rfl (hts _ (by decide +kernel))
    · exact va_tabs rfl rfl (hts _ (by decide +kernel))
    · exact va_tabs rfl rfl (hts _ (by decide +kernel))
  · exact vk_R.of (hts _ (by decide +kernel)) (hev 0 (by decide))
  · exact vk_R.of (hts _ (by decide +kernel)) h32
  · exact vk_R.of (hts _ (by decide +kernel)) (hev 1 (by decide))
  · exact vk_R.of (hts _ (by decide +kernel)) (hev 2 (by decide))
  · exact cgN_moved (Vm.Alike.refl s.vm) (fun w hw => hts w (cgN_tb w hw))
end CR
