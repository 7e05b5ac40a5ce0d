/-! what the start's words give: the classes' numbers, the arrays', the texts' addresses -/
theorem ov_arr {s : State} (h : AO s) : ∃ c k comp, s.vm.findClass ("[" ++ (FieldType.array .int).toString) = some c ∧ s.vm.classes[c]? = some k ∧ k.kind = Kind.array comp (.array .int) := by
  unfold AO at h
  simp only [Cond.before, Cond.holds, Cond.value, beq_iff_eq, Option.bind_eq_some_iff, Option.map_eq_some_iff] at h
  obtain ⟨comp, hc, c, hi, k, hk, hb⟩ := h
  cases hkind : k.kind with
  | array component ty =>
    rw [hkind] at hb
    simp at hb
    exact ⟨c, k, component, hb.2, hk, by rw [hkind, hb.1]⟩
  | _ => rw [hkind] at hb; simp at hb
theorem arr_K1 {s : State} {ty : FieldType} (hn : ∀ C, ty ≠ .object C) (h : ∃ c k comp, s.vm.findClass ("[" ++ ty.toString) = some c ∧ s.vm.classes[c]? = some k ∧ k.kind = Kind.array comp ty) : ∃ c, ArrOfT s c ty ∧ va_RA s c ty := by
  obtain ⟨c, k, comp, h1, h2, h3⟩ := h
  refine ⟨c, fun N z => ⟨(fun k h => nomatch h), k, h2, comp, h3⟩, ?_⟩
  cases ty with
  | object C => exact absurd rfl (hn C)
  | _ => exact h1
theorem arr_K2 {s : State} {args : Array Value} {ty : FieldType} (hn : ∀ C, ty ≠ .object C) (h : (Cond.arrayClass ty).before args s = true) : ∃ c, ArrOfT s c ty ∧ va_RA s c ty := arr_K1 hn (Cond.arrayClass_spec h)
def tmS (i : Nat) : Term := match i with
  | 0 => .string "SevenTown$RuleText" 85
  | 1 => .string "SevenTownModel" 26
  | _ => .string "SevenTown" 189
def strW (i j : Nat) : Cond := .eq (.elem (.field (tmS i) "java/lang/String" "value" "[B") (.int (Int32.ofNat j))) (.int ((strB.getD i []).getD j 0))
def strWs : List Cond := (List.range 3).flatMap (fun i => (List.range (strN.getD i 0)).map (strW i))
theorem strWs_in : ∀ w ∈ strWs, w ∈ flatC (Jvm.Cond.and given_1 narrow_1) := by decide +kernel
theorem in3 {i : Nat} (h : i < 3) : i = 0 ∨ i = 1 ∨ i = 2 := by omega
section CQ
variable {s : State} {args : Array Value}
/-- the three texts -/
theorem st_S {A : Nat → Prop} (hgv : (Jvm.Cond.and given_1 narrow_1).before args s = true) (hA : ∀ a : Nat, a < s.heap.size → ¬ A a) : ∃ adK adV, vk_S 3 strN strB adK adV A s s.heap ∧ ∀ i, i < 3 → (tmS i).eval args s none [] s = some (.ref (adK i)) := by
  have hs := flat_of_before _ hgv
  refine vk_Sof (args := args) (tm := tmS) (fun i hi => ?_) (fun i hi => ?_) (fun i hi => ?_) (fun i hi => ?_) (fun i hi => ?_) (fun i hi j hj => ?_) (fun i j hi hj hij => ?_) hA
  · rcases in3 hi with rfl | rfl | rfl <;> decide
  · rcases in3 hi with rfl | rfl | rfl <;> exact hs _ (by decide +kernel)
  · rcases in3 hi with rfl | rfl | rfl <;> exact hs _ (by decide +kernel)
  · rcases in3 hi with rfl | rfl | rfl <;> exact hs _ (by decide +kernel)
  · rcases in3 hi with rfl | rfl | rfl <;> exact hs _ (by decide +kernel)
  · exact hs _ (strWs_in (strW i j) (List.mem_flatMap.mpr ⟨i, List.mem_range.mpr hi, List.mem_map.mpr ⟨j, List.mem_range.mpr hj, rfl⟩⟩))
  · rcases in3 hi with rfl | rfl | rfl <;> rcases in3 hj with rfl | rfl | rfl
    · exact absurd rfl hij
    · exact Or.inl (hs _ (by decide +kernel))
    · exact Or.inl (hs _ (by decide +kernel))
    · exact Or.inr (hs _ (by decide +kernel))
    · exact absurd rfl hij
    · exact Or.inr (hs _ (by decide +kernel))
    · exact Or.inr (hs _ (by decide +kernel))
    · exact Or.inl (hs _ (by decide +kernel))
    · exact absurd rfl hij
theorem inst_in : ∀ c, c < 13 → ∀ N, vwCl[c]? = some (ROf c, TOf c, N) → Cond.instantiable (ROf c) N ∈ BIG := by
  intro c hc N hN
  have h : c = 0 ∨ c = 1 ∨ c = 2 ∨ c = 3 ∨ c = 4 ∨ c = 5 ∨ c = 6 ∨ c = 7 ∨ c = 8 ∨ c = 9 ∨ c = 10 ∨ c = 11 ∨ c = 12 := by omega
  rcases h with rfl | rfl | rfl | rfl | rfl | rfl | rfl | rfl | rfl | rfl | rfl | rfl | rfl
  · cases hN; exact tb2 51 (by decide +kernel) rfl
  · cases hN; exact tb1 118 (by decide +kernel) rfl
  · cases hN; exact tb1 225 (by decide +kernel) rfl
  · cases hN; exact tb1 42 (by decide +kernel) rfl
  · cases hN; exact tb1 157 (by decide +kernel) rfl
  · cases hN; exact tb1 89 (by decide +kernel) rfl
  · cases hN; exact tb2 27 (by decide +kernel) rfl
  · cases hN; exact tb1 174 (by decide +kernel) rfl
  · cases hN; exact tb1 198 (by decide +kernel) rfl
  · cases hN; exact tb1 128 (by decide +kernel) rfl
  · cases hN; exact tb1 141 (by decide +kernel) rfl
  · cases hN; exact tb1 28 (by decide +kernel) rfl
  · cases hN; exact tb6 5 (by decide +kernel) rfl
theorem cl_ok : ∀ c, c < 13 → ∃ N, ClOk c N := by
  intro c hc
  have h : c = 0 ∨ c = 1 ∨ c = 2 ∨ c = 3 ∨ c = 4 ∨ c = 5 ∨ c = 6 ∨ c = 7 ∨ c = 8 ∨ c = 9 ∨ c = 10 ∨ c = 11 ∨ c = 12 := by omega
  rcases h with rfl | rfl | rfl | rfl | rfl | rfl | rfl | rfl | rfl | rfl | rfl | rfl | rfl
  · exact ⟨_, cl_0⟩
  · exact ⟨_, cl_1⟩
  · exact ⟨_, cl_2⟩
  · exact ⟨_, cl_3⟩
  · exact ⟨_, cl_4⟩
  · exact ⟨_, cl_5⟩
  · exact ⟨_, cl_6⟩
  · exact ⟨_, cl_7⟩
  · exact ⟨_, cl_8⟩
  · exact ⟨_, cl_9⟩
  · exact ⟨_, cl_10⟩
  · exact ⟨_, cl_11⟩
  · exact ⟨_, cl_12⟩
theorem st_D (hts : ∀ w ∈ BIG, w.before args s = true) : ∃ D : va_G, ∀ (c : Nat) (q : vw_C), vwCl[c]? = some q → u_Kn s q.1 q.2.1 q.2.2 (D.1 c) (D.2 c) := by
  have h : ∀ c : Nat, ∃ (cC : ClassId) (iS : Nat → Nat), ∀ q, vwCl[c]? = some q → u_Kn s q.1 q.2.1 q.2.2 cC iS := by
    intro c
    by_cases hc : c < 13
    · obtain ⟨N, hN⟩ := cl_ok c hc
      obtain ⟨cC, iS, k⟩ := u_known (n := N) hts hN.2.2.1 (hts _ (inst_in c hc N hN.2.1))
      refine ⟨cC, iS, fun q hq => ?_⟩
      cases hN.2.1.symm.trans hq
      exact k
    · refine ⟨0, fun _ => 0, fun q hq => ?_⟩
      exfalso
      have := (List.getElem?_eq_some_iff.mp hq).1
      exact hc this
  exact ⟨(fun c => Classical.choose (h c), fun c => Classical.choose (Classical.choose_spec (h c))), fun c q hq => Classical.choose_spec (Classical.choose_spec (h c)) q hq⟩
end CQ
