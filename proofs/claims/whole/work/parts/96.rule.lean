/-! rule text: the other side reads it whole -/
section OPS
variable {X : CX} {D nx sz : Nat} {h h0 : AH} {T : Nat → Nat} {p : Nat → Int32} {rt b0 ln a k q : Nat} {c : List Nat}
/-- what has been found, words W gone through -/
def Acc (p : Nat → Int32) (W : List Nat) (g : AH) : Prop := (g.1 68 18 ≠ 0 ∧ ∀ rest, wG p (W ++ rest) [] false = some (g.1 68 15)) ∨ (g.1 68 18 = 0 ∧ g.1 68 15 = 0 ∧ ∀ rest, wG p (W ++ rest) [] false = wG p rest [] false)
theorem Acc.upd {g : AH} {W : List Nat} (a : Acc p W h) (u : Upd p c h g) : Acc p (W ++ c) g := by
  rcases a with ⟨a1, a2⟩ | ⟨a1, a2, a3⟩
  · rcases u with ⟨_, u2, u3⟩ | ⟨u1, _⟩ | ⟨u1, _⟩
    · refine Or.inl ⟨by rw [u2]; exact a1, fun rest => ?_⟩
      rw [List.append_assoc, u3]
      exact a2 _
    · exact absurd u1 a1
    · exact absurd u1 a1
  · rcases u with ⟨u1, _⟩ | ⟨_, u2, u3⟩ | ⟨_, u2, u3, u4⟩
    · exact absurd a1 u1
    · refine Or.inl ⟨by rw [u2]; decide, fun rest => ?_⟩
      rw [List.append_assoc, a3]
      exact u3 rest
    · refine Or.inr ⟨u2, u3.trans a2, fun rest => ?_⟩
      rw [List.append_assoc, a3]
      exact u4 rest
def FnM (ln : Nat) (p : Nat → Int32) (H : AH) (W : List Nat) (r : Res) (g : AH) : Prop := FC H g ∧ match r.1 with
  | none => g.1 68 12 = nI r.2
  | some c => if r.2 < ln then g.1 68 12 = nI r.2 else g.1 68 12 = -1 ∧ Acc p (W ++ c) g
theorem FnM.pre {H g : AH} {W w : List Nat} {r : Res} (f : FnM ln p H (W ++ w) r g) : FnM ln p H W (pre w r) g := by
  refine ⟨f.1, ?_⟩
  have f2 := f.2
  cases e : r.1 with
  | none =>
    obtain ⟨e1, e2⟩ := pre_none (w := w) e
    rw [e] at f2
    rw [e1, e2]
    exact f2
  | some c' =>
    rw [e] at f2
    rw [pre_some e]
    show if r.2 < ln then g.1 68 12 = nI r.2 else g.1 68 12 = -1 ∧ Acc p (W ++ (w ++ c')) g
    rw [← List.append_assoc]
    exact f2
/-- what goThrough leaves -/
def ThP (T : Nat → Nat) (ln : Nat) (p : Nat → Int32) (g : AH) : Prop := match (ruF T ln).1 with
  | none => g.1 68 12 = nI (ruF T ln).2
  | some c => g.1 68 12 = -1 ∧ ((g.1 68 18 ≠ 0 ∧ wG p c [] false = some (g.1 68 15)) ∨ (g.1 68 18 = 0 ∧ g.1 68 15 = 0 ∧ wG p c [] false = none))
/-- only the reader's places have changed -/
def Gt (h g : AH) : Prop := g.2.1 = h.2.1 ∧ ∀ c j, ¬ (c = 68 ∧ 9 ≤ j ∧ j ≤ 18) → g.1 c j = h.1 c j
theorem Gt.set {g : AH} {j : Nat} {x : Int32} (f : Gt h g) (h9 : 9 ≤ j) (h18 : j ≤ 18) : Gt h (setI g 68 j x) := ⟨f.1, fun c k hk => by
  show (if c = 68 ∧ k = j then x else g.1 c k) = _
  rw [if_neg (fun z => hk ⟨z.1, by omega, by omega⟩)]
  exact f.2 c k hk⟩
theorem t_goThrough (hA0 : 91 ≤ nx) (hF : Fx h) (h1 : ln ≤ 200) (h2 : (rt = 69 ∧ b0 = 0) ∨ (rt = 70 ∧ b0 + 200 ≤ 1200)) (h3 : Byt T ln) (h4 : ∀ i, i < ln → h.1 rt (b0 + i) = byt (T i)) (L : Let h p) : Mk X (D + 31) m_X12_goThrough [.ref 68, .ref rt, .int (nI b0), .int (nI ln)] h nx sz (RV fun g => Sc h g ∧ Gt h g ∧ ThP T ln p g) := by
  have hrt : rt = 69 ∨ rt = 70 := h2.imp (fun z => z.1) (fun z => z.1)
  refine e_X12_goThrough (n_r1 := 200) (c_X12_goThrough_0 (n_r1 := 200) hA0 RO_rm hcs0 (t_opens (d := D + 30) (N := 200) hA0) ?_)
  rintro _ rfl
  have M0 : Mtx (opn h rt b0 ln) rt b0 T ln := opn_mtx h1 h2 h3 h4
  have s0 : Sc h (opn h rt b0 ln) := opn_sc hrt
  have L0 : Let (opn h rt b0 ln) p := L
  have gt0 : Gt h (opn h rt b0 ln) := ((((Gt.set ⟨rfl, fun _ _ _ => rfl⟩ (by decide) (by decide)).set (by decide) (by decide)).set (by decide) (by decide)).set (by decide) (by decide) : Gt h (opn h rt b0 ln))
  have e11 : (opn h rt b0 ln).1 68 11 = nI 0 := rfl
  have e12 : (opn h rt b0 ln).1 68 12 = -1 := rfl
  generalize opn h rt b0 ln = o at *
  have M1 : Mtx (setI (setI (setI (setI o 68 14 121) 68 13 0) 68 18 0) 68 15 0) rt b0 T ln := M0.of rfl rfl rfl rfl rfl
  have s1 : Sc h (setI (setI (setI (setI o 68 14 121) 68 13 0) 68 18 0) 68 15 0) := (((s0.setI rfl).setI rfl).setI rfl).setI rfl
  have gt1 : Gt h (setI (setI (setI (setI o 68 14 121) 68 13 0) 68 18 0) 68 15 0) := (((gt0.set (by decide) (by decide)).set (by decide) (by decide)).set (by decide) (by decide)).set (by decide) (by decide)
  have L1 : Let (setI (setI (setI (setI o 68 14 121) 68 13 0) 68 18 0) 68 15 0) p := L0
  have f11 : (setI (setI (setI (setI o 68 14 121) 68 13 0) 68 18 0) 68 15 0).1 68 11 = nI 0 := e11
  have f12 : (setI (setI (setI (setI o 68 14 121) 68 13 0) 68 18 0) 68 15 0).1 68 12 = -1 := e12
  have f13 : (setI (setI (setI (setI o 68 14 121) 68 13 0) 68 18 0) 68 15 0).1 68 13 = 0 := rfl
  have f14 : (setI (setI (setI (setI o 68 14 121) 68 13 0) 68 18 0) 68 15 0).1 68 14 = 121 := rfl
  have f15 : (setI (setI (setI (setI o 68 14 121) 68 13 0) 68 18 0) 68 15 0).1 68 15 = 0 := rfl
  have f18 : (setI (setI (setI (setI o 68 14 121) 68 13 0) 68 18 0) 68 15 0).1 68 18 = 0 := rfl
  have c7 := fun (P29 : AH → Prop) (Q : Option Value → AH → Prop) => c_X12_goThrough_7 (X := X) (R := rm (D + 31) 0 0) (Z := ZM X Q nx sz 0 0) (A := (nx, sz, 0, 0)) (h := o) (d := D + 30) (P29 := P29) hA0 RO_rm hcs0
  generalize setI (setI (setI (setI o 68 14 121) 68 13 0) 68 18 0) 68 15 0 = H at *
  have hFH := hF.sc s1
  obtain ⟨Q, hQ⟩ : ∃ Q, Q = (RV fun g => Sc h g ∧ Gt h g ∧ ThP T ln p g) := ⟨_, rfl⟩
  rw [← hQ]
  have cl := fun g a (fc : FC H g) (ha : a ≤ ln) (g11 : g.1 68 11 = nI a) (g12 : g.1 68 12 = -1) (g13 : g.1 68 13 = 0) => t_clause (X := X) (D := D) (nx := nx) (sz := sz) (h := g) (a := a) hA0 (hFH.of fc.1) (fc.mtx M1) (fc.lett L1) ha g11 g12 g13 (by rw [fc.2 68 14 (by omega)]; exact f14)
  have key : ∀ (f a : Nat) (W : List Nat) (g1 g : AH), FC H g1 → a ≤ ln → Acc p W g1 → 200 ≤ a + f → OutC T ln p g1 (clauF T ln a) g → (∀ g, FnM ln p H W (clsN T ln f a) g → Q none g) → VM X m_X12_goThrough (D + 31) nx sz Q 32 [some (.ref 68), none, none, none] [] g := by
    intro f
    induction f with
    | zero =>
      intro a W g1 g fc ha ac hf oc fin
      have gd := clau_gd (T := T) ha
      cases e : (clauF T ln a).1 with
      | some c =>
        have := (gd.2 c e).2.1
        have := gd.1
        omega
      | none =>
        have o2 := oc.2
        rw [e] at o2
        have ne : ¬ g.1 68 12 = -1 := by
          rw [o2.2]
          exact nI_m1 (by omega)
        refine c_X12_goThrough_32 (d := D + 30) (P75 := fun _ _ => False) (P41 := fun _ _ => False) hA0 RO_rm hcs0 (fun _ _ => fin g ⟨fc.trans oc.1, ?_⟩) (fun _ z => absurd z ne) (fun _ z => absurd z ne) (fun z => absurd z ne) (fun z => absurd z ne)
        show match (clauF T ln a).1 with
          | none => g.1 68 12 = nI (clauF T ln a).2
          | some c => _
        rw [e]
        exact o2.2
    | succ f ih =>
      intro a W g1 g fc ha ac hf oc fin
      have gd := clau_gd (T := T) ha
      unfold clsN at fin
      cases e : (clauF T ln a).1 with
      | none =>
        rw [bnd_none e] at fin
        have o2 := oc.2
        rw [e] at o2
        have ne : ¬ g.1 68 12 = -1 := by
          rw [o2.2]
          exact nI_m1 (by omega)
        exact c_X12_goThrough_32 (d := D + 30) (P75 := fun _ _ => False) (P41 := fun _ _ => False) hA0 RO_rm hcs0 (fun _ _ => fin g ⟨fc.trans oc.1, o2.2⟩) (fun _ z => absurd z ne) (fun _ z => absurd z ne) (fun z => absurd z ne) (fun z => absurd z ne)
      | some c =>
        rw [bnd_some e] at fin
        obtain ⟨i1, i2, -⟩ := gd.2 c e
        have i3 := gd.1
        have o2 := oc.2
        rw [e] at o2
        obtain ⟨⟨b, hb, eb, g11⟩, g12, g13, up⟩ := o2
        have ac := ac.upd up
        have fg := fc.trans oc.1
        obtain ⟨b1, b2, b3⟩ := pb_le (T := T) (ln := ln) (a := (clauF T ln a).2) i3
        have hs := sgn_le (a := pb T ln (clauF T ln a).2) h3
        have e59 := lkI_eq (c := 59) hs (by decide) (by decide)
        have om : Om g g ln b 6 := ⟨⟨rfl, fun _ _ _ => rfl⟩, hb, g11, g12, g13⟩
        have Mg := fg.mtx M1
        refine c_X12_goThrough_32 (d := D + 30) (P75 := fun _ _ => False) hA0 RO_rm hcs0 (fun z => absurd g12 z) (fun z => absurd g12 z) (fun z => absurd g12 z) (fun _ => t_lookO (d := D + 30) hA0 Mg om) ?_
        rintro _ _ g2 ⟨rfl, -, om⟩
        rw [eb] at om ⊢
        have ac2 : Acc p (W ++ c) g2 := by
          unfold Acc
          rw [om.1.2 68 18 (by omega), om.1.2 68 15 (by omega)]
          exact ac
        have f2 := fg.trans om.1.fc
        by_cases q : sgn T ln (pb T ln (clauF T ln a).2) = 59
        · rw [if_pos q] at fin
          have l := sgn_pos (T := T) (ln := ln) (a := pb T ln (clauF T ln a).2) (by omega)
          have f3 : FC H (setI g2 68 11 (nI (pb T ln (clauF T ln a).2 + 1))) := f2.set (by omega)
          refine c_X12_goThrough_44 (P75 := fun _ _ => False) hA0 RO_rm hcs0 (fun z => absurd (e59.mpr q) z) (fun z => absurd (e59.mpr q) z) (fun z => absurd (e59.mpr q) z) (fun _ => by rw [om.2.2.1, nI_1]; exact cl _ (pb T ln (clauF T ln a).2 + 1) f3 (by omega) rfl om.2.2.2.1 om.2.2.2.2) ?_
          intro _ g4 oc
          refine c_X12_goThrough_63 (ih (pb T ln (clauF T ln a).2 + 1) (W ++ c) _ g4 f3 (by omega) ac2 (by omega) oc (fun g r => fin g ?_))
          exact FnM.pre r
        · rw [if_neg q] at fin
          have M2 := f2.mtx M1
          have om2 : Om g2 g2 ln (pb T ln (clauF T ln a).2) 6 := ⟨⟨rfl, fun _ _ _ => rfl⟩, b2, om.2.2.1, om.2.2.2.1, om.2.2.2.2⟩
          have epp : pb T ln (pb T ln (clauF T ln a).2) = pb T ln (clauF T ln a).2 := pb_pb i3
          refine c_X12_goThrough_44 (P60 := fun _ => False) hA0 RO_rm hcs0 (fun _ z => absurd om.2.2.2.1 z) (fun _ _ => t_lookO (d := D + 30) hA0 M2 om2) ?_ (fun z => absurd (e59.mp z) q) (fun z => absurd (e59.mp z) q)
          rintro _ _ _ g5 ⟨rfl, -, om3⟩
          rw [epp] at om3 ⊢
          have f5 := f2.trans om3.1.fc
          have em1 : lkI (sgn T ln (pb T ln (clauF T ln a).2)) = -1 ↔ ¬ pb T ln (clauF T ln a).2 < ln := by
            rw [lkI_m1 hs, sgn_0 h3]
            omega
          refine c_X12_goThrough_78 hA0 RO_rm hcs0 (fun z => fin g5 ⟨f5, ?_⟩) (fun _ => t_failsO (d := D + 30) hA0 om3) ?_
          · show if pb T ln (clauF T ln a).2 < ln then _ else g5.1 68 12 = -1 ∧ Acc p (W ++ c) g5
            rw [if_neg (em1.mp z)]
            refine ⟨om3.2.2.2.1, ?_⟩
            unfold Acc
            rw [om3.1.2 68 18 (by omega), om3.1.2 68 15 (by omega)]
            exact ac2
          · rintro z _ g6 ⟨rfl, -, f⟩
            refine c_X12_goThrough_86 (fin g6 ⟨f2.trans f.1.fc, ?_⟩)
            show if pb T ln (clauF T ln a).2 < ln then g6.1 68 12 = nI (pb T ln (clauF T ln a).2) else _
            have lt : pb T ln (clauF T ln a).2 < ln := Decidable.byContradiction fun w => z (em1.mpr w)
            rw [if_pos lt]
            exact f.2.2
  refine c7 (fun g => OutC T ln p H (clauF T ln 0) g) Q (cl H 0 ⟨rfl, fun _ _ _ => rfl⟩ (Nat.zero_le _) f11 f12 f13) ?_
  intro g oc
  refine key 200 0 [] H g ⟨rfl, fun _ _ _ => rfl⟩ (Nat.zero_le _) (Or.inr ⟨f18, f15, fun _ => rfl⟩) (by omega) oc (fun g r => ?_)
  rw [hQ]
  refine ⟨rfl, s1.trans ?_, ⟨(congrArg Prod.fst r.1.1).trans gt1.1, fun c j hj => (r.1.2 c j (fun z => hj ⟨z.1, by omega, by omega⟩)).trans (gt1.2 c j hj)⟩, ?_⟩
  · refine ⟨fun a j hj => r.1.2 a j (fun z => ?_), fun a j _ => by rw [r.1.1], fun z => by unfold TXT; rw [r.1.1]; exact z⟩
    obtain ⟨rfl, z⟩ := z
    have : j = 11 ∨ j = 12 ∨ j = 13 ∨ j = 15 ∨ j = 18 := by omega
    rcases this with rfl | rfl | rfl | rfl | rfl <;> cases hj
  · have r2 := r.2
    unfold ThP ruF
    cases e : (clsN T ln 200 0).1 with
    | none =>
      rw [e] at r2
      rw [bnd_none e]
      exact r2
    | some c =>
      rw [e] at r2
      rw [bnd_some e]
      have r2 : if (clsN T ln 200 0).2 < ln then g.1 68 12 = nI (clsN T ln 200 0).2 else g.1 68 12 = -1 ∧ Acc p c g := r2
      by_cases q : (clsN T ln 200 0).2 < ln
      · rw [if_pos q] at r2 ⊢
        exact r2
      · rw [if_neg q] at r2 ⊢
        refine ⟨r2.1, ?_⟩
        rcases r2.2 with ⟨a1, a2⟩ | ⟨a1, a2, a3⟩
        · have := a2 []
          rw [List.append_nil] at this
          exact Or.inl ⟨a1, this⟩
        · have := a3 []
          rw [List.append_nil] at this
          exact Or.inr ⟨a1, a2, this⟩
end OPS
