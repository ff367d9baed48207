/-! The start: the static arrays, the classes, the words of the tables, as the law finds them. -/
def flN : List Cond := flatC (Jvm.Cond.and given_1 narrow_1)
def stOk (q : String × String × List Int) : Bool := decide (Cond.laysStatic q.1 q.2.1 "[I" ∈ lw_tbl) && decide (Cond.initialized q.1 ∈ lw_tbl) && decide (Cond.arrayOf (.static q.1 q.2.1 "[I") .int ∈ flN) && decide (Cond.eq (.length (.static q.1 q.2.1 "[I")) (.int (Int32.ofNat q.2.2.length)) ∈ flN) && (List.range q.2.2.length).all (fun j => decide (Cond.eq (.elem (.static q.1 q.2.1 "[I") (.int (Int32.ofNat j))) (.int (Int32.ofInt (q.2.2.getD j 0))) ∈ flN)) && decide (q.2.2.length < 2 ^ 31)
theorem stOk_ok : sts.all stOk = true := by decide +kernel
section S1
variable {s : State} {b : Nat}
theorem s1_stat (hts : ∀ w ∈ lw_tbl, w.before #[Value.ref b] s = true) (hfl : ∀ w ∈ flN, w.before #[Value.ref b] s = true) : ∃ g : Nat → Nat, ∀ (i : Nat) (q : String × String × List Int), sts[i]? = some q → va_Z q.1 q.2.1 "[I" (.ref (g i)) (fun a => s.heap.size ≤ a) s s.heap ∧ va_T .int (g i) q.2.2.length (fun j => .int (Int32.ofInt (q.2.2.getD j 0))) (fun a => s.heap.size ≤ a) s s.heap := by
  have h : ∀ i : Nat, ∃ t : Nat, ∀ (q : String × String × List Int), sts[i]? = some q → va_Z q.1 q.2.1 "[I" (.ref t) (fun a => s.heap.size ≤ a) s s.heap ∧ va_T .int t q.2.2.length (fun j => .int (Int32.ofInt (q.2.2.getD j 0))) (fun a => s.heap.size ≤ a) s s.heap := by
    intro i
    cases hq : sts[i]? with
    | none => exact ⟨0, fun q h => by cases h⟩
    | some q =>
      have ho := List.all_eq_true.mp stOk_ok q (List.mem_of_getElem? hq)
      simp only [stOk, Bool.and_eq_true, decide_eq_true_eq, List.all_eq_true, List.mem_range] at ho
      obtain ⟨⟨⟨⟨⟨h1, h2⟩, h3⟩, h4⟩, h5⟩, h6⟩ := ho
      have hA : ∀ a : Nat, a < s.heap.size → ¬ (fun a => s.heap.size ≤ a) a := fun a ha => Nat.not_le.mpr ha
      obtain ⟨t, e1, e2⟩ := va_Tof (f := fun j => .int (Int32.ofInt (q.2.2.getD j 0))) h6 (hfl _ h3) (va_eqt (hfl _ h4)) (fun j hj => va_eqt (hfl _ (h5 j hj))) hA
      exact ⟨t, fun q' h' => by cases h'; exact ⟨va_Zof (hts _ h1) (hts _ h2) e1 hA, e2⟩⟩
  exact ⟨fun i => (h i).choose, fun i => (h i).choose_spec⟩
theorem s1_TB (hts : ∀ w ∈ lw_tbl, w.before #[Value.ref b] s = true) : TB s := fun w hw hg => word_at (State.WarmedH.refl s) (good_of_word hg) (hts w hw)
theorem s1_cls (hts : ∀ w ∈ lw_tbl, w.before #[Value.ref b] s = true) : ∃ D : va_G, ∀ (c : Nat) (q : vw_C), vcl[c]? = some q → u_Kn s q.1 q.2.1 q.2.2 (D.1 c) (D.2 c) := by
  have h : ∀ c : Nat, ∃ d : ClassId × (Nat → Nat), ∀ q : vw_C, vcl[c]? = some q → u_Kn s q.1 q.2.1 q.2.2 d.1 d.2 := by
    intro c
    cases hq : vcl[c]? with
    | none => exact ⟨(0, fun _ => 0), fun q h => by cases h⟩
    | some q =>
      obtain ⟨g1, -, -, -⟩ := cl_use hq
      have hi : gw (.instantiable q.1 q.2.2) = true := List.all_eq_true.mp (show vcl.all (fun q => gw (.instantiable q.1 q.2.2)) = true by decide +kernel) q (List.mem_of_getElem? hq)
      obtain ⟨cC, iS, h1⟩ := u_known ((s1_TB hts).hts #[]) (fun w h => gw_gtb (g1 w h)) ((s1_TB hts).use hi #[])
      exact ⟨(cC, iS), fun q' h' => by cases h'; exact h1⟩
  exact ⟨(fun c => (h c).choose.1, fun c => (h c).choose.2), fun c => (h c).choose_spec⟩
theorem s1_arr (hts : ∀ w ∈ lw_tbl, w.before #[Value.ref b] s = true) {ty : FieldType} (hw : gw (.arrayClass ty) = true) : ∃ cA : ClassId, ArrOfT s cA ty ∧ s.vm.findClass ("[" ++ ty.toString) = some cA := by
  obtain ⟨cA, kA, comp, h1, h2, h3⟩ := Cond.arrayClass_spec ((s1_TB hts).use hw #[])
  exact ⟨cA, fun n z => ⟨fun k h => (by cases h), kA, h2, comp, h3⟩, h1⟩
def exIn (w : Cond) : Bool := decide (w ∈ lw_tbl) || decide (w ∈ flN)
theorem exI_1 : (exA 1 143).all exIn = true := by decide +kernel
theorem exI_2 : (exA 2 124).all exIn = true := by decide +kernel
theorem exI_3 : (exA 3 73).all exIn = true := by decide +kernel
theorem exI_4 : exA4.all exIn = true := by decide +kernel
theorem exI_5 : exC.all exIn = true := by decide +kernel
theorem exI_6 : exT.all exIn = true := by decide +kernel
theorem s1_ex (hts : ∀ w ∈ lw_tbl, w.before #[Value.ref b] s = true) (hfl : ∀ w ∈ flN, w.before #[Value.ref b] s = true) : ∀ w ∈ exL, w.before #[] s = true := by
  intro w hw
  have hin : w.before #[Value.ref b] s = true := by
    have h : exIn w = true := by
      have hw' := hw
      simp only [exL, List.mem_append] at hw'
      rcases hw' with h | h | h | h | h | h
      · exact List.all_eq_true.mp exI_1 w h
      · exact List.all_eq_true.mp exI_2 w h
      · exact List.all_eq_true.mp exI_3 w h
      · exact List.all_eq_true.mp exI_4 w h
      · exact List.all_eq_true.mp exI_5 w h
      · exact List.all_eq_true.mp exI_6 w h
    simp only [exIn, Bool.or_eq_true, decide_eq_true_eq] at h
    exact h.elim (hts w) (hfl w)
  have hq : ∀ a : Nat, a < s.heap.size → ¬ (fun _ : Nat => False) a → s.heap[a]? = s.heap[a]? := fun _ _ _ => rfl
  rcases exP_ok w hw with h1 | h1 | h1
  rotate_left
  · exact exC_step h1 (Vm.Alike.refl s.vm) hin
  · exact exT_step h1 (State.WarmedH.refl s) hin
  simp only [exP, Bool.or_eq_true, decide_eq_true_eq, List.mem_cons, List.not_mem_nil, or_false] at h1
  rcases h1 with h1 | rfl | rfl | rfl | rfl
  · exact wk_face h1 (State.WarmedH.refl s) hin
  · exact wk_lays (Q := fun _ => False) (Vm.Alike.refl s.vm) hq hin (fun _ _ _ _ _ _ _ h => h)
  · exact wk_lays (Q := fun _ => False) (Vm.Alike.refl s.vm) hq hin (fun _ _ _ _ _ _ _ h => h)
  · exact wk_isRef (Q := fun _ => False) (Vm.Alike.refl s.vm) hq hin (fun _ _ _ _ _ _ _ h => h)
  · exact wk_isRef (Q := fun _ => False) (Vm.Alike.refl s.vm) hq hin (fun _ _ _ _ _ _ _ h => h)
theorem s1_nx (hts : ∀ w ∈ lw_tbl, w.before #[Value.ref b] s = true) : NX s :=
  ⟨va_tabs rfl rfl (hts _ (by decide +kernel)), va_tabs rfl rfl (hts _ (by decide +kernel)), va_tabs rfl rfl (hts _ (by decide +kernel))⟩
end S1
