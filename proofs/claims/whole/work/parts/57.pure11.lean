/-! members of the list; how long it is -/
section MB
variable {f h kg : Nat → Int} {p : Nat}
theorem rc_mem {fr to pr : Nat} {m : Int} : m ∈ rc f h kg p fr to pr ↔ alw f h kg p fr to pr ∧ m = mvN fr to pr := by
  unfold rc
  by_cases hA : alw f h kg p fr to pr
  · rw [if_pos hA]; exact ⟨fun q => ⟨hA, List.mem_singleton.mp q⟩, fun q => List.mem_singleton.mpr q.2⟩
  · rw [if_neg hA]; exact ⟨fun q => (by cases q), fun q => absurd q.1 hA⟩
theorem rl_mem {m : Int} : m ∈ rl f h kg p ↔ ∃ fr to pr, fr < 89 ∧ to < 81 ∧ pr < 2 ∧ alw f h kg p fr to pr ∧ m = mvN fr to pr := by
  unfold rl rF
  simp only [List.mem_flatMap, List.mem_range, List.mem_append, rc_mem]
  constructor
  · rintro ⟨fr, h1, to, h2, ⟨h3, h4⟩ | ⟨h3, h4⟩⟩
    · exact ⟨fr, to, 0, h1, h2, by omega, h3, h4⟩
    · exact ⟨fr, to, 1, h1, h2, by omega, h3, h4⟩
  · rintro ⟨fr, to, pr, h1, h2, h3, h4, h5⟩
    refine ⟨fr, h1, to, h2, ?_⟩
    rcases (show pr = 0 ∨ pr = 1 by omega) with rfl | rfl
    · exact Or.inl ⟨h4, h5⟩
    · exact Or.inr ⟨h4, h5⟩
theorem imv_mvg {fr to pr : Nat} (hp : p < 2) (hk : kq f kg) (h1 : fr < 89) (h2 : to < 81) (h3 : pr < 2) (h4 : imv f h p fr to pr) : mvg f kg p fr to pr := by
  obtain ⟨q1, q⟩ | ⟨q1, q⟩ := h4
  · exact ⟨h1, by omega, h2, h3, fun _ => ⟨q.2.2.1, q.1⟩, fun w => by omega, fun w => by omega, fun w => by omega, fun w => by omega, fun w => by omega, fun w => by omega⟩
  · obtain ⟨a, b, c, d, e, g⟩ := q
    refine ⟨h1, by omega, h2, h3, fun w => by omega, fun _ w => (goes_ne q1 g).1 w.symm, fun _ => a, fun _ => b, fun _ => c, fun _ w => ?_, fun _ w => ?_⟩
    · have := (d w).1.1; omega
    · obtain ⟨k1, k2, k3⟩ := hk p hp
      have := k3 fr q1 (by rw [← w]; exact (kd_own hp a).1)
      omega
theorem alw_mvg {fr to pr : Nat} (hp : p < 2) (hk : kq f kg) (h1 : fr < 89) (h2 : to < 81) (h3 : pr < 2) (h4 : alw f h kg p fr to pr) : mvg f kg p fr to pr := imv_mvg hp hk h1 h2 h3 h4.1
noncomputable def cn (P : Nat → Prop) : List Nat → Nat
  | [] => 0
  | a :: l => @ite _ (P a) (Classical.propDecidable _) 1 0 + cn P l
theorem cn_two {P Q : Nat → Prop} (hd : ∀ x, P x → ¬ Q x) : ∀ l, cn P l + cn Q l ≤ l.length := by
  intro l
  induction l with
  | nil => exact Nat.le_refl _
  | cons a l ih =>
    unfold cn
    rw [List.length_cons]
    by_cases h1 : P a
    · rw [if_pos h1, if_neg (hd a h1)]; omega
    · rw [if_neg h1]
      split <;> omega
theorem cn_len {c : Nat} {P : Nat → Prop} {g : Nat → List Int} : ∀ l : List Nat, (∀ x, x ∈ l → ¬ P x → g x = []) → (∀ x, x ∈ l → (g x).length ≤ c) → (l.flatMap g).length ≤ c * cn P l := by
  intro l
  induction l with
  | nil => intro _ _; exact Nat.zero_le _
  | cons a l ih =>
    intro h0 hc
    have hi := ih (fun x hx => h0 x (List.mem_cons_of_mem _ hx)) (fun x hx => hc x (List.mem_cons_of_mem _ hx))
    rw [List.flatMap_cons, List.length_append]
    unfold cn
    by_cases h1 : P a
    · have := hc a List.mem_cons_self
      rw [if_pos h1, Nat.mul_add, Nat.mul_one]; omega
    · rw [if_neg h1, h0 a List.mem_cons_self h1, List.length_nil, Nat.zero_add, Nat.zero_add]; exact hi
noncomputable def flt (P : Nat → Prop) : List Nat → List Nat
  | [] => []
  | a :: l => @ite _ (P a) (Classical.propDecidable _) (a :: flt P l) (flt P l)
theorem flt_mem {P : Nat → Prop} {x : Nat} : ∀ l, x ∈ flt P l ↔ x ∈ l ∧ P x := by
  intro l
  induction l with
  | nil => exact ⟨fun q => (by cases q), fun q => (by cases q.1)⟩
  | cons a l ih =>
    unfold flt
    by_cases h1 : P a
    · rw [if_pos h1, List.mem_cons, List.mem_cons, ih]
      constructor
      · rintro (rfl | q)
        · exact ⟨Or.inl rfl, h1⟩
        · exact ⟨Or.inr q.1, q.2⟩
      · rintro ⟨q | q, w⟩
        · exact Or.inl q
        · exact Or.inr ⟨q, w⟩
    · rw [if_neg h1, List.mem_cons, ih]
      constructor
      · rintro ⟨q, w⟩; exact ⟨Or.inr q, w⟩
      · rintro ⟨rfl | q, w⟩
        · exact absurd w h1
        · exact ⟨q, w⟩
theorem flt_cn {P : Nat → Prop} : ∀ l, (flt P l).length = cn P l := by
  intro l
  induction l with
  | nil => rfl
  | cons a l ih =>
    unfold flt cn
    by_cases h1 : P a
    · rw [if_pos h1, if_pos h1, List.length_cons, ih]; omega
    · rw [if_neg h1, if_neg h1, ih]; omega
theorem flt_nodup {P : Nat → Prop} : ∀ l : List Nat, l.Nodup → (flt P l).Nodup := by
  intro l
  induction l with
  | nil => intro _; exact List.nodup_nil
  | cons a l ih =>
    intro hn
    have hn := List.nodup_cons.mp hn
    unfold flt
    by_cases h1 : P a
    · rw [if_pos h1]
      exact List.nodup_cons.mpr ⟨fun q => hn.1 ((flt_mem l).mp q).1, ih hn.2⟩
    · rw [if_neg h1]; exact ih hn.2
theorem Gl_16 : ∀ k, k < 8 → ∀ p, p < 2 → ∀ fr, fr < 81 → (Gl k p fr).length ≤ 16 := by decide +kernel
theorem Gl_20 : ∀ k, k < 16 → ∀ p, p < 2 → ∀ fr, fr < 81 → (Gl k p fr).length ≤ 20 := by decide +kernel
theorem goes_Gl {κ fr x : Nat} (hg : goes f p κ fr x) : x ∈ Gl κ p fr := by
  obtain ⟨e, he, j, j1, j2, j3, j4, j5⟩ := hg
  rw [j4]
  exact Gl_in he j1 j2 j3
theorem goes_cn {κ fr : Nat} : cn (goes f p κ fr) (List.range 81) ≤ (Gl κ p fr).length := by
  rw [← flt_cn]
  exact nodup_len _ _ (flt_nodup _ List.nodup_range) (fun x hx => goes_Gl ((flt_mem _).mp hx).2)
theorem rc_len {fr to pr : Nat} : (rc f h kg p fr to pr).length ≤ 1 := by
  unfold rc
  split
  · exact Nat.le_refl _
  · exact Nat.zero_le _
theorem rc_nil {fr to pr : Nat} (hA : ¬ alw f h kg p fr to pr) : rc f h kg p fr to pr = [] := if_neg hA
theorem rF_len {fr : Nat} (hp : p < 2) (hs : sqok f) (hfr : fr < 81) : (rF f h kg p fr).length ≤ 32 ∧ (¬ own p (f fr) → rF f h kg p fr = []) := by
  have hB : ∀ to pr, alw f h kg p fr to pr → imvB f p fr to pr := by
    intro to pr hA
    rcases hA.1 with ⟨q, _⟩ | ⟨_, q⟩
    · omega
    · exact q
  constructor
  · unfold rF
    have hno : ∀ x, x ∈ List.range 81 → ¬ goes f p (kd (f fr)).toNat fr x → rc f h kg p fr x 0 ++ rc f h kg p fr x 1 = [] := by
      intro x _ hg
      rw [rc_nil (fun q => hg (hB _ _ q).2.2.2.2.2), rc_nil (fun q => hg (hB _ _ q).2.2.2.2.2)]; rfl
    have hk := kd_le hs hfr
    by_cases h8 : (kd (f fr)).toNat < 8
    · have := cn_len (c := 2) (List.range 81) hno (fun x _ => by
        rw [List.length_append]
        have := rc_len (f := f) (h := h) (kg := kg) (p := p) (fr := fr) (to := x) (pr := 0)
        have := rc_len (f := f) (h := h) (kg := kg) (p := p) (fr := fr) (to := x) (pr := 1)
        omega)
      have h2 := goes_cn (f := f) (p := p) (κ := (kd (f fr)).toNat) (fr := fr)
      have h3 := Gl_16 _ h8 p hp fr hfr
      omega
    · have := cn_len (c := 1) (List.range 81) hno (fun x _ => by
        rw [List.length_append]
        have := rc_len (f := f) (h := h) (kg := kg) (p := p) (fr := fr) (to := x) (pr := 0)
        rw [rc_nil (pr := 1) (fun q => by have := ((hB _ _ q).2.2.2.1 rfl).1.1; omega), List.length_nil]
        omega)
      have h2 := goes_cn (f := f) (p := p) (κ := (kd (f fr)).toNat) (fr := fr)
      have h3 := Gl_20 _ hk p hp fr hfr
      omega
  · intro ho
    unfold rF
    have : ∀ to pr, rc f h kg p fr to pr = [] := fun to pr => rc_nil (fun q => ho (hB _ _ q).1)
    simp only [this, List.append_nil]
    generalize List.range 81 = R
    induction R with
    | nil => rfl
    | cons a R ih => rw [List.flatMap_cons, ih, List.append_nil]
theorem rD_len {fr : Nat} (hfr : 81 < fr) : (rF f h kg p fr).length ≤ 1 * cn (fun x => f x = 0) (List.range 81) := by
  have hD : ∀ to pr, alw f h kg p fr to pr → imvD f h p fr to pr := by
    intro to pr hA
    rcases hA.1 with ⟨_, q⟩ | ⟨q, _⟩
    · exact q
    · omega
  unfold rF
  refine cn_len (List.range 81) (fun x _ hx => ?_) (fun x _ => ?_)
  · rw [rc_nil (fun q => hx (hD _ _ q).2.2.1), rc_nil (fun q => hx (hD _ _ q).2.2.1)]; rfl
  · rw [List.length_append, rc_nil (pr := 1) (fun q => by have := (hD _ _ q).1; omega), List.length_nil]
    exact rc_len
theorem rl_len (hp : p < 2) (hs : sqok f) : (rl f h kg p).length ≤ 2592 := by
  unfold rl
  rw [range_split, rF_81, List.nil_append, List.length_append, show List.range 7 = [0, 1, 2, 3, 4, 5, 6] from rfl]
  simp only [List.flatMap_cons, List.flatMap_nil, List.append_nil, List.length_append]
  have a := cn_len (c := 32) (P := fun x => own p (f x)) (g := rF f h kg p) (List.range 81) (fun x hx ho => (rF_len hp hs (List.mem_range.mp hx)).2 ho) (fun x hx => (rF_len hp hs (List.mem_range.mp hx)).1)
  have b := cn_two (P := fun x => own p (f x)) (Q := fun x => f x = 0) (fun x h1 h2 => own_n0 h1 h2) (List.range 81)
  rw [List.length_range] at b
  have c0 := rD_len (f := f) (h := h) (kg := kg) (p := p) (fr := 82 + 0) (by omega)
  have c1 := rD_len (f := f) (h := h) (kg := kg) (p := p) (fr := 82 + 1) (by omega)
  have c2 := rD_len (f := f) (h := h) (kg := kg) (p := p) (fr := 82 + 2) (by omega)
  have c3 := rD_len (f := f) (h := h) (kg := kg) (p := p) (fr := 82 + 3) (by omega)
  have c4 := rD_len (f := f) (h := h) (kg := kg) (p := p) (fr := 82 + 4) (by omega)
  have c5 := rD_len (f := f) (h := h) (kg := kg) (p := p) (fr := 82 + 5) (by omega)
  have c6 := rD_len (f := f) (h := h) (kg := kg) (p := p) (fr := 82 + 6) (by omega)
  omega
end MB
