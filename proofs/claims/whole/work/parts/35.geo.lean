/-! geometry of a piece's targets; rising lists as filters -/
abbrev nearB (k s : Nat) : Prop := ¬ stv 102 k / 2 ^ s % 2 = 0
abbrev farB (k s : Nat) : Prop := ¬ stv 103 k / 2 ^ s % 2 = 0
def nst (k s : Nat) : Nat := if nearB k s then (if farB k s then 8 else 1) else 0
def Gl (k p fr : Nat) : List Nat := (List.range 10).flatMap (fun s => (List.range (nst k s)).filterMap (fun j => if onB ((fr : Int) / 9 + ((j + 1 : Nat) : Int) * (sg p * RS s)) ((fr : Int) % 9 + ((j + 1 : Nat) : Int) * (sg p * CS s)) then some (ix ((fr : Int) / 9 + ((j + 1 : Nat) : Int) * (sg p * RS s)) ((fr : Int) % 9 + ((j + 1 : Nat) : Int) * (sg p * CS s))) else none))
theorem Gl_len : ∀ k, k < 16 → ∀ p, p < 2 → ∀ fr, fr < 81 → (Gl k p fr).length ≤ 20 := by decide +kernel
theorem Gl_in {k p fr s j : Nat} (hs : s < 10) (h1 : 1 ≤ j) (hj : j ≤ nst k s) (hb : onB ((fr : Int) / 9 + (j : Int) * (sg p * RS s)) ((fr : Int) % 9 + (j : Int) * (sg p * CS s))) : ix ((fr : Int) / 9 + (j : Int) * (sg p * RS s)) ((fr : Int) % 9 + (j : Int) * (sg p * CS s)) ∈ Gl k p fr := by
  refine List.mem_flatMap.mpr ⟨s, List.mem_range.mpr hs, List.mem_filterMap.mpr ⟨j - 1, List.mem_range.mpr (by omega), ?_⟩⟩
  rw [show j - 1 + 1 = j by omega, if_pos hb]
def vecB : Bool := (List.range 10).all (fun s => (List.range 10).all (fun s' => decide (s = s') || (List.range 9).all (fun j => (List.range 9).all (fun j' => decide (j = 0) || decide (j' = 0) || !(decide ((j : Int) * RS s = (j' : Int) * RS s') && decide ((j : Int) * CS s = (j' : Int) * CS s'))))))
theorem vecB_ok : vecB = true := by decide +kernel
theorem vec_apart {s s' j j' : Nat} (hs : s < 10) (hs' : s' < 10) (hn : s ≠ s') (hj : j < 9) (hj' : j' < 9) (h1 : 1 ≤ j) (h1' : 1 ≤ j') : ¬ ((j : Int) * RS s = (j' : Int) * RS s' ∧ (j : Int) * CS s = (j' : Int) * CS s') := by
  rintro ⟨e1, e2⟩
  have a := List.all_eq_true.mp vecB_ok s (List.mem_range.mpr hs)
  have a := List.all_eq_true.mp a s' (List.mem_range.mpr hs')
  simp only [hn, decide_false, Bool.false_or] at a
  have a := List.all_eq_true.mp a j (List.mem_range.mpr hj)
  have a := List.all_eq_true.mp a j' (List.mem_range.mpr hj')
  simp only [e1, e2, decide_true, Bool.and_self, Bool.not_true, Bool.or_false, Bool.or_eq_true, decide_eq_true_eq] at a
  omega
theorem sq_apart {p fr s s' j j' : Nat} (hs : s < 10) (hs' : s' < 10) (hn : s ≠ s') (hj : j < 9) (hj' : j' < 9) (h1 : 1 ≤ j) (h1' : 1 ≤ j') (hb : onB ((fr : Int) / 9 + (j : Int) * (sg p * RS s)) ((fr : Int) % 9 + (j : Int) * (sg p * CS s))) (hb' : onB ((fr : Int) / 9 + (j' : Int) * (sg p * RS s')) ((fr : Int) % 9 + (j' : Int) * (sg p * CS s'))) : ix ((fr : Int) / 9 + (j : Int) * (sg p * RS s)) ((fr : Int) % 9 + (j : Int) * (sg p * CS s)) ≠ ix ((fr : Int) / 9 + (j' : Int) * (sg p * RS s')) ((fr : Int) % 9 + (j' : Int) * (sg p * CS s')) := by
  intro e
  have hv := vec_apart hs hs' hn hj hj' h1 h1'
  simp only [sg_m] at e hb hb'
  unfold ix at e
  apply hv
  by_cases hp : p = 0 <;> simp only [hp, if_true, if_false, Int.mul_neg] at e hb hb' <;> omega
/-- the squares a ray reaches are squares of it -/
theorem rch_sq {f : Nat → Int} {p rs cs : Int} : ∀ (n : Nat) (r c : Int) (x : Nat), rch f p rs cs n r c x → ∃ j : Nat, 1 ≤ j ∧ j ≤ n ∧ onB (r + (j : Int) * rs) (c + (j : Int) * cs) ∧ x = ix (r + (j : Int) * rs) (c + (j : Int) * cs) := by
  intro n
  induction n with
  | zero => intro r c x h; exact h.elim
  | succ n ih =>
    intro r c x h
    obtain ⟨hb, -, h | h⟩ := h
    · refine ⟨1, by omega, by omega, ?_⟩
      rw [show ((1 : Nat) : Int) = 1 from rfl, Int.one_mul, Int.one_mul]
      exact ⟨hb, h⟩
    · obtain ⟨j, j1, j2, j3, j4⟩ := ih _ _ _ h.2
      refine ⟨j + 1, by omega, by omega, ?_⟩
      have e1 : ((j + 1 : Nat) : Int) * rs = (j : Int) * rs + rs := by rw [show ((j + 1 : Nat) : Int) = (j : Int) + 1 by omega, Int.add_mul]; omega
      have e2 : ((j + 1 : Nat) : Int) * cs = (j : Int) * cs + cs := by rw [show ((j + 1 : Nat) : Int) = (j : Int) + 1 by omega, Int.add_mul]; omega
      rw [e1, e2, show r + ((j : Int) * rs + rs) = r + rs + (j : Int) * rs by omega, show c + ((j : Int) * cs + cs) = c + cs + (j : Int) * cs by omega]
      exact ⟨j3, j4⟩
theorem fm_congr {l : List Nat} {f g : Nat → List Int} (h : ∀ x, x ∈ l → f x = g x) : l.flatMap f = l.flatMap g := by
  induction l with
  | nil => rfl
  | cons a l ih => rw [List.flatMap_cons, List.flatMap_cons, h a List.mem_cons_self, ih (fun x hx => h x (List.mem_cons_of_mem _ hx))]
/-- what the members of a rising list give, square by square -/
noncomputable def cells (S : Nat → Prop) (g : Nat → List Int) (n : Nat) : List Int := (List.range n).flatMap (fun x => @ite _ (S x) (Classical.propDecidable _) (g x) [])
theorem rising_cells {g : Nat → List Int} : ∀ (n a : Nat) (T : List Nat), rising T → (∀ x ∈ T, a ≤ x ∧ x < a + n) → T.flatMap g = (List.range' a n).flatMap (fun x => @ite _ (x ∈ T) (Classical.propDecidable _) (g x) []) := by
  intro n
  induction n with
  | zero =>
    intro a T _ h
    cases T with
    | nil => rfl
    | cons x T => have := h x List.mem_cons_self; omega
  | succ n ih =>
    intro a T hs h
    rw [List.range'_succ, List.flatMap_cons]
    by_cases ha : a ∈ T
    · cases T with
      | nil => cases ha
      | cons x T =>
        have hp := List.pairwise_cons.mp hs
        have hx : x = a := by
          rcases List.mem_cons.mp ha with h1 | h1
          · exact h1.symm
          · have := hp.1 a h1; have := h x List.mem_cons_self; omega
        subst hx
        rw [if_pos List.mem_cons_self, List.flatMap_cons, ih (x + 1) T hp.2 (fun y hy => by have := hp.1 y hy; have := h y (List.mem_cons_of_mem _ hy); omega)]
        congr 1
        apply fm_congr
        intro y hy
        have hy1 : x + 1 ≤ y := (List.mem_range'_1.mp hy).1
        by_cases hyT : y ∈ T
        · rw [if_pos hyT, if_pos (List.mem_cons_of_mem _ hyT)]
        · rw [if_neg hyT, if_neg (fun q => (List.mem_cons.mp q).elim (fun e => by omega) hyT)]
    · rw [if_neg ha, List.nil_append]
      exact ih (a + 1) T hs (fun y hy => by
        have := h y hy
        by_cases e : y = a
        · subst e; exact absurd hy ha
        · omega)
theorem cells_of {g : Nat → List Int} {T : List Nat} {S : Nat → Prop} (hs : rising T) (h : ∀ x ∈ T, x < 81) (hS : ∀ x, x ∈ T ↔ S x) : T.flatMap g = cells S g 81 := by
  rw [rising_cells 81 0 T hs (fun x hx => ⟨Nat.zero_le _, by have := h x hx; omega⟩)]
  unfold cells
  rw [List.range_eq_range']
  apply fm_congr
  intro x _
  by_cases hx : S x
  · rw [if_pos hx, if_pos ((hS x).mpr hx)]
  · rw [if_neg hx, if_neg (fun q => hx ((hS x).mp q))]
