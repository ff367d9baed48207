/-! Values, memory and world in my own words. An int is an Int in range, a reference the number of an object, a long an Int. Memory: object, place -> Int. -/
abbrev av : Type := Int ⊕ (Nat ⊕ Int)
abbrev al : Type := Option (Int ⊕ Nat)
abbrev am : Type := Nat → Nat → Int
def r32 (z : Int) : Prop := -2147483648 ≤ z ∧ z ≤ 2147483647
def r64 (z : Int) : Prop := -9223372036854775808 ≤ z ∧ z ≤ 9223372036854775807
/-- where the objects lie, the numbers of classes and slots, the array classes, how many objects there are, where they begin -/
abbrev cx : Type := (Nat → Nat) × va_G × (Nat → ClassId) × Nat × Nat
abbrev cx.loc (x : cx) : Nat → Nat := x.1
abbrev cx.D (x : cx) : va_G := x.2.1
abbrev cx.cA (x : cx) : Nat → ClassId := x.2.2.1
abbrev cx.n (x : cx) : Nat := x.2.2.2.1
abbrev cx.B (x : cx) : Nat := x.2.2.2.2
abbrev cx.A (x : cx) : Nat → Prop := fun q => x.B ≤ q
def vl (x : cx) : av → Value
  | .inl z => .int (Int32.ofInt z)
  | .inr (.inl a) => .ref (x.loc a)
  | .inr (.inr z) => .long (Int64.ofInt z)
def vo (x : cx) : Int ⊕ Nat → Value
  | .inl z => .int (Int32.ofInt z)
  | .inr a => .ref (x.loc a)
def okv : av → Prop
  | .inl z => r32 z
  | .inr (.inl _) => True
  | .inr (.inr z) => r64 z
def oko : Int ⊕ Nat → Prop
  | .inl z => r32 z
  | .inr _ => True
def fv (x : cx) (M : am) (a k : Nat) : Nat ⊕ Nat → Value
  | .inl t => .ref (x.loc t)
  | .inr _ => .int (Int32.ofInt (M a k))
def ent (x : cx) (M : am) (a : Nat) : va_E :=
  if (sh a).1 = 0 then .inl (x.cA 0, (sh a).2.1, .inl (fun j => Int32.ofInt (M a j)))
  else if (sh a).1 = 1 then .inl (x.cA 1, (sh a).2.1, .inl (fun j => Int32.ofInt (M a j)))
  else if (sh a).1 = 2 then .inl (x.cA 2, (sh a).2.1, .inr (.inl (fun j => Int64.ofInt (M a j))))
  else .inr ((sh a).2.1, (sh a).2.2.mapIdx (fv x M a))
def wld (x : cx) (M : am) : va_W := (List.range x.n).map (fun a => (x.loc a, ent x M a))
def Rg (M : am) : Prop := ∀ a k, (¬ (sh a).1 = 2 → r32 (M a k)) ∧ ((sh a).1 = 2 → r64 (M a k))
def tysx (x : cx) : List (ClassId × FieldType) := [(x.cA 0, .int), (x.cA 1, .boolean), (x.cA 2, .long)]
/-- the objects lie apart, behind x.B -/
def Dx (x : cx) : Prop := (∀ i j, i < x.n → j < x.n → x.loc i = x.loc j → i = j) ∧ ∀ i, i < x.n → x.B ≤ x.loc i
/-- the static arrays -/
def Sx (x : cx) (U : State) (H : Heap) : Prop := ∀ (i : Nat) (q : String × String × List Int), sts[i]? = some q → va_Z q.1 q.2.1 "[I" (.ref (x.loc (100 + i))) x.A U H ∧ va_T .int (x.loc (100 + i)) q.2.2.length (fun j => .int (Int32.ofInt (q.2.2.getD j 0))) x.A U H
/-- the tables -/
def TB (U : State) : Prop := ∀ w ∈ lw_tbl, goodWord w = true → w.before #[] U = true
/-- all that a method needs of a state, memory apart -/
def Cx (x : cx) (U : State) : Prop := TB U ∧ va_K x.D vcl (tysx x) U ∧ Sx x U U.heap
theorem wld_at {x : cx} {M : am} {a : Nat} (h : a < x.n) : (wld x M)[a]? = some (x.loc a, ent x M a) := by
  simp [wld, h]
theorem wld_lt {x : cx} {M : am} {k : Nat} {q : Nat × va_E} (h : (wld x M)[k]? = some q) : k < x.n ∧ q = (x.loc k, ent x M k) := by
  have hk : k < x.n := by
    have := (List.getElem?_eq_some_iff.mp h).1
    simpa [wld] using this
  rw [wld_at hk] at h
  exact ⟨hk, (Option.some.inj h).symm⟩
theorem Dx.D {x : cx} (h : Dx x) (M : am) : va_D x.A (wld x M) := by
  refine ⟨fun i j p q hi hj e => ?_, fun k q hk => ?_⟩
  · obtain ⟨h1, rfl⟩ := wld_lt hi
    obtain ⟨h2, rfl⟩ := wld_lt hj
    exact h.1 i j h1 h2 e
  · obtain ⟨h1, rfl⟩ := wld_lt hk
    exact h.2 k h1
def up2 (M : am) (a k : Nat) (v : Int) : am := fun b j => if b = a ∧ j = k then v else M b j
theorem up2_s (M : am) (a k : Nat) (v : Int) : up2 M a k v a k = v := by simp [up2]
theorem up2_n (M : am) {a k b j : Nat} (v : Int) (h : b ≠ a ∨ j ≠ k) : up2 M a k v b j = M b j := by
  unfold up2
  rw [if_neg]
  rintro ⟨rfl, rfl⟩
  exact h.elim (fun h => h rfl) (fun h => h rfl)
theorem ent_ne {x : cx} {M : am} {a k b : Nat} {v : Int} (h : b ≠ a) : ent x (up2 M a k v) b = ent x M b := by
  have e : up2 M a k v b = M b := by funext j; exact up2_n M v (Or.inl h)
  have e2 : fv x (up2 M a k v) b = fv x M b := by
    funext j f
    cases f <;> simp [fv, e]
  simp only [ent, e, e2]
theorem wld_set {x : cx} {M : am} {a k : Nat} {v : Int} {E : va_E} (ha : a < x.n) (hE : E = ent x (up2 M a k v) a) : (wld x M).set a (x.loc a, E) = wld x (up2 M a k v) := by
  subst hE
  apply List.ext_getElem?
  intro i
  by_cases hi : i < x.n
  · by_cases h : i = a
    · subst h
      rw [wld_at hi, List.getElem?_set_self (by simpa [wld] using hi)]
    · rw [List.getElem?_set_ne (Ne.symm h), wld_at hi, wld_at hi, ent_ne h]
  · rw [List.getElem?_eq_none (by simp [wld]; omega), List.getElem?_eq_none (by simp [wld]; omega)]
theorem Rg.up {M : am} (h : Rg M) {a k : Nat} {v : Int} (hv : (¬ (sh a).1 = 2 → r32 v) ∧ ((sh a).1 = 2 → r64 v)) : Rg (up2 M a k v) := by
  intro b j
  unfold up2
  split
  · next e => rw [e.1]; exact hv
  · exact h b j
/-- the locals -/
def lok (x : cx) (nL : Nat) (ls : List al) (lsA : Array Slot) : Prop := ls.length = nL ∧ lsA.size = nL ∧ lv_wf lsA ∧ ∀ (i : Nat) (v : Int ⊕ Nat), ls[i]? = some (some v) → lsA[i]? = some (Slot.val (vo x v)) ∧ oko v
theorem vo_cat (x : cx) (v : Int ⊕ Nat) : (vo x v).category = 1 := by cases v <;> rfl
theorem lok.store {x : cx} {nL i : Nat} {ls : List al} {lsA : Array Slot} {v : Int ⊕ Nat} (h : lok x nL ls lsA) (hi : i < nL) (hv : oko v) : ∃ ls', storeLocals lsA i (vo x v) = some ls' ∧ lok x nL (ls.set i (some v)) ls' := by
  obtain ⟨h1, h2, h3, h4⟩ := h
  have h0 : lv_has lsA nL ((List.range nL).filterMap (fun j => (ls[j]?.join).map (fun w => (j, vo x w)))) := by
    refine ⟨h2, h3, fun q hq => ?_⟩
    obtain ⟨j, -, hj⟩ := List.mem_filterMap.mp hq
    cases hl : ls[j]? with
    | none => rw [hl] at hj; cases hj
    | some w =>
      cases w with
      | none => rw [hl] at hj; cases hj
      | some w =>
        rw [hl] at hj
        cases hj
        exact (h4 j w hl).1
  obtain ⟨ls', e, g1, g2, g3⟩ := lv_store1 (v := vo x v) h0 hi (vo_cat x v)
  refine ⟨ls', e, by simpa using h1, g1, g2, fun j w hj => ?_⟩
  by_cases hji : j = i
  · subst hji
    rw [List.getElem?_set_self (by omega)] at hj
    cases hj
    exact ⟨g3 (j, vo x v) List.mem_cons_self, hv⟩
  · rw [List.getElem?_set_ne (Ne.symm hji)] at hj
    have hjn : j < nL := by have := (List.getElem?_eq_some_iff.mp hj).1; omega
    refine ⟨g3 (j, vo x w) (List.mem_cons_of_mem _ (List.mem_filter.mpr ⟨List.mem_filterMap.mpr ⟨j, List.mem_range.mpr hjn, by rw [hj]; rfl⟩, ?_⟩)), (h4 j w hj).2⟩
    simp [hji, vo_cat]
