/-! the reference's keys tell positions apart -/
def kw (f : Nat → Int) (b c : Int) (a : Nat) : Nat → Int
  | 0 => 0
  | m + 1 => kw f b c a m * b + (f (a + m) + c)
theorem kw_inj {f g : Nat → Int} {b c : Int} {a : Nat} (hb : 0 < b) : ∀ m, (∀ i, i < m → 0 ≤ f (a + i) + c ∧ f (a + i) + c < b) → (∀ i, i < m → 0 ≤ g (a + i) + c ∧ g (a + i) + c < b) → kw f b c a m = kw g b c a m → ∀ i, i < m → f (a + i) = g (a + i) := by
  intro m
  induction m with
  | zero => intro _ _ _ i hi; omega
  | succ m ih =>
    intro hf hg e i hi
    have e : kw f b c a m * b + (f (a + m) + c) = kw g b c a m * b + (g (a + m) + c) := e
    have hfm := hf m (by omega)
    have hgm := hg m (by omega)
    have hq : kw f b c a m = kw g b c a m := by
      have h1 : (kw f b c a m * b + (f (a + m) + c)) / b = kw f b c a m := by
        rw [Int.add_comm, Int.add_mul_ediv_right _ _ (by omega), Int.ediv_eq_zero_of_lt hfm.1 hfm.2, Int.zero_add]
      have h2 : (kw g b c a m * b + (g (a + m) + c)) / b = kw g b c a m := by
        rw [Int.add_comm, Int.add_mul_ediv_right _ _ (by omega), Int.ediv_eq_zero_of_lt hgm.1 hgm.2, Int.zero_add]
      rw [← h1, ← h2, e]
    by_cases e2 : i = m
    · subst e2; rw [hq] at e; omega
    · exact ih (fun i hi => hf i (by omega)) (fun i hi => hg i (by omega)) hq i (by omega)
theorem kw_cg {f g : Nat → Int} {b c : Int} {a : Nat} : ∀ m, (∀ i, i < m → f (a + i) = g (a + i)) → kw f b c a m = kw g b c a m := by
  intro m
  induction m with
  | zero => intro _; rfl
  | succ m ih =>
    intro h
    show kw f b c a m * b + (f (a + m) + c) = kw g b c a m * b + (g (a + m) + c)
    rw [ih (fun i hi => h i (by omega)), h m (by omega)]
/-- the r-th of the nine numbers of a key -/
def keyR (f h : Nat → Int) (r : Nat) : Int := if r < 7 then kw f 32 15 (12 * r) (if r < 6 then 12 else 9) else kw h 128 0 (8 * (r - 7)) 8
theorem key_same {f g h h' : Nat → Int} (hf : sqok f) (hg : sqok g) (h1 : ∀ i, i < 16 → 0 ≤ h i ∧ h i ≤ 117) (h2 : ∀ i, i < 16 → 0 ≤ h' i ∧ h' i ≤ 117) : (∀ r, r < 9 → keyR f h r = keyR g h' r) ↔ same f g h h' := by
  unfold keyR
  constructor
  · intro q
    constructor
    · intro i hi
      have := q (i / 12) (by omega)
      have h7 : i / 12 < 7 := by omega
      rw [if_pos h7, if_pos h7] at this
      have b : ∀ j, j < (if i / 12 < 6 then 12 else 9) → 12 * (i / 12) + j < 81 := by intro j hj; split at hj <;> omega
      have := kw_inj (f := f) (g := g) (b := 32) (c := 15) (by omega) _ (fun j hj => by have := hf _ (b j hj); omega) (fun j hj => by have := hg _ (b j hj); omega) this (i % 12) (by split <;> omega)
      rw [show 12 * (i / 12) + i % 12 = i by omega] at this
      exact this
    · intro i hi
      have := q (7 + i / 8) (by omega)
      have h7 : ¬ 7 + i / 8 < 7 := by omega
      rw [if_neg h7, if_neg h7] at this
      have := kw_inj (f := h) (g := h') (b := 128) (c := 0) (by omega) _ (fun j hj => by have := h1 (8 * (7 + i / 8 - 7) + j) (by omega); omega) (fun j hj => by have := h2 (8 * (7 + i / 8 - 7) + j) (by omega); omega) this (i % 8) (by omega)
      rw [show 8 * (7 + i / 8 - 7) + i % 8 = i by omega] at this
      exact this
  · rintro ⟨q1, q2⟩ r hr
    by_cases h7 : r < 7
    · rw [if_pos h7, if_pos h7]
      apply kw_cg
      intro i hi
      apply q1
      split at hi <;> omega
    · rw [if_neg h7, if_neg h7]
      apply kw_cg
      intro i hi
      apply q2
      omega
theorem kw_b {f : Nat → Int} {b c : Int} {a : Nat} (hb : 0 < b) : ∀ m, (∀ i, i < m → 0 ≤ f (a + i) + c ∧ f (a + i) + c < b) → 0 ≤ kw f b c a m ∧ kw f b c a m < b ^ m := by
  intro m
  induction m with
  | zero => intro _; exact ⟨Int.le_refl _, by rw [Int.pow_zero]; show (0 : Int) < 1; omega⟩
  | succ m ih =>
    intro h
    obtain ⟨i1, i2⟩ := ih (fun i hi => h i (by omega))
    have hm := h m (by omega)
    rw [Int.pow_succ]
    show 0 ≤ kw f b c a m * b + (f (a + m) + c) ∧ kw f b c a m * b + (f (a + m) + c) < b ^ m * b
    have h1 : 0 ≤ kw f b c a m * b := Int.mul_nonneg i1 (by omega)
    have h2 : (kw f b c a m + 1) * b ≤ b ^ m * b := Int.mul_le_mul_of_nonneg_right (by omega) (by omega)
    rw [Int.add_mul, Int.one_mul] at h2
    omega
