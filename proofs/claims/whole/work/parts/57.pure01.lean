/-! rows and columns along a line -/
theorem mul_btw {a : Int} {i j : Nat} (h : i ≤ j) : (0 ≤ (i : Int) * a ∧ (i : Int) * a ≤ (j : Int) * a) ∨ ((j : Int) * a ≤ (i : Int) * a ∧ (i : Int) * a ≤ 0) := by
  rcases Int.le_total 0 a with ha | ha
  · exact Or.inl ⟨Int.mul_nonneg (by omega) ha, Int.mul_le_mul_of_nonneg_right (by omega) ha⟩
  · exact Or.inr ⟨Int.mul_le_mul_of_nonpos_right (by omega) ha, Int.mul_nonpos_of_nonneg_of_nonpos (by omega) ha⟩
theorem onB_btw {r c a b : Int} {i j : Nat} (h0 : onB r c) (h : onB (r + (j : Int) * a) (c + (j : Int) * b)) (hi : i ≤ j) : onB (r + (i : Int) * a) (c + (i : Int) * b) := by
  have h1 := mul_btw (a := a) hi
  have h2 := mul_btw (a := b) hi
  unfold onB at *
  omega
theorem step_m (a : Int) (i : Nat) : ((i + 1 : Nat) : Int) * a = a + (i : Int) * a := by
  rw [show ((i + 1 : Nat) : Int) = (i : Int) + 1 by omega, Int.add_mul, Int.one_mul]; omega
theorem ray_iff {f : Nat → Int} {q : Int} {d : Nat} : ∀ (n : Nat) (r c t : Int), onB r c → (ray f q d n r c t ↔ ∃ j : Nat, 1 ≤ j ∧ j ≤ n ∧ onB (r + (j : Int) * RS d) (c + (j : Int) * CS d) ∧ (∀ i : Nat, 1 ≤ i → i < j → f (ix (r + (i : Int) * RS d) (c + (i : Int) * CS d)) = 0) ∧ ¬ f (ix (r + (j : Int) * RS d) (c + (j : Int) * CS d)) = 0 ∧ own q (f (ix (r + (j : Int) * RS d) (c + (j : Int) * CS d))) ∧ strk q (kd (f (ix (r + (j : Int) * RS d) (c + (j : Int) * CS d)))).toNat d (t + j - 1)) := by
  intro n
  induction n with
  | zero => intro r c t h; exact ⟨fun h => h.elim, fun ⟨j, h1, h2, _⟩ => by omega⟩
  | succ n ih =>
    intro r c t h0
    have e1 : ((1 : Nat) : Int) * RS d = RS d := by rw [show ((1 : Nat) : Int) = 1 from rfl, Int.one_mul]
    have e2 : ((1 : Nat) : Int) * CS d = CS d := by rw [show ((1 : Nat) : Int) = 1 from rfl, Int.one_mul]
    constructor
    · rintro ⟨hb, ⟨g1, g2, g3⟩ | ⟨g1, g2⟩⟩
      · refine ⟨1, by omega, by omega, ?_⟩
        rw [e1, e2, show t + ((1 : Nat) : Int) - 1 = t by omega]
        exact ⟨hb, fun i a b => by omega, g1, g2, g3⟩
      · obtain ⟨j, j1, j2, j3, j4, j5⟩ := (ih _ _ _ hb).mp g2
        refine ⟨j + 1, by omega, by omega, ?_⟩
        rw [step_m, step_m, ← Int.add_assoc, ← Int.add_assoc, show t + ((j + 1 : Nat) : Int) - 1 = t + 1 + (j : Int) - 1 by omega]
        refine ⟨j3, fun i a b => ?_, j5⟩
        obtain ⟨i, rfl⟩ : ∃ i', i = i' + 1 := ⟨i - 1, by omega⟩
        rw [step_m, step_m, ← Int.add_assoc, ← Int.add_assoc]
        by_cases hi : i = 0
        · subst hi; simpa using g1
        · exact j4 i (by omega) (by omega)
    · rintro ⟨j, j1, j2, j3, j4, j5⟩
      have hb : onB (r + RS d) (c + CS d) := by have := onB_btw h0 j3 (i := 1) (by omega); rwa [e1, e2] at this
      refine ⟨hb, ?_⟩
      obtain ⟨j, rfl⟩ : ∃ j', j = j' + 1 := ⟨j - 1, by omega⟩
      by_cases hj : j = 0
      · subst hj
        rw [show ((0 + 1 : Nat) : Int) = ((1 : Nat) : Int) from rfl, e1, e2, show t + ((1 : Nat) : Int) - 1 = t by omega] at j5
        exact Or.inl j5
      · refine Or.inr ⟨?_, (ih _ _ _ hb).mpr ⟨j, by omega, by omega, ?_⟩⟩
        · have := j4 1 (by omega) (by omega)
          rwa [e1, e2] at this
        · rw [step_m, step_m, ← Int.add_assoc, ← Int.add_assoc] at j3 j5
          rw [show t + ((j + 1 : Nat) : Int) - 1 = t + 1 + (j : Int) - 1 by omega] at j5
          refine ⟨j3, fun i a b => ?_, j5⟩
          have := j4 (i + 1) (by omega) (by omega)
          rwa [step_m, step_m, ← Int.add_assoc, ← Int.add_assoc] at this
/-- the i-th square from s in direction d; it lies on the board -/
abbrev sqd (s : Int) (d i : Nat) : Nat := ix (s / 9 + (i : Int) * RS d) (s % 9 + (i : Int) * CS d)
abbrev ond (s : Int) (d i : Nat) : Prop := onB (s / 9 + (i : Int) * RS d) (s % 9 + (i : Int) * CS d)
theorem onB_s {s : Int} (h0 : 0 ≤ s) (h1 : s < 81) : onB (s / 9) (s % 9) := by unfold onB; omega
/-- q's piece strikes s from the j-th square in direction d, if the squares between are free -/
def htq (f : Nat → Int) (q s : Int) (d j : Nat) : Prop := ond s d j ∧ own q (f (sqd s d j)) ∧ strk q (kd (f (sqd s d j))).toNat d j
theorem own_n0 {q v : Int} (h : own q v) : ¬ v = 0 := by unfold own at h; omega
theorem att_iff {f : Nat → Int} {q s : Int} (h0 : 0 ≤ s) (h1 : s < 81) : att f q s ↔ (∃ d : Nat, d < 8 ∧ ∃ j : Nat, 1 ≤ j ∧ j ≤ 8 ∧ (∀ i : Nat, 1 ≤ i → i < j → f (sqd s d i) = 0) ∧ htq f q s d j) ∨ knAt f q (knS q s (-1)) ∨ knAt f q (knS q s 1) := by
  unfold att
  have h : ∀ d : Nat, ray f q d 8 (s / 9) (s % 9) 1 ↔ ∃ j : Nat, 1 ≤ j ∧ j ≤ 8 ∧ (∀ i : Nat, 1 ≤ i → i < j → f (sqd s d i) = 0) ∧ htq f q s d j := by
    intro d
    rw [ray_iff 8 _ _ _ (onB_s h0 h1)]
    constructor
    · rintro ⟨j, j1, j2, j3, j4, j5, j6, j7⟩
      rw [show (1 : Int) + (j : Int) - 1 = j by omega] at j7
      exact ⟨j, j1, j2, j4, j3, j6, j7⟩
    · rintro ⟨j, j1, j2, j3, j4, j5, j6⟩
      refine ⟨j, j1, j2, j4, j3, own_n0 j5, j5, ?_⟩
      rw [show (1 : Int) + (j : Int) - 1 = j by omega]
      exact j6
  constructor
  · rintro (⟨d, hd, hr⟩ | h2)
    · exact Or.inl ⟨d, hd, (h d).mp hr⟩
    · exact Or.inr h2
  · rintro (⟨d, hd, hr⟩ | h2)
    · exact Or.inl ⟨d, hd, (h d).mpr hr⟩
    · exact Or.inr h2
