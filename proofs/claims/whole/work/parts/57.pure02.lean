/-! what is found along a direction -/
def ehj (f : Nat → Int) (p d : Nat) (r c t : Int) (n : Nat) (t' : Int) (j : Nat) : Prop := 1 ≤ j ∧ j ≤ n ∧ onB (r + (j : Int) * RS d) (c + (j : Int) * CS d) ∧ ¬ f (ix (r + (j : Int) * RS d) (c + (j : Int) * CS d)) = 0 ∧ ¬ own p (f (ix (r + (j : Int) * RS d) (c + (j : Int) * CS d))) ∧ strk (1 - p) (kd (f (ix (r + (j : Int) * RS d) (c + (j : Int) * CS d)))).toNat d (t + j - 1) ∧ t' = t + j - 1
theorem ehj_1 {f : Nat → Int} {p d : Nat} {r c t : Int} {n : Nat} {t' : Int} : ehj f p d r c t (n + 1) t' 1 ↔ onB (r + RS d) (c + CS d) ∧ ¬ f (ix (r + RS d) (c + CS d)) = 0 ∧ ¬ own p (f (ix (r + RS d) (c + CS d))) ∧ strk (1 - p) (kd (f (ix (r + RS d) (c + CS d)))).toNat d t ∧ t' = t := by
  unfold ehj
  rw [show ((1 : Nat) : Int) = 1 from rfl, Int.one_mul, Int.one_mul, show t + 1 - 1 = t by omega]
  constructor
  · rintro ⟨_, _, h⟩; exact h
  · intro h; exact ⟨by omega, by omega, h⟩
theorem ehj_s {f : Nat → Int} {p d : Nat} {r c t : Int} {n : Nat} {t' : Int} {j : Nat} (hj : 1 ≤ j) : ehj f p d r c t (n + 1) t' (j + 1) ↔ ehj f p d (r + RS d) (c + CS d) (t + 1) n t' j := by
  unfold ehj
  rw [step_m, step_m, ← Int.add_assoc, ← Int.add_assoc, show t + ((j + 1 : Nat) : Int) - 1 = t + 1 + (j : Int) - 1 by omega]
  constructor
  · rintro ⟨_, _, h⟩; exact ⟨by omega, by omega, h⟩
  · rintro ⟨_, _, h⟩; exact ⟨by omega, by omega, h⟩
abbrev fvz (f : Nat → Int) (d : Nat) (r c : Int) (i : Nat) : Int := f (ix (r + (i : Int) * RS d) (c + (i : Int) * CS d))
theorem fvz_1 {f : Nat → Int} {d : Nat} {r c : Int} : fvz f d r c 1 = f (ix (r + RS d) (c + CS d)) := by
  show f (ix (r + ((1 : Nat) : Int) * RS d) (c + ((1 : Nat) : Int) * CS d)) = _
  rw [show ((1 : Nat) : Int) = 1 from rfl, Int.one_mul, Int.one_mul]
theorem fvz_s {f : Nat → Int} {d : Nat} {r c : Int} {i : Nat} : fvz f d r c (i + 1) = fvz f d (r + RS d) (c + CS d) i := by
  show f (ix (r + ((i + 1 : Nat) : Int) * RS d) (c + ((i + 1 : Nat) : Int) * CS d)) = _
  rw [step_m, step_m, ← Int.add_assoc, ← Int.add_assoc]
theorem onB_1 {d : Nat} {r c : Int} {j : Nat} (h0 : onB r c) (hj : 1 ≤ j) (h : onB (r + (j : Int) * RS d) (c + (j : Int) * CS d)) : onB (r + RS d) (c + CS d) := by
  have := onB_btw h0 h hj
  rwa [show ((1 : Nat) : Int) = 1 from rfl, Int.one_mul, Int.one_mul] at this
theorem scn_sh {f : Nat → Int} {p d : Nat} {t' s s' : Int} (hs : ¬ s = -1) : ∀ (n : Nat) (r c t : Int), onB r c → (scn f p d n r c t s = some (t', s') ↔ s' = s ∧ ∃ j, ehj f p d r c t n t' j ∧ ∀ i : Nat, 1 ≤ i → i < j → fvz f d r c i = 0) := by
  intro n
  induction n with
  | zero => intro r c t h; exact ⟨fun h => by simp [scn] at h, fun ⟨_, j, h, _⟩ => by have := h.1; have := h.2.1; omega⟩
  | succ n ih =>
    intro r c t h0
    unfold scn
    by_cases hb : onB (r + RS d) (c + CS d)
    · rw [if_pos hb]
      by_cases hz : f (ix (r + RS d) (c + CS d)) = 0
      · rw [if_pos hz, ih _ _ _ hb]
        refine and_congr_right fun _ => ?_
        constructor
        · rintro ⟨j, j1, j2⟩
          refine ⟨j + 1, (ehj_s j1.1).mpr j1, fun i a b => ?_⟩
          obtain ⟨i, rfl⟩ : ∃ i', i = i' + 1 := ⟨i - 1, by omega⟩
          by_cases hi : i = 0
          · subst hi; rw [fvz_1]; exact hz
          · rw [fvz_s]; exact j2 i (by omega) (by omega)
        · rintro ⟨j, j1, j2⟩
          by_cases hj : j = 1
          · subst hj; exact absurd hz (ehj_1.mp j1).2.1
          · obtain ⟨j, rfl⟩ : ∃ i', j = i' + 1 := ⟨j - 1, by have := j1.1; omega⟩
            refine ⟨j, (ehj_s (by omega)).mp j1, fun i a b => ?_⟩
            have := j2 (i + 1) (by omega) (by omega)
            rwa [fvz_s] at this
      · rw [if_neg hz]
        have only : (∃ j, ehj f p d r c t (n + 1) t' j ∧ ∀ i : Nat, 1 ≤ i → i < j → fvz f d r c i = 0) ↔ ehj f p d r c t (n + 1) t' 1 := by
          constructor
          · rintro ⟨j, j1, j2⟩
            by_cases hj : j = 1
            · subst hj; exact j1
            · have := j2 1 (by omega) (by have := j1.1; omega)
              rw [fvz_1] at this
              exact absurd this hz
          · intro h; exact ⟨1, h, fun i a b => by omega⟩
        rw [only, ehj_1]
        by_cases ho : own p (f (ix (r + RS d) (c + CS d)))
        · rw [if_pos ho, if_neg hs]
          exact ⟨fun h => (nomatch h), fun h => absurd ho h.2.2.2.1⟩
        · rw [if_neg ho]
          by_cases hk : strk (1 - p) (kd (f (ix (r + RS d) (c + CS d)))).toNat d t
          · rw [if_pos hk]
            constructor
            · intro h
              injection h with h
              injection h with h1 h2
              exact ⟨h2.symm, hb, hz, ho, hk, h1.symm⟩
            · rintro ⟨h1, _, _, _, _, h2⟩
              rw [h1, h2]
          · rw [if_neg hk]
            exact ⟨fun h => (nomatch h), fun h => absurd h.2.2.2.2.1 hk⟩
    · rw [if_neg hb]
      exact ⟨fun h => (nomatch h), fun ⟨_, j, h, _⟩ => absurd (onB_1 h0 h.1 h.2.2.1) hb⟩
theorem ix_nn (r c : Int) : ¬ ((ix r c : Nat) : Int) = -1 := by omega
theorem scn_iff {f : Nat → Int} {p d : Nat} {t' s' : Int} : ∀ (n : Nat) (r c t : Int), onB r c → (scn f p d n r c t (-1) = some (t', s') ↔ (s' = -1 ∧ ∃ j, ehj f p d r c t n t' j ∧ ∀ i : Nat, 1 ≤ i → i < j → fvz f d r c i = 0) ∨ ∃ i0 j : Nat, 1 ≤ i0 ∧ i0 < j ∧ ehj f p d r c t n t' j ∧ s' = (ix (r + (i0 : Int) * RS d) (c + (i0 : Int) * CS d) : Nat) ∧ own p (fvz f d r c i0) ∧ ∀ i : Nat, 1 ≤ i → i < j → i ≠ i0 → fvz f d r c i = 0) := by
  intro n
  induction n with
  | zero =>
    intro r c t h
    refine ⟨fun h => by simp [scn] at h, ?_⟩
    rintro (⟨_, j, h, _⟩ | ⟨i0, j, _, _, h, _⟩)
    · have := h.1; have := h.2.1; omega
    · have := h.1; have := h.2.1; omega
  | succ n ih =>
    intro r c t h0
    by_cases hb : onB (r + RS d) (c + CS d)
    · by_cases hz : f (ix (r + RS d) (c + CS d)) = 0
      · rw [scn, if_pos hb, if_pos hz, ih _ _ _ hb]
        have hL : (∃ j, ehj f p d (r + RS d) (c + CS d) (t + 1) n t' j ∧ ∀ i : Nat, 1 ≤ i → i < j → fvz f d (r + RS d) (c + CS d) i = 0) ↔ (∃ j, ehj f p d r c t (n + 1) t' j ∧ ∀ i : Nat, 1 ≤ i → i < j → fvz f d r c i = 0) := by
          constructor
          · rintro ⟨j, j1, j2⟩
            refine ⟨j + 1, (ehj_s j1.1).mpr j1, fun i a b => ?_⟩
            obtain ⟨i, rfl⟩ : ∃ i', i = i' + 1 := ⟨i - 1, by omega⟩
            by_cases hi : i = 0
            · subst hi; rw [fvz_1]; exact hz
            · rw [fvz_s]; exact j2 i (by omega) (by omega)
          · rintro ⟨j, j1, j2⟩
            by_cases hj : j = 1
            · subst hj; exact absurd hz (ehj_1.mp j1).2.1
            · obtain ⟨j, rfl⟩ : ∃ i', j = i' + 1 := ⟨j - 1, by have := j1.1; omega⟩
              refine ⟨j, (ehj_s (by omega)).mp j1, fun i a b => ?_⟩
              have := j2 (i + 1) (by omega) (by omega)
              rwa [fvz_s] at this
        rw [hL]
        refine or_congr_right ?_
        constructor
        · rintro ⟨i0, j, a, b, j1, j2, j3, j4⟩
          refine ⟨i0 + 1, j + 1, by omega, by omega, (ehj_s j1.1).mpr j1, ?_, ?_, ?_⟩
          · rw [step_m, step_m, ← Int.add_assoc, ← Int.add_assoc]; exact j2
          · rw [fvz_s]; exact j3
          · intro i a b hn
            obtain ⟨i, rfl⟩ : ∃ i', i = i' + 1 := ⟨i - 1, by omega⟩
            by_cases hi : i = 0
            · subst hi; rw [fvz_1]; exact hz
            · rw [fvz_s]; exact j4 i (by omega) (by omega) (by omega)
        · rintro ⟨i0, j, a, b, j1, j2, j3, j4⟩
          obtain ⟨j, rfl⟩ : ∃ i', j = i' + 1 := ⟨j - 1, by omega⟩
          obtain ⟨i0, rfl⟩ : ∃ i', i0 = i' + 1 := ⟨i0 - 1, by omega⟩
          by_cases hi : i0 = 0
          · subst hi
            rw [show 0 + 1 = 1 from rfl, fvz_1] at j3
            exact absurd hz (own_n0 j3)
          · refine ⟨i0, j, by omega, by omega, (ehj_s (by omega)).mp j1, ?_, ?_, ?_⟩
            · rw [step_m, step_m, ← Int.add_assoc, ← Int.add_assoc] at j2; exact j2
            · rw [fvz_s] at j3; exact j3
            · intro i a b hn
              have := j4 (i + 1) (by omega) (by omega) (by omega)
              rwa [fvz_s] at this
      · have onlyL : (∃ j, ehj f p d r c t (n + 1) t' j ∧ ∀ i : Nat, 1 ≤ i → i < j → fvz f d r c i = 0) ↔ ehj f p d r c t (n + 1) t' 1 := by
          constructor
          · rintro ⟨j, j1, j2⟩
            by_cases hj : j = 1
            · subst hj; exact j1
            · have := j2 1 (by omega) (by have := j1.1; omega)
              rw [fvz_1] at this
              exact absurd this hz
          · intro h; exact ⟨1, h, fun i a b => by omega⟩
        by_cases ho : own p (f (ix (r + RS d) (c + CS d)))
        · rw [scn, if_pos hb, if_neg hz, if_pos ho, if_pos rfl, scn_sh (ix_nn _ _) n _ _ _ hb]
          constructor
          · rintro ⟨e, j, j1, j2⟩
            refine Or.inr ⟨1, j + 1, by omega, by have := j1.1; omega, (ehj_s j1.1).mpr j1, ?_, ?_, ?_⟩
            · rw [show ((1 : Nat) : Int) = 1 from rfl, Int.one_mul, Int.one_mul]; exact e
            · rw [fvz_1]; exact ho
            · intro i a b hn
              obtain ⟨i, rfl⟩ : ∃ i', i = i' + 1 := ⟨i - 1, by omega⟩
              rw [fvz_s]
              exact j2 i (by omega) (by omega)
          · rintro (⟨_, h⟩ | ⟨i0, j, a, b, j1, j2, j3, j4⟩)
            · exact absurd ho (ehj_1.mp (onlyL.mp h)).2.2.1
            · have hi : i0 = 1 := by
                by_cases e : i0 = 1
                · exact e
                · have := j4 1 (by omega) (by omega) (by omega)
                  rw [fvz_1] at this
                  exact absurd this hz
              subst hi
              obtain ⟨j, rfl⟩ : ∃ i', j = i' + 1 := ⟨j - 1, by omega⟩
              rw [show ((1 : Nat) : Int) = 1 from rfl, Int.one_mul, Int.one_mul] at j2
              refine ⟨j2, j, (ehj_s (by omega)).mp j1, fun i a b => ?_⟩
              have := j4 (i + 1) (by omega) (by omega) (by omega)
              rwa [fvz_s] at this
        · have noR : ¬ ∃ i0 j : Nat, 1 ≤ i0 ∧ i0 < j ∧ ehj f p d r c t (n + 1) t' j ∧ s' = (ix (r + (i0 : Int) * RS d) (c + (i0 : Int) * CS d) : Nat) ∧ own p (fvz f d r c i0) ∧ ∀ i : Nat, 1 ≤ i → i < j → i ≠ i0 → fvz f d r c i = 0 := by
            rintro ⟨i0, j, a, b, j1, j2, j3, j4⟩
            by_cases e : i0 = 1
            · subst e; rw [fvz_1] at j3; exact ho j3
            · have := j4 1 (by omega) (by omega) (by omega)
              rw [fvz_1] at this
              exact hz this
          rw [onlyL, ehj_1, or_iff_left noR, scn, if_pos hb, if_neg hz, if_neg ho]
          by_cases hk : strk (1 - p) (kd (f (ix (r + RS d) (c + CS d)))).toNat d t
          · rw [if_pos hk]
            constructor
            · intro h
              injection h with h
              injection h with h1 h2
              exact ⟨h2.symm, hb, hz, ho, hk, h1.symm⟩
            · rintro ⟨h1, _, _, _, _, h2⟩
              rw [h1, h2]
          · rw [if_neg hk]
            exact ⟨fun h => (nomatch h), fun h => absurd h.2.2.2.2.1 hk⟩
    · rw [scn, if_neg hb]
      refine ⟨fun h => (nomatch h), ?_⟩
      rintro (⟨_, j, h, _⟩ | ⟨i0, j, _, _, h, _⟩)
      · exact absurd (onB_1 h0 h.1 h.2.2.1) hb
      · exact absurd (onB_1 h0 h.1 h.2.2.1) hb
