/-! attack, as the squares' neighbours see it and as the pieces do -/
theorem far_near : ∀ k, k < 16 → ∀ e, e < 10 → farB k e → nearB k e := by decide +kernel
theorem kn_near : ∀ k, k < 16 → ∀ e, e < 10 → (8 ≤ e ∧ nearB k e) → k = 3 ∧ ¬ farB k e := by decide +kernel
theorem kn_near3 : nearB 3 8 ∧ nearB 3 9 ∧ ¬ farB 3 8 ∧ ¬ farB 3 9 := by decide +kernel
theorem nst_iff {k e j : Nat} (h1 : 1 ≤ j) (h8 : j ≤ 8) (hk : k < 16) (he : e < 10) : j ≤ nst k e ↔ (if j = 1 then nearB k e else farB k e) := by
  unfold nst
  by_cases hn : nearB k e
  · rw [if_pos hn]
    by_cases hf : farB k e
    · rw [if_pos hf]
      by_cases hj : j = 1
      · rw [if_pos hj]; exact ⟨fun _ => hn, fun _ => by omega⟩
      · rw [if_neg hj]; exact ⟨fun _ => hf, fun _ => h8⟩
    · rw [if_neg hf]
      by_cases hj : j = 1
      · rw [if_pos hj]; exact ⟨fun _ => hn, fun _ => by omega⟩
      · rw [if_neg hj]; exact ⟨fun h => by omega, fun h => absurd h hf⟩
  · rw [if_neg hn]
    by_cases hj : j = 1
    · rw [if_pos hj]; exact ⟨fun h => by omega, fun h => absurd h hn⟩
    · rw [if_neg hj]; exact ⟨fun h => by omega, fun h => absurd (far_near k hk e he h) hn⟩
theorem strk_iff {p k d j : Nat} : strk p k d j ↔ (if j = 1 then nearB k (if p = 0 then d ^^^ 4 else d) else farB k (if p = 0 then d ^^^ 4 else d)) := by
  unfold strk reach nearB farB
  have e1 : ((p : Int) = 0) = (p = 0) := by simp
  have e2 : ((j : Int) = 1) = (j = 1) := by apply propext; omega
  simp only [e1, e2]
  by_cases hj : j = 1
  · simp only [hj, if_true]
  · simp only [hj, if_false]
/-- a direction as the other end sees it -/
abbrev opd (p d : Nat) : Nat := if p = 0 then d ^^^ 4 else d
theorem opd_t : ∀ p, p < 2 → ∀ d, d < 8 → opd p d < 8 ∧ opd p (opd p d) = d ∧ sg p * RS (opd p d) = -RS d ∧ sg p * CS (opd p d) = -CS d := by decide +kernel
theorem kd_own {p : Nat} (hp : p < 2) {v : Int} (h : own p v) : v = vof p (kd v) ∧ 0 < kd v := by
  unfold own at h; unfold vof kd
  by_cases e : (p : Int) = 0
  · rw [if_pos e]; split <;> omega
  · rw [if_neg e]; split <;> omega
theorem kd_vofI {p : Int} {k : Int} (hk : 0 ≤ k) : kd (vof p k) = k := by unfold kd vof; split <;> split <;> omega
theorem kd_le {f : Nat → Int} (hs : sqok f) {a : Nat} (ha : a < 81) : (kd (f a)).toNat < 16 := by have := hs a ha; unfold kd; split <;> omega
theorem att_goes {f : Nat → Int} {p s : Nat} (hp : p < 2) (hs : s < 81) (hf : sqok f) : att f p s ↔ ∃ a, a < 81 ∧ own p (f a) ∧ goes f p (kd (f a)).toNat a s := by
  have hbs := onB_s (s := (s : Int)) (by omega) (by omega)
  rw [att_iff (by omega) (by omega)]
  constructor
  · rintro (⟨d, hd, j, j1, j2, j3, j4, j5, j6⟩ | hkn)
    · obtain ⟨o1, o2, o3, o4⟩ := opd_t p hp d hd
      have hl := ix_lt j4
      have hk := kd_le hf hl
      refine ⟨sqd s d j, hl, j5, opd p d, by omega, j, j1, (nst_iff j1 j2 hk (by omega)).mpr (strk_iff.mp j6), ?_⟩
      obtain ⟨r1, r2⟩ := ix_rc j4 rfl
      rw [r1, r2, o3, o4]
      have sh : ∀ m : Nat, m ≤ j → (s : Int) / 9 + (j : Int) * RS d + (m : Int) * -RS d = (s : Int) / 9 + ((j - m : Nat) : Int) * RS d ∧ (s : Int) % 9 + (j : Int) * CS d + (m : Int) * -CS d = (s : Int) % 9 + ((j - m : Nat) : Int) * CS d := by
        intro m hm
        rw [show ((j - m : Nat) : Int) = (j : Int) - m by omega, Int.sub_mul, Int.sub_mul, Int.mul_neg, Int.mul_neg]
        omega
      rw [(sh j (Nat.le_refl _)).1, (sh j (Nat.le_refl _)).2, show j - j = 0 by omega, show ((0 : Nat) : Int) = 0 from rfl, Int.zero_mul, Int.zero_mul, Int.add_zero, Int.add_zero]
      refine ⟨hbs, by unfold ix; omega, fun i a b => ?_⟩
      rw [(sh i (by omega)).1, (sh i (by omega)).2]
      exact j3 (j - i) (by omega) (by omega)
    · have key : ∀ x : Int, (x = 1 ∨ x = -1) → knAt f p (knS p s x) → ∃ a, a < 81 ∧ own p (f a) ∧ goes f p (kd (f a)).toNat a s := by
        intro x hx ⟨a, b⟩
        have hl := knS_lt a
        have hb : onB ((s : Int) / 9 + (if (p : Int) = 0 then 2 else -2)) ((s : Int) % 9 + x) := by
          apply Classical.byContradiction
          intro hn
          unfold knS at a
          rw [sqr_f hn] at a
          omega
        have ha : (knS p s x).toNat = ix ((s : Int) / 9 + (if (p : Int) = 0 then 2 else -2)) ((s : Int) % 9 + x) := by unfold knS; rw [sqr_t hb]
        obtain ⟨r1, r2⟩ := ix_rc hb ha
        refine ⟨_, hl, by rw [b]; exact vof_own (by omega) (by omega), ?_⟩
        rw [b, kd_vofI (by omega)]
        show goes f p 3 _ _
        have e8 : RS 8 = -2 ∧ CS 8 = -1 ∧ RS 9 = -2 ∧ CS 9 = 1 := by decide +kernel
        have hg : ∀ e : Nat, (e = 8 ∨ e = 9) → sg p * RS e = -(if (p : Int) = 0 then 2 else -2) → sg p * CS e = -x → goes f p 3 (knS p s x).toNat s := by
          intro e he q1 q2
          refine ⟨e, by omega, 1, by omega, ?_, ?_⟩
          · unfold nst
            have := kn_near3
            rcases he with rfl | rfl
            · rw [if_pos this.1]; split <;> omega
            · rw [if_pos this.2.1]; split <;> omega
          · rw [r1, r2, q1, q2, show ((1 : Nat) : Int) = 1 from rfl, Int.one_mul, Int.one_mul]
            rw [show (s : Int) / 9 + (if (p : Int) = 0 then 2 else -2) + -(if (p : Int) = 0 then 2 else -2) = (s : Int) / 9 by omega, show (s : Int) % 9 + x + -x = (s : Int) % 9 by omega]
            exact ⟨hbs, by unfold ix; omega, fun i a b => by omega⟩
        rcases (show p = 0 ∨ p = 1 by omega) with rfl | rfl
        · rcases hx with rfl | rfl
          · exact hg 8 (Or.inl rfl) (by rw [e8.1]; decide) (by rw [e8.2.1]; decide)
          · exact hg 9 (Or.inr rfl) (by rw [e8.2.2.1]; decide) (by rw [e8.2.2.2]; decide)
        · rcases hx with rfl | rfl
          · exact hg 9 (Or.inr rfl) (by rw [e8.2.2.1]; decide) (by rw [e8.2.2.2]; decide)
          · exact hg 8 (Or.inl rfl) (by rw [e8.1]; decide) (by rw [e8.2.1]; decide)
      rcases hkn with h | h
      · exact key (-1) (Or.inr rfl) h
      · exact key 1 (Or.inl rfl) h
  · rintro ⟨a, ha, ho, e, he, j, j1, j2, j3, j4, j5⟩
    have hk := kd_le hf ha
    obtain ⟨r1, r2⟩ := ix_rc j3 j4
    by_cases h8 : e < 8
    · obtain ⟨o1, o2, o3, o4⟩ := opd_t p hp e h8
      have o5 : sg p * RS e = -RS (opd p e) ∧ sg p * CS e = -CS (opd p e) := by
        have := opd_t p hp (opd p e) o1
        rw [o2] at this
        exact this.2.2
      rw [o5.1] at r1 j5 j3
      rw [o5.2] at r2 j5 j3
      have hj8 : j ≤ 8 := by
        have := onB_n (a := -RS (opd p e)) (b := -CS (opd p e)) (by have := RC_0 (opd p e) (by omega); omega) (onB_s (s := (a : Int)) (by omega) (by omega)) j3
        omega
      have sh : ∀ m : Nat, m ≤ j → (s : Int) / 9 + (m : Int) * RS (opd p e) = (a : Int) / 9 + ((j - m : Nat) : Int) * -RS (opd p e) ∧ (s : Int) % 9 + (m : Int) * CS (opd p e) = (a : Int) % 9 + ((j - m : Nat) : Int) * -CS (opd p e) := by
        intro m hm
        rw [show ((j - m : Nat) : Int) = (j : Int) - m by omega, Int.sub_mul, Int.sub_mul, r1, r2, Int.mul_neg, Int.mul_neg, Int.mul_neg, Int.mul_neg]
        omega
      have hsq : sqd s (opd p e) j = a := by
        unfold sqd
        rw [(sh j (Nat.le_refl _)).1, (sh j (Nat.le_refl _)).2, show j - j = 0 by omega, show ((0 : Nat) : Int) = 0 from rfl, Int.zero_mul, Int.zero_mul]
        unfold ix; omega
      refine Or.inl ⟨opd p e, o1, j, j1, hj8, fun i x y => ?_, ?_, ?_, ?_⟩
      · unfold sqd
        rw [(sh i (by omega)).1, (sh i (by omega)).2]
        exact j5 (j - i) (by omega) (by omega)
      · unfold ond
        rw [(sh j (Nat.le_refl _)).1, (sh j (Nat.le_refl _)).2, show j - j = 0 by omega, show ((0 : Nat) : Int) = 0 from rfl, Int.zero_mul, Int.zero_mul]
        unfold onB; omega
      · rw [hsq]; exact ho
      · rw [hsq]
        refine strk_iff.mpr ?_
        have := (nst_iff j1 hj8 hk he).mp j2
        rw [show (if p = 0 then opd p e ^^^ 4 else opd p e) = e from o2]
        exact this
    · obtain ⟨hk3, hnf⟩ := kn_near _ hk e he ⟨by omega, nst_near j1 j2⟩
      have hj : j = 1 := by
        unfold nst at j2
        rw [if_pos (nst_near j1 j2), if_neg hnf] at j2
        omega
      subst hj
      have hv := (kd_own hp ho).1
      rw [show kd (f a) = 3 by omega] at hv
      rw [show ((1 : Nat) : Int) = 1 from rfl, Int.one_mul] at r1 r2
      have e8 : RS 8 = -2 ∧ CS 8 = -1 ∧ RS 9 = -2 ∧ CS 9 = 1 := by decide +kernel
      have key : ∀ x : Int, (a : Int) / 9 = (s : Int) / 9 + (if (p : Int) = 0 then 2 else -2) → (a : Int) % 9 = (s : Int) % 9 + x → knAt f p (knS p s x) := by
        intro x q1 q2
        have hb : onB ((s : Int) / 9 + (if (p : Int) = 0 then 2 else -2)) ((s : Int) % 9 + x) := by rw [← q1, ← q2]; exact onB_s (by omega) (by omega)
        unfold knAt knS
        rw [sqr_t hb, ← q1, ← q2]
        rw [show (9 * ((a : Int) / 9) + (a : Int) % 9).toNat = a by omega]
        exact ⟨by omega, hv⟩
      refine Or.inr ?_
      rcases (show e = 8 ∨ e = 9 by omega) with rfl | rfl
      · rw [e8.1] at r1; rw [e8.2.1] at r2
        rcases (show p = 0 ∨ p = 1 by omega) with rfl | rfl
        · refine Or.inr (key 1 ?_ ?_)
          · rw [if_pos (by decide)]; rw [show sg 0 = 1 from rfl] at r1; omega
          · rw [show sg 0 = 1 from rfl] at r2; omega
        · refine Or.inl (key (-1) ?_ ?_)
          · rw [if_neg (by decide)]; rw [show sg 1 = -1 from rfl] at r1; omega
          · rw [show sg 1 = -1 from rfl] at r2; omega
      · rw [e8.2.2.1] at r1; rw [e8.2.2.2] at r2
        rcases (show p = 0 ∨ p = 1 by omega) with rfl | rfl
        · refine Or.inl (key (-1) ?_ ?_)
          · rw [if_pos (by decide)]; rw [show sg 0 = 1 from rfl] at r1; omega
          · rw [show sg 0 = 1 from rfl] at r2; omega
        · refine Or.inr (key 1 ?_ ?_)
          · rw [if_neg (by decide)]; rw [show sg 1 = -1 from rfl] at r1; omega
          · rw [show sg 1 = -1 from rfl] at r2; omega
