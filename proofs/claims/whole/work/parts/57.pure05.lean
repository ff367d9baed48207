/-! a pinned piece stays on its line -/
theorem sg_pm (p : Nat) : sg p = 1 ∨ sg p = -1 := by unfold sg; split <;> simp
theorem onB_n {r c a b : Int} {n : Nat} (hab : ¬ (a = 0 ∧ b = 0)) (h : onB r c) (h' : onB (r + (n : Int) * a) (c + (n : Int) * b)) : n < 9 := by
  unfold onB at h h'
  by_cases ha : a = 0
  · have hb : b ≠ 0 := fun hb => hab ⟨ha, hb⟩
    rcases Int.lt_or_gt_of_ne hb with hb | hb
    · have := Int.mul_le_mul_of_nonneg_left (show b ≤ -1 by omega) (Int.natCast_nonneg n); omega
    · have := Int.mul_le_mul_of_nonneg_left (show 1 ≤ b by omega) (Int.natCast_nonneg n); omega
  · rcases Int.lt_or_gt_of_ne ha with ha | ha
    · have := Int.mul_le_mul_of_nonneg_left (show a ≤ -1 by omega) (Int.natCast_nonneg n); omega
    · have := Int.mul_le_mul_of_nonneg_left (show 1 ≤ a by omega) (Int.natCast_nonneg n); omega
theorem pin_line {f : Nat → Int} {p fr to d i j s n : Nat} {k : Int} (h0 : 0 ≤ k) (h1 : k < 81) (hk : own p (f k.toNat)) (hd : d < 8) (hs : s < 10) (hj : pnd f p k d i j) (hfr : fr = sqd k d i) (hn : 1 ≤ n)
    (ho : onB ((fr : Int) / 9 + (n : Int) * (sg p * RS s)) ((fr : Int) % 9 + (n : Int) * (sg p * CS s))) (hto : to = ix ((fr : Int) / 9 + (n : Int) * (sg p * RS s)) ((fr : Int) % 9 + (n : Int) * (sg p * CS s)))
    (hz : ∀ i : Nat, 1 ≤ i → i < n → f (ix ((fr : Int) / 9 + (i : Int) * (sg p * RS s)) ((fr : Int) % 9 + (i : Int) * (sg p * CS s))) = 0) (hno : ¬ own p (f to)) : seg k d j to ↔ s < 8 ∧ s % 4 = d % 4 := by
  obtain ⟨i1, i2, j8, ht, hof, hze⟩ := hj
  have on1 : ∀ {i : Nat}, i ≤ j → ond k d i := fun hi => onB_btw (onB_s h0 h1) ht.1 hi
  obtain ⟨r1, r2⟩ := ix_rc (on1 (Nat.le_of_lt i2)) hfr
  rw [r1, r2] at ho hto hz
  constructor
  · rintro ⟨i', a, b, e⟩
    have o2 := on1 b
    have hn9 : n < 9 := by
      refine onB_n (a := sg p * RS s) (b := sg p * CS s) ?_ (on1 (Nat.le_of_lt i2)) ho
      have := RC_0 s hs
      rcases sg_pm p with h | h <;> rw [h] <;> omega
    have e1 : ((i' : Int) - i) * RS d = (n : Int) * (sg p * RS s) ∧ ((i' : Int) - i) * CS d = (n : Int) * (sg p * CS s) := by
      rw [Int.sub_mul, Int.sub_mul]
      rw [hto] at e
      unfold ond onB at o2
      unfold onB at ho
      unfold sqd ix at e
      omega
    rcases sg_pm p with h | h
    · rw [h, Int.one_mul, Int.one_mul] at e1
      exact par hd hs hn hn9 (by omega) (by omega) e1.1 e1.2
    · rw [h, Int.neg_mul, Int.neg_mul, Int.one_mul, Int.one_mul, Int.mul_neg, Int.mul_neg] at e1
      have a1 : ((i : Int) - i') * RS d = (n : Int) * RS s := by rw [show (i : Int) - i' = -((i' : Int) - i) by omega, Int.neg_mul]; omega
      have a2 : ((i : Int) - i') * CS d = (n : Int) * CS s := by rw [show (i : Int) - i' = -((i' : Int) - i) by omega, Int.neg_mul]; omega
      exact par hd hs hn hn9 (by omega) (by omega) a1 a2
  · rintro ⟨s8, hm⟩
    have heps : (sg p * RS s = RS d ∧ sg p * CS s = CS d) ∨ (sg p * RS s = -RS d ∧ sg p * CS s = -CS d) := by
      have := par_eps d hd s s8 hm
      rcases sg_pm p with h | h <;> rw [h] <;> omega
    rcases heps with ⟨ha, hb⟩ | ⟨ha, hb⟩ <;> rw [ha, hb] at ho hto hz
    · have sh : ∀ m : Nat, k / 9 + (i : Int) * RS d + (m : Int) * RS d = k / 9 + ((i + m : Nat) : Int) * RS d ∧ k % 9 + (i : Int) * CS d + (m : Int) * CS d = k % 9 + ((i + m : Nat) : Int) * CS d := by
        intro m
        rw [show ((i + m : Nat) : Int) = (i : Int) + m by omega, Int.add_mul, Int.add_mul]
        omega
      by_cases hle : i + n ≤ j
      · refine ⟨i + n, by omega, hle, ?_⟩
        rw [hto, (sh n).1, (sh n).2]
      · exfalso
        have := hz (j - i) (by omega) (by omega)
        rw [(sh (j - i)).1, (sh (j - i)).2, show i + (j - i) = j by omega] at this
        exact own_n0 ht.2.1 this
    · have sh : ∀ m : Nat, m ≤ i → k / 9 + (i : Int) * RS d + (m : Int) * -RS d = k / 9 + ((i - m : Nat) : Int) * RS d ∧ k % 9 + (i : Int) * CS d + (m : Int) * -CS d = k % 9 + ((i - m : Nat) : Int) * CS d := by
        intro m hm
        rw [show ((i - m : Nat) : Int) = (i : Int) - m by omega, Int.sub_mul, Int.sub_mul, Int.mul_neg, Int.mul_neg]
        omega
      have hk0 : ix (k / 9 + ((0 : Nat) : Int) * RS d) (k % 9 + ((0 : Nat) : Int) * CS d) = k.toNat := by
        rw [show ((0 : Nat) : Int) = 0 from rfl, Int.zero_mul, Int.zero_mul]
        unfold ix
        congr 1
        omega
      by_cases hlt : n < i
      · refine ⟨i - n, by omega, by omega, ?_⟩
        rw [hto, (sh n (by omega)).1, (sh n (by omega)).2]
      · exfalso
        by_cases hni : n = i
        · subst hni
          rw [(sh n (Nat.le_refl _)).1, (sh n (Nat.le_refl _)).2, show n - n = 0 by omega, hk0] at hto
          rw [hto] at hno
          exact hno hk
        · have := hz i (by omega) (by omega)
          rw [(sh i (Nat.le_refl _)).1, (sh i (Nat.le_refl _)).2, show i - i = 0 by omega, hk0] at this
          exact own_n0 hk this
theorem nst_near {k s j : Nat} (h1 : 1 ≤ j) (h : j ≤ nst k s) : nearB k s := by
  apply Classical.byContradiction
  intro hn
  unfold nst at h
  rw [if_neg hn] at h
  omega
/-- the squares to which the guard lets a piece go are those to which it goes and leaves its king safe -/
theorem ptgt_iff {M : am} {f : Nat → Int} {b g p κ fr x : Nat} {k v : Int} (hp : p < 2) (h0 : 0 ≤ k) (h1 : k < 81) (hk : own p (f k.toNat)) (hfr : fr < 81) (hf : own p (f fr)) (hv : own p v) :
    ptgt f ((gAll f p k (g0 M b g)).2.1 fr) (gAll f p k (g0 M b g)).2.2 (gAll f p k (g0 M b g)).1 p κ fr 10 x ↔ (goes f p κ fr x ∧ ¬ own p (f x)) ∧ ¬ att (up1 (up1 f fr 0) x v) (1 - (p : Int)) k := by
  rw [att_move hp h0 h1 hf hv]
  have hb := onB_s (s := (fr : Int)) (by omega) (by omega)
  unfold ptgt goes
  constructor
  · rintro ⟨s, hs, hnr, hq, hr, hA⟩
    obtain ⟨j, j1, j2, j3, j4, j5, j6⟩ := (rch_iff _ _ _ hb).mp hr
    have hx : x < 81 := by rw [j4]; exact ix_lt j3
    refine ⟨⟨⟨s, hs, j, j1, j2, j3, j4, j5⟩, j6⟩, (gAll_A hp h0 h1 hx).mp hA, ?_⟩
    have hF := (gAll_P (M := M) (b := b) (g := g) hp h0 h1 hfr).mp hq
    intro d hd i j' hj' e
    exact (pin_line h0 h1 hk hd hs hj' e j1 j3 j4 j5 j6).mpr (hF d hd i j' hj' e)
  · rintro ⟨⟨⟨s, hs, j, j1, j2, j3, j4, j5⟩, j6⟩, ha, hpn⟩
    have hx : x < 81 := by rw [j4]; exact ix_lt j3
    refine ⟨s, hs, nst_near j1 j2, (gAll_P (M := M) (b := b) (g := g) hp h0 h1 hfr).mpr ?_, (rch_iff _ _ _ hb).mpr ⟨j, j1, j2, j3, j4, j5, j6⟩, (gAll_A hp h0 h1 hx).mpr ha⟩
    intro d hd i j' hj' e
    exact (pin_line h0 h1 hk hd hs hj' e j1 j3 j4 j5 j6).mp (hpn d hd i j' hj' e)
