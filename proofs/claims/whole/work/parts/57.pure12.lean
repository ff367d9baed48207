/-! how the reference says that a piece goes -/
/-- the reference's table: b says whether the squares between are free -/
def mgB (b : Bool) (κ ah far asd : Int) : Bool :=
  !(decide (far + asd = 0)) &&
  (if κ = 1 then decide (ah = 1) && decide (asd = 0)
  else if κ = 2 then decide (0 < ah) && decide (asd = 0) && b
  else if κ = 3 then decide (ah = 2) && decide (asd = 1)
  else if κ = 4 then decide (ah = 1) && decide (asd = 0) || decide (far = 1) && decide (asd = 1)
  else if κ = 6 then decide (far = asd) && b
  else if κ = 7 then (decide (far = 0) || decide (asd = 0)) && b
  else if κ = 8 then decide (far ≤ 1) && decide (asd ≤ 1)
  else if κ = 14 then decide (far + asd = 1) || decide (far = asd) && b
  else if κ = 15 then decide (far = 1) && decide (asd = 1) || (decide (far = 0) || decide (asd = 0)) && b
  else decide (ah = 1) && decide (asd ≤ 1) || decide (ah = 0) && decide (asd = 1) || decide (ah = -1) && decide (asd = 0))
def sgn (z : Int) : Int := if 0 < z then 1 else if z < 0 then -1 else 0
/-- the squares between a and s on a line are free -/
def fre (f : Nat → Int) (a s : Nat) : Prop := ∀ i : Nat, 1 ≤ i → (i : Int) < (if kd ((s : Int) / 9 - (a : Int) / 9) = 0 then kd ((s : Int) % 9 - (a : Int) % 9) else kd ((s : Int) / 9 - (a : Int) / 9)) → f ((a : Int) + (i : Int) * (9 * sgn ((s : Int) / 9 - (a : Int) / 9) + sgn ((s : Int) % 9 - (a : Int) % 9))).toNat = 0
/-- the reference's mayGo -/
noncomputable def mgo (f : Nat → Int) (κ : Int) (p a s : Nat) : Bool := mgB (@decide (fre f a s) (Classical.propDecidable _)) κ (if p = 0 then -((s : Int) / 9 - (a : Int) / 9) else (s : Int) / 9 - (a : Int) / 9) (kd ((s : Int) / 9 - (a : Int) / 9)) (kd ((s : Int) % 9 - (a : Int) % 9))
def nrT (κ : Nat) (u w : Int) : Bool := (List.range 10).any (fun e => decide (nearB κ e) && (decide (u = RS e) && decide (w = CS e)))
def frT (κ : Nat) (u w : Int) : Bool := (List.range 10).any (fun e => decide (farB κ e) && (List.range 7).any (fun j => decide (u = ((j + 2 : Nat) : Int) * RS e) && decide (w = ((j + 2 : Nat) : Int) * CS e)))
def tabB (κ : Nat) : Bool := (List.range 17).all (fun u => (List.range 17).all (fun w =>
  (mgB true κ (-((u : Int) - 8)) (kd ((u : Int) - 8)) (kd ((w : Int) - 8)) == (nrT κ ((u : Int) - 8) ((w : Int) - 8) || frT κ ((u : Int) - 8) ((w : Int) - 8))) &&
  ((!(mgB false κ (-((u : Int) - 8)) (kd ((u : Int) - 8)) (kd ((w : Int) - 8))) || nrT κ ((u : Int) - 8) ((w : Int) - 8)) &&
  (!(nrT κ ((u : Int) - 8) ((w : Int) - 8)) || (decide (kd ((u : Int) - 8) ≤ 1) && decide (kd ((w : Int) - 8) ≤ 1) || mgB false κ (-((u : Int) - 8)) (kd ((u : Int) - 8)) (kd ((w : Int) - 8)))))))
theorem tabB_ok : ∀ κ, κ < 16 → κ ≠ 0 → κ ≠ 13 → tabB κ = true := by decide +kernel
theorem mgB_or (b : Bool) (κ ah far asd : Int) : mgB b κ ah far asd = true ↔ mgB false κ ah far asd = true ∨ (mgB true κ ah far asd = true ∧ b = true) := by
  have mono : mgB false κ ah far asd = true → mgB true κ ah far asd = true := by
    unfold mgB
    simp only [Bool.and_eq_true]
    rintro ⟨h1, h2⟩
    refine ⟨h1, ?_⟩
    revert h2
    repeat' split
    all_goals simp_all
  cases b
  · exact ⟨fun h => Or.inl h, fun h => h.elim id (fun q => by cases q.2)⟩
  · exact ⟨fun h => Or.inr ⟨h, rfl⟩, fun h => h.elim mono (fun q => q.1)⟩
theorem tab {κ : Nat} {u w : Int} (h1 : κ < 16) (h2 : κ ≠ 0) (h3 : κ ≠ 13) (hu : -8 ≤ u ∧ u ≤ 8) (hw : -8 ≤ w ∧ w ≤ 8) : (mgB true κ (-u) (kd u) (kd w) = true ↔ nrT κ u w = true ∨ frT κ u w = true) ∧ (mgB false κ (-u) (kd u) (kd w) = true → nrT κ u w = true) ∧ (nrT κ u w = true → (kd u ≤ 1 ∧ kd w ≤ 1) ∨ mgB false κ (-u) (kd u) (kd w) = true) := by
  have a := tabB_ok κ h1 h2 h3
  have a := List.all_eq_true.mp a (u + 8).toNat (List.mem_range.mpr (by omega))
  have a := List.all_eq_true.mp a (w + 8).toNat (List.mem_range.mpr (by omega))
  rw [show (((u + 8).toNat : Nat) : Int) - 8 = u by omega, show (((w + 8).toNat : Nat) : Int) - 8 = w by omega] at a
  simp only [Bool.and_eq_true, Bool.or_eq_true, Bool.not_eq_true', beq_iff_eq, decide_eq_true_eq] at a
  obtain ⟨a1, a2, a3⟩ := a
  refine ⟨by rw [a1, Bool.or_eq_true], fun h => ?_, fun h => ?_⟩
  · rcases a2 with a2 | a2
    · rw [a2] at h; cases h
    · exact a2
  · rcases a3 with a3 | a3
    · rw [a3] at h; cases h
    · exact a3
theorem far8 : ∀ k, k < 16 → ∀ e, e < 10 → farB k e → e < 8 := by decide +kernel
theorem dir1 : ∀ e, e < 8 → (RS e = -1 ∨ RS e = 0 ∨ RS e = 1) ∧ (CS e = -1 ∨ CS e = 0 ∨ CS e = 1) ∧ ¬ (RS e = 0 ∧ CS e = 0) := by decide +kernel
theorem sgn_m {j : Nat} {a : Int} (hj : 1 ≤ j) (ha : a = -1 ∨ a = 0 ∨ a = 1) : sgn ((j : Int) * a) = a ∧ kd ((j : Int) * a) = (if a = 0 then (0 : Int) else (j : Int)) := by
  unfold sgn kd
  rcases ha with rfl | rfl | rfl
  · rw [Int.mul_neg, Int.mul_one]
    refine ⟨?_, ?_⟩
    · rw [if_neg (by omega), if_pos (by omega)]
    · rw [if_pos (by omega), if_neg (by omega)]; omega
  · rw [Int.mul_zero]; simp
  · rw [Int.mul_one]
    refine ⟨?_, ?_⟩
    · rw [if_pos (by omega)]
    · rw [if_neg (by omega), if_neg (by omega)]
/-- along a direction: the squares between, as the reference counts them -/
theorem fre_dir {f : Nat → Int} {a s j : Nat} {x y : Int} (hj : 1 ≤ j) (hx : x = -1 ∨ x = 0 ∨ x = 1) (hy : y = -1 ∨ y = 0 ∨ y = 1) (hxy : ¬ (x = 0 ∧ y = 0)) (e1 : (s : Int) / 9 = (a : Int) / 9 + (j : Int) * x) (e2 : (s : Int) % 9 = (a : Int) % 9 + (j : Int) * y) :
    fre f a s ↔ ∀ i : Nat, 1 ≤ i → i < j → f (ix ((a : Int) / 9 + (i : Int) * x) ((a : Int) % 9 + (i : Int) * y)) = 0 := by
  unfold fre
  rw [show (s : Int) / 9 - (a : Int) / 9 = (j : Int) * x by omega, show (s : Int) % 9 - (a : Int) % 9 = (j : Int) * y by omega]
  obtain ⟨s1, k1⟩ := sgn_m hj hx
  obtain ⟨s2, k2⟩ := sgn_m hj hy
  rw [s1, s2, k1, k2]
  have hn : (if (if x = 0 then (0 : Int) else (j : Int)) = 0 then (if y = 0 then (0 : Int) else (j : Int)) else (if x = 0 then (0 : Int) else (j : Int))) = (j : Int) := by
    by_cases h : x = 0
    · have hy0 : ¬ y = 0 := fun q => hxy ⟨h, q⟩
      simp only [h, hy0, if_true, if_false]
    · simp only [h, if_false]
      rw [if_neg (by omega)]
  rw [hn]
  have hsq : ∀ i : Nat, ((a : Int) + (i : Int) * (9 * x + y)).toNat = ix ((a : Int) / 9 + (i : Int) * x) ((a : Int) % 9 + (i : Int) * y) := by
    intro i
    unfold ix
    rw [Int.mul_add, Int.mul_left_comm]
    congr 1
    omega
  simp only [hsq]
  exact ⟨fun h i a b => h i a (by omega), fun h i a b => h i a (by omega)⟩
theorem kd_sg (p : Nat) (z : Int) : kd (sg p * z) = kd z := by
  rcases sg_pm p with h | h <;> rw [h] <;> unfold kd
  · rw [Int.one_mul]
  · rw [Int.neg_mul, Int.one_mul]; split <;> split <;> omega
theorem sg_sg (p : Nat) (z : Int) : sg p * (sg p * z) = z := by
  rcases sg_pm p with h | h <;> rw [h] <;> omega
theorem mgo_goes {f : Nat → Int} {κ p a s : Nat} (hp : p < 2) (ha : a < 81) (hs : s < 81) (h1 : κ < 16) (h2 : κ ≠ 0) (h3 : κ ≠ 13) : mgo f κ p a s = true ↔ goes f p κ a s := by
  obtain ⟨u, hu⟩ : ∃ u, u = sg p * ((s : Int) / 9 - (a : Int) / 9) := ⟨_, rfl⟩
  obtain ⟨w, hw⟩ : ∃ w, w = sg p * ((s : Int) % 9 - (a : Int) % 9) := ⟨_, rfl⟩
  have hur : -8 ≤ u ∧ u ≤ 8 := by rcases sg_pm p with h | h <;> rw [h] at hu <;> omega
  have hwr : -8 ≤ w ∧ w ≤ 8 := by rcases sg_pm p with h | h <;> rw [h] at hw <;> omega
  have hah : (if p = 0 then -((s : Int) / 9 - (a : Int) / 9) else (s : Int) / 9 - (a : Int) / 9) = -u := by
    rw [hu]; unfold sg; split <;> omega
  have hku : kd ((s : Int) / 9 - (a : Int) / 9) = kd u := by rw [hu, kd_sg]
  have hkw : kd ((s : Int) % 9 - (a : Int) % 9) = kd w := by rw [hw, kd_sg]
  have hdr : (s : Int) / 9 = (a : Int) / 9 + sg p * u := by rw [hu, sg_sg]; omega
  have hdc : (s : Int) % 9 = (a : Int) % 9 + sg p * w := by rw [hw, sg_sg]; omega
  obtain ⟨t1, t2, t3⟩ := tab h1 h2 h3 hur hwr
  have hnear : nrT κ u w = true ↔ ∃ e, e < 10 ∧ nearB κ e ∧ u = RS e ∧ w = CS e := by
    unfold nrT
    rw [List.any_eq_true]
    simp only [List.mem_range, Bool.and_eq_true, decide_eq_true_eq]
  have hfar : frT κ u w = true ↔ ∃ e, e < 10 ∧ farB κ e ∧ ∃ j : Nat, 2 ≤ j ∧ j ≤ 8 ∧ u = (j : Int) * RS e ∧ w = (j : Int) * CS e := by
    unfold frT
    rw [List.any_eq_true]
    simp only [List.mem_range, Bool.and_eq_true, decide_eq_true_eq, List.any_eq_true]
    constructor
    · rintro ⟨e, q1, q2, j, q3, q4, q5⟩; exact ⟨e, q1, q2, j + 2, by omega, by omega, q4, q5⟩
    · rintro ⟨e, q1, q2, j, q3, q3', q4, q5⟩
      refine ⟨e, q1, q2, j - 2, by omega, ?_⟩
      rw [show j - 2 + 2 = j by omega]
      exact ⟨q4, q5⟩
  have hF1 : kd u ≤ 1 → kd w ≤ 1 → fre f a s := by
    intro q1 q2 i i1 i2
    rw [hku, hkw] at i2
    split at i2 <;> omega
  have hsgd : ∀ e, e < 8 → (sg p * RS e = -1 ∨ sg p * RS e = 0 ∨ sg p * RS e = 1) ∧ (sg p * CS e = -1 ∨ sg p * CS e = 0 ∨ sg p * CS e = 1) ∧ ¬ (sg p * RS e = 0 ∧ sg p * CS e = 0) := by
    intro e he
    have := dir1 e he
    rcases sg_pm p with h | h <;> rw [h] <;> omega
  have hgo : goes f p κ a s ↔ nrT κ u w = true ∨ (frT κ u w = true ∧ fre f a s) := by
    rw [hnear, hfar]
    constructor
    · rintro ⟨e, he, j, j1, j2, j3, j4, j5⟩
      obtain ⟨r1, r2⟩ := ix_rc j3 j4
      have eu : u = (j : Int) * RS e := by rw [hu, r1, show (a : Int) / 9 + (j : Int) * (sg p * RS e) - (a : Int) / 9 = (j : Int) * (sg p * RS e) by omega, Int.mul_left_comm, sg_sg]
      have ew : w = (j : Int) * CS e := by rw [hw, r2, show (a : Int) % 9 + (j : Int) * (sg p * CS e) - (a : Int) % 9 = (j : Int) * (sg p * CS e) by omega, Int.mul_left_comm, sg_sg]
      by_cases hj : j = 1
      · subst hj
        rw [show ((1 : Nat) : Int) = 1 from rfl, Int.one_mul] at eu ew
        exact Or.inl ⟨e, he, nst_near j1 j2, eu, ew⟩
      · have j8 : j ≤ 8 := by unfold nst at j2; split at j2 <;> (try split at j2) <;> omega
        have hfr := (nst_iff j1 j8 h1 he).mp j2
        rw [if_neg hj] at hfr
        have e8 := far8 κ h1 e he hfr
        obtain ⟨d1, d2, d3⟩ := hsgd e e8
        exact Or.inr ⟨⟨e, he, hfr, j, by omega, j8, eu, ew⟩, (fre_dir j1 d1 d2 d3 r1 r2).mpr j5⟩
    · rintro (⟨e, he, hn, eu, ew⟩ | ⟨⟨e, he, hfr, j, j1, j2, eu, ew⟩, hF⟩)
      · refine ⟨e, he, 1, by omega, ?_, ?_⟩
        · exact (nst_iff (by omega) (by omega) h1 he).mpr (by rw [if_pos rfl]; exact hn)
        · rw [show ((1 : Nat) : Int) = 1 from rfl, Int.one_mul, Int.one_mul, ← eu, ← ew, ← hdr, ← hdc]
          exact ⟨onB_s (by omega) (by omega), by unfold ix; omega, fun i a b => by omega⟩
      · have e8 := far8 κ h1 e he hfr
        obtain ⟨d1, d2, d3⟩ := hsgd e e8
        have r1 : (s : Int) / 9 = (a : Int) / 9 + (j : Int) * (sg p * RS e) := by rw [hdr, eu, Int.mul_left_comm]
        have r2 : (s : Int) % 9 = (a : Int) % 9 + (j : Int) * (sg p * CS e) := by rw [hdc, ew, Int.mul_left_comm]
        refine ⟨e, he, j, by omega, (nst_iff (by omega) j2 h1 he).mpr (by rw [if_neg (by omega)]; exact hfr), ?_⟩
        have := (fre_dir (by omega) d1 d2 d3 r1 r2).mp hF
        rw [← r1, ← r2]
        exact ⟨onB_s (by omega) (by omega), by unfold ix; omega, this⟩
  unfold mgo
  rw [hah, hku, hkw, mgB_or, @decide_eq_true_iff _ (Classical.propDecidable _), hgo]
  constructor
  · rintro (q | ⟨q, hF⟩)
    · exact Or.inl (t2 q)
    · rcases t1.mp q with q | q
      · exact Or.inl q
      · exact Or.inr ⟨q, hF⟩
  · rintro (q | ⟨q, hF⟩)
    · rcases t3 q with ⟨k1, k2⟩ | k
      · exact Or.inr ⟨t1.mpr (Or.inl q), hF1 k1 k2⟩
      · exact Or.inl k
    · exact Or.inr ⟨t1.mpr (Or.inr q), hF⟩
