/-! a sound position, said in two ways; the beginning -/
def dbl (f : Nat → Int) (w : Int) (n : Nat) : Prop := ∃ i j, i < j ∧ j < n ∧ i % 9 = j % 9 ∧ f i = w ∧ f j = w
theorem pop_or : ∀ x, x < 512 → ∀ c, c < 9 → pop (x ||| 2 ^ c) = pop x + (if x.testBit c = true then 0 else 1) := by decide +kernel
theorem pop_cnt (f : Nat → Int) (w : Int) : ∀ n, pop (pcl f w n) ≤ cnt f w n ∧ (((cnt f w n : Nat) : Int) = pop (pcl f w n) ↔ ¬ dbl f w n) := by
  intro n
  induction n with
  | zero =>
    have e1 : pcl f w 0 = 0 := rfl
    have e2 : cnt f w 0 = 0 := rfl
    rw [e1, e2]
    exact ⟨by decide, fun _ ⟨i, j, h1, h2, _⟩ => by omega, fun _ => rfl⟩
  | succ n ih =>
    obtain ⟨i1, i2⟩ := ih
    have hp : pcl f w (n + 1) = if f n = w then pcl f w n ||| 2 ^ (n % 9) else pcl f w n := rfl
    have hc : cnt f w (n + 1) = if f n = w then cnt f w n + 1 else cnt f w n := rfl
    rw [hp, hc]
    by_cases hw : f n = w
    · rw [if_pos hw, if_pos hw, pop_or _ (pcl_lt f w n) _ (by omega)]
      have hd : dbl f w (n + 1) ↔ dbl f w n ∨ (pcl f w n).testBit (n % 9) = true := by
        rw [pcl_test]
        constructor
        · rintro ⟨i, j, a, b, c, d, e⟩
          by_cases hj : j = n
          · subst hj; exact Or.inr ⟨i, a, c, d⟩
          · exact Or.inl ⟨i, j, a, by omega, c, d, e⟩
        · rintro (⟨i, j, a, b, c, d, e⟩ | ⟨i, a, b, c⟩)
          · exact ⟨i, j, a, by omega, c, d, e⟩
          · exact ⟨i, n, a, by omega, b, c, hw⟩
      rw [hd]
      by_cases ht : (pcl f w n).testBit (n % 9) = true
      · rw [if_pos ht]
        exact ⟨by omega, fun e => by omega, fun q => absurd (Or.inr ht) q⟩
      · rw [if_neg ht]
        refine ⟨by omega, fun e q => ?_, fun q => ?_⟩
        · rcases q with q | q
          · exact (i2.mp (by omega)) q
          · exact ht q
        · have := i2.mpr (fun w => q (Or.inl w)); omega
    · rw [if_neg hw, if_neg hw]
      have hd : dbl f w (n + 1) ↔ dbl f w n := by
        constructor
        · rintro ⟨i, j, a, b, c, d, e⟩
          by_cases hj : j = n
          · subst hj; exact absurd e hw
          · exact ⟨i, j, a, by omega, c, d, e⟩
        · rintro ⟨i, j, a, b, c, d, e⟩; exact ⟨i, j, a, by omega, c, d, e⟩
      rw [hd]
      exact ⟨i1, i2⟩
theorem twoP_dbl (f : Nat → Int) (p : Int) : twoP f p ↔ dbl f (vof p 1) 81 := by
  unfold twoP
  rw [(pop_cnt f (vof p 1) 81).2]
  exact Classical.not_not
/-- the last place that holds v -/
def fkp (f : Nat → Int) (v g : Int) : Nat → Int
  | 0 => g
  | n + 1 => if f n = v then (n : Int) else fkp f v g n
theorem cnt_0 {f : Nat → Int} {v : Int} : ∀ n, cnt f v n = 0 → (∀ j, j < n → f j ≠ v) := by
  intro n
  induction n with
  | zero => intro _ j hj; omega
  | succ n ih =>
    intro h j hj
    have hc : cnt f v (n + 1) = if f n = v then cnt f v n + 1 else cnt f v n := rfl
    rw [hc] at h
    by_cases hv : f n = v
    · rw [if_pos hv] at h; omega
    · rw [if_neg hv] at h
      by_cases e : j = n
      · subst e; exact hv
      · exact ih h j (by omega)
theorem cnt_1 {f : Nat → Int} {v g : Int} : ∀ n, cnt f v n = 1 → ∃ i : Nat, i < n ∧ f i = v ∧ (∀ j, j < n → f j = v → j = i) ∧ fkp f v g n = i := by
  intro n
  induction n with
  | zero => intro h; cases h
  | succ n ih =>
    intro h
    have hc : cnt f v (n + 1) = if f n = v then cnt f v n + 1 else cnt f v n := rfl
    have hf : fkp f v g (n + 1) = if f n = v then (n : Int) else fkp f v g n := rfl
    rw [hc] at h
    rw [hf]
    by_cases hv : f n = v
    · rw [if_pos hv] at h ⊢
      have h0 := cnt_0 (f := f) (v := v) n (by omega)
      refine ⟨n, by omega, hv, fun j hj e => ?_, rfl⟩
      by_cases e' : j = n
      · exact e'
      · exact absurd e (h0 j (by omega))
    · rw [if_neg hv] at h ⊢
      obtain ⟨i, a, b, c, d⟩ := ih h
      refine ⟨i, by omega, b, fun j hj e => ?_, d⟩
      by_cases e' : j = n
      · subst e'; exact absurd e hv
      · exact c j (by omega) e
theorem fk_fkp {f g : Nat → Int} : ∀ n, fk f g n 0 = fkp f 8 (g 0) n ∧ fk f g n 1 = fkp f (-8) (g 1) n := by
  intro n
  induction n with
  | zero => exact ⟨rfl, rfl⟩
  | succ n ih =>
    show (if f n = 8 then up1 (fk f g n) 0 n else if f n = -8 then up1 (fk f g n) 1 n else fk f g n) 0 = (if f n = 8 then (n : Int) else fkp f 8 (g 0) n) ∧ (if f n = 8 then up1 (fk f g n) 0 n else if f n = -8 then up1 (fk f g n) 1 n else fk f g n) 1 = (if f n = -8 then (n : Int) else fkp f (-8) (g 1) n)
    by_cases h1 : f n = 8
    · rw [if_pos h1, if_pos h1, if_neg (by omega)]
      exact ⟨rfl, ih.2⟩
    · rw [if_neg h1, if_neg h1]
      by_cases h2 : f n = -8
      · rw [if_pos h2, if_pos h2]
        exact ⟨ih.1, rfl⟩
      · rw [if_neg h2, if_neg h2]
        exact ih
theorem kq_cnt {f kg g : Nat → Int} (h1 : cnt f 8 81 = 1) (h2 : cnt f (-8) 81 = 1) (k0 : kg 0 = fkp f 8 (g 0) 81) (k1 : kg 1 = fkp f (-8) (g 1) 81) : kq f kg := by
  intro q hq
  rcases (show q = 0 ∨ q = 1 by omega) with rfl | rfl
  · obtain ⟨i, a, b, c, d⟩ := cnt_1 (g := g 0) 81 h1
    rw [k0, d]
    exact ⟨by omega, b, fun j hj e => c j hj e⟩
  · obtain ⟨i, a, b, c, d⟩ := cnt_1 (g := g 1) 81 h2
    rw [k1, d]
    exact ⟨by omega, b, fun j hj e => c j hj e⟩
/-- hands as they can be set up -/
theorem hdg_su {f h : Nat → Int} (h1 : ∀ i, i < 16 → 0 ≤ h i ∧ h i ≤ 18) (h2 : h 0 = 0) (h3 : h 8 = 0) : hdg f h := by
  refine ⟨fun i hi => (h1 i hi).1, h2, h3, fun t ht => ?_⟩
  have a := h1 t (by omega)
  have b := h1 (8 + t) (by omega)
  have c := tc_b (f := f) (t := t) 81
  unfold tot
  omega
/-! an attack, decided -/
def rayB (f : Nat → Int) (p : Int) (d : Nat) : Nat → Int → Int → Int → Bool
  | 0, _, _, _ => false
  | n + 1, r, c, t => decide (onB (r + RS d) (c + CS d)) && (if f (ix (r + RS d) (c + CS d)) = 0 then rayB f p d n (r + RS d) (c + CS d) (t + 1) else decide (own p (f (ix (r + RS d) (c + CS d)))) && decide (strk p (kd (f (ix (r + RS d) (c + CS d)))).toNat d t))
theorem rayB_iff {f : Nat → Int} {p : Int} {d : Nat} : ∀ (n : Nat) (r c t : Int), rayB f p d n r c t = true ↔ ray f p d n r c t := by
  intro n
  induction n with
  | zero => intro r c t; exact ⟨fun h => (by cases h), fun h => h.elim⟩
  | succ n ih =>
    intro r c t
    unfold rayB ray
    rw [Bool.and_eq_true, decide_eq_true_eq]
    refine and_congr_right fun hb => ?_
    by_cases h0 : f (ix (r + RS d) (c + CS d)) = 0
    · rw [if_pos h0, ih]
      exact ⟨fun h => Or.inr ⟨h0, h⟩, fun h => h.elim (fun q => absurd h0 q.1) (fun q => q.2)⟩
    · rw [if_neg h0, Bool.and_eq_true, decide_eq_true_eq, decide_eq_true_eq]
      exact ⟨fun h => Or.inl ⟨h0, h⟩, fun h => h.elim (fun q => q.2) (fun q => absurd q.1 h0)⟩
def knB (f : Nat → Int) (q r c : Int) : Bool := decide (onB r c) && decide (f (ix r c) = vof q 3)
theorem knB_iff {f : Nat → Int} {q r c : Int} : knB f q r c = true ↔ knAt f q (sqr r c) := by
  unfold knB knAt
  rw [Bool.and_eq_true, decide_eq_true_eq, decide_eq_true_eq]
  by_cases hb : onB r c
  · rw [sqr_t hb]
    exact ⟨fun h => ⟨by have := h.1; unfold onB at this; omega, h.2⟩, fun h => ⟨hb, h.2⟩⟩
  · rw [sqr_f hb]
    exact ⟨fun h => absurd h.1 hb, fun h => by omega⟩
def attB (f : Nat → Int) (p s : Int) : Bool := (List.range 8).any (fun d => rayB f p d 8 (s / 9) (s % 9) 1) || (knB f p (s / 9 + (if p = 0 then 2 else -2)) (s % 9 + -1) || knB f p (s / 9 + (if p = 0 then 2 else -2)) (s % 9 + 1))
theorem attB_iff {f : Nat → Int} {p s : Int} : attB f p s = true ↔ att f p s := by
  unfold attB att
  rw [Bool.or_eq_true, Bool.or_eq_true, knB_iff, knB_iff, List.any_eq_true]
  refine or_congr ?_ Iff.rfl
  constructor
  · rintro ⟨d, hd, h⟩; exact ⟨d, List.mem_range.mp hd, (rayB_iff _ _ _ _).mp h⟩
  · rintro ⟨d, hd, h⟩; exact ⟨d, List.mem_range.mpr hd, (rayB_iff _ _ _ _).mpr h⟩
theorem beg_att : attB begF 0 4 = false ∧ attB begF 1 76 = false := by decide +kernel
theorem beg_sq : ∀ i, i < 81 → (-15 ≤ begF i ∧ begF i ≤ 15) ∧ kd (begF i) ≠ 13 := by decide +kernel
theorem beg_cnt : cnt begF 8 81 = 1 ∧ cnt begF (-8) 81 = 1 ∧ fkp begF 8 76 81 = 76 ∧ fkp begF (-8) 4 81 = 4 := by decide +kernel
theorem pok_beg {f h kg : Nat → Int} (hf : agr 81 f begF) (hh : agr 16 h (fun _ => 0)) (k0 : kg 0 = 76) (k1 : kg 1 = 4) : pok f h kg 0 := by
  have hq : kq begF kg := kq_cnt (g := kg) beg_cnt.1 beg_cnt.2.1 (by rw [k0, beg_cnt.2.2.1]) (by rw [k1, beg_cnt.2.2.2])
  refine ⟨⟨fun i hi => by rw [hf i hi]; exact (beg_sq i hi).1, fun q hq2 => ?_, ?_⟩, fun i hi => by rw [hf i hi]; exact (beg_sq i hi).2, ?_⟩
  · obtain ⟨a, b, c⟩ := hq q hq2
    refine ⟨a, by rw [hf _ (by omega)]; exact b, fun i hi e => c i hi (by rw [← hf i hi]; exact e)⟩
  · show ¬ att f ((0 : Nat) : Int) (kg 1)
    rw [att_agr hf, k1, ← attB_iff]
    show ¬ attB begF 0 4 = true
    rw [beg_att.1]
    exact Bool.false_ne_true
  · refine hdg_su (fun i hi => by rw [hh i hi]; show (0 : Int) ≤ 0 ∧ (0 : Int) ≤ 18; omega) (by rw [hh 0 (by omega)]) (by rw [hh 8 (by omega)])
