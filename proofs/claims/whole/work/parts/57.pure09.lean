/-! drops; the pawn that may not be dropped; the class's list is the reference's -/
theorem pcl_test (f : Nat → Int) (w : Int) (c : Nat) : ∀ n, (pcl f w n).testBit c = true ↔ ∃ i, i < n ∧ i % 9 = c ∧ f i = w := by
  intro n
  induction n with
  | zero => rw [show pcl f w 0 = 0 from rfl, Nat.zero_testBit]; exact ⟨fun h => (by cases h), fun ⟨i, h, _⟩ => by omega⟩
  | succ n ih =>
    have hs : pcl f w (n + 1) = if f n = w then pcl f w n ||| 2 ^ (n % 9) else pcl f w n := rfl
    rw [hs]
    by_cases hw : f n = w
    · rw [if_pos hw, Nat.testBit_or, Bool.or_eq_true, ih, Nat.testBit_two_pow, decide_eq_true_eq]
      constructor
      · rintro (⟨i, a, b⟩ | h)
        · exact ⟨i, by omega, b⟩
        · exact ⟨n, by omega, h, hw⟩
      · rintro ⟨i, a, b, d⟩
        by_cases e : i = n
        · subst e; exact Or.inr b
        · exact Or.inl ⟨i, by omega, b, d⟩
    · rw [if_neg hw, ih]
      constructor
      · rintro ⟨i, a, b⟩; exact ⟨i, by omega, b⟩
      · rintro ⟨i, a, b, d⟩
        by_cases e : i = n
        · subst e; exact absurd d hw
        · exact ⟨i, by omega, b, d⟩
theorem pcl_bit {f : Nat → Int} {p c : Nat} : ((pcl f (vof p 1) 81 : Nat) : Int) / 2 ^ c % 2 = 0 ↔ ¬ hpn f p c := by
  unfold hpn
  rw [← pcl_test f (vof p 1) c 81, Nat.testBit_eq_decide_div_mod_eq, decide_eq_true_eq]
  rw [show ((2 : Int) ^ c) = ((2 ^ c : Nat) : Int) by rw [Int.natCast_pow]; rfl, ← Int.natCast_ediv]
  generalize pcl f (vof p 1) 81 / 2 ^ c = y
  omega
theorem pawn_t : ∀ e, e < 10 → (nearB 1 e ↔ e = 0) ∧ ¬ farB 1 e := by decide +kernel
theorem pawn_d : ∀ p, p < 2 → ∀ d, d < 8 → opd p d = 0 → RS d = (if p = 0 then 1 else -1) ∧ CS d = 0 := by decide +kernel
theorem pawn_e : ∀ p, p < 2 → opd p (if p = 0 then 4 else 0) = 0 ∧ RS (if p = 0 then 4 else 0) = (if p = 0 then 1 else -1) ∧ CS (if p = 0 then 4 else 0) = 0 := by decide +kernel
theorem att_pawn {f : Nat → Int} {p to : Nat} {K : Int} (hp : p < 2) (h0 : 0 ≤ K) (h1 : K < 81) (hto : to < 81) (hna : ¬ att f p K) : att (up1 f to (vof p 1)) p K ↔ (to : Int) = K + (if p = 0 then 9 else -9) := by
  have u1 : up1 f to (vof p 1) to = vof p 1 := by unfold up1; rw [if_pos rfl]
  have u2 : ∀ {x}, x ≠ to → up1 f to (vof p 1) x = f x := fun {x} h => by unfold up1; rw [if_neg h]
  have hv0 : ¬ vof p 1 = 0 := own_n0 (vof_own (by omega) (by omega) : own p (vof p 1))
  have kn : ∀ x : Int, knAt (up1 f to (vof p 1)) p (knS p K x) → knAt f p (knS p K x) := by
    rintro x ⟨a, b⟩
    by_cases e : (knS p K x).toNat = to
    · rw [e, u1] at b
      unfold vof at b
      split at b <;> omega
    · rw [u2 e] at b; exact ⟨a, b⟩
  constructor
  · intro ha
    rw [att_iff h0 h1] at ha hna
    rcases ha with ⟨d, hd, j, j1, j2, j3, j4, j5, j6⟩ | hk | hk
    · by_cases e : sqd K d j = to
      · rw [e, u1, kd_vofI (by omega)] at j6
        have := strk_iff.mp j6
        have ho := (opd_t p hp d hd).1
        by_cases hj : j = 1
        · rw [if_pos hj] at this
          have hd0 := (pawn_t (opd p d) (by omega)).1.mp this
          obtain ⟨a, b⟩ := pawn_d p hp d hd hd0
          subst hj
          unfold ond at j4
          unfold sqd at e
          rw [show ((1 : Nat) : Int) = 1 from rfl, Int.one_mul, Int.one_mul, a, b] at e j4
          unfold ix at e
          unfold onB at j4
          split <;> simp_all <;> omega
        · rw [if_neg hj] at this
          exact absurd this (pawn_t (opd p d) (by omega)).2
      · exfalso
        apply hna
        rw [u2 e] at j5 j6
        refine Or.inl ⟨d, hd, j, j1, j2, fun i a b => ?_, j4, j5, j6⟩
        have := j3 i a b
        by_cases e' : sqd K d i = to
        · rw [e', u1] at this; exact absurd this hv0
        · rw [u2 e'] at this; exact this
    · exact absurd (Or.inr (Or.inl (kn _ hk))) hna
    · exact absurd (Or.inr (Or.inr (kn _ hk))) hna
  · intro e
    rw [att_iff h0 h1]
    obtain ⟨a, b, c⟩ := pawn_e p hp
    have hpo : (if p = 0 then 4 else 0 : Nat) < 8 := by split <;> omega
    have ho : ond K (if p = 0 then 4 else 0) 1 := by
      unfold ond
      rw [show ((1 : Nat) : Int) = 1 from rfl, Int.one_mul, Int.one_mul, b, c]
      unfold onB
      by_cases h : p = 0 <;> simp only [h, if_true, if_false] at e ⊢ <;> omega
    have hsq : sqd K (if p = 0 then 4 else 0) 1 = to := by
      unfold sqd ix
      rw [show ((1 : Nat) : Int) = 1 from rfl, Int.one_mul, Int.one_mul, b, c]
      by_cases h : p = 0 <;> simp only [h, if_true, if_false] at e ⊢ <;> omega
    refine Or.inl ⟨_, hpo, 1, by omega, by omega, fun i a b => by omega, ho, ?_, ?_⟩
    · rw [hsq, u1]; exact vof_own (by omega) (by omega)
    · rw [hsq, u1, kd_vofI (by omega)]
      refine strk_iff.mpr ?_
      rw [if_pos rfl]
      exact (pawn_t _ (by rw [show (if p = 0 then (if p = 0 then 4 else 0) ^^^ 4 else (if p = 0 then 4 else 0)) = 0 from a]; omega)).1.mpr a
theorem att_chk {f : Nat → Int} {p to x : Nat} {K : Int} (hp : p < 2) (h0 : 0 ≤ K) (h1 : K < 81) (hto : to < 81) (e : (to : Int) = K + (if p = 0 then 9 else -9)) (ha : ansr (up1 f to (vof p 1)) (1 - p) K x) : x = to := by
  have u1 : up1 f to (vof p 1) to = vof p 1 := by unfold up1; rw [if_pos rfl]
  obtain ⟨a, b, c⟩ := pawn_e p hp
  have hpo : (if p = 0 then 4 else 0 : Nat) < 8 := by split <;> omega
  have ho : ond K (if p = 0 then 4 else 0) 1 := by
    unfold ond
    rw [show ((1 : Nat) : Int) = 1 from rfl, Int.one_mul, Int.one_mul, b, c]
    unfold onB
    by_cases h : p = 0 <;> simp only [h, if_true, if_false] at e ⊢ <;> omega
  have hsq : sqd K (if p = 0 then 4 else 0) 1 = to := by
    unfold sqd ix
    rw [show ((1 : Nat) : Int) = 1 from rfl, Int.one_mul, Int.one_mul, b, c]
    by_cases h : p = 0 <;> simp only [h, if_true, if_false] at e ⊢ <;> omega
  have hq : 1 - ((1 - p : Nat) : Int) = (p : Int) := by omega
  obtain ⟨i, i1, i2, i3⟩ := ha.1 _ hpo 1 ⟨by omega, by omega, fun i a b => by omega, ho, by rw [hsq, u1, hq]; exact vof_own (by omega) (by omega), by
    rw [hsq, u1, hq, kd_vofI (by omega)]
    refine strk_iff.mpr ?_
    rw [if_pos rfl]
    exact (pawn_t _ (by rw [show (if p = 0 then (if p = 0 then 4 else 0) ^^^ 4 else (if p = 0 then 4 else 0)) = 0 from a]; omega)).1.mpr a⟩
  rw [show i = 1 by omega, hsq] at i3
  exact i3
theorem dmv_fm {f A : Nat → Int} {ch : Int} {p k cols : Nat} {bar : Int} : ∀ n, dmv f A ch p k cols bar n = (List.range n).flatMap (dcell f A ch p k cols bar) := by
  intro n
  induction n with
  | zero => rfl
  | succ n ih => rw [List.range_succ, List.flatMap_append, ← ih, List.flatMap_cons, List.flatMap_nil, List.append_nil]; rfl
section DR
variable {f h kg : Nat → Int} {p : Nat}
theorem bdok_drop {to : Nat} (hp : p < 2) (hb : bdok f kg p) (hz : f to = 0) (hs : ¬ att (up1 f to (vof p 1)) (1 - (p : Int)) (kg p)) : bdok (up1 f to (vof p 1)) kg (1 - p) := by
  obtain ⟨b1, b2, b3⟩ := hb
  have hv0 : ¬ vof p 1 = 0 := own_n0 (vof_own (by omega) (by omega) : own p (vof p 1))
  refine ⟨fun i hi => ?_, fun q hq => ?_, ?_⟩
  · unfold up1
    split
    · unfold vof; split <;> omega
    · exact b1 i hi
  · obtain ⟨c1, c2, c3⟩ := b2 q hq
    refine ⟨c1, ?_, fun i hi e => ?_⟩
    · unfold up1
      rw [if_neg]
      · exact c2
      · intro e
        rw [e, hz] at c2
        exact own_n0 (vof_own (by omega) (by omega) : own q (vof q 8)) c2.symm
    · unfold up1 at e
      split at e
      · exfalso
        unfold vof at e
        split at e <;> split at e <;> omega
      · exact c3 i hi e
  · rw [show 1 - (1 - p) = p by omega, show ((1 - p : Nat) : Int) = 1 - (p : Int) by omega]
    exact hs
theorem hsS_bmv {M : am} {b g to : Nat} {h' : Nat → Int} (hp : p < 2) (hb : bdok f kg p) (hto : to < 81) (hz : f to = 0) (hs : ¬ att (up1 f to (vof p 1)) (1 - (p : Int)) (kg p)) (e : (to : Int) = kg (1 - p) + (if p = 0 then 9 else -9)) :
    (bmv (up1 f to (vof p 1)) (gG M (up1 f to (vof p 1)) kg b g (1 - p)).2.1 (gG M (up1 f to (vof p 1)) kg b g (1 - p)).2.2 (gG M (up1 f to (vof p 1)) kg b g (1 - p)).1 (1 - p) 81).length = 0 ↔ ¬ hsS (up1 f to (vof p 1)) h' kg (1 - p) := by
  have hb' := bdok_drop hp hb hz hs
  rw [bmv_eq (h := h') (by omega) hb' 81 (Nat.le_refl _), List.length_eq_zero_iff, List.flatMap_eq_nil_iff]
  have hcell : ∀ fr, fr < 81 → (rF (up1 f to (vof p 1)) h' kg (1 - p) fr = [] ↔ ∀ x, x < 81 → ∀ pr, pr < 2 → ¬ alw (up1 f to (vof p 1)) h' kg (1 - p) fr x pr) := by
    intro fr hfr
    unfold rF
    rw [List.flatMap_eq_nil_iff]
    have hr : ∀ x pr, rc (up1 f to (vof p 1)) h' kg (1 - p) fr x pr = [] ↔ ¬ alw (up1 f to (vof p 1)) h' kg (1 - p) fr x pr := by
      intro x pr
      unfold rc
      by_cases hA : alw (up1 f to (vof p 1)) h' kg (1 - p) fr x pr
      · rw [if_pos hA]; exact ⟨fun q => (by cases q), fun q => absurd hA q⟩
      · rw [if_neg hA]; exact ⟨fun _ => hA, fun _ => rfl⟩
    constructor
    · intro q x hx pr hpr
      have := List.append_eq_nil_iff.mp (q x (List.mem_range.mpr hx))
      rcases (show pr = 0 ∨ pr = 1 by omega) with rfl | rfl
      · exact (hr x 0).mp this.1
      · exact (hr x 1).mp this.2
    · intro q x hx
      exact List.append_eq_nil_iff.mpr ⟨(hr x 0).mpr (q x (List.mem_range.mp hx) 0 (by omega)), (hr x 1).mpr (q x (List.mem_range.mp hx) 1 (by omega))⟩
  constructor
  · rintro q ⟨fr, x, pr, a1, a2, a3, a4 | a4, a5⟩
    · have hx0 := a4.2.2.2.1
      have hS : mkS (up1 f to (vof p 1)) (1 - p) fr x pr = up1 (up1 f to (vof p 1)) x (vof ((1 - p : Nat) : Int) ((fr : Int) - 81)) := by unfold mkS; rw [if_pos a4.1]
      have hK : mkK (up1 f to (vof p 1)) kg (1 - p) fr x (1 - p) = kg (1 - p) := by unfold mkK; rw [if_pos a4.1]
      unfold sfe at a5
      obtain ⟨c1, -, -⟩ := hb.2.1 (1 - p) (by omega)
      rw [hS, hK, att_drop (by omega) c1.1 c1.2 (vof_own (by omega) (by have := a4.1; omega))] at a5
      have := att_chk hp c1.1 c1.2 hto e a5
      subst this
      unfold up1 at hx0
      rw [if_pos rfl] at hx0
      exact own_n0 (vof_own (by omega) (by omega) : own p (vof p 1)) hx0
    · refine (hcell fr a4.1).mp (q fr (List.mem_range.mpr a4.1)) x a2 pr a3 ⟨Or.inr a4, a5, fun w => ?_⟩
      have := w.1
      have := a4.1
      omega
  · intro q fr hfr
    refine (hcell fr (List.mem_range.mp hfr)).mpr (fun x hx pr hpr w => q ⟨fr, x, pr, by have := List.mem_range.mp hfr; omega, hx, hpr, w.1, w.2.1⟩)
end DR
