/-! the king's moves -/
theorem sqd_self {s : Nat} {d i : Nat} (hd : d < 10) (hs : s < 81) (hi : 1 ≤ i) (h : ond s d i) : sqd s d i ≠ s := by
  intro e
  have h0 : ond (s : Int) d 0 := by
    unfold ond
    rw [show ((0 : Nat) : Int) = 0 from rfl, Int.zero_mul, Int.zero_mul, Int.add_zero, Int.add_zero]
    exact onB_s (by omega) (by omega)
  have e0 : sqd (s : Int) d 0 = s := by
    unfold sqd ix
    rw [show ((0 : Nat) : Int) = 0 from rfl, Int.zero_mul, Int.zero_mul]
    omega
  have := sqd_apart hd h h0 (e.trans e0.symm)
  omega
theorem knS_self {q x : Int} {s : Nat} (h : 0 ≤ knS q s x) : (knS q s x).toNat ≠ s := by
  by_cases hb : onB ((s : Int) / 9 + (if q = 0 then 2 else -2)) ((s : Int) % 9 + x)
  · unfold knS
    rw [sqr_t hb]
    unfold onB at hb
    split at hb <;> omega
  · unfold knS at h
    rw [sqr_f hb] at h
    omega
theorem att_cg1 {f g : Nat → Int} {q : Int} {s : Nat} (hs : s < 81) (h : ∀ y, y < 81 → y ≠ s → f y = g y) (ha : att f q s) : att g q s := by
  rw [att_iff (by omega) (by omega)] at ha ⊢
  have on1 : ∀ {d i j : Nat}, ond (s : Int) d j → i ≤ j → ond (s : Int) d i := fun h hi => onB_btw (onB_s (by omega) (by omega)) h hi
  have kn : ∀ x : Int, knAt f q (knS q s x) → knAt g q (knS q s x) := by
    rintro x ⟨a, b⟩
    exact ⟨a, by rw [← h _ (knS_lt a) (knS_self a)]; exact b⟩
  rcases ha with ⟨d, hd, j, j1, j2, j3, j4, j5, j6⟩ | hk | hk
  · have e := h _ (ix_lt j4) (sqd_self (by omega) hs j1 j4)
    refine Or.inl ⟨d, hd, j, j1, j2, fun i a b => ?_, j4, ?_, ?_⟩
    · have o := on1 j4 (Nat.le_of_lt b)
      rw [← h _ (ix_lt o) (sqd_self (by omega) hs a o)]
      exact j3 i a b
    · rw [← e]; exact j5
    · rw [← e]; exact j6
  · exact Or.inr (Or.inl (kn _ hk))
  · exact Or.inr (Or.inr (kn _ hk))
theorem att_cg {f g : Nat → Int} {q : Int} {s : Nat} (hs : s < 81) (h : ∀ y, y < 81 → y ≠ s → f y = g y) : att f q s ↔ att g q s := ⟨att_cg1 hs h, att_cg1 hs (fun y a b => (h y a b).symm)⟩
theorem ko_rise : ∀ n, n < 8 → ∀ m, m < n → 9 * RS (ko m) + CS (ko m) < 9 * RS (ko n) + CS (ko n) := by decide +kernel
theorem ko_lt : ∀ n, n < 8 → ko n < 8 := by decide +kernel
def koI (p e : Nat) : Nat := [1, 2, 4, 7, 6, 5, 3, 0].getD (if p = 0 then e else (e + 4) % 8) 0
theorem ko_inv : ∀ p, p < 2 → ∀ e, e < 8 → koI p e < 8 ∧ RS (ko (koI p e)) = sg p * RS e ∧ CS (ko (koI p e)) = sg p * CS e := by decide +kernel
def koE (p n : Nat) : Nat := if p = 0 then ko n else (ko n + 4) % 8
theorem ko_back : ∀ p, p < 2 → ∀ n, n < 8 → koE p n < 8 ∧ sg p * RS (koE p n) = RS (ko n) ∧ sg p * CS (koE p n) = CS (ko n) := by decide +kernel
theorem near8 : ∀ e, e < 10 → (nearB 8 e ↔ e < 8) ∧ ¬ farB 8 e := by decide +kernel
theorem nst8 {e : Nat} (he : e < 10) : nst 8 e = if e < 8 then 1 else 0 := by
  unfold nst
  by_cases h : e < 8
  · rw [if_pos ((near8 e he).1.mpr h), if_neg (near8 e he).2, if_pos h]
  · rw [if_neg (fun q => h ((near8 e he).1.mp q)), if_neg h]
theorem goes8 {f : Nat → Int} {p fr x : Nat} (hp : p < 2) : goes f p 8 fr x ↔ ∃ n, n < 8 ∧ 0 ≤ kto fr n ∧ x = (kto fr n).toNat := by
  unfold goes
  constructor
  · rintro ⟨e, he, j, j1, j2, j3, j4, j5⟩
    rw [nst8 he] at j2
    by_cases h8 : e < 8
    · rw [if_pos h8] at j2
      have hj : j = 1 := by omega
      subst hj
      obtain ⟨k1, k2, k3⟩ := ko_inv p hp e h8
      rw [show ((1 : Nat) : Int) = 1 from rfl, Int.one_mul, Int.one_mul, ← k2, ← k3] at j3 j4
      refine ⟨koI p e, k1, ?_⟩
      unfold kto
      rw [sqr_t j3, j4]
      unfold onB at j3
      exact ⟨by omega, rfl⟩
    · rw [if_neg h8] at j2; omega
  · rintro ⟨n, hn, h0, hx⟩
    obtain ⟨k1, k2, k3⟩ := ko_back p hp n hn
    have hb : onB ((fr : Int) / 9 + RS (ko n)) ((fr : Int) % 9 + CS (ko n)) := by
      apply Classical.byContradiction
      intro hn
      unfold kto at h0
      rw [sqr_f hn] at h0
      omega
    refine ⟨koE p n, by omega, 1, by omega, by rw [nst8 (by omega), if_pos k1]; omega, ?_⟩
    rw [show ((1 : Nat) : Int) = 1 from rfl, Int.one_mul, Int.one_mul, k2, k3]
    refine ⟨hb, ?_, fun i a b => by omega⟩
    rw [hx]
    unfold kto
    rw [sqr_t hb]
theorem kto_on {fr n : Nat} (h : 0 ≤ kto fr n) : onB ((fr : Int) / 9 + RS (ko n)) ((fr : Int) % 9 + CS (ko n)) ∧ kto fr n = 9 * ((fr : Int) / 9 + RS (ko n)) + ((fr : Int) % 9 + CS (ko n)) := by
  by_cases hb : onB ((fr : Int) / 9 + RS (ko n)) ((fr : Int) % 9 + CS (ko n))
  · unfold kto at h ⊢
    rw [sqr_t hb]
    exact ⟨hb, rfl⟩
  · unfold kto at h
    rw [sqr_f hb] at h
    omega
noncomputable def kT (f : Nat → Int) (p fr : Nat) : Nat → List Nat
  | 0 => []
  | n + 1 => kT f p fr n ++ @ite _ (kok f p fr n) (Classical.propDecidable _) [(kto fr n).toNat] []
theorem kT_mv {f : Nat → Int} {p fr : Nat} : ∀ n, kmv f p fr n = (kT f p fr n).flatMap (fun (x : Nat) => [(fr : Int) + 128 * (x : Int) + 16384 * 0]) := by
  intro n
  induction n with
  | zero => rfl
  | succ n ih =>
    show kmv f p fr n ++ kcell f p fr n = (kT f p fr n ++ _).flatMap _
    rw [List.flatMap_append, ← ih]
    congr 1
    unfold kcell
    by_cases h : kok f p fr n
    · rw [if_pos h, if_pos h]; rfl
    · rw [if_neg h, if_neg h]; rfl
theorem kT_mem {f : Nat → Int} {p fr x : Nat} : ∀ n, x ∈ kT f p fr n ↔ ∃ m, m < n ∧ kok f p fr m ∧ x = (kto fr m).toNat := by
  intro n
  induction n with
  | zero => exact ⟨fun h => (by cases h), fun ⟨m, h, _⟩ => by omega⟩
  | succ n ih =>
    show x ∈ kT f p fr n ++ _ ↔ _
    rw [List.mem_append, ih]
    constructor
    · rintro (⟨m, a, b⟩ | h)
      · exact ⟨m, by omega, b⟩
      · by_cases hk : kok f p fr n
        · rw [if_pos hk] at h
          exact ⟨n, by omega, hk, List.mem_singleton.mp h⟩
        · rw [if_neg hk] at h; cases h
    · rintro ⟨m, a, b, c⟩
      by_cases e : m = n
      · subst e
        rw [if_pos b]
        exact Or.inr (List.mem_singleton.mpr c)
      · exact Or.inl ⟨m, by omega, b, c⟩
theorem kT_rise {f : Nat → Int} {p fr : Nat} : ∀ n, n ≤ 8 → rising (kT f p fr n) := by
  intro n
  induction n with
  | zero => intro _; exact List.Pairwise.nil
  | succ n ih =>
    intro hn
    show rising (kT f p fr n ++ _)
    refine List.pairwise_append.mpr ⟨ih (by omega), ?_, ?_⟩
    · by_cases hk : kok f p fr n
      · rw [if_pos hk]; exact List.pairwise_singleton _ _
      · rw [if_neg hk]; exact List.Pairwise.nil
    · intro a ha b hb
      obtain ⟨m, m1, m2, rfl⟩ := (kT_mem n).mp ha
      by_cases hk : kok f p fr n
      · rw [if_pos hk] at hb
        rw [List.mem_singleton.mp hb]
        have a1 := kto_on m2.1
        have a2 := kto_on hk.1
        have := ko_rise n (by omega) m m1
        have := m2.1
        have := hk.1
        omega
      · rw [if_neg hk] at hb; cases hb
/-- the king goes to x -/
def kgo (f : Nat → Int) (p fr x : Nat) : Prop := (goes f p 8 fr x ∧ ¬ own p (f x)) ∧ ¬ att (up1 (up1 f fr 0) x (vof p 8)) (1 - (p : Int)) x
theorem goes_ne {f : Nat → Int} {p κ a x : Nat} (ha : a < 81) (h : goes f p κ a x) : x ≠ a ∧ x < 81 := by
  obtain ⟨e, he, j, j1, j2, j3, j4, j5⟩ := h
  refine ⟨fun q => ?_, by rw [j4]; exact ix_lt j3⟩
  subst q
  have := ray_apart (rs := sg p * RS e) (cs := sg p * CS e) (by have := RC_0 e he; rcases sg_pm p with h | h <;> rw [h] <;> omega) j1 (onB_s (s := (x : Int)) (by omega) (by omega)) j3
  apply this
  rw [← j4]
  unfold ix
  omega
theorem kok_iff {f : Nat → Int} {p fr x : Nat} (hp : p < 2) (hfr : fr < 81) : (∃ m, m < 8 ∧ kok (up1 f fr 0) p fr m ∧ x = (kto fr m).toNat) ↔ kgo f p fr x := by
  unfold kgo
  rw [goes8 hp]
  constructor
  · rintro ⟨m, m1, ⟨m2, m3, m4⟩, rfl⟩
    have hg : goes f p 8 fr (kto fr m).toNat := (goes8 hp).mpr ⟨m, m1, m2, rfl⟩
    obtain ⟨n1, n2⟩ := goes_ne hfr hg
    refine ⟨⟨⟨m, m1, m2, rfl⟩, ?_⟩, ?_⟩
    · unfold up1 at m3; rw [if_neg n1] at m3; exact m3
    · rw [att_cg n2 (g := up1 f fr 0) (fun y _ hy => by unfold up1; rw [if_neg hy])]
      rw [show (((kto fr m).toNat : Nat) : Int) = kto fr m by omega]
      exact m4
  · rintro ⟨⟨⟨m, m1, m2, rfl⟩, m3⟩, m4⟩
    have hg : goes f p 8 fr (kto fr m).toNat := (goes8 hp).mpr ⟨m, m1, m2, rfl⟩
    obtain ⟨n1, n2⟩ := goes_ne hfr hg
    refine ⟨m, m1, ⟨m2, ?_, ?_⟩, rfl⟩
    · unfold up1; rw [if_neg n1]; exact m3
    · rw [att_cg n2 (g := up1 f fr 0) (fun y _ hy => by unfold up1; rw [if_neg hy])] at m4
      rw [show (((kto fr m).toNat : Nat) : Int) = kto fr m by omega] at m4
      exact m4
theorem kmv_cells {f : Nat → Int} {p fr : Nat} (hp : p < 2) (hfr : fr < 81) : kmv (up1 f fr 0) p fr 8 = cells (kgo f p fr) (fun x => [(fr : Int) + 128 * (x : Int) + 16384 * 0]) 81 := by
  rw [kT_mv]
  refine cells_of (kT_rise 8 (Nat.le_refl _)) (fun x hx => ?_) (fun x => by rw [kT_mem, kok_iff (f := f) hp hfr])
  have := (kok_iff hp hfr).mp ((kT_mem 8).mp hx)
  exact (goes_ne hfr this.1.1).2
