/-! a move of a piece that is not the king, a drop: when it leaves the king safe -/
theorem ix_lt {r c : Int} (h : onB r c) : ix r c < 81 := by unfold onB at h; unfold ix; omega
theorem ix_rc {r c : Int} (h : onB r c) {x : Nat} (e : x = ix r c) : (x : Int) / 9 = r ∧ (x : Int) % 9 = c := by unfold onB at h; unfold ix at e; omega
theorem knS_lt {q s x : Int} (h : 0 ≤ knS q s x) : (knS q s x).toNat < 81 := by
  by_cases hb : onB (s / 9 + (if q = 0 then 2 else -2)) (s % 9 + x)
  · unfold knS at h ⊢
    rw [sqr_t hb] at h ⊢
    unfold onB at hb
    omega
  · unfold knS at h ⊢
    rw [sqr_f hb] at h
    omega
theorem vof_own {q : Int} (hq : q = 0 ∨ q = 1) {k : Int} (hk : 0 < k) : own q (vof q k) := by unfold own vof; rcases hq with rfl | rfl <;> simp <;> omega
section MV
variable {f g : Nat → Int} {p to : Nat} {k : Int} {S : Nat → Prop}
theorem att_mv (hp : p < 2) (h0 : 0 ≤ k) (h1 : k < 81) (g1 : ∀ x, x < 81 → x = to → own p (g x)) (g2 : ∀ x, x < 81 → x ≠ to → S x → g x = 0) (g3 : ∀ x, x < 81 → x ≠ to → ¬ S x → g x = f x) (hS : ∀ x, S x → own p (f x)) (hS1 : ∀ x y, S x → S y → x = y) :
    ¬ att g (1 - (p : Int)) k ↔ ansr f p k to ∧ ∀ d, d < 8 → ∀ i j, pnd f p k d i j → S (sqd k d i) → seg k d j to := by
  have hq : (1 - (p : Int) = 0 ∨ 1 - (p : Int) = 1) := by omega
  have on1 : ∀ {d i j : Nat}, ond k d j → i ≤ j → ond k d i := fun h hi => onB_btw (onB_s h0 h1) h hi
  have ht : ∀ {d j : Nat}, htq g (1 - (p : Int)) k d j ↔ htq f (1 - (p : Int)) k d j ∧ sqd k d j ≠ to := by
    intro d j
    unfold htq
    constructor
    · rintro ⟨a, b, c⟩
      have hl := ix_lt a
      by_cases e : sqd k d j = to
      · exact absurd (g1 _ hl e) ((own_o hp).mp b).2
      · by_cases hs : S (sqd k d j)
        · rw [g2 _ hl e hs] at b; exact absurd rfl (own_n0 b)
        · rw [g3 _ hl e hs] at b c; exact ⟨⟨a, b, c⟩, e⟩
    · rintro ⟨⟨a, b, c⟩, e⟩
      have hl := ix_lt a
      have hs : ¬ S (sqd k d j) := fun h => ((own_o hp).mp b).2 (hS _ h)
      rw [g3 _ hl e hs]
      exact ⟨a, b, c⟩
  have hz : ∀ {d j : Nat}, ond k d j → (g (sqd k d j) = 0 ↔ sqd k d j ≠ to ∧ (f (sqd k d j) = 0 ∨ S (sqd k d j))) := by
    intro d j ho
    have hl := ix_lt ho
    by_cases e : sqd k d j = to
    · exact ⟨fun h => absurd h (own_n0 (g1 _ hl e)), fun h => absurd e h.1⟩
    · by_cases hs : S (sqd k d j)
      · exact ⟨fun _ => ⟨e, Or.inr hs⟩, fun _ => g2 _ hl e hs⟩
      · rw [g3 _ hl e hs]
        exact ⟨fun h => ⟨e, Or.inl h⟩, fun h => h.2.resolve_right hs⟩
  have hkn : ∀ x : Int, knAt g (1 - (p : Int)) (knS (1 - (p : Int)) k x) ↔ knAt f (1 - (p : Int)) (knS (1 - (p : Int)) k x) ∧ to ≠ (knS (1 - (p : Int)) k x).toNat := by
    intro x
    unfold knAt
    constructor
    · rintro ⟨a, b⟩
      have hl := knS_lt a
      have ho := vof_own hq (k := 3) (by omega)
      rw [← b] at ho
      by_cases e : (knS (1 - (p : Int)) k x).toNat = to
      · exact absurd (g1 _ hl e) ((own_o hp).mp ho).2
      · by_cases hs : S (knS (1 - (p : Int)) k x).toNat
        · rw [g2 _ hl e hs] at ho; exact absurd rfl (own_n0 ho)
        · rw [g3 _ hl e hs] at b; exact ⟨⟨a, b⟩, fun h => e h.symm⟩
    · rintro ⟨⟨a, b⟩, e⟩
      have hl := knS_lt a
      have ho := vof_own hq (k := 3) (by omega)
      rw [← b] at ho
      have hs : ¬ S (knS (1 - (p : Int)) k x).toNat := fun h => ((own_o hp).mp ho).2 (hS _ h)
      refine ⟨a, ?_⟩
      rw [g3 _ hl (fun h => e h.symm) hs]
      exact b
  rw [att_iff h0 h1, hkn, hkn]
  constructor
  · intro hn
    have key : ∀ d, d < 8 → ∀ j, 1 ≤ j → j ≤ 8 → htq f (1 - (p : Int)) k d j → (∀ i : Nat, 1 ≤ i → i < j → f (sqd k d i) = 0 ∨ S (sqd k d i)) → seg k d j to := by
      intro d hd j j1 j2 j3 j4
      apply Classical.byContradiction
      intro hsg
      have hne : ∀ i : Nat, 1 ≤ i → i ≤ j → sqd k d i ≠ to := fun i a b e => hsg ⟨i, a, b, e.symm⟩
      refine hn (Or.inl ⟨d, hd, j, j1, j2, fun i a b => ?_, ht.mpr ⟨j3, hne j j1 (Nat.le_refl _)⟩⟩)
      exact (hz (on1 j3.1 (Nat.le_of_lt b))).mpr ⟨hne i a (Nat.le_of_lt b), j4 i a b⟩
    refine ⟨⟨fun d hd j hj => key d hd j hj.1 hj.2.1 hj.2.2.2 (fun i a b => Or.inl (hj.2.2.1 i a b)), fun hk => ?_, fun hk => ?_⟩, fun d hd i j hj hs => ?_⟩
    · exact Classical.byContradiction fun e => hn (Or.inr (Or.inl ⟨hk, e⟩))
    · exact Classical.byContradiction fun e => hn (Or.inr (Or.inr ⟨hk, e⟩))
    · obtain ⟨a, b, c, e, u, w⟩ := hj
      refine key d hd j (by omega) c e (fun i' a' b' => ?_)
      by_cases hi : i' = i
      · subst hi; exact Or.inr hs
      · exact Or.inl (w i' a' b' hi)
  · rintro ⟨⟨h2, h3, h4⟩, h5⟩ (⟨d, hd, j, j1, j2, j3, j4⟩ | ⟨hk, e⟩ | ⟨hk, e⟩)
    · obtain ⟨j4, hne⟩ := ht.mp j4
      have hsn : ¬ seg k d j to := by
        rintro ⟨i, a, b, e⟩
        by_cases hi : i = j
        · subst hi; exact hne e.symm
        · exact ((hz (on1 j4.1 b)).mp (j3 i a (by omega))).1 e.symm
      by_cases hx : ∃ i : Nat, 1 ≤ i ∧ i < j ∧ S (sqd k d i)
      · obtain ⟨i, a, b, hs⟩ := hx
        refine hsn (h5 d hd i j ⟨a, b, j2, j4, hS _ hs, fun i' a' b' hi => ?_⟩ hs)
        rcases ((hz (on1 j4.1 (Nat.le_of_lt b'))).mp (j3 i' a' b')).2 with h | h
        · exact h
        · exact absurd (sqd_apart (by omega) (on1 j4.1 (Nat.le_of_lt b')) (on1 j4.1 (Nat.le_of_lt b)) (hS1 _ _ h hs)) hi
      · refine hsn (h2 d hd j ⟨j1, j2, fun i a b => ?_, j4⟩)
        rcases ((hz (on1 j4.1 (Nat.le_of_lt b))).mp (j3 i a b)).2 with h | h
        · exact h
        · exact absurd ⟨i, a, b, h⟩ hx
    · exact e (h3 hk)
    · exact e (h4 hk)
/-- a piece that moves -/
theorem att_move {fr : Nat} {v : Int} (hp : p < 2) (h0 : 0 ≤ k) (h1 : k < 81) (hf : own p (f fr)) (hv : own p v) : ¬ att (up1 (up1 f fr 0) to v) (1 - (p : Int)) k ↔ ansr f p k to ∧ ∀ d, d < 8 → ∀ i j, pnd f p k d i j → fr = sqd k d i → seg k d j to := by
  rw [att_mv (f := f) (to := to) (S := fun x => fr = x) hp h0 h1]
  · intro x _ e; unfold up1; rw [if_pos e]; exact hv
  · intro x _ e hs; unfold up1; rw [if_neg e, if_pos hs.symm]
  · intro x _ e hs; unfold up1; rw [if_neg e, if_neg (fun h => hs h.symm)]
  · intro x hs; rw [← hs]; exact hf
  · intro x y hx hy; exact hx.symm.trans hy
theorem att_drop {v : Int} (hp : p < 2) (h0 : 0 ≤ k) (h1 : k < 81) (hv : own p v) : ¬ att (up1 f to v) (1 - (p : Int)) k ↔ ansr f p k to := by
  rw [att_mv (f := f) (to := to) (S := fun _ => False) hp h0 h1]
  · exact ⟨fun h => h.1, fun h => ⟨h, fun _ _ _ _ _ h => h.elim⟩⟩
  · intro x _ e; unfold up1; rw [if_pos e]; exact hv
  · intro x _ e hs; exact hs.elim
  · intro x _ e hs; unfold up1; rw [if_neg e]
  · intro x hs; exact hs.elim
  · intro x y hx hy; exact hx.elim
end MV
/-- a piece of kind κ goes from a to x, if p's do -/
def goes (f : Nat → Int) (p κ a x : Nat) : Prop := ∃ e, e < 10 ∧ ∃ j : Nat, 1 ≤ j ∧ j ≤ nst κ e ∧ onB ((a : Int) / 9 + (j : Int) * (sg p * RS e)) ((a : Int) % 9 + (j : Int) * (sg p * CS e)) ∧ x = ix ((a : Int) / 9 + (j : Int) * (sg p * RS e)) ((a : Int) % 9 + (j : Int) * (sg p * CS e)) ∧ ∀ i : Nat, 1 ≤ i → i < j → f (ix ((a : Int) / 9 + (i : Int) * (sg p * RS e)) ((a : Int) % 9 + (i : Int) * (sg p * CS e))) = 0
theorem own_0 {q : Int} : ¬ own q 0 := by unfold own; omega
theorem rch_iff {f : Nat → Int} {q a b : Int} {x : Nat} : ∀ (n : Nat) (r c : Int), onB r c → (rch f q a b n r c x ↔ ∃ j : Nat, 1 ≤ j ∧ j ≤ n ∧ onB (r + (j : Int) * a) (c + (j : Int) * b) ∧ x = ix (r + (j : Int) * a) (c + (j : Int) * b) ∧ (∀ i : Nat, 1 ≤ i → i < j → f (ix (r + (i : Int) * a) (c + (i : Int) * b)) = 0) ∧ ¬ own q (f x)) := by
  intro n
  induction n with
  | zero => intro r c _; exact ⟨fun h => h.elim, fun ⟨j, h1, h2, _⟩ => by omega⟩
  | succ n ih =>
    intro r c h0
    have e1 : ((1 : Nat) : Int) * a = a := by rw [show ((1 : Nat) : Int) = 1 from rfl, Int.one_mul]
    have e2 : ((1 : Nat) : Int) * b = b := by rw [show ((1 : Nat) : Int) = 1 from rfl, Int.one_mul]
    constructor
    · rintro ⟨hb, ho, h | ⟨hz, h⟩⟩
      · refine ⟨1, by omega, by omega, ?_⟩
        rw [e1, e2]
        exact ⟨hb, h, fun i a b => by omega, by rw [h]; exact ho⟩
      · obtain ⟨j, j1, j2, j3, j4, j5, j6⟩ := (ih _ _ hb).mp h
        refine ⟨j + 1, by omega, by omega, ?_⟩
        rw [step_m, step_m, ← Int.add_assoc, ← Int.add_assoc]
        refine ⟨j3, j4, fun i a b => ?_, j6⟩
        obtain ⟨i, rfl⟩ : ∃ i', i = i' + 1 := ⟨i - 1, by omega⟩
        rw [step_m, step_m, ← Int.add_assoc, ← Int.add_assoc]
        by_cases hi : i = 0
        · subst hi; simpa using hz
        · exact j5 i (by omega) (by omega)
    · rintro ⟨j, j1, j2, j3, j4, j5, j6⟩
      have hb : onB (r + a) (c + b) := by have := onB_btw h0 j3 (i := 1) (by omega); rwa [e1, e2] at this
      obtain ⟨j, rfl⟩ : ∃ j', j = j' + 1 := ⟨j - 1, by omega⟩
      by_cases hj : j = 0
      · subst hj
        rw [show ((0 + 1 : Nat) : Int) = ((1 : Nat) : Int) from rfl, e1, e2] at j4
        exact ⟨hb, by rw [← j4]; exact j6, Or.inl j4⟩
      · have hz : f (ix (r + a) (c + b)) = 0 := by
          have := j5 1 (by omega) (by omega)
          rwa [e1, e2] at this
        refine ⟨hb, by rw [hz]; exact own_0, Or.inr ⟨hz, (ih _ _ hb).mpr ⟨j, by omega, by omega, ?_⟩⟩⟩
        rw [step_m, step_m, ← Int.add_assoc, ← Int.add_assoc] at j3 j4
        refine ⟨j3, j4, fun i a b => ?_, j6⟩
        have := j5 (i + 1) (by omega) (by omega)
        rwa [step_m, step_m, ← Int.add_assoc, ← Int.add_assoc] at this
def parB : Bool := (List.range 8).all (fun d => (List.range 10).all (fun s => (decide (s < 8) && decide (s % 4 = d % 4)) || (List.range 17).all (fun m => (List.range 9).all (fun n => decide (n = 0) || (!(decide (((m : Int) - 8) * RS d = (n : Int) * RS s) && decide (((m : Int) - 8) * CS d = (n : Int) * CS s)))))))
theorem parB_ok : parB = true := by decide +kernel
theorem par {d s n : Nat} {m : Int} (hd : d < 8) (hs : s < 10) (hn : 1 ≤ n) (hn' : n < 9) (hm : -8 ≤ m) (hm' : m ≤ 8) (e1 : m * RS d = (n : Int) * RS s) (e2 : m * CS d = (n : Int) * CS s) : s < 8 ∧ s % 4 = d % 4 := by
  have a := List.all_eq_true.mp parB_ok d (List.mem_range.mpr hd)
  have a := List.all_eq_true.mp a s (List.mem_range.mpr hs)
  rcases Bool.or_eq_true _ _ |>.mp a with a | a
  · simpa using a
  · have a := List.all_eq_true.mp a (m + 8).toNat (List.mem_range.mpr (by omega))
    have a := List.all_eq_true.mp a n (List.mem_range.mpr hn')
    rw [show (((m + 8).toNat : Nat) : Int) - 8 = m by omega] at a
    simp only [e1, e2, decide_true, Bool.and_self, Bool.not_true, Bool.or_false, decide_eq_true_eq] at a
    omega
theorem par_eps : ∀ d, d < 8 → ∀ s, s < 8 → s % 4 = d % 4 → (RS s = RS d ∧ CS s = CS d) ∨ (RS s = -RS d ∧ CS s = -CS d) := by decide +kernel
