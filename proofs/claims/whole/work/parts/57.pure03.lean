/-! the guard: checks, answers, pins -/
theorem own_o {p : Nat} (hp : p < 2) {v : Int} : own (1 - (p : Int)) v ↔ ¬ v = 0 ∧ ¬ own p v := by unfold own; omega
def clr (f : Nat → Int) (k : Int) (d j : Nat) : Prop := ∀ i : Nat, 1 ≤ i → i < j → f (sqd k d i) = 0
def chk (f : Nat → Int) (p : Nat) (k : Int) (d j : Nat) : Prop := 1 ≤ j ∧ j ≤ 8 ∧ clr f k d j ∧ htq f (1 - (p : Int)) k d j
def pnd (f : Nat → Int) (p : Nat) (k : Int) (d i0 j : Nat) : Prop := 1 ≤ i0 ∧ i0 < j ∧ j ≤ 8 ∧ htq f (1 - (p : Int)) k d j ∧ own p (f (sqd k d i0)) ∧ ∀ i : Nat, 1 ≤ i → i < j → i ≠ i0 → f (sqd k d i) = 0
section G
variable {f : Nat → Int} {p d n : Nat} {k : Int} {t' : Int}
theorem ehj_8 (hp : p < 2) {j : Nat} : ehj f p d (k / 9) (k % 9) 1 8 t' j ↔ 1 ≤ j ∧ j ≤ 8 ∧ htq f (1 - (p : Int)) k d j ∧ t' = j := by
  unfold ehj htq
  rw [own_o hp, show (1 : Int) + (j : Int) - 1 = j by omega]
  constructor
  · rintro ⟨a, b, c, d, e, g, h⟩; exact ⟨a, b, ⟨c, ⟨d, e⟩, g⟩, h⟩
  · rintro ⟨a, b, ⟨c, ⟨d, e⟩, g⟩, h⟩; exact ⟨a, b, c, d, e, g, h⟩
theorem scn8_c (hp : p < 2) (h0 : 0 ≤ k) (h1 : k < 81) : scn8 f p d k = some (t', -1) ↔ ∃ j : Nat, t' = j ∧ chk f p k d j := by
  unfold scn8
  rw [scn_iff 8 _ _ _ (onB_s h0 h1)]
  constructor
  · rintro (⟨-, j, j1, j2⟩ | ⟨i0, j, _, _, _, h, _⟩)
    · obtain ⟨a, b, c, d⟩ := (ehj_8 hp).mp j1
      exact ⟨j, d, a, b, j2, c⟩
    · exact absurd h.symm (ix_nn _ _)
  · rintro ⟨j, e, a, b, c, d⟩
    exact Or.inl ⟨rfl, j, (ehj_8 hp).mpr ⟨a, b, d, e⟩, c⟩
theorem scn8_p (hp : p < 2) (h0 : 0 ≤ k) (h1 : k < 81) {fr : Nat} : scn8 f p d k = some (t', (fr : Int)) ↔ ∃ i0 j : Nat, t' = j ∧ fr = sqd k d i0 ∧ pnd f p k d i0 j := by
  unfold scn8
  rw [scn_iff 8 _ _ _ (onB_s h0 h1)]
  constructor
  · rintro (⟨h, _⟩ | ⟨i0, j, a, b, c, e, g, h⟩)
    · omega
    · obtain ⟨c1, c2, c3, c4⟩ := (ehj_8 hp).mp c
      exact ⟨i0, j, c4, by unfold sqd; omega, a, b, c2, c3, g, h⟩
  · rintro ⟨i0, j, e, rfl, a, b, c, d, g, h⟩
    exact Or.inr ⟨i0, j, a, b, (ehj_8 hp).mpr ⟨by omega, c, d, e⟩, rfl, g, h⟩
theorem scn8_s (h0 : 0 ≤ k) (h1 : k < 81) {s : Int} (h : scn8 f p d k = some (t', s)) (hs : ¬ s = -1) : ∃ fr : Nat, s = fr := by
  unfold scn8 at h
  rw [scn_iff 8 _ _ _ (onB_s h0 h1)] at h
  rcases h with ⟨h, _⟩ | ⟨i0, j, a, b, c, e, g, h⟩
  · exact absurd h hs
  · exact ⟨_, e⟩
theorem sqd_eq (k : Int) (d i : Nat) : (k + (i : Int) * stp9 d).toNat = sqd k d i := by
  have : (i : Int) * stp9 d = 9 * ((i : Int) * RS d) + (i : Int) * CS d := by
    show (i : Int) * (9 * RS d + CS d) = _
    rw [Int.mul_add, Int.mul_left_comm]
  unfold sqd ix
  rw [this]
  congr 1
  omega
/-- squares of a direction are apart -/
theorem sqd_apart (hd : d < 10) {i i' : Nat} (h : ond k d i) (h' : ond k d i') (e : sqd k d i = sqd k d i') : i = i' := by
  have h2 : (i : Int) * RS d = (i' : Int) * RS d ∧ (i : Int) * CS d = (i' : Int) * CS d := by
    unfold ond onB at h h'
    unfold sqd ix at e
    omega
  have hz := RC_0 d hd
  by_cases hr : RS d = 0
  · have hc : CS d ≠ 0 := fun hc => hz ⟨hr, hc⟩
    have := Int.eq_of_mul_eq_mul_right hc h2.2
    omega
  · have := Int.eq_of_mul_eq_mul_right hr h2.1
    omega
def seg (k : Int) (d j x : Nat) : Prop := ∃ i : Nat, 1 ≤ i ∧ i ≤ j ∧ x = sqd k d i
theorem incA_at {A : Nat → Int} {j x : Nat} (h0 : 0 ≤ k) (h1 : k < 81) (hd : d < 10) (ho : ond k d j) : ∀ n, n ≤ j → (seg k d n x → incA A k (stp9 d) n x = A x + 1) ∧ (¬ seg k d n x → incA A k (stp9 d) n x = A x) := by
  intro n
  induction n with
  | zero => intro _; exact ⟨fun ⟨i, a, b, _⟩ => by omega, fun _ => rfl⟩
  | succ n ih =>
    intro hn
    obtain ⟨ih1, ih2⟩ := ih (by omega)
    have on1 : ∀ i : Nat, i ≤ j → ond k d i := fun i hi => onB_btw (onB_s h0 h1) ho hi
    have hX : incA A k (stp9 d) (n + 1) x = if x = sqd k d (n + 1) then incA A k (stp9 d) n x + 1 else incA A k (stp9 d) n x := by
      show up1 _ _ _ x = _
      unfold up1
      rw [sqd_eq]
      split
      · next e => rw [← e]
      · rfl
    rw [hX]
    by_cases hx : x = sqd k d (n + 1)
    · rw [if_pos hx]
      have hns : ¬ seg k d n x := by
        rintro ⟨i, a, b, c⟩
        have := sqd_apart hd (on1 i (by omega)) (on1 (n + 1) hn) (c.symm.trans hx)
        omega
      refine ⟨fun _ => by rw [ih2 hns], fun h => absurd ⟨n + 1, by omega, by omega, hx⟩ h⟩
    · rw [if_neg hx]
      have hiff : seg k d (n + 1) x ↔ seg k d n x := by
        constructor
        · rintro ⟨i, a, b, c⟩
          by_cases hi : i = n + 1
          · subst hi; exact absurd c hx
          · exact ⟨i, a, by omega, c⟩
        · rintro ⟨i, a, b, c⟩; exact ⟨i, a, by omega, c⟩
      rw [hiff]
      exact ⟨ih1, ih2⟩
theorem chk_one {j j' : Nat} (h : chk f p k d j) (h' : chk f p k d j') : j = j' := by
  obtain ⟨a, b, c, e⟩ := h
  obtain ⟨a', b', c', e'⟩ := h'
  rcases Nat.lt_trichotomy j j' with hj | hj | hj
  · exact absurd (c' j a hj) (own_n0 e.2.1)
  · exact hj
  · exact absurd (c j' a' hj) (own_n0 e'.2.1)
theorem gDir_A {M : am} {b g x : Nat} (hp : p < 2) (h0 : 0 ≤ k) (h1 : k < 81) (hx : x < 81) : ∀ n, n ≤ 8 → (gDir f p k (g0 M b g) n).2.2 x ≤ (gDir f p k (g0 M b g) n).1 ∧ ((gDir f p k (g0 M b g) n).2.2 x = (gDir f p k (g0 M b g) n).1 ↔ ∀ d, d < n → ∀ j, chk f p k d j → seg k d j x) := by
  intro n
  induction n with
  | zero =>
    intro _
    show (if x < 81 then (0 : Int) else M g x) ≤ 0 ∧ ((if x < 81 then (0 : Int) else M g x) = 0 ↔ _)
    rw [if_pos hx]
    exact ⟨by omega, fun _ d hd => by omega, fun _ => rfl⟩
  | succ n ih =>
    intro hn
    obtain ⟨i1, i2⟩ := ih (by omega)
    show (gNote k n (scn8 f p n k) (gDir f p k (g0 M b g) n)).2.2 x ≤ (gNote k n (scn8 f p n k) (gDir f p k (g0 M b g) n)).1 ∧ ((gNote k n (scn8 f p n k) (gDir f p k (g0 M b g) n)).2.2 x = (gNote k n (scn8 f p n k) (gDir f p k (g0 M b g) n)).1 ↔ _)
    generalize gDir f p k (g0 M b g) n = G at i1 i2 ⊢
    have same : (∀ j, ¬ chk f p k n j) → ((∀ d, d < n + 1 → ∀ j, chk f p k d j → seg k d j x) ↔ ∀ d, d < n → ∀ j, chk f p k d j → seg k d j x) := by
      intro hno
      constructor
      · intro h d hd; exact h d (by omega)
      · intro h d hd j hj
        by_cases e : d = n
        · subst e; exact absurd hj (hno j)
        · exact h d (by omega) j hj
    cases hs : scn8 f p n k with
    | none =>
      rw [same (fun j hj => by
        have := (scn8_c hp h0 h1).mpr ⟨j, rfl, hj⟩
        rw [hs] at this; cases this)]
      exact ⟨i1, i2⟩
    | some q =>
      obtain ⟨t, s⟩ := q
      by_cases hs1 : s = -1
      · subst hs1
        obtain ⟨j, rfl, hj⟩ := (scn8_c hp h0 h1).mp hs
        show incA G.2.2 k (stp9 n) j x ≤ G.1 + 1 ∧ (incA G.2.2 k (stp9 n) j x = G.1 + 1 ↔ _)
        obtain ⟨e1, e2⟩ := incA_at (A := G.2.2) (x := x) h0 h1 (by omega : n < 10) hj.2.2.2.1 j (Nat.le_refl _)
        have hiff : (∀ d, d < n + 1 → ∀ j, chk f p k d j → seg k d j x) ↔ seg k n j x ∧ ∀ d, d < n → ∀ j, chk f p k d j → seg k d j x := by
          constructor
          · intro h; exact ⟨h n (by omega) j hj, fun d hd => h d (by omega)⟩
          · rintro ⟨h, h'⟩ d hd j' hj'
            by_cases e : d = n
            · subst e; rw [chk_one hj' hj]; exact h
            · exact h' d (by omega) j' hj'
        rw [hiff]
        by_cases hsg : seg k n j x
        · rw [e1 hsg, ← i2]
          exact ⟨by omega, fun h => ⟨hsg, by omega⟩, fun h => by omega⟩
        · rw [e2 hsg]
          exact ⟨by omega, fun h => by omega, fun h => absurd h.1 hsg⟩
      · rw [same (fun j hj => by
          have := (scn8_c hp h0 h1).mpr ⟨j, rfl, hj⟩
          rw [hs] at this
          injection this with this
          injection this with _ this
          exact hs1 this)]
        show (if s = -1 then _ else _ : gst).2.2 x ≤ (if s = -1 then _ else _ : gst).1 ∧ ((if s = -1 then _ else _ : gst).2.2 x = (if s = -1 then _ else _ : gst).1 ↔ _)
        rw [if_neg hs1]
        exact ⟨i1, i2⟩
theorem gKn_A {q s : Int} {G : gst} {x : Nat} {X : Prop} (h1 : G.2.2 x ≤ G.1) (h2 : G.2.2 x = G.1 ↔ X) : (gKn f q s G).2.2 x ≤ (gKn f q s G).1 ∧ ((gKn f q s G).2.2 x = (gKn f q s G).1 ↔ X ∧ (knAt f q s → x = s.toNat)) := by
  unfold gKn
  by_cases hk : knAt f q s
  · rw [if_pos hk]
    show up1 G.2.2 s.toNat (G.2.2 s.toNat + 1) x ≤ G.1 + 1 ∧ (up1 G.2.2 s.toNat (G.2.2 s.toNat + 1) x = G.1 + 1 ↔ _)
    unfold up1
    by_cases hx : x = s.toNat
    · rw [if_pos hx, ← hx, ← h2]
      exact ⟨by omega, fun h => ⟨by omega, fun _ => rfl⟩, fun h => by omega⟩
    · rw [if_neg hx]
      exact ⟨by omega, fun h => by omega, fun h => absurd (h.2 hk) hx⟩
  · rw [if_neg hk]
    exact ⟨h1, fun h => ⟨h2.mp h, fun h => absurd h hk⟩, fun h => h2.mpr h.1⟩
/-- a piece that comes to x answers every check -/
def ansr (f : Nat → Int) (p : Nat) (k : Int) (x : Nat) : Prop := (∀ d, d < 8 → ∀ j, chk f p k d j → seg k d j x) ∧ (knAt f (1 - (p : Int)) (knS (1 - (p : Int)) k (-1)) → x = (knS (1 - (p : Int)) k (-1)).toNat) ∧ (knAt f (1 - (p : Int)) (knS (1 - (p : Int)) k 1) → x = (knS (1 - (p : Int)) k 1).toNat)
theorem gAll_A {M : am} {b g x : Nat} (hp : p < 2) (h0 : 0 ≤ k) (h1 : k < 81) (hx : x < 81) : (gAll f p k (g0 M b g)).2.2 x = (gAll f p k (g0 M b g)).1 ↔ ansr f p k x := by
  obtain ⟨a1, a2⟩ := gDir_A (f := f) (M := M) (b := b) (g := g) hp h0 h1 hx 8 (Nat.le_refl _)
  obtain ⟨b1, b2⟩ := gKn_A (f := f) (q := 1 - (p : Int)) (s := knS (1 - (p : Int)) k (-1)) a1 a2
  obtain ⟨c1, c2⟩ := gKn_A (f := f) (q := 1 - (p : Int)) (s := knS (1 - (p : Int)) k 1) b1 b2
  unfold gAll ansr
  rw [c2, and_assoc]
theorem gKn_P {q s : Int} {G : gst} : (gKn f q s G).2.1 = G.2.1 := by
  unfold gKn
  by_cases hk : knAt f q s
  · rw [if_pos hk]
  · rw [if_neg hk]
theorem gDir_P {M : am} {b g fr : Nat} (h0 : 0 ≤ k) (h1 : k < 81) (hx : fr < 81) : ∀ n, ((∀ d, d < n → ∀ t', ¬ scn8 f p d k = some (t', (fr : Int))) ∧ (gDir f p k (g0 M b g) n).2.1 fr = -1) ∨ ∃ d, d < n ∧ (∃ t', scn8 f p d k = some (t', (fr : Int))) ∧ (gDir f p k (g0 M b g) n).2.1 fr = (d : Int) % 4 := by
  intro n
  induction n with
  | zero =>
    refine Or.inl ⟨fun d hd => by omega, ?_⟩
    show (if fr < 81 then (-1 : Int) else M b fr) = -1
    rw [if_pos hx]
  | succ n ih =>
    have hG : (gDir f p k (g0 M b g) (n + 1)) = gNote k n (scn8 f p n k) (gDir f p k (g0 M b g) n) := rfl
    rw [hG]
    generalize gDir f p k (g0 M b g) n = G at ih ⊢
    have keep : (∀ t', ¬ scn8 f p n k = some (t', (fr : Int))) → (gNote k n (scn8 f p n k) G).2.1 fr = G.2.1 fr → ((∀ d, d < n + 1 → ∀ t', ¬ scn8 f p d k = some (t', (fr : Int))) ∧ (gNote k n (scn8 f p n k) G).2.1 fr = -1) ∨ ∃ d, d < n + 1 ∧ (∃ t', scn8 f p d k = some (t', (fr : Int))) ∧ (gNote k n (scn8 f p n k) G).2.1 fr = (d : Int) % 4 := by
      intro hno he
      rw [he]
      rcases ih with ⟨i1, i2⟩ | ⟨d, i1, i2, i3⟩
      · refine Or.inl ⟨fun d hd t' => ?_, i2⟩
        by_cases e : d = n
        · subst e; exact hno t'
        · exact i1 d (by omega) t'
      · exact Or.inr ⟨d, by omega, i2, i3⟩
    cases hs : scn8 f p n k with
    | none => rw [hs] at keep; exact keep (fun t' h => by cases h) rfl
    | some q =>
      obtain ⟨t, s⟩ := q
      by_cases hs1 : s = -1
      · rw [hs] at keep
        refine keep (fun t' h => ?_) ?_
        · injection h with h
          injection h with _ h
          omega
        · show (if s = -1 then _ else _ : gst).2.1 fr = _
          rw [if_pos hs1]
      · obtain ⟨fr', rfl⟩ := scn8_s h0 h1 hs hs1
        have hv : (gNote k n (some (t, (fr' : Int))) G).2.1 fr = up1 G.2.1 fr' ((n : Int) % 4) fr := by
          simp only [gNote, if_neg hs1, Int.toNat_natCast]
        by_cases e : fr = fr'
        · subst e
          refine Or.inr ⟨n, by omega, ⟨t, hs⟩, ?_⟩
          rw [hv]
          unfold up1
          rw [if_pos rfl]
        · rw [hs] at keep
          refine keep (fun t' h => ?_) ?_
          · injection h with h
            injection h with _ h
            omega
          · rw [hv]
            unfold up1
            rw [if_neg e]
theorem pin_one {d d' i j i' j' : Nat} (h0 : 0 ≤ k) (h1 : k < 81) (hd : d < 8) (hd' : d' < 8) (h : pnd f p k d i j) (h' : pnd f p k d' i' j') (e : sqd k d i = sqd k d' i') : d = d' := by
  by_cases hn : d = d'
  · exact hn
  · exfalso
    have a := onB_btw (onB_s h0 h1) h.2.2.2.1.1 (Nat.le_of_lt h.2.1)
    have a' := onB_btw (onB_s h0 h1) h'.2.2.2.1.1 (Nat.le_of_lt h'.2.1)
    apply vec_apart (by omega) (by omega) hn (show i < 9 by have := h.2.1; have := h.2.2.1; omega) (show i' < 9 by have := h'.2.1; have := h'.2.2.1; omega) h.1 h'.1
    unfold onB at a a'
    unfold sqd ix at e
    omega
/-- the piece on fr may leave in direction s -/
def free (f : Nat → Int) (p : Nat) (k : Int) (fr s : Nat) : Prop := ∀ d, d < 8 → ∀ i j, pnd f p k d i j → fr = sqd k d i → s < 8 ∧ s % 4 = d % 4
theorem gAll_P {M : am} {b g fr s : Nat} (hp : p < 2) (h0 : 0 ≤ k) (h1 : k < 81) (hx : fr < 81) : ((gAll f p k (g0 M b g)).2.1 fr = -1 ∨ s < 8 ∧ (s : Int) % 4 = (gAll f p k (g0 M b g)).2.1 fr) ↔ free f p k fr s := by
  have hE : (gAll f p k (g0 M b g)).2.1 = (gDir f p k (g0 M b g) 8).2.1 := by unfold gAll; rw [gKn_P, gKn_P]
  rw [hE]
  unfold free
  rcases gDir_P (f := f) (M := M) (b := b) (g := g) h0 h1 hx 8 with ⟨i1, i2⟩ | ⟨d, i1, ⟨t, i2⟩, i3⟩
  · refine ⟨fun _ d hd i j hj e => ?_, fun _ => Or.inl i2⟩
    exact absurd ((scn8_p hp h0 h1).mpr ⟨i, j, rfl, e, hj⟩) (i1 d hd j)
  · obtain ⟨i, j, e1, e2, e3⟩ := (scn8_p hp h0 h1).mp i2
    rw [i3]
    constructor
    · rintro (h | ⟨h, h'⟩) d' hd' i' j' hj' e'
      · omega
      · have := pin_one h0 h1 i1 hd' e3 hj' (e2.symm.trans e')
        subst this
        exact ⟨h, by omega⟩
    · intro h
      have := h d i1 i j e3 e2
      exact Or.inr ⟨this.1, by omega⟩
end G
