/-! the whole list -/
section LL
variable {f h kg : Nat → Int} {p : Nat}
theorem bar_iff {M : am} {b g to : Nat} (hp : p < 2) (hb : bdok f kg p) (hto : to < 81) (hz : f to = 0) (hs : ansr f p (kg p) to) (hh : ¬ h (8 * p + 1) = 0) (hn : ¬ hpn f p (to % 9)) :
    (to : Int) = barL M f h kg p (pcs f h (gG M f kg b g p).2.2 (gG M f kg b g p).1 kg p) ↔ pmt f h kg p 82 to := by
  obtain ⟨c1, c2, c3⟩ := hb.2.1 p hp
  obtain ⟨d1, d2, d3⟩ := hb.2.1 (1 - p) (by omega)
  have hS : mkS f p 82 to 0 = up1 f to (vof p 1) := by unfold mkS; rw [if_pos (by omega)]; rfl
  have hK : mkK f kg p 82 to = kg := by unfold mkK; rw [if_pos (by omega)]
  have hsf : ¬ att (up1 f to (vof p 1)) (1 - (p : Int)) (kg p) := (att_drop hp c1.1 c1.2 (vof_own (by omega) (by omega))).mpr hs
  have hA := (gAll_A (M := M) (b := b) (g := g) hp c1.1 c1.2 hto).mpr hs
  unfold pmt
  rw [hS, hK, att_pawn hp d1.1 d1.2 hto hb.2.2]
  by_cases e : (to : Int) = kg (1 - p) + (if p = 0 then 9 else -9)
  · have hok : pcsOk f h (gG M f kg b g p).2.2 (gG M f kg b g p).1 p (kg (1 - p) + (if p = 0 then 9 else -9)) := by
      rw [← e]
      refine ⟨hh, by omega, ?_, hz, hA⟩
      rw [show ((to : Int) % 9).toNat = to % 9 by omega]
      exact pcl_bit.mpr hn
    have hpc : pcs f h (gG M f kg b g p).2.2 (gG M f kg b g p).1 kg p = to := by
      unfold pcs pcs0
      rw [if_pos hok, e]
    rw [hpc]
    unfold barL
    rw [if_neg (by omega), show ((to : Nat) : Int).toNat = to from rfl]
    have hB := hsS_bmv (M := M) (b := 11) (g := 12) (h' := mkH f h p 82 to) hp hb hto hz hsf e
    by_cases hl : (bmv (up1 f to (vof p 1)) (gG M (up1 f to (vof p 1)) kg 11 12 (1 - p)).2.1 (gG M (up1 f to (vof p 1)) kg 11 12 (1 - p)).2.2 (gG M (up1 f to (vof p 1)) kg 11 12 (1 - p)).1 (1 - p) 81).length = 0
    · rw [if_pos hl]
      exact ⟨fun _ => ⟨rfl, e, hB.mp hl⟩, fun _ => rfl⟩
    · rw [if_neg hl]
      exact ⟨fun q => by omega, fun q => absurd (hB.mpr q.2.2) hl⟩
  · refine ⟨fun q => ?_, fun q => absurd q.2.1 e⟩
    exfalso
    have hpc : pcs f h (gG M f kg b g p).2.2 (gG M f kg b g p).1 kg p = -1 ∨ pcs f h (gG M f kg b g p).2.2 (gG M f kg b g p).1 kg p = kg (1 - p) + (if p = 0 then 9 else -9) := by
      unfold pcs pcs0
      generalize kg (1 - p) + (if p = 0 then 9 else -9) = t0
      by_cases ho : pcsOk f h (gG M f kg b g p).2.2 (gG M f kg b g p).1 p t0
      · rw [if_pos ho]; exact Or.inr rfl
      · rw [if_neg ho]; exact Or.inl rfl
    generalize pcs f h (gG M f kg b g p).2.2 (gG M f kg b g p).1 kg p = t at q hpc
    unfold barL at q
    split at q
    · omega
    · split at q
      · rcases hpc with hpc | hpc
        · omega
        · exact e (q.trans hpc)
      · omega
theorem drop_eq {M : am} {b g n : Nat} (hp : p < 2) (hb : bdok f kg p) (hn : n < 7) :
    (if 0 < h (8 * p + (n + 1)) then dmv f (gG M f kg b g p).2.2 (gG M f kg b g p).1 p (n + 1) (if n = 0 then pcl f (vof p 1) 81 else 0) (if n = 0 then barL M f h kg p (pcs f h (gG M f kg b g p).2.2 (gG M f kg b g p).1 kg p) else -1) 81 else []) = rF f h kg p (82 + n) := by
  obtain ⟨c1, c2, c3⟩ := hb.2.1 p hp
  have h1 : ∀ to, rc f h kg p (82 + n) to 1 = [] := by
    intro to
    unfold rc
    rw [if_neg]
    rintro ⟨⟨_, q⟩ | ⟨q, _⟩, _⟩
    · have := q.1; omega
    · omega
  have hS : ∀ to, mkS f p (82 + n) to 0 = up1 f to (vof p ((n + 1 : Nat) : Int)) := by
    intro to
    unfold mkS
    rw [if_pos (by omega), show ((82 + n : Nat) : Int) - 81 = ((n + 1 : Nat) : Int) by omega]
  have hK : ∀ to, mkK f kg p (82 + n) to = kg := by intro to; unfold mkK; rw [if_pos (by omega)]
  have hsf : ∀ to, to < 81 → (sfe f kg p (82 + n) to 0 ↔ (gG M f kg b g p).2.2 to = (gG M f kg b g p).1) := by
    intro to hto
    unfold sfe gG
    rw [hS, hK, att_drop hp c1.1 c1.2 (vof_own (by omega) (by omega)), gAll_A hp c1.1 c1.2 hto]
  unfold rF
  by_cases hh : 0 < h (8 * p + (n + 1))
  · rw [if_pos hh, dmv_fm]
    apply fm_congr
    intro to hto
    have hto := List.mem_range.mp hto
    rw [h1, List.append_nil]
    have hiff : dok f (gG M f kg b g p).2.2 (gG M f kg b g p).1 p (n + 1) (if n = 0 then pcl f (vof p 1) 81 else 0) (if n = 0 then barL M f h kg p (pcs f h (gG M f kg b g p).2.2 (gG M f kg b g p).1 kg p) else -1) to ↔ alw f h kg p (82 + n) to 0 := by
      unfold dok alw imv imvD
      rw [hsf to hto, show 82 + n - 81 = n + 1 by omega, show ((82 + n : Nat) : Int) - 81 = ((n + 1 : Nat) : Int) by omega]
      by_cases hn0 : n = 0
      · subst hn0
        rw [if_pos rfl, if_pos rfl, show 82 + 0 = 82 from rfl]
        have hh' : ¬ h (8 * p + 1) = 0 := fun w => by rw [show 0 + 1 = 1 from rfl, w] at hh; omega
        constructor
        · rintro ⟨q1, q2, q3, q4, q5⟩
          have hnp := pcl_bit.mp q4
          have hbar := bar_iff (M := M) (b := b) (g := g) (h := h) hp hb hto q1 ((gAll_A hp c1.1 c1.2 hto).mp q3) hh' hnp
          exact ⟨Or.inl ⟨by omega, rfl, hh, q1, q5, fun _ => hnp⟩, q3, fun w => q2 (hbar.mpr w)⟩
        · rintro ⟨⟨_, _, q2, q3, q4, q5⟩ | ⟨q, _⟩, q6, q7⟩
          · have hnp := q5 rfl
            have hbar := bar_iff (M := M) (b := b) (g := g) (h := h) hp hb hto q3 ((gAll_A hp c1.1 c1.2 hto).mp q6) hh' hnp
            exact ⟨q3, fun w => q7 (hbar.mp w), q6, pcl_bit.mpr hnp, q4⟩
          · omega
      · rw [if_neg hn0, if_neg hn0]
        constructor
        · rintro ⟨q1, q2, q3, q4, q5⟩
          exact ⟨Or.inl ⟨by omega, rfl, hh, q1, q5, fun w => by omega⟩, q3, fun w => by have := w.1; omega⟩
        · rintro ⟨⟨_, _, q2, q3, q4, q5⟩ | ⟨q, _⟩, q6, q7⟩
          · exact ⟨q3, by omega, q6, by rw [show ((0 : Nat) : Int) = 0 from rfl, Int.zero_ediv]; rfl, q4⟩
          · omega
    unfold dcell rc
    by_cases hA : alw f h kg p (82 + n) to 0
    · rw [if_pos (hiff.mpr hA), if_pos hA, mvN_c, show 82 + n = 81 + (n + 1) by omega]
      rfl
    · rw [if_neg (fun w => hA (hiff.mp w)), if_neg hA]
  · rw [if_neg hh]
    have h0 : ∀ to, rc f h kg p (82 + n) to 0 = [] := by
      intro to
      unfold rc
      rw [if_neg]
      rintro ⟨⟨_, q⟩ | ⟨q, _⟩, _⟩
      · have := q.2.1
        rw [show 82 + n - 81 = n + 1 by omega] at this
        exact hh this
      · omega
    simp only [h0, h1, List.append_nil]
    generalize List.range 81 = R
    induction R with
    | nil => rfl
    | cons a R ih => rw [List.flatMap_cons, ← ih]; rfl
theorem rF_81 : rF f h kg p 81 = [] := by
  have h0 : ∀ to pr, rc f h kg p 81 to pr = [] := by
    intro to pr
    unfold rc
    rw [if_neg]
    rintro ⟨⟨q, _⟩ | ⟨q, _⟩, _⟩
    · omega
    · omega
  unfold rF
  simp only [h0, List.append_nil]
  generalize List.range 81 = R
  induction R with
  | nil => rfl
  | cons a R ih => rw [List.flatMap_cons, ih, List.append_nil]
theorem ddv_eq {M : am} {b g : Nat} (hp : p < 2) (hb : bdok f kg p) : ∀ n, n ≤ 7 → ddv f h (gG M f kg b g p).2.2 (gG M f kg b g p).1 p (barL M f h kg p (pcs f h (gG M f kg b g p).2.2 (gG M f kg b g p).1 kg p)) n = (List.range n).flatMap (fun i => rF f h kg p (82 + i)) := by
  intro n
  induction n with
  | zero => intro _; rfl
  | succ n ih =>
    intro hn
    rw [List.range_succ, List.flatMap_append, ← ih (by omega), List.flatMap_cons, List.flatMap_nil, List.append_nil, ← drop_eq (M := M) (b := b) (g := g) hp hb (show n < 7 by omega)]
    rfl
theorem range_split (F : Nat → List Int) : (List.range 89).flatMap F = (List.range 81).flatMap F ++ (F 81 ++ (List.range 7).flatMap (fun i => F (82 + i))) := by
  have : List.range 89 = List.range 81 ++ [81, 82, 83, 84, 85, 86, 87, 88] := by
    rw [show 89 = 81 + 1 + 1 + 1 + 1 + 1 + 1 + 1 + 1 from rfl]
    simp only [List.range_succ, List.append_assoc]
    rfl
  rw [this, List.flatMap_append]
  rw [show List.range 7 = [0, 1, 2, 3, 4, 5, 6] from rfl]
  simp only [List.flatMap_cons, List.flatMap_nil, List.append_nil]
/-- the class's list is the reference's -/
theorem lgl_rl {M : am} (hp : p < 2) (hb : bdok f kg p) : lgl M f h kg p = rl f h kg p := by
  unfold lgl rl
  rw [range_split, rF_81, List.nil_append, bmv_eq (h := h) hp hb 81 (Nat.le_refl _), ddv_eq hp hb 7 (Nat.le_refl _)]
end LL
