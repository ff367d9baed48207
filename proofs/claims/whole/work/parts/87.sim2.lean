/-! the steps that change something -/
section SG
variable {M M1 M2 : am} {F H K : Nat → Nat → Int} {p0 n : Nat}
/-- a game that has just begun -/
theorem sim_new (p : Nat) (hp : p < 2) (hk : pok (M 2) (M 3) (M 4) p) (a1 : agr 81 (M 2) (M 28)) (a2 : agr 16 (M 3) (M 29)) (a3 : agr 2 (M 4) (M 30)) (h0 : M 0 5 = p) (h15 : M 15 5 = 0) (h4 : M 27 4 = 0) (h5 : M 27 5 = p) (h6 : M 27 6 = 0) (h33 : ∀ r, r < 9 → M 33 r = keyR (M 28) (M 29) r) : Sim M := by
  have hkg := kq_kgok hk.1.2.1
  refine ⟨a1, a2, hkg, ⟨by rw [← a3 0 (by omega)]; exact hkg.1, by rw [← a3 1 (by omega)]; exact hkg.2⟩, Or.inr ⟨fun _ => M 2, fun _ => M 3, fun _ => M 4, p, 0, ?_⟩⟩
  have hpl : plr p 0 = p := by unfold plr; omega
  refine ⟨⟨⟨hp, hk, fun k hk => by omega⟩, by omega, rfl, rfl, rfl, by rw [hpl]; exact h0, h15, fun k hk => by omega, fun k hk => by omega⟩, h4, by rw [hpl]; exact h5, h6, a3, fun k hk => by omega, fun k hk => by omega, fun k hk r hr => ?_, fun k hk => by omega⟩
  have : k = 0 := by omega
  subst this
  rw [show 9 * 0 + r = r by omega, h33 r hr]
  unfold keyR
  by_cases h7 : r < 7
  · rw [if_pos h7, if_pos h7]
    apply kw_cg
    intro i hi
    exact (a1 _ (by split at hi <;> omega)).symm
  · rw [if_neg h7, if_neg h7]
    apply kw_cg
    intro i hi
    exact (a2 _ (by omega)).symm
theorem sim_begin {r r' : Option av} (h1 : sbP M r M1) (h2 : bgP2 M1 r' M2) : Sim M2 ∧ M2 36 = M 36 := by
  obtain ⟨-, c1, c2, c3, c4, c5, c6, c7⟩ := h1
  obtain ⟨-, m1, m2, m3, m4, m5, m6, m7, m8, m9, m10⟩ := h2
  have e : ∀ a, a < 27 ∨ 35 < a → M2 a = M1 a := m10
  refine ⟨sim_new 0 (by omega) (pok_beg (fun j hj => by rw [e 2 (by omega)]; exact c2 j hj) (fun j hj => by rw [e 3 (by omega)]; exact c3 j hj) (by rw [e 4 (by omega)]; exact c4) (by rw [e 4 (by omega)]; exact c5)) (fun j hj => by rw [e 2 (by omega), c2 j hj, m1 j hj]) (fun j hj => by rw [e 3 (by omega), c3 j hj, m2 j hj]) (fun j hj => ?_) (by rw [e 0 (by omega)]; exact c7) (by rw [e 15 (by omega)]; exact c6) m6 m7 m8 m9, by rw [e 36 (by omega)]; exact c1 36 (by omega) (by omega) (by omega) (by omega) (by omega)⟩
  rcases (show j = 0 ∨ j = 1 by omega) with rfl | rfl
  · rw [e 4 (by omega), c4, m3]
  · rw [e 4 (by omega), c5, m4]
theorem sim_clear {r : Option av} (s : Sim M) (h1 : M1 = up2 (up2 (fill (fill M 2 81 0) 3 16 0) 15 5 0) 0 5 (-1)) (h2 : clP M1 r M2) : Sim M2 ∧ M2 36 = M 36 := by
  obtain ⟨-, m1, m2, m3, m4, m5, m6, m7⟩ := h2
  have f : ∀ a, a ≠ 0 → a ≠ 2 → a ≠ 3 → a ≠ 15 → M1 a = M a := fun a q1 q2 q3 q4 => by rw [h1, up2_ap, if_neg q1, up2_ap, if_neg q4, fill_ne q3, fill_ne q2]
  have e : ∀ a, a ≠ 27 → a ≠ 28 → a ≠ 29 → M2 a = M1 a := m7
  have d2 : ∀ j, j < 81 → M2 2 j = 0 := fun j hj => by rw [e 2 (by omega) (by omega) (by omega), h1, up2_ap, if_neg (by omega), up2_ap, if_neg (by omega), fill_ne (by omega), fill_in hj]
  have d3 : ∀ j, j < 16 → M2 3 j = 0 := fun j hj => by rw [e 3 (by omega) (by omega) (by omega), h1, up2_ap, if_neg (by omega), up2_ap, if_neg (by omega), fill_in hj]
  refine ⟨⟨fun j hj => by rw [d2 j hj, m1 j hj], fun j hj => by rw [d3 j hj, m2 j hj], by rw [e 4 (by omega) (by omega) (by omega), f 4 (by omega) (by omega) (by omega) (by omega)]; exact s.2.2.1, by rw [e 30 (by omega) (by omega) (by omega), f 30 (by omega) (by omega) (by omega) (by omega)]; exact s.2.2.2.1, Or.inl ⟨?_, by rw [m6]; omega, ?_, fun i hi => by rw [d2 i hi]; omega, fun i hi => by rw [d2 i hi]; decide, fun i hi => by rw [d3 i hi]; omega, d3 0 (by omega), d3 8 (by omega)⟩⟩, ?_⟩
  · rw [e 0 (by omega) (by omega) (by omega), h1, up2_ap, if_pos rfl, up1_s]
  · rw [e 15 (by omega) (by omega) (by omega), h1, up2_ap, if_neg (by omega), up2_ap, if_pos rfl, up1_s]
  · rw [e 36 (by omega) (by omega) (by omega), f 36 (by omega) (by omega) (by omega) (by omega)]
theorem sim_put (s : Sim M) (hS : SimS M) {x v : Int} (hx : 0 ≤ x ∧ x < 81) (hv : vok v) : Sim (up2 (up2 M 2 x.toNat v) 28 x.toNat v) := by
  obtain ⟨s1, s2, s3, s4, s5, s6, s7, s8⟩ := hS
  have e2 : up2 (up2 M 2 x.toNat v) 28 x.toNat v 2 = up1 (M 2) x.toNat v := by simp only [up2_ap, so_ap, ↓reduceIte, Nat.reduceEqDiff, Nat.reduceEqDiff]
  have e28 : up2 (up2 M 2 x.toNat v) 28 x.toNat v 28 = up1 (M 28) x.toNat v := by simp only [up2_ap, so_ap, ↓reduceIte, Nat.reduceEqDiff, Nat.reduceEqDiff]
  have eo : ∀ a, a ≠ 2 → a ≠ 28 → up2 (up2 M 2 x.toNat v) 28 x.toNat v a = M a := fun a q1 q2 => by rw [up2_ap, if_neg q2, up2_ap, if_neg q1]
  refine ⟨?_, ?_, ?_, ?_, Or.inl ⟨?_, ?_, ?_, ?_, ?_, ?_, ?_, ?_⟩⟩
  · rw [e2, e28]; intro j hj; unfold up1; rw [s.1 j hj]
  · rw [eo 3 (by omega) (by omega), eo 29 (by omega) (by omega)]; exact s.2.1
  · rw [eo 4 (by omega) (by omega)]; exact s.2.2.1
  · rw [eo 30 (by omega) (by omega)]; exact s.2.2.2.1
  · rw [eo 0 (by omega) (by omega)]; exact s1
  · rw [eo 27 (by omega) (by omega)]; exact s2
  · rw [eo 15 (by omega) (by omega)]; exact s3
  · rw [e2]; intro i hi; unfold up1; split
    · omega
    · exact s4 i hi
  · rw [e2]; intro i hi; unfold up1; split
    · unfold kd; split <;> omega
    · exact s5 i hi
  · rw [eo 3 (by omega) (by omega)]; exact s6
  · rw [eo 3 (by omega) (by omega)]; exact s7
  · rw [eo 3 (by omega) (by omega)]; exact s8
theorem sim_give (s : Sim M) (hS : SimS M) {p k x : Int} (h : okg p k x) : Sim (up2 (up2 M 3 (8 * p + k).toNat x) 29 (8 * p + k).toNat x) := by
  obtain ⟨s1, s2, s3, s4, s5, s6, s7, s8⟩ := hS
  generalize hj : (8 * p + k).toNat = j
  have hj0 : j ≠ 0 ∧ j ≠ 8 ∧ j < 16 := by have := h.1; have := h.2.1; omega
  have e2 : up2 (up2 M 3 j x) 29 j x 3 = up1 (M 3) j x := by simp only [up2_ap, so_ap, ↓reduceIte, Nat.reduceEqDiff, Nat.reduceEqDiff]
  have e28 : up2 (up2 M 3 j x) 29 j x 29 = up1 (M 29) j x := by simp only [up2_ap, so_ap, ↓reduceIte, Nat.reduceEqDiff, Nat.reduceEqDiff]
  have eo : ∀ a, a ≠ 3 → a ≠ 29 → up2 (up2 M 3 j x) 29 j x a = M a := fun a q1 q2 => by rw [up2_ap, if_neg q2, up2_ap, if_neg q1]
  refine ⟨?_, ?_, ?_, ?_, Or.inl ⟨?_, ?_, ?_, ?_, ?_, ?_, ?_, ?_⟩⟩
  · rw [eo 2 (by omega) (by omega), eo 28 (by omega) (by omega)]; exact s.1
  · rw [e2, e28]; intro i hi; unfold up1; rw [s.2.1 i hi]
  · rw [eo 4 (by omega) (by omega)]; exact s.2.2.1
  · rw [eo 30 (by omega) (by omega)]; exact s.2.2.2.1
  · rw [eo 0 (by omega) (by omega)]; exact s1
  · rw [eo 27 (by omega) (by omega)]; exact s2
  · rw [eo 15 (by omega) (by omega)]; exact s3
  · rw [eo 2 (by omega) (by omega)]; exact s4
  · rw [eo 2 (by omega) (by omega)]; exact s5
  · rw [e2]; intro i hi; unfold up1; split
    · exact ⟨h.2.2.1, h.2.2.2⟩
    · exact s6 i hi
  · rw [e2, up1_n (fun e => hj0.1 e.symm)]; exact s7
  · rw [e2, up1_n (fun e => hj0.2.1 e.symm)]; exact s8
end SG
