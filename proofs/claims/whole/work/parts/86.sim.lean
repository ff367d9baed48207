/-! class and reference in step -/
def SimS (M : am) : Prop := M 0 5 = -1 ∧ ¬ M 27 4 = 0 ∧ M 15 5 = 0 ∧ sqok (M 2) ∧ no13 (M 2) ∧ (∀ i, i < 16 → 0 ≤ M 3 i ∧ M 3 i ≤ 18) ∧ M 3 0 = 0 ∧ M 3 8 = 0
def SimG (M : am) (F H K : Nat → Nat → Int) (p0 n : Nat) : Prop := gC M F H K p0 n ∧ M 27 4 = 0 ∧ M 27 5 = plr p0 n ∧ M 27 6 = n ∧ agr 2 (M 4) (M 30) ∧ (∀ k, k < n → M 31 k = M 16 k) ∧ (∀ k, k < n → M 32 k = F k (mTo (M 16 k))) ∧ (∀ k, k ≤ n → ∀ r, r < 9 → M 33 (9 * k + r) = keyR (F k) (H k) r) ∧ ∀ k, k < n → M 34 (k + 1) = M 18 k
def Sim (M : am) : Prop := agr 81 (M 2) (M 28) ∧ agr 16 (M 3) (M 29) ∧ kgok (M 4) ∧ kgok (M 30) ∧ (SimS M ∨ ∃ F H K p0 n, SimG M F H K p0 n)
/-- what a call that only looks leaves, on both sides -/
def fS (M M' : am) : Prop := (∀ a, a < 27 → a ≠ 15 → ¬ (5 ≤ a ∧ a ≤ 14) → ¬ (20 ≤ a ∧ a ≤ 26) → M' a = M a) ∧ (∀ i, i ≠ 4 → M' 15 i = M 15 i) ∧ (∀ i, i ≠ 0 → M' 27 i = M 27 i) ∧ ∀ a, 28 ≤ a → a ≤ 34 → M' a = M a
theorem fS.rf (M : am) : fS M M := ⟨fun _ _ _ _ _ => rfl, fun _ _ => rfl, fun _ _ => rfl, fun _ _ _ => rfl⟩
theorem fS.tr {M M1 M2 : am} (h1 : fS M M1) (h2 : fS M1 M2) : fS M M2 := ⟨fun a q q1 q2 q3 => (h2.1 a q q1 q2 q3).trans (h1.1 a q q1 q2 q3), fun i hi => (h2.2.1 i hi).trans (h1.2.1 i hi), fun i hi => (h2.2.2.1 i hi).trans (h1.2.2.1 i hi), fun a q1 q2 => (h2.2.2.2 a q1 q2).trans (h1.2.2.2 a q1 q2)⟩
theorem fS_fK {M M1 : am} (h : fK M M1) : fS M M1 := ⟨fun a q q1 q2 q3 => h.1 a q1 q2 q3, h.2, fun i _ => by rw [h.1 27 (by omega) (by omega) (by omega)], fun a q1 q2 => h.1 a (by omega) (by omega) (by omega)⟩
theorem fS_r35 {M M1 : am} {t : Int} (h : r35 0 (up2 M 27 0 t) M1) : fS M M1 := by
  have e : ∀ a, a ≠ 35 → a ≠ 27 → M1 a = M a := fun a q1 q2 => by rw [h.1 a q1, up2_ap, if_neg q2]
  refine ⟨fun a q q1 q2 q3 => e a (by omega) (by omega), fun i _ => by rw [e 15 (by omega) (by omega)], fun i hi => ?_, fun a q1 q2 => e a (by omega) (by omega)⟩
  rw [h.1 27 (by omega), up2_ap, if_pos rfl, up1_n hi]
theorem fS_t {M : am} (t : Int) : fS M (up2 M 27 0 t) := fS_r35 (r35.rf _)
theorem fS_36 {M : am} (z : Int) : fS M (up2 M 36 0 z) := ⟨fun a q _ _ _ => by rw [up2_ap, if_neg (by omega)], fun i _ => by rw [up2_ap, if_neg (by omega)], fun i _ => by rw [up2_ap, if_neg (by omega)], fun a q1 q2 => by rw [up2_ap, if_neg (by omega)]⟩
section SF
variable {M : am} {F H K : Nat → Nat → Int} {p0 n : Nat}
theorem SimG.fs (g : SimG M F H K p0 n) {M1 : am} (h : fS M M1) : SimG M1 F H K p0 n := by
  obtain ⟨g0, g1, g2, g3, g4, g5, g6, g7, g8⟩ := g
  have hk : ∀ a, a < 27 → a ≠ 15 → ¬ (5 ≤ a ∧ a ≤ 14) → ¬ (20 ≤ a ∧ a ≤ 26) → M1 a = M a := h.1
  have hm : ∀ a, 28 ≤ a → a ≤ 34 → M1 a = M a := h.2.2.2
  have e16 : M1 16 = M 16 := hk 16 (by omega) (by omega) (by omega) (by omega)
  have e18 : M1 18 = M 18 := hk 18 (by omega) (by omega) (by omega) (by omega)
  have hg : gC M1 F H K p0 n := by
    obtain ⟨c1, c2, c3, c4, c5, c6, c7, c8, c9⟩ := g0
    refine ⟨by rw [e16]; exact c1, c2, by rw [hk 2 (by omega) (by omega) (by omega) (by omega)]; exact c3, by rw [hk 3 (by omega) (by omega) (by omega) (by omega)]; exact c4, by rw [hk 4 (by omega) (by omega) (by omega) (by omega)]; exact c5, by rw [hk 0 (by omega) (by omega) (by omega) (by omega)]; exact c6, by rw [h.2.1 5 (by omega)]; exact c7, ?_, ?_⟩
    · rw [e16, hk 17 (by omega) (by omega) (by omega) (by omega)]; exact c8
    · rw [e18]; exact c9
  refine ⟨hg, by rw [h.2.2.1 4 (by omega)]; exact g1, by rw [h.2.2.1 5 (by omega)]; exact g2, by rw [h.2.2.1 6 (by omega)]; exact g3, ?_, ?_, ?_, ?_, ?_⟩
  · rw [hk 4 (by omega) (by omega) (by omega) (by omega), hm 30 (by omega) (by omega)]; exact g4
  · rw [e16, hm 31 (by omega) (by omega)]; exact g5
  · rw [e16, hm 32 (by omega) (by omega)]; exact g6
  · rw [hm 33 (by omega) (by omega)]; exact g7
  · rw [e18, hm 34 (by omega) (by omega)]; exact g8
theorem Sim.fs (g : Sim M) {M1 : am} (h : fS M M1) : Sim M1 := by
  obtain ⟨g1, g2, g3, g4, g5⟩ := g
  have hk : ∀ a, a < 27 → a ≠ 15 → ¬ (5 ≤ a ∧ a ≤ 14) → ¬ (20 ≤ a ∧ a ≤ 26) → M1 a = M a := h.1
  have hm : ∀ a, 28 ≤ a → a ≤ 34 → M1 a = M a := h.2.2.2
  have e2 : M1 2 = M 2 := hk 2 (by omega) (by omega) (by omega) (by omega)
  have e3 : M1 3 = M 3 := hk 3 (by omega) (by omega) (by omega) (by omega)
  have e4 : M1 4 = M 4 := hk 4 (by omega) (by omega) (by omega) (by omega)
  refine ⟨by rw [e2, hm 28 (by omega) (by omega)]; exact g1, by rw [e3, hm 29 (by omega) (by omega)]; exact g2, by rw [e4]; exact g3, by rw [hm 30 (by omega) (by omega)]; exact g4, ?_⟩
  rcases g5 with g5 | ⟨F, H, K, p0, n, g5⟩
  · obtain ⟨s1, s2, s3, s4, s5, s6, s7, s8⟩ := g5
    refine Or.inl ⟨by rw [hk 0 (by omega) (by omega) (by omega) (by omega)]; exact s1, by rw [h.2.2.1 4 (by omega)]; exact s2, by rw [h.2.1 5 (by omega)]; exact s3, by rw [e2]; exact s4, by rw [e2]; exact s5, by rw [e3]; exact s6, by rw [e3]; exact s7, by rw [e3]; exact s8⟩
  · exact Or.inr ⟨F, H, K, p0, n, g5.fs h⟩
theorem sqok_agr {f g : Nat → Int} (h : agr 81 f g) (hf : sqok f) : sqok g := fun i hi => by rw [← h i hi]; exact hf i hi
theorem no13_agr {f g : Nat → Int} (h : agr 81 f g) (hf : no13 f) : no13 g := fun i hi => by rw [← h i hi]; exact hf i hi
theorem kq_agr {f g kg kg' : Nat → Int} (h : agr 81 f g) (hk : agr 2 kg kg') (hf : kq f kg) : kq g kg' := by
  intro q hq
  obtain ⟨a, b, c⟩ := hf q hq
  rw [← hk q hq]
  exact ⟨a, by rw [← h _ (by omega)]; exact b, fun i hi e => c i hi (by rw [h i hi]; exact e)⟩
theorem tc_agr {f g : Nat → Int} {t : Nat} : ∀ n, agr n f g → tc f t n = tc g t n := by
  intro n
  induction n with
  | zero => intro _; rfl
  | succ n ih =>
    intro h
    show tc f t n + ind t (f n) = tc g t n + ind t (g n)
    rw [ih (fun i hi => h i (by omega)), h n (by omega)]
theorem hdg_agr {f g h h' : Nat → Int} (hf : agr 81 f g) (hh : agr 16 h h') (hd : hdg f h) : hdg g h' := by
  obtain ⟨a, b, c, d⟩ := hd
  refine ⟨fun i hi => by rw [← hh i hi]; exact a i hi, by rw [← hh 0 (by omega)]; exact b, by rw [← hh 8 (by omega)]; exact c, fun t ht => ?_⟩
  have := d t ht
  unfold tot at this ⊢
  rw [← hh t (by omega), ← hh (8 + t) (by omega), ← tc_agr 81 hf]
  exact this
theorem simG_ps (s : Sim M) (g : SimG M F H K p0 n) : ps 900 (M 28) (M 29) (M 30) := by
  have hk := g.1.pok
  refine ⟨sqok_agr s.1 hk.1.1, no13_agr s.1 hk.2.1, kq_agr s.1 g.2.2.2.2.1 hk.1.2.1, fun i hi => ?_⟩
  have := hdg_le hk.2.2 hi
  rw [s.2.1 i hi] at this
  omega
theorem simG_L (s : Sim M) (g : SimG M F H K p0 n) : LM M (plr p0 n) = LC M (plr p0 n) := (rl_agr (plr_2 _ _) s.1 s.2.1 g.2.2.2.2.1).symm
theorem eqK_n (M : am) (n : Nat) : eqK M n n := ⟨by omega, fun _ _ => rfl⟩
theorem simG_E (g : SimG M F H K p0 n) {k : Nat} (hk : k ≤ n) : eqK M n k ↔ (n - k) % 2 = 0 ∧ same (F k) (F n) (H k) (H n) := by
  obtain ⟨b1, -, b3⟩ := gam_pok g.1.1 k hk
  obtain ⟨c1, -, c3⟩ := gam_pok g.1.1 n (Nat.le_refl _)
  have h7 := g.2.2.2.2.2.2.2.1
  unfold eqK
  refine and_congr_right fun _ => ?_
  rw [← key_same b1.1 c1.1 (fun i hi => hdg_le b3 hi) (fun i hi => hdg_le c3 hi)]
  constructor
  · intro q r hr
    rw [← h7 k hk r hr, ← h7 n (Nat.le_refl _) r hr]
    exact q r hr
  · intro q r hr
    rw [h7 k hk r hr, h7 n (Nat.le_refl _) r hr]
    exact q r hr
theorem simG_hit (g : SimG M F H K p0 n) : ∀ j, 1 ≤ j → j ≤ n → (hit (M 2) (M 3) (bkN M n (plr p0 n)) j ↔ eqK M n (n - j)) := by
  intro j j1 j2
  obtain ⟨c1, c2, c3, c4, c5, c6, c7, c8, c9⟩ := g.1
  obtain ⟨a1, a2⟩ := bk_agr c1 rfl (f0 := fun j => if j < 81 then M 2 j else M 20 j) (h0 := fun j => if j < 16 then M 3 j else M 21 j) (fun i hi => by show (if i < 81 then M 2 i else M 20 i) = F n i; rw [if_pos hi, c3]) (fun i hi => by show (if i < 16 then M 3 i else M 21 i) = H n i; rw [if_pos hi, c4]) c8 j j2
  rw [simG_E g (by omega)]
  unfold hit bkN
  rw [c3, c4, show n - (n - j) = j by omega]
  rw [c3, c4] at a1 a2
  refine and_congr_right fun _ => ?_
  constructor
  · rintro ⟨x, y⟩
    exact ⟨fun i hi => by rw [← a1 i hi]; exact x i hi, fun i hi => by rw [← a2 i hi]; exact y i hi⟩
  · rintro ⟨x, y⟩
    exact ⟨fun i hi => by rw [a1 i hi]; exact x i hi, fun i hi => by rw [a2 i hi]; exact y i hi⟩
theorem sim_times (g : SimG M F H K p0 n) : csI (M 2) (M 3) (bkN M n (plr p0 n)) n = oft (eqK M n) (n + 1) := cs_often (simG_hit g) (eqK_n M n)
theorem sim_result (s : Sim M) (g : SimG M F H K p0 n) : rsC M n (plr p0 n) = rsN M n (plr p0 n) := by
  unfold rsC rsN
  rw [simG_L s g]
  by_cases h : (LC M (plr p0 n)).length = 0
  · rw [if_pos h, if_pos h]
  · rw [if_neg h, if_neg h]
    exact rep_res (simG_hit g) (eqK_n M n) (fun k _ q => q.1) (fun i hi => (g.2.2.2.2.2.2.2.2 i hi).symm)
end SF
