/-! start, play, back in step -/
section SH
variable {M M1 M2 : am} {F H K : Nat → Nat → Int} {p0 n : Nat}
theorem cnt_agr {f g : Nat → Int} {v : Int} : ∀ n, agr n f g → cnt f v n = cnt g v n := by
  intro n
  induction n with
  | zero => intro _; rfl
  | succ n ih =>
    intro h
    show (if f n = v then cnt f v n + 1 else cnt f v n) = (if g n = v then cnt g v n + 1 else cnt g v n)
    rw [ih (fun i hi => h i (by omega)), h n (by omega)]
theorem snM_agr1 {f g : Nat → Int} (h : agr 81 f g) (hs : snM f 2) : snM g 2 := by
  intro q hq
  obtain ⟨a, b⟩ := hs q hq
  refine ⟨by rw [← cnt_agr 81 h]; exact a, fun s hs' => ?_⟩
  have hb := b s hs'
  unfold sqs at hb ⊢
  rw [← h s hs']
  intro ho
  obtain ⟨b1, b2⟩ := hb ho
  refine ⟨b1, fun hk r hr h9 => ?_⟩
  have := b2 hk r hr h9
  rw [← h r (by omega), ← h s hs']
  exact this
theorem fkp_one {f g : Nat → Int} {v a b : Int} (h : agr 81 f g) (hc : cnt f v 81 = 1) : fkp f v a 81 = fkp g v b 81 := by
  obtain ⟨i, i1, i2, i3, i4⟩ := cnt_1 (g := a) 81 hc
  obtain ⟨j, j1, j2, j3, j4⟩ := cnt_1 (f := g) (g := b) 81 (by rw [← cnt_agr 81 h]; exact hc)
  rw [i4, j4, i3 j j1 (by rw [h j j1]; exact j2)]
theorem fk_vof {f g : Nat → Int} {q : Nat} (hq : q < 2) : fk f g 81 q = fkp f (vof q 8) (g q) 81 := by
  rcases (show q = 0 ∨ q = 1 by omega) with rfl | rfl
  · exact (fk_fkp 81).1
  · exact (fk_fkp 81).2
theorem st_iff {M' : am} {p : Nat} (hp : p < 2) (h : agr 81 (M 2) (M' 28)) : stC M p ↔ stG M' p := by
  unfold stC stG
  rw [sound_M]
  have key : snM (M 2) 2 → fk (M 2) (M 4) 81 (1 - p) = fkM M' (1 - p) := by
    intro hs
    rw [fk_vof (by omega)]
    exact fkp_one h (hs (1 - p) (by omega)).1
  constructor
  · rintro ⟨a, b⟩
    refine ⟨snM_agr1 h a, ?_⟩
    rw [← key a, ← att_agr h]
    exact b
  · rintro ⟨a, b⟩
    have a' := snM_agr1 h.symm' a
    refine ⟨a', ?_⟩
    rw [key a', att_agr h]
    exact b
theorem sim_start (s : Sim M) (hS : SimS M) {p : Nat} (hp : p < 2) (hst : stC M p) (h1 : ∀ a, a ≠ 36 → M1 a = up2 (so M 4 (fk (M 2) (M 4) 81)) 0 5 p a) (h4 : M2 27 4 = 0) (h5 : M2 27 5 = p) (h6 : M2 27 6 = 0) (hk : agr 2 (M2 30) (fkM M1)) (h28 : M2 28 = M1 28) (h29 : M2 29 = M1 29) (h33 : ∀ r, r < 9 → M2 33 r = keyR (M1 28) (M1 29) r) (hf : ∀ a, a < 27 ∨ 35 < a → M2 a = M1 a) : Sim M2 := by
  obtain ⟨s1, s2, s3, s4, s5, s6, s7, s8⟩ := hS
  have e : ∀ a, a ≠ 36 → a ≠ 0 → a ≠ 4 → M1 a = M a := fun a q0 q1 q2 => by rw [h1 a q0, up2_ap, if_neg q1, so_n q2]
  have e4 : M1 4 = fk (M 2) (M 4) 81 := by rw [h1 4 (by omega), up2_ap, if_neg (by omega), so_s]
  have g2 : M2 2 = M 2 := by rw [hf 2 (by omega)]; exact e 2 (by omega) (by omega) (by omega)
  have g3 : M2 3 = M 3 := by rw [hf 3 (by omega)]; exact e 3 (by omega) (by omega) (by omega)
  have g4 : M2 4 = fk (M 2) (M 4) 81 := by rw [hf 4 (by omega)]; exact e4
  have g28 : M2 28 = M 28 := by rw [h28]; exact e 28 (by omega) (by omega) (by omega)
  have g29 : M2 29 = M 29 := by rw [h29]; exact e 29 (by omega) (by omega) (by omega)
  have hsn := sound_M.mp hst.1
  refine sim_new p hp ⟨⟨by rw [g2]; exact s4, ?_, ?_⟩, by rw [g2]; exact s5, by rw [g2, g3]; exact hdg_su s6 s7 s8⟩ (by rw [g2, g28]; exact s.1) (by rw [g3, g29]; exact s.2.1) ?_ ?_ ?_ h4 h5 h6 (fun r hr => by rw [h33 r hr, h28, h29])
  · rw [g2, g4]
    exact kq_cnt (g := M 4) hst.1.1 hst.1.2.1 (fk_fkp 81).1 (fk_fkp 81).2
  · rw [g2, g4]; exact hst.2
  · rw [g4]
    intro q hq
    rw [hk q hq, fk_vof hq]
    unfold fkM
    rw [e 28 (by omega) (by omega) (by omega)]
    exact fkp_one s.1 (hsn q hq).1
  · rw [hf 0 (by omega), h1 0 (by omega), up2_ap, if_pos rfl, up1_s]
  · rw [hf 15 (by omega), e 15 (by omega) (by omega) (by omega)]; exact s3
theorem sim_nostart (s : Sim M) (hS : SimS M) (h1 : ∀ a, a ≠ 4 → a ≠ 36 → M1 a = M a) (hk1 : kgok (M1 4)) (h27 : M2 27 = up1 (M1 27) 0 2) (hk : kgok (M2 30)) (hf : ∀ a, a ≠ 27 → a ≠ 30 → M2 a = M1 a) : Sim M2 := by
  obtain ⟨s1, s2, s3, s4, s5, s6, s7, s8⟩ := hS
  have e : ∀ a, a ≠ 27 → a ≠ 30 → a ≠ 4 → a ≠ 36 → M2 a = M a := fun a q1 q2 q3 q4 => by rw [hf a q1 q2, h1 a q3 q4]
  have e2 := e 2 (by omega) (by omega) (by omega) (by omega)
  have e3 := e 3 (by omega) (by omega) (by omega) (by omega)
  refine ⟨by rw [e2, e 28 (by omega) (by omega) (by omega) (by omega)]; exact s.1, by rw [e3, e 29 (by omega) (by omega) (by omega) (by omega)]; exact s.2.1, by rw [hf 4 (by omega) (by omega)]; exact hk1, hk, Or.inl ⟨by rw [e 0 (by omega) (by omega) (by omega) (by omega)]; exact s1, ?_, by rw [e 15 (by omega) (by omega) (by omega) (by omega)]; exact s3, by rw [e2]; exact s4, by rw [e2]; exact s5, by rw [e3]; exact s6, by rw [e3]; exact s7, by rw [e3]; exact s8⟩⟩
  rw [h27, up1_n (by omega), h1 27 (by omega) (by omega)]
  exact s2
/-- a move made on both sides -/
theorem sim_play (s : Sim M) (g : SimG M F H K p0 n) (hn : n < 150) {fr to pr : Nat} (x1 : fr < 89) (x2 : to < 81) (x3 : pr < 2) (ha : alw (M 2) (M 3) (M 4) (plr p0 n) fr to pr) {r : Option av} (h1 : pcP M n (plr p0 n) fr to pr (mvN fr to pr) r M1)
    (hM : ∀ a, 27 ≤ a → a ≤ 35 → M1 a = M a)
    (m28 : M2 28 = mkS (M 28) (plr p0 n) fr to pr) (m29 : M2 29 = mkH (M 28) (M 29) (plr p0 n) fr to) (m30 : M2 30 = mkK (M 28) (M 30) (plr p0 n) fr to) (m27 : M2 27 = up1 (up1 (up1 (M 27) 0 0) 6 ((n + 1 : Nat) : Int)) 5 (1 - ((plr p0 n : Nat) : Int))) (m31 : M2 31 = up1 (M 31) n (mvN fr to pr)) (m32 : M2 32 = up1 (M 32) n (M 28 to))
    (m33 : kgO M (n + 1) (M2 33)) (m33' : ∀ r, r < 9 → M2 33 (9 * (n + 1) + r) = keyR (M2 28) (M2 29) r) (m34 : M2 34 = up1 (M 34) (n + 1) (bi (att (M2 28) ((plr p0 n : Nat) : Int) (M2 30 (1 - plr p0 n))))) (mf : ∀ a, a < 27 → M2 a = M1 a) : Sim M2 := by
  have hp2 := plr_2 p0 n
  obtain ⟨-, c2, c3, c4, c0, c16, c17, c18, c15, -⟩ := h1
  obtain ⟨⟨g1, gn, g2, g3, g4, g5, g6, g7, g8⟩, k4, k5, k6, kk, k31, k32, k33, k34⟩ := g
  have q2 : M2 2 = mkS (M 2) (plr p0 n) fr to pr := by rw [mf 2 (by omega)]; exact c2
  have q3 : M2 3 = mkH (M 2) (M 3) (plr p0 n) fr to := by rw [mf 3 (by omega)]; exact c3
  have q4 : M2 4 = mkK (M 2) (M 4) (plr p0 n) fr to := by rw [mf 4 (by omega)]; exact c4
  have q16 : M2 16 = up1 (M 16) n (mvN fr to pr) := by rw [mf 16 (by omega)]; exact c16
  have q17 : M2 17 = up1 (M 17) n (mkT (M 2) fr to) := by rw [mf 17 (by omega)]; exact c17
  have q18 : M2 18 = up1 (M 18) n (bi (att (M2 2) ((plr p0 n : Nat) : Int) (M2 4 (1 - plr p0 n)))) := by rw [mf 18 (by omega), mf 2 (by omega), mf 4 (by omega)]; exact c18
  have hpk : pok (M 2) (M 3) (M 4) (plr p0 n) := by rw [g2, g3, g4]; exact gam_pok g1 n (Nat.le_refl _)
  have hmv := alw_mvg hp2 hpk.1.2.1 x1 x2 x3 ha
  have h81 := hmv.h81
  have A1 : agr 81 (M2 2) (M2 28) := by rw [q2, m28]; exact mkS_agr h81 s.1
  have A2 : agr 16 (M2 3) (M2 29) := by rw [q3, m29]; exact mkH_agr x2 s.1 s.2.1
  have A3 : agr 2 (M2 4) (M2 30) := by rw [q4, m30]; exact mkK_agr h81 s.1 kk
  have hpn : 1 - ((plr p0 n : Nat) : Int) = ((plr p0 (n + 1) : Nat) : Int) := by rw [plr_s]; omega
  have hkg : kgok (M2 4) := by rw [q4]; exact kgok_mk hp2 hmv (kq_kgok hpk.1.2.1)
  have v1 : mFr (mvN fr to pr) = fr := mv_Fr (by omega)
  have v2 : mTo (mvN fr to pr) = to := mv_To (by omega) (by omega)
  have v3 : mPr (mvN fr to pr) = pr := mv_Pr (by omega) (by omega)
  have u16 : ∀ k, k < n → M2 16 k = M 16 k := fun k hk => by rw [q16, up1_n (by omega)]
  have u16n : M2 16 n = mvN fr to pr := by rw [q16, up1_s]
  refine ⟨A1, A2, hkg, ⟨by rw [← A3 0 (by omega)]; exact hkg.1, by rw [← A3 1 (by omega)]; exact hkg.2⟩, Or.inr ⟨fun k => if k ≤ n then F k else M2 2, fun k => if k ≤ n then H k else M2 3, fun k => if k ≤ n then K k else M2 4, p0, n + 1, ?_⟩⟩
  have le : ∀ {X : Nat → Nat → Int} {Y : Nat → Int} {k : Nat}, k ≤ n → (if k ≤ n then X k else Y) = X k := fun h => if_pos h
  have gt : ∀ {X : Nat → Nat → Int} {Y : Nat → Int}, (if n + 1 ≤ n then X (n + 1) else Y) = Y := if_neg (by omega)
  refine ⟨⟨⟨g1.1, ?_, fun k hk => ?_⟩, by omega, gt.symm, gt.symm, gt.symm, by rw [mf 0 (by omega), c0]; exact hpn, by rw [mf 15 (by omega)]; exact c15, fun k hk => ?_, fun k hk => ?_⟩, ?_, ?_, ?_, A3, fun k hk => ?_, fun k hk => ?_, fun k hk r hr => ?_, fun k hk => ?_⟩
  · simp only [le (Nat.zero_le n)]; exact g1.2.1
  · by_cases e : k = n
    · subst e
      unfold gmk
      simp only [le (Nat.le_refl k), gt, u16n, v1, v2, v3]
      refine ⟨⟨by rw [v1, v2, v3], by rw [v1]; exact x1, by rw [v1]; exact h81, by rw [v2]; exact x2, by rw [v3]; exact x3⟩, ?_, ?_, ?_, ?_⟩
      · rw [← g2, ← g3, ← g4]; exact ha
      · rw [← g2]; exact q2
      · rw [← g2, ← g3]; exact q3
      · rw [← g2, ← g4]; exact q4
    · have hg := g1.2.2 k (by omega)
      unfold gmk at hg ⊢
      simp only [le (show k ≤ n by omega), le (show k + 1 ≤ n by omega), u16 k (by omega)]
      exact hg
  · by_cases e : k = n
    · subst e
      simp only [le (Nat.le_refl k), u16n, v1, v2]
      rw [q17, up1_s, g2]
    · simp only [le (show k ≤ n by omega), u16 k (by omega)]
      rw [q17, up1_n e]
      exact g7 k (by omega)
  · by_cases e : k = n
    · subst e
      simp only [gt]
      rw [q18, up1_s, plr_s]
    · simp only [le (show k + 1 ≤ n by omega)]
      rw [q18, up1_n e]
      exact g8 k (by omega)
  · rw [m27, up1_n (by decide), up1_n (by decide), up1_n (by decide)]; exact k4
  · rw [m27, up1_s]; exact hpn
  · rw [m27, up1_n (by decide), up1_s]
  · by_cases e : k = n
    · subst e; rw [m31, up1_s, u16n]
    · rw [m31, up1_n e, u16 k (by omega)]; exact k31 k (by omega)
  · by_cases e : k = n
    · subst e
      simp only [le (Nat.le_refl k), u16n, v2]
      rw [m32, up1_s, ← g2, s.1 to x2]
    · simp only [le (show k ≤ n by omega), u16 k (by omega)]
      rw [m32, up1_n e]
      exact k32 k (by omega)
  · by_cases e : k = n + 1
    · subst e
      simp only [gt]
      rw [m33' r hr]
      unfold keyR
      by_cases h7 : r < 7
      · rw [if_pos h7, if_pos h7]
        apply kw_cg
        intro i hi
        exact (A1 _ (by split at hi <;> omega)).symm
      · rw [if_neg h7, if_neg h7]
        apply kw_cg
        intro i hi
        exact (A2 _ (by omega)).symm
    · simp only [le (show k ≤ n by omega)]
      rw [m33 (9 * k + r) (by omega)]
      exact k33 k (by omega) r hr
  · by_cases e : k = n
    · subst e
      rw [m34, up1_s, q18, up1_s]
      rw [A3 (1 - plr p0 k) (by omega)]
      exact (bi_c (att_agr A1)).symm
    · rw [m34, up1_n (by omega), q18, up1_n e]
      exact k34 k (by omega)
/-- a move taken back on both sides -/
theorem sim_back (s : Sim M) (g : SimG M F H K p0 (n + 1)) (hc2 : M2 2 = F n) (hc3 : M2 3 = H n) (hc4 : M2 4 = K n) (hc0 : M2 0 5 = plr p0 n) (hc15 : M2 15 5 = n) (hc16 : M2 16 = M 16) (hc17 : M2 17 = M 17) (hc18 : M2 18 = M 18)
    {f h kg : Nat → Int} (a1 : agr 81 (F n) f) (a2 : agr 16 (H n) h) (a3 : agr 2 (K n) kg) (m28 : M2 28 = f) (m29 : M2 29 = h) (m30 : M2 30 = kg) (m27 : M2 27 = up1 (up1 (up1 (M 27) 0 0) 6 (n : Int)) 5 (1 - ((plr p0 (n + 1) : Nat) : Int))) (m31 : M2 31 = M 31) (m32 : M2 32 = M 32) (m33 : M2 33 = M 33) (m34 : M2 34 = M 34) : Sim M2 := by
  obtain ⟨⟨g1, gn, g2, g3, g4, g5, g6, g7, g8⟩, k4, k5, k6, kk, k31, k32, k33, k34⟩ := g
  have hkg := kq_kgok (gam_pok g1 n (by omega)).1.2.1
  refine ⟨by rw [hc2, m28]; exact a1, by rw [hc3, m29]; exact a2, by rw [hc4]; exact hkg, by rw [m30]; exact ⟨by rw [← a3 0 (by omega)]; exact hkg.1, by rw [← a3 1 (by omega)]; exact hkg.2⟩, Or.inr ⟨F, H, K, p0, n, ⟨⟨g1.1, g1.2.1, fun k hk => by rw [hc16]; exact g1.2.2 k (by omega)⟩, by omega, hc2, hc3, hc4, hc0, hc15, fun k hk => by rw [hc16, hc17]; exact g7 k (by omega), fun k hk => by rw [hc18]; exact g8 k (by omega)⟩, ?_, ?_, ?_, by rw [hc4, m30]; exact a3, fun k hk => by rw [hc16, m31]; exact k31 k (by omega), fun k hk => by rw [hc16, m32]; exact k32 k (by omega), fun k hk r hr => by rw [m33]; exact k33 k (by omega) r hr, fun k hk => by rw [hc18, m34]; exact k34 k (by omega)⟩⟩
  · rw [m27, up1_n (by decide), up1_n (by decide), up1_n (by decide)]; exact k4
  · rw [m27, up1_s, plr_s]; have := plr_2 p0 n; omega
  · rw [m27, up1_n (by decide), up1_s]
end SH
