/-! the law's steps in a game -/
section LG
variable {M : am} {kl km : Nat} {as bs : List (Int ⊕ Nat)}
theorem st_look {z : Int} (s : Sim M) (hc : RunsW 37 kl as M (hzP (lkP M z))) (hm : ∀ M1, fS M M1 → Runs 36 km bs M1 (rdP M1 z)) : stH kl km as bs M := by
  refine ⟨_, hc, ?_⟩
  rintro r M1 ⟨z', M0, ⟨e1, hf⟩, rfl, rfl⟩
  injection e1 with e1
  injection e1 with e1
  subst e1
  have hfs : fS M (up2 M0 36 0 z') := (fS_fK hf).tr (fS_36 z')
  refine ⟨0, _, rfl, hm _ hfs, ?_⟩
  rintro r' M2 ⟨rfl, r2⟩
  refine ⟨z', rfl, r35_th0 r2, fun _ => ?_, s.fs (hfs.tr (fS_r35 r2))⟩
  rw [r35_36 r2, up2_ap, if_pos rfl, up1_s]
theorem st_set (s : Sim M) (hc : RunsW 37 kl as M (hxP (thr 1 M) 1 1)) (hm : Runs 36 km bs M (ansM 0 (up2 M 27 0 1))) : stH kl km as bs M := by
  refine ⟨_, hc, ?_⟩
  rintro r M1 ⟨⟨-, rfl⟩, rfl⟩
  refine ⟨1, _, rfl, hm, ?_⟩
  rintro r' M2 ⟨rfl, rfl⟩
  exact ⟨0, rfl, up2_th _ _, fun q => by omega, s.fs (fS_t 1)⟩
theorem lk_z {z : Int} : ∀ r M', lkP M z r M' → ∃ z, r = some (.inl z) := fun _ _ q => ⟨_, q.1⟩
theorem st_moves (s : Sim M) : stH k_Law_moves k_Model_moves [.inr 0, .inr 36] [.inr 27] M := by
  by_cases h4 : M 27 4 = 0
  · obtain ⟨F, H, K, p0, n, g⟩ := s.gme h4
    refine st_look s (w_moves M (c_moves g.1) lk_z) (fun M1 hf => ?_)
    have s1 := s.fs hf
    have g1 := g.fs hf
    have := d_moves_g M1 (plr p0 n) 900 g1.2.1 (plr_2 _ _) g1.2.2.1 (by omega) (simG_ps s1 g1)
    rw [simG_L s1 g1] at this
    have e : LC M1 (plr p0 n) = LC M (plr p0 n) := by show rl (M1 2) (M1 3) (M1 4) _ = _; rw [g1.1.2.2.1, g1.1.2.2.2.1, g1.1.2.2.2.2.1, ← g.1.2.2.1, ← g.1.2.2.2.1, ← g.1.2.2.2.2.1]
    rw [e] at this
    exact this
  · have hS := s.set h4
    exact st_set s (w_moves_1 M (x_moves_1 M hS.1) (fun _ _ q => q.1)) (d_moves_s M h4)
theorem LC_fs {F H K : Nat → Nat → Int} {p0 n p : Nat} (g : SimG M F H K p0 n) {M1 : am} (hf : fS M M1) : LC M1 p = LC M p := by
  have g1 := g.fs hf
  show rl (M1 2) (M1 3) (M1 4) _ = rl (M 2) (M 3) (M 4) _
  rw [g1.1.2.2.1, g1.1.2.2.2.1, g1.1.2.2.2.2.1, ← g.1.2.2.1, ← g.1.2.2.2.1, ← g.1.2.2.2.2.1]
theorem st_isLegal (s : Sim M) (a : Int) : stH k_Law_isLegal k_Model_isLegal [.inr 0, .inl a, .inr 36] [.inr 27, .inl a] M := by
  by_cases h4 : M 27 4 = 0
  · obtain ⟨F, H, K, p0, n, g⟩ := s.gme h4
    refine st_look s (w_isLegal M a (c_isLegal g.1 a) (fun r M' q => by rw [q.1]; rcases bi_01 (a ∈ LC M (plr p0 n)) with e | e <;> rw [e]; exact Or.inl rfl; exact Or.inr rfl)) (fun M1 hf => ?_)
    have s1 := s.fs hf
    have g1 := g.fs hf
    have := d_isLegal_g M1 a (plr p0 n) 900 g1.2.1 (plr_2 _ _) g1.2.2.1 (by omega) (simG_ps s1 g1)
    rw [simG_L s1 g1, LC_fs g hf] at this
    exact this
  · have hS := s.set h4
    exact st_set s (w_isLegal_1 M a (x_isLegal_1 M a hS.1) (fun _ _ q => q.1)) (d_isLegal_s M a h4)
theorem rsC_fs {F H K : Nat → Nat → Int} {p0 n : Nat} (s : Sim M) (g : SimG M F H K p0 n) {M1 : am} (hf : fS M M1) : rsN M1 n (plr p0 n) = rsC M n (plr p0 n) := by
  have s1 := s.fs hf
  have g1 := g.fs hf
  rw [sim_result s g]
  unfold rsN
  have e33 : M1 33 = M 33 := hf.2.2.2 33 (by omega) (by omega)
  have e34 : M1 34 = M 34 := hf.2.2.2 34 (by omega) (by omega)
  have eK : eqK M1 n = eqK M n := by unfold eqK; rw [e33]
  rw [simG_L s1 g1, LC_fs g hf, simG_L s g, eK, e34]
theorem st_result (s : Sim M) : stH k_Law_result k_Model_result [.inr 0, .inr 36] [.inr 27] M := by
  by_cases h4 : M 27 4 = 0
  · obtain ⟨F, H, K, p0, n, g⟩ := s.gme h4
    refine st_look s (w_result M (c_result g.1) lk_z) (fun M1 hf => ?_)
    have s1 := s.fs hf
    have g1 := g.fs hf
    have := d_result_g M1 n (plr p0 n) 900 g1.2.1 (plr_2 _ _) g1.2.2.1 g1.2.2.2.1 g1.1.2.1 (by omega) (simG_ps s1 g1) (eqK_n M1 n)
    rw [rsC_fs s g hf] at this
    exact this
  · have hS := s.set h4
    exact st_set s (w_result_1 M (x_result_1 M hS.1) (fun _ _ q => q.1)) (d_result_s M h4)
theorem st_times (s : Sim M) : stH k_Law_times k_Model_times [.inr 0, .inr 36] [.inr 27] M := by
  by_cases h4 : M 27 4 = 0
  · obtain ⟨F, H, K, p0, n, g⟩ := s.gme h4
    refine st_look s (w_times M (c_times g.1) lk_z) (fun M1 hf => ?_)
    have g1 := g.fs hf
    have := d_times_g M1 n g1.2.1 g1.2.2.2.1 g1.1.2.1
    have e33 : M1 33 = M 33 := hf.2.2.2 33 (by omega) (by omega)
    have eK : eqK M1 n = eqK M n := by unfold eqK; rw [e33]
    rw [eK, ← sim_times g] at this
    exact this
  · have hS := s.set h4
    exact st_set s (w_times_1 M (x_times_1 M hS.1) (fun _ _ q => q.1)) (d_times_s M h4)
theorem st_mate (s : Sim M) : stH k_Law_mate k_Model_mate [.inr 0, .inr 36] [.inr 27] M := by
  by_cases h4 : M 27 4 = 0
  · obtain ⟨F, H, K, p0, n, g⟩ := s.gme h4
    refine st_look s (w_mate M (c_mate g.1) lk_z) (fun M1 hf => ?_)
    have s1 := s.fs hf
    have g1 := g.fs hf
    have := d_mate_g M1 (plr p0 n) 900 g1.2.1 (plr_2 _ _) g1.2.2.1 (by omega) (simG_ps s1 g1)
    rw [simG_L s1 g1, LC_fs g hf] at this
    have e : ∀ L : List Int, (∀ x ∈ L, x ∈ LC M (plr p0 n)) → fstM (mtQ M1 (plr p0 n)) L = fstM (qm (M 2) (M 3) (M 4) (plr p0 n)) L := by
      intro L
      induction L with
      | nil => intro _; rfl
      | cons x L ih =>
        intro hL
        have hi := ih (fun y hy => hL y (List.mem_cons_of_mem _ hy))
        have hq : mtQ M1 (plr p0 n) x ↔ qm (M 2) (M 3) (M 4) (plr p0 n) x := by
          obtain ⟨fr, to, pr, a1, a2, a3, a4, rfl⟩ := rl_mem.mp (hL x List.mem_cons_self)
          have b2 : agr 81 (M 2) (M1 28) := by rw [hf.2.2.2 28 (by omega) (by omega)]; exact s.1
          have b3 : agr 16 (M 3) (M1 29) := by rw [hf.2.2.2 29 (by omega) (by omega)]; exact s.2.1
          have b4 : agr 2 (M 4) (M1 30) := by rw [hf.2.2.2 30 (by omega) (by omega)]; exact g.2.2.2.2.1
          have h81 := imv_81 a4.1
          refine (qm_mv a1 a2).trans (Iff.trans ?_ (qm_mv a1 a2).symm)
          unfold qm1 rep1
          have hp2 := plr_2 p0 n
          rw [← mkK_agr h81 b2 b4 (1 - plr p0 n) (by omega), ← att_agr (mkS_agr h81 b2), rl_agr (show 1 - plr p0 n < 2 by omega) (mkS_agr h81 b2) (mkH_agr a2 b2 b3) (mkK_agr h81 b2 b4)]
        by_cases hx : mtQ M1 (plr p0 n) x
        · rw [fstM_t hx, fstM_t (hq.mp hx)]
        · rw [fstM_f hx, fstM_f (fun w => hx (hq.mpr w)), hi]
    rw [e _ (fun x hx => hx)] at this
    exact this
  · have hS := s.set h4
    exact st_set s (w_mate_1 M (x_mate_1 M hS.1) (fun _ _ q => q.1)) (d_mate_s M h4)
theorem smN_cg {N N' : Int → Nat} : ∀ L : List Int, (∀ x ∈ L, N x = N' x) → smN N L = smN N' L := by
  intro L
  induction L with
  | nil => intro _; rfl
  | cons x L ih =>
    intro h
    show N x + smN N L = N' x + smN N' L
    rw [h x List.mem_cons_self, ih (fun y hy => h y (List.mem_cons_of_mem _ hy))]
theorem st_count (s : Sim M) (a : Int) : stH k_Law_count k_Model_count [.inr 0, .inl a, .inr 36] [.inr 27, .inl a] M := by
  by_cases h4 : M 27 4 = 0
  · obtain ⟨F, H, K, p0, n, g⟩ := s.gme h4
    by_cases ha : 0 ≤ a ∧ a ≤ 2
    · refine st_look s (w_count M a (c_count g.1 a ha) lk_z) (fun M1 hf => ?_)
      have s1 := s.fs hf
      have g1 := g.fs hf
      have := d_count_g M1 a (plr p0 n) 900 g1.2.1 ha (plr_2 _ _) g1.2.2.1 (by omega) (simG_ps s1 g1)
      have e : cnV M1 (plr p0 n) a = cnC M (plr p0 n) a := by
        unfold cnV cnC
        rw [simG_L s1 g1, LC_fs g hf]
        rw [smN_cg (LC M (plr p0 n)) (fun x hx => ?_)]
        obtain ⟨fr, to, pr, a1, a2, a3, a4, rfl⟩ := rl_mem.mp hx
        have b2 : agr 81 (M 2) (M1 28) := by rw [hf.2.2.2 28 (by omega) (by omega)]; exact s.1
        have b3 : agr 16 (M 3) (M1 29) := by rw [hf.2.2.2 29 (by omega) (by omega)]; exact s.2.1
        have b4 : agr 2 (M 4) (M1 30) := by rw [hf.2.2.2 30 (by omega) (by omega)]; exact g.2.2.2.2.1
        have h81 := imv_81 a4.1
        rw [show tdN M1 (plr p0 n) (mvN fr to pr) = (rep1 (M1 28) (M1 29) (M1 30) (plr p0 n) fr to pr).length from nN_mv a1 a2, nN_mv a1 a2]
        unfold rep1
        have hp2 := plr_2 p0 n
        rw [rl_agr (show 1 - plr p0 n < 2 by omega) (mkS_agr h81 b2) (mkH_agr a2 b2 b3) (mkK_agr h81 b2 b4)]
      rw [e] at this
      exact this
    · refine ⟨_, w_count_3 M a (x_count_3 g.1 a ha) (fun _ _ q => q.1), ?_⟩
      rintro r M1 ⟨⟨-, rfl⟩, rfl⟩
      refine ⟨2, _, rfl, d_count_n M1 a h4 ha, ?_⟩
      rintro r' M2 ⟨rfl, rfl⟩
      exact ⟨0, rfl, up2_th _ _, fun q => by omega, s.fs (fS_t 2)⟩
  · have hS := s.set h4
    exact st_set s (w_count_1 M a (x_count_1 M a hS.1) (fun _ _ q => q.1)) (d_count_s M a h4)
theorem st_move (s : Sim M) (a : Int) : stH k_Law_move k_Model_move [.inr 0, .inl a, .inr 36] [.inr 27, .inl a] M := by
  by_cases h4 : M 27 4 = 0
  · obtain ⟨F, H, K, p0, n, g⟩ := s.gme h4
    by_cases ha : 0 ≤ a ∧ a < (LC M (plr p0 n)).length
    · refine ⟨_, w_move M a (c_move g.1 a ha) lk_z, ?_⟩
      rintro r M1 ⟨z', M0, ⟨e1, hf⟩, rfl, rfl⟩
      injection e1 with e1
      injection e1 with e1
      subst e1
      have hfs : fS M (up2 M0 36 0 ((LC M (plr p0 n)).getD a.toNat (-1))) := (fS_fK hf).tr (fS_36 _)
      generalize hM1 : up2 M0 36 0 ((LC M (plr p0 n)).getD a.toNat (-1)) = M1 at hfs ⊢
      have s1 := s.fs hfs
      have g1 := g.fs hfs
      have := d_move_g M1 a (plr p0 n) 900 g1.2.1 (plr_2 _ _) g1.2.2.1 (by omega) (simG_ps s1 g1)
      rw [simG_L s1 g1, LC_fs g hfs] at this
      refine ⟨0, _, rfl, this, ?_⟩
      rintro r' M2 (⟨q, -⟩ | ⟨-, rfl, r2⟩)
      · exact absurd ha q
      · refine ⟨_, rfl, r35_th0 r2, fun _ => ?_, s.fs (hfs.tr (fS_r35 r2))⟩
        rw [r35_36 r2, ← hM1, up2_ap, if_pos rfl, up1_s]
    · refine ⟨_, w_move_2 M a (x_move_2 g.1 a ha) (fun _ _ q => q.1), ?_⟩
      rintro r M1 ⟨⟨-, hf⟩, rfl⟩
      have hfs := fS_fK hf
      have s1 := s.fs hfs
      have g1 := g.fs hfs
      have := d_move_g M1 a (plr p0 n) 900 g1.2.1 (plr_2 _ _) g1.2.2.1 (by omega) (simG_ps s1 g1)
      rw [simG_L s1 g1, LC_fs g hfs] at this
      refine ⟨2, _, rfl, this, ?_⟩
      rintro r' M2 (⟨-, rfl, r2⟩ | ⟨q, -⟩)
      · exact ⟨0, rfl, r35_th0 r2, fun q => by omega, s.fs (hfs.tr (fS_r35 r2))⟩
      · exact absurd q ha
  · have hS := s.set h4
    exact st_set s (w_move_1 M a (x_move_1 M a hS.1) (fun _ _ q => q.1)) (d_move_s M a h4)
end LG
