/-! the law's steps: play, back; the calls that are compared at once -/
section LP
variable {M : am}
theorem st_play (s : Sim M) (a : Int) : stH k_Law_play k_Model_play [.inr 0, .inl a, .inr 36] [.inr 27, .inl a] M := by
  by_cases h4 : M 27 4 = 0
  · obtain ⟨F, H, K, p0, n, g⟩ := s.gme h4
    have hp2 := plr_2 p0 n
    have hmod : ∀ M1, fS M M1 → Runs 36 k_Model_play [.inr 27, .inl a] M1 (plP M1 n (plr p0 n) a) := fun M1 hf => by
      have s1 := s.fs hf
      have g1 := g.fs hf
      exact d_play_g M1 a n (plr p0 n) g1.2.1 hp2 g1.1.2.1 g1.2.2.1 g1.2.2.2.1 (simG_ps s1 g1) (hdg_agr s1.1 s1.2.1 g1.1.pok.2.2) (eqK_n M1 n)
    have hcl : ∀ M1, fS M M1 → (clsd M1 n (plr p0 n) ↔ clC M n (plr p0 n)) := fun M1 hf => by unfold clsd clC; rw [rsC_fs s g hf]
    have hLL : ∀ M1, fS M M1 → LM M1 (plr p0 n) = LC M (plr p0 n) := fun M1 hf => by rw [simG_L (s.fs hf) (g.fs hf), LC_fs g hf]
    by_cases hc : clC M n (plr p0 n)
    · refine ⟨_, w_play_1 M a (x_play_1b g.1 a hc) (fun _ _ q => q.1), ?_⟩
      rintro r M1 ⟨⟨-, hf⟩, rfl⟩
      have hfs := fS_fK hf
      refine ⟨1, _, rfl, hmod M1 hfs, ?_⟩
      rintro r' M2 (⟨-, rfl, r2⟩ | ⟨q, -⟩ | ⟨q, -⟩)
      · exact ⟨0, rfl, r35_th0 r2, fun q => by omega, s.fs (hfs.tr (fS_r35 r2))⟩
      · exact absurd ((hcl M1 hfs).mpr hc) q
      · exact absurd ((hcl M1 hfs).mpr hc) q
    · by_cases hx : a ∈ LC M (plr p0 n)
      · obtain ⟨fr, to, pr, x1, x2, x3, x4, rfl⟩ := rl_mem.mp hx
        refine ⟨_, w_play M _ (c_play g.1 fr to pr hc x1 x2 x3 x4) (fun _ _ q => ⟨_, q.1⟩), ?_⟩
        rintro r M1 ⟨z', M0, hq, rfl, rfl⟩
        have hz : z' = mkT (M 2) fr to := by
          have := hq.1
          injection this with this
          injection this
        have hn150 : n < 150 := by
          by_cases e : n = 150
          · exact absurd (Or.inl e) hc
          · have := g.1.2.1; omega
        have hM0 : ∀ q, 27 ≤ q → M0 q = M q := hq.2.2.2.2.2.2.2.2.2
        have eM : ∀ q, 27 ≤ q → q ≤ 35 → up2 M0 36 0 z' q = M q := fun q q1 q2 => by rw [up36 _ _ (by omega), hM0 q q1]
        have e27 := eM 27 (by omega) (by omega)
        have e28 := eM 28 (by omega) (by omega)
        have e29 := eM 29 (by omega) (by omega)
        have e30 := eM 30 (by omega) (by omega)
        have e31 := eM 31 (by omega) (by omega)
        have e32 := eM 32 (by omega) (by omega)
        have e33 := eM 33 (by omega) (by omega)
        have e34 := eM 34 (by omega) (by omega)
        have hE : eqK (up2 M0 36 0 z') n = eqK M n := by unfold eqK; rw [e33]
        have hLM : LM (up2 M0 36 0 z') (plr p0 n) = LM M (plr p0 n) := by show rl _ _ _ _ = rl _ _ _ _; rw [e28, e29, e30]
        have hrs : rsN (up2 M0 36 0 z') n (plr p0 n) = rsN M n (plr p0 n) := by unfold rsN; rw [hE, hLM, e34]
        have hncl : ¬ clsd (up2 M0 36 0 z') n (plr p0 n) := by
          unfold clsd
          rw [hrs, ← sim_result s g]
          exact hc
        have hpl := d_play_g (up2 M0 36 0 z') (mvN fr to pr) n (plr p0 n) (by rw [e27]; exact g.2.1) hp2 g.1.2.1 (by rw [e27]; exact g.2.2.1) (by rw [e27]; exact g.2.2.2.1) (by rw [e28, e29, e30]; exact simG_ps s g) (by rw [e28, e29]; exact hdg_agr s.1 s.2.1 g.1.pok.2.2) (by rw [hE]; exact eqK_n M n)
        refine ⟨0, _, rfl, hpl, ?_⟩
        rintro r' M2 (⟨q, -⟩ | ⟨-, q, -⟩ | ⟨-, fr', to', pr', y1, y2, y3, y4, y5, rfl, m28, m29, m30, m27, m31, m32, m33, m33', m34, mf⟩)
        · exact absurd q hncl
        · rw [hLM, simG_L s g] at q
          exact absurd hx q
        · have hfe : fr' = fr ∧ to' = to ∧ pr' = pr := by unfold mvN at y4; omega
          obtain ⟨rfl, rfl, rfl⟩ := hfe
          rw [e28] at m28 m29 m30 m32
          rw [e29] at m29
          rw [e30] at m30
          rw [e27] at m27
          rw [e31] at m31
          rw [e32] at m32
          rw [e34] at m34
          have hkd : kd (M 28 to') = mkT (M 2) fr' to' := by
            rw [← s.1 to' x2]
            unfold mkT
            split
            · next hd =>
              have hmv := alw_mvg hp2 g.1.pok.1.2.1 x1 x2 x3 x4
              rw [(hmv.hdr hd).1]; rfl
            · rfl
          refine ⟨_, rfl, by rw [m27, up1_n (by decide), up1_n (by decide), up1_s], fun _ => ?_, ?_⟩
          · rw [e28, mf 36 (by omega), up2_ap, if_pos rfl, up1_s, hz, hkd]
          · refine sim_play s g hn150 x1 x2 x3 x4 (M1 := M0) (r := some (.inl z')) hq (fun q q1 q2 => hM0 q q1) m28 m29 m30 m27 m31 m32 (fun j hj => by rw [m33 j hj, e33]) m33' m34 ?_
            · intro q hq27
              rw [mf q (Or.inl hq27), up36 _ _ (by omega)]
      · refine ⟨_, w_play_3 M a (x_play_3 g.1 a hc hx) (fun _ _ q => q.1), ?_⟩
        rintro r M1 ⟨⟨-, hf⟩, rfl⟩
        have hfs := fS_fK hf
        refine ⟨2, _, rfl, hmod M1 hfs, ?_⟩
        rintro r' M2 (⟨q, -⟩ | ⟨-, -, rfl, r2⟩ | ⟨-, fr, to, pr, x1, x2, x3, x4, x5, -⟩)
        · exact absurd ((hcl M1 hfs).mp q) hc
        · exact ⟨0, rfl, r35_th0 r2, fun q => by omega, s.fs (hfs.tr (fS_r35 r2))⟩
        · exfalso
          apply hx
          rw [← hLL M1 hfs]
          exact rl_mem.mpr ⟨fr, to, pr, x1, x2, x3, x5, x4⟩
  · have hS := s.set h4
    exact st_set s (w_play_1 M a (x_play_1 M a hS.1) (fun _ _ q => q.1)) (d_play_s M a h4)
theorem st_back (s : Sim M) : stH k_Law_back k_Model_back [.inr 0, .inr 36] [.inr 27] M := by
  by_cases h4 : M 27 4 = 0
  · obtain ⟨F, H, K, p0, n, g⟩ := s.gme h4
    cases n with
    | zero =>
      refine ⟨_, w_back_4 M (x_back_4 g.1) (fun _ _ q => q.1), ?_⟩
      rintro r M1 ⟨⟨-, rfl⟩, rfl⟩
      refine ⟨2, _, rfl, d_back_n M1 h4 g.2.2.2.1, ?_⟩
      rintro r' M2 ⟨rfl, rfl⟩
      exact ⟨0, rfl, up2_th _ _, fun q => by omega, s.fs (fS_t 2)⟩
    | succ n =>
      have hp2 := plr_2 p0 n
      refine ⟨_, w_back M (c_back g.1) (fun _ _ q => ⟨_, q.1⟩), ?_⟩
      rintro r M1 ⟨z', M0, ⟨e1, c2, c3, c4, c0, c15, c16, c17, c18, cf⟩, rfl, rfl⟩
      have hz : z' = M 16 n := by
        injection e1 with e1
        injection e1
      have eM : ∀ q, 27 ≤ q → q ≤ 35 → up2 M0 36 0 z' q = M q := fun q q1 q2 => by rw [up36 _ _ (by omega), cf q q1]
      have hgm := g.1.1.2.2 n (by omega)
      have hmv := gam_mvg g.1.1 (show n < n + 1 by omega)
      have hmN := hgm.1.1
      unfold gmk at hgm
      have hb := gam_pok g.1.1 n (by omega)
      have e2 := g.1.2.2.1
      have e3 := g.1.2.2.2.1
      have e4 := g.1.2.2.2.2.1
      obtain ⟨f, h, k, u1, u2, u3, u4, u5, u6, u7, u8⟩ := un_all (h0 := H n) (g := M 28) (hm := M 29) (kg := M 30) hp2 hmv hb.1.1 (by rw [← hgm.2.2.1, ← e2]; exact s.1) (by rw [← hgm.2.2.2.1, ← e3]; exact s.2.1) (by rw [← hgm.2.2.2.2, ← e4]; exact g.2.2.2.2.1)
      have hq : plr p0 n = 1 - plr p0 (n + 1) := by rw [plr_s]; omega
      have hpr := plr_2 p0 (n + 1)
      have hbk := d_back_g (up2 M0 36 0 z') n (plr p0 (n + 1)) (mFr (M 16 n)) (mTo (M 16 n)) (mPr (M 16 n)) f h k (by rw [eM 27 (by omega) (by omega)]; exact h4) hpr (by have := g.1.2.1; omega) (by rw [eM 27 (by omega) (by omega)]; exact g.2.2.1) (by rw [eM 27 (by omega) (by omega), g.2.2.2.1]; omega) (by rw [← hq]; exact u7) (sqok_agr u4 hb.1.1) (by
        rw [← hq, u2]
        intro i hi
        have := hdg_le g.1.pok.2.2 hi
        rw [s.2.1 i hi] at this
        omega) (by rw [eM 28 (by omega) (by omega), ← hq]; exact u1.symm) (by rw [eM 29 (by omega) (by omega), ← hq]; exact u2.symm) (by rw [eM 30 (by omega) (by omega), ← hq]; exact u3.symm) (by rw [eM 31 (by omega) (by omega), g.2.2.2.2.2.1 n (by omega)]; exact hmN) (by rw [eM 32 (by omega) (by omega), g.2.2.2.2.2.2.1 n (by omega)]; exact u8.symm)
      refine ⟨0, _, rfl, hbk, ?_⟩
      rintro r' M2 ⟨rfl, m28, m29, m30, m27, mf⟩
      have mc : ∀ q, q < 27 → M2 q = M0 q := fun q hq => by rw [mf q (by omega) (by omega) (by omega) (by omega) (by omega), up36 _ _ (by omega)]
      rw [eM 27 (by omega) (by omega)] at m27
      refine ⟨_, rfl, by rw [m27, up1_n (by decide), up1_n (by decide), up1_s], fun _ => ?_, ?_⟩
      · rw [mf 36 (by omega) (by omega) (by omega) (by omega) (by omega), up2_ap, if_pos rfl, up1_s, hz]
        exact hmN
      · refine sim_back s g (by rw [mc 2 (by omega)]; exact c2) (by rw [mc 3 (by omega)]; exact c3) (by rw [mc 4 (by omega)]; exact c4) (by rw [mc 0 (by omega)]; exact c0) (by rw [mc 15 (by omega)]; exact c15) (by rw [mc 16 (by omega)]; exact c16) (by rw [mc 17 (by omega)]; exact c17) (by rw [mc 18 (by omega)]; exact c18) u4 u5 u6 m28 m29 m30 m27 ?_ ?_ ?_ ?_
        · rw [mf 31 (by omega) (by omega) (by omega) (by omega) (by omega), eM 31 (by omega) (by omega)]
        · rw [mf 32 (by omega) (by omega) (by omega) (by omega) (by omega), eM 32 (by omega) (by omega)]
        · rw [mf 33 (by omega) (by omega) (by omega) (by omega) (by omega), eM 33 (by omega) (by omega)]
        · rw [mf 34 (by omega) (by omega) (by omega) (by omega) (by omega), eM 34 (by omega) (by omega)]
  · have hS := s.set h4
    exact st_set s (w_back_1 M (x_back_1 M hS.1) (fun _ _ q => q.1)) (d_back_s M h4)
theorem st_hand (s : Sim M) (a b : Int) : stC2 k_DP_hand k_Model_hand [.inr 0, .inl a, .inl b] [.inr 27, .inl a, .inl b] M := by
  refine ⟨_, c_hand M a b, _, ?_, s.fs (fS_t 0)⟩
  have e : hndV (M 3) a b = hndV (M 29) a b := by
    unfold hndV
    by_cases h : (a = 0 ∨ a = 1) ∧ 1 ≤ b ∧ b ≤ 7
    · rw [if_pos h, if_pos h, s.2.1 _ (by omega)]
    · rw [if_neg h, if_neg h]
  rw [e]
  exact d_hand M a b
theorem st_player (s : Sim M) : stC2 k_DP_player k_Model_player [.inr 0] [.inr 27] M := by
  refine ⟨_, c_player M, _, ?_, s.fs (fS_t 0)⟩
  have e : M 0 5 = if M 27 4 = 0 then M 27 5 else -1 := by
    by_cases h4 : M 27 4 = 0
    · obtain ⟨F, H, K, p0, n, g⟩ := s.gme h4
      rw [if_pos h4, g.2.2.1, g.1.2.2.2.2.2.1]
    · rw [if_neg h4]; exact (s.set h4).1
  rw [e]
  exact d_player M
theorem st_made (s : Sim M) : stC2 k_DP_made k_Model_made [.inr 0] [.inr 27] M := by
  refine ⟨_, c_made M, _, ?_, s.fs (fS_t 0)⟩
  have e : M 15 5 = if M 27 4 = 0 then M 27 6 else 0 := by
    by_cases h4 : M 27 4 = 0
    · obtain ⟨F, H, K, p0, n, g⟩ := s.gme h4
      rw [if_pos h4, g.2.2.2.1, g.1.2.2.2.2.2.2.1]
    · rw [if_neg h4]; exact (s.set h4).2.2.1
  rw [e]
  exact d_made M
theorem st_reaches (s : Sim M) (a b : Int) : stC2 k_DP_reaches k_Model_reaches [.inr 0, .inl a, .inl b] [.inr 27, .inl a, .inl b] M := by
  refine ⟨_, c_reaches M a b s.sq.1, _, ?_, s.fs (fS_t 0)⟩
  rw [bi_c (show ((a = 0 ∨ a = 1) ∧ (0 ≤ b ∧ b < 81) ∧ att (M 2) a b) ↔ ((a = 0 ∨ a = 1) ∧ (0 ≤ b ∧ b < 81) ∧ att (M 28) a b) by rw [att_agr s.1])]
  exact d_reaches M a b s.sq28.1 s.sq28.2
theorem st_inCheck (s : Sim M) (a : Int) : stC2 k_DP_inCheck k_Model_inCheck [.inr 0, .inl a] [.inr 27, .inl a] M := by
  refine ⟨_, c_inCheck M a s.sq.1 (fun _ => s.2.2.1), _, ?_, s.fs (fS_t 0)⟩
  have e : (M 0 5 ≠ -1 ∧ (a = 0 ∨ a = 1) ∧ att (M 2) (1 - a) (M 4 a.toNat)) ↔ ((a = 0 ∨ a = 1) ∧ M 27 4 = 0 ∧ att (M 28) (1 - a) (M 30 a.toNat)) := by
    by_cases h4 : M 27 4 = 0
    · obtain ⟨F, H, K, p0, n, g⟩ := s.gme h4
      have h0 := g.1.tm
      constructor
      · rintro ⟨-, q1, q2⟩
        refine ⟨q1, h4, ?_⟩
        rw [← g.2.2.2.2.1 a.toNat (by omega), ← att_agr s.1]
        exact q2
      · rintro ⟨q1, -, q2⟩
        refine ⟨h0, q1, ?_⟩
        rw [g.2.2.2.2.1 a.toNat (by omega), att_agr s.1]
        exact q2
    · exact ⟨fun q => absurd (s.set h4).1 q.1, fun q => absurd q.2.1 h4⟩
  rw [bi_c e]
  exact d_inCheck M a (fun _ => ⟨s.sq28.1, s.sq28.2, s.2.2.2.1⟩)
end LP
