/-! the law's steps -/
def stH (kl km : Nat) (as bs : List (Int ⊕ Nat)) (M : am) : Prop := ∃ Ph, RunsW 37 kl as M Ph ∧ ∀ r M1, Ph r M1 → ∃ kc Pm, r = some (.inl kc) ∧ Runs 36 km bs M1 Pm ∧ ∀ r' M2, Pm r' M2 → ∃ z, r' = some (.inl z) ∧ M2 27 0 = kc ∧ (kc = 0 → M2 36 0 = z) ∧ Sim M2
def stV (kl km : Nat) (as bs : List (Int ⊕ Nat)) (M : am) : Prop := ∃ Ph, RunsW 37 kl as M Ph ∧ ∀ r M1, Ph r M1 → ∃ kc Pm, r = some (.inl kc) ∧ Runs 36 km bs M1 Pm ∧ ∀ r' M2, Pm r' M2 → r' = none ∧ M2 27 0 = kc ∧ Sim M2
def stC2 (kl km : Nat) (as bs : List (Int ⊕ Nat)) (M : am) : Prop := ∃ z, Runs 27 kl as M (ans z M) ∧ ∃ M2, Runs 36 km bs M (ansM z M2) ∧ Sim M2
section LS
variable {M : am}
theorem valid_vok {v : Int} : valid v ↔ vok v := by unfold valid vok kd; split <;> omega
theorem Sim.sq (s : Sim M) : sqok (M 2) ∧ no13 (M 2) := by
  rcases s.2.2.2.2 with h | ⟨F, H, K, p0, n, g⟩
  · exact ⟨h.2.2.2.1, h.2.2.2.2.1⟩
  · exact ⟨g.1.pok.1.1, g.1.pok.2.1⟩
theorem Sim.sq28 (s : Sim M) : sqok (M 28) ∧ no13 (M 28) := ⟨sqok_agr s.1 s.sq.1, no13_agr s.1 s.sq.2⟩
theorem Sim.set (s : Sim M) (h : ¬ M 27 4 = 0) : SimS M := by
  rcases s.2.2.2.2 with h1 | ⟨F, H, K, p0, n, g⟩
  · exact h1
  · exact absurd g.2.1 h
theorem Sim.gme (s : Sim M) (h : M 27 4 = 0) : ∃ F H K p0 n, SimG M F H K p0 n := by
  rcases s.2.2.2.2 with h1 | h1
  · exact absurd h h1.2.1
  · exact h1
theorem up2_th (M : am) (t : Int) : up2 M 27 0 t 27 0 = t := by rw [up2_ap, if_pos rfl, up1_s]
theorem r35_th0 {M1 : am} {t : Int} (h : r35 0 (up2 M 27 0 t) M1) : M1 27 0 = t := by rw [h.1 27 (by decide), up2_th]
theorem r35_36 {M1 : am} {t : Int} (h : r35 0 (up2 M 27 0 t) M1) : M1 36 = M 36 := by rw [h.1 36 (by decide), up2_ap, if_neg (by decide)]
theorem up36 (M : am) (z : Int) {a : Nat} (h : a ≠ 36) : up2 M 36 0 z a = M a := by rw [up2_ap, if_neg h]
theorem up2_com {M : am} {a b i j : Nat} {v w : Int} (h : a ≠ b) : up2 (up2 M a i v) b j w = up2 (up2 M b j w) a i v := by
  funext c k
  unfold up2
  by_cases h1 : c = a
  · subst h1
    simp [h]
  · simp [h1]
theorem st_put (s : Sim M) (a b : Int) : stH k_Law_put k_Model_put [.inr 0, .inl a, .inl b, .inr 36] [.inr 27, .inl a, .inl b] M := by
  by_cases h4 : M 27 4 = 0
  · obtain ⟨F, H, K, p0, n, g⟩ := s.gme h4
    refine ⟨_, w_put_1 M a b (x_put_1 M a b g.1.tm) (fun r M' q => q.1), ?_⟩
    rintro r M1 ⟨⟨-, rfl⟩, rfl⟩
    refine ⟨1, _, rfl, d_put _ a b, ?_⟩
    have ht : ptT M1 a b = 1 := by unfold ptT; rw [if_pos h4]
    rw [ht]
    rintro r' M2 (⟨-, rfl, rfl⟩ | ⟨q, -⟩)
    · exact ⟨0, rfl, up2_th _ _, fun q => by omega, s.fs (fS_t 1)⟩
    · omega
  · have hS := s.set h4
    by_cases ha : 0 ≤ a ∧ a < 81
    · by_cases hb : vok b
      · refine ⟨_, w_put M a b (c_put M a b hS.1 ha hb) (fun r M' q => ⟨_, q.1⟩), ?_⟩
        rintro r M1 ⟨z, M0, ⟨e1, rfl⟩, rfl, rfl⟩
        injection e1 with e1
        injection e1 with e1
        subst e1
        refine ⟨0, _, rfl, d_put _ a b, ?_⟩
        have ht : ptT (up2 (up2 M 2 a.toNat b) 36 0 (M 2 a.toNat)) a b = 0 := by
          unfold ptT
          rw [up36 _ _ (show 27 ≠ 36 by decide), up2_ap, if_neg (show ¬ 27 = 2 by decide), if_neg h4, pcI_t ha, pcI_t (valid_vok.mpr hb)]
        rw [ht]
        rintro r' M2 (⟨q, -⟩ | ⟨-, -, -, rfl, rfl⟩)
        · exact absurd rfl q
        · refine ⟨_, rfl, ?_, fun _ => ?_, ?_⟩
          · rw [up2_ap, if_neg (by decide), up2_th]
          · rw [up2_ap, if_neg (by decide), up2_ap, if_neg (by decide), up2_ap, if_pos rfl, up1_s, up36 _ _ (by decide), up2_ap, if_neg (by decide)]
            exact s.1 _ (by omega)
          · rw [up2_com (show 27 ≠ 28 by decide), up2_com (show 36 ≠ 28 by decide)]
            exact ((sim_put s hS ha hb).fs (fS_36 _)).fs (fS_t 0)
      · refine ⟨_, w_put_3 M a b (x_put_3 M a b hS.1 ha hb) (fun r M' q => q.1), ?_⟩
        rintro r M1 ⟨⟨-, rfl⟩, rfl⟩
        refine ⟨3, _, rfl, d_put _ a b, ?_⟩
        have ht : ptT M1 a b = 3 := by unfold ptT; rw [if_neg h4, pcI_t ha, pcI_f (fun q => hb (valid_vok.mp q))]
        rw [ht]
        rintro r' M2 (⟨-, rfl, rfl⟩ | ⟨q, -⟩)
        · exact ⟨0, rfl, up2_th _ _, fun q => by omega, s.fs (fS_t 3)⟩
        · omega
    · refine ⟨_, w_put_2 M a b (x_put_2 M a b hS.1 ha) (fun r M' q => q.1), ?_⟩
      rintro r M1 ⟨⟨-, rfl⟩, rfl⟩
      refine ⟨2, _, rfl, d_put _ a b, ?_⟩
      have ht : ptT M1 a b = 2 := by unfold ptT; rw [if_neg h4, pcI_f ha]
      rw [ht]
      rintro r' M2 (⟨-, rfl, rfl⟩ | ⟨q, -⟩)
      · exact ⟨0, rfl, up2_th _ _, fun q => by omega, s.fs (fS_t 2)⟩
      · omega
theorem st_give (s : Sim M) (a b c : Int) : stV k_Law_give k_Model_give [.inr 0, .inl a, .inl b, .inl c] [.inr 27, .inl a, .inl b, .inl c] M := by
  by_cases h4 : M 27 4 = 0
  · obtain ⟨F, H, K, p0, n, g⟩ := s.gme h4
    refine ⟨_, w_give_1 M a b c (x_give_1 M a b c g.1.tm) (fun r M' q => q.1), ?_⟩
    rintro r M1 ⟨⟨-, rfl⟩, rfl⟩
    refine ⟨1, _, rfl, d_give _ a b c, ?_⟩
    have ht : gvT M1 a b c = 1 := by unfold gvT; rw [if_pos h4]
    rw [ht]
    rintro r' M2 ⟨rfl, ⟨-, rfl⟩ | ⟨q, -⟩⟩
    · exact ⟨rfl, up2_th _ _, s.fs (fS_t 1)⟩
    · omega
  · have hS := s.set h4
    by_cases ha : okg a b c
    · refine ⟨_, w_give M a b c (c_give M a b c hS.1 ha) (fun r M' q => q.1), ?_⟩
      rintro r M1 ⟨⟨-, rfl⟩, rfl⟩
      refine ⟨0, _, rfl, d_give _ a b c, ?_⟩
      have ht : gvT (up2 M 3 (8 * a + b).toNat c) a b c = 0 := by unfold gvT; rw [up2_ap, if_neg (show ¬ 27 = 3 by decide), if_neg h4, pcI_t ha]
      rw [ht]
      rintro r' M2 ⟨rfl, ⟨q, -⟩ | ⟨-, -, rfl⟩⟩
      · exact absurd rfl q
      · refine ⟨rfl, by rw [up2_ap, if_neg (by decide), up2_th], ?_⟩
        rw [up2_com (show 27 ≠ 29 by decide)]
        exact (sim_give s hS ha).fs (fS_t 0)
    · refine ⟨_, w_give_3 M a b c (x_give_3 M a b c hS.1 ha) (fun r M' q => q.1), ?_⟩
      rintro r M1 ⟨⟨-, rfl⟩, rfl⟩
      refine ⟨2, _, rfl, d_give _ a b c, ?_⟩
      have ht : gvT M1 a b c = 2 := by unfold gvT; rw [if_neg h4, pcI_f ha]
      rw [ht]
      rintro r' M2 ⟨rfl, ⟨-, rfl⟩ | ⟨q, -⟩⟩
      · exact ⟨rfl, up2_th _ _, s.fs (fS_t 2)⟩
      · omega
theorem hands117 (hS : SimS M) : ∀ i, i < 16 → 0 ≤ M 3 i ∧ M 3 i ≤ 117 := fun i hi => by have := hS.2.2.2.2.2.1 i hi; omega
theorem st_start (s : Sim M) (a : Int) : stV k_Law_start k_Model_start [.inr 0, .inl a] [.inr 27, .inl a] M := by
  by_cases h4 : M 27 4 = 0
  · obtain ⟨F, H, K, p0, n, g⟩ := s.gme h4
    refine ⟨_, w_start_1 M a (x_start_1 M a g.1.tm) (fun r M' q => q.1), ?_⟩
    rintro r M1 ⟨⟨-, rfl⟩, rfl⟩
    refine ⟨1, _, rfl, d_start _ a (fun q => absurd h4 q), ?_⟩
    rintro r' M2 ⟨rfl, ⟨-, rfl⟩ | ⟨q, -⟩ | ⟨q, -⟩⟩
    · exact ⟨rfl, up2_th _ _, s.fs (fS_t 1)⟩
    · exact absurd h4 q
    · exact absurd h4 q
  · have hS := s.set h4
    have hreq : ∀ M1 : am, (∀ q, q ≠ 0 → q ≠ 4 → M1 q = M q) → ¬ M1 27 4 = 0 → sqok (M1 28) ∧ no13 (M1 28) ∧ kgok (M1 30) ∧ ∀ i, i < 16 → 0 ≤ M1 29 i ∧ M1 29 i ≤ 117 := by
      intro M1 h1 _
      rw [h1 28 (by decide) (by decide), h1 29 (by decide) (by decide), h1 30 (by decide) (by decide)]
      exact ⟨s.sq28.1, s.sq28.2, s.2.2.2.1, fun i hi => by rw [← s.2.1 i hi]; exact hands117 hS i hi⟩
    by_cases hst : ∃ p : Nat, p < 2 ∧ a = p ∧ stC M p
    · obtain ⟨p, hp, rfl, hst⟩ := hst
      refine ⟨_, w_start M p (c_start M p hS.1 s.sq.1 s.2.2.1 hp hst) (fun r M' q => q.1), ?_⟩
      rintro r M1 ⟨⟨-, h1⟩, rfl⟩
      have e : ∀ q, q ≠ 0 → q ≠ 4 → M1 q = M q := fun q q1 q2 => by rw [h1, up2_ap, if_neg q1, so_n q2]
      refine ⟨0, _, rfl, d_start M1 p (hreq M1 e), ?_⟩
      have hG : stG M1 p := (st_iff hp (by rw [e 28 (by decide) (by decide)]; exact s.1)).mp hst
      have h4' : ¬ M1 27 4 = 0 := by rw [e 27 (by decide) (by decide)]; exact h4
      rintro r' M2 ⟨rfl, ⟨q, -⟩ | ⟨-, q, -⟩ | ⟨-, p', hp', e', -, m0, m4, m5, m6, mk, m28, m29, m33, mf⟩⟩
      · exact absurd q h4'
      · exact absurd ⟨p, hp, rfl, hG⟩ q
      · have : p' = p := by omega
        subst this
        exact ⟨rfl, m0, sim_start s hS hp hst (fun q _ => by rw [h1]) m4 m5 m6 mk m28 m29 m33 mf⟩
    · refine ⟨_, w_start_3 M a (x_start_3 M a hS.1 s.sq.1 s.2.2.1 hst) (fun r M' q => q.1), ?_⟩
      rintro r M1 ⟨⟨-, h1⟩, rfl⟩
      have e : ∀ q, q ≠ 4 → M1 q = M q := fun q q2 => by
        rcases h1 with h1 | h1
        · rw [h1]
        · rw [h1, so_n q2]
      have hk1 : kgok (M1 4) := by
        rcases h1 with h1 | h1
        · rw [h1]; exact s.2.2.1
        · rw [h1, so_s]; exact fk_ok s.2.2.1 81 (by omega)
      refine ⟨2, _, rfl, d_start M1 a (hreq M1 (fun q _ q2 => e q q2)), ?_⟩
      have h4' : ¬ M1 27 4 = 0 := by rw [e 27 (by decide)]; exact h4
      rintro r' M2 ⟨rfl, ⟨q, -⟩ | ⟨-, -, m27, mk, mf⟩ | ⟨-, p, hp, e', hG, -⟩⟩
      · exact absurd q h4'
      · exact ⟨rfl, by rw [m27, up1_s], sim_nostart s hS (fun q q1 _ => e q q1) hk1 m27 mk mf⟩
      · exact absurd ⟨p, hp, e', (st_iff hp (by rw [e 28 (by decide)]; exact s.1)).mpr hG⟩ hst
theorem st_at (s : Sim M) (a : Int) : stH k_Law_at k_Model_at [.inr 0, .inl a, .inr 36] [.inr 27, .inl a] M := by
  by_cases ha : 0 ≤ a ∧ a < 81
  · refine ⟨_, w_at M a (c_at M a ha) (fun r M' q => ⟨_, q.1⟩), ?_⟩
    rintro r M1 ⟨z, M0, ⟨e1, rfl⟩, rfl, rfl⟩
    injection e1 with e1
    injection e1 with e1
    subst e1
    refine ⟨0, _, rfl, d_at _ a, ?_⟩
    rintro r' M2 ⟨rfl, rfl⟩
    rw [pcI_t ha, pcI_t ha]
    refine ⟨_, rfl, up2_th _ _, fun _ => ?_, (s.fs (fS_36 _)).fs (fS_t 0)⟩
    rw [up2_ap, if_neg (by decide), up2_ap, if_pos rfl, up1_s, up36 _ _ (by decide)]
    exact s.1 _ (by omega)
  · refine ⟨_, w_at_2 M a (x_at M a ha) (fun r M' q => q.1), ?_⟩
    rintro r M1 ⟨⟨-, rfl⟩, rfl⟩
    refine ⟨1, _, rfl, d_at _ a, ?_⟩
    rintro r' M2 ⟨rfl, rfl⟩
    rw [pcI_f ha, pcI_f ha]
    exact ⟨_, rfl, up2_th _ _, fun q => by omega, s.fs (fS_t 1)⟩
end LS
