/-! what lies beyond the board doesn't matter; what a move leaves as it was -/
abbrev agr (n : Nat) (f g : Nat → Int) : Prop := ∀ i, i < n → f i = g i
theorem agr.symm' {n : Nat} {f g : Nat → Int} (h : agr n f g) : agr n g f := fun i hi => (h i hi).symm
section AG
variable {f g h h' kg kg' : Nat → Int} {p : Nat}
theorem ray_agr1 {q : Int} {d : Nat} (hf : agr 81 f g) : ∀ (n : Nat) (r c t : Int), ray f q d n r c t → ray g q d n r c t := by
  intro n
  induction n with
  | zero => intro r c t h; exact h
  | succ n ih =>
    rintro r c t ⟨hb, q⟩
    have e := hf _ (ix_lt hb)
    refine ⟨hb, ?_⟩
    rw [← e]
    rcases q with q | q
    · exact Or.inl q
    · exact Or.inr ⟨q.1, ih _ _ _ q.2⟩
theorem att_agr1 {q s : Int} (hf : agr 81 f g) (h : att f q s) : att g q s := by
  have kn : ∀ x : Int, knAt f q (knS q s x) → knAt g q (knS q s x) := by
    rintro x ⟨a, b⟩
    exact ⟨a, by rw [← hf _ (knS_lt a)]; exact b⟩
  rcases h with ⟨d, hd, h⟩ | h | h
  · exact Or.inl ⟨d, hd, ray_agr1 hf _ _ _ _ h⟩
  · exact Or.inr (Or.inl (kn _ h))
  · exact Or.inr (Or.inr (kn _ h))
theorem att_agr {q s : Int} (hf : agr 81 f g) : att f q s ↔ att g q s := ⟨att_agr1 hf, att_agr1 hf.symm'⟩
theorem goes_agr1 {κ a x : Nat} (ha : a < 81) (hf : agr 81 f g) (h : goes f p κ a x) : goes g p κ a x := by
  obtain ⟨e, he, j, j1, j2, j3, j4, j5⟩ := h
  refine ⟨e, he, j, j1, j2, j3, j4, fun i a b => ?_⟩
  rw [← hf _ (ix_lt (onB_btw (onB_s (by omega) (by omega)) j3 (Nat.le_of_lt b)))]
  exact j5 i a b
theorem imv_agr1 {fr to pr : Nat} (hp : p < 2) (hfr : fr < 89) (hto : to < 81) (hf : agr 81 f g) (hh : agr 16 h h') (q : imv f h p fr to pr) : imv g h' p fr to pr := by
  rcases q with ⟨q0, q1, q2, q3, q4, q5⟩ | ⟨q0, q1, q2, q3, q4, q5, q6⟩
  · refine Or.inl ⟨q0, q1, by rw [← hh _ (by omega)]; exact q2, by rw [← hf _ hto]; exact q3, q4, fun e => ?_⟩
    rintro ⟨i, a, b, c⟩
    exact q5 e ⟨i, a, b, by rw [hf _ a]; exact c⟩
  · have e1 := hf _ q0
    have e2 := hf _ hto
    rw [e1] at q1 q4 q5 q6
    rw [e2] at q2 q3
    exact Or.inr ⟨q0, q1, q2, q3, q4, q5, goes_agr1 q0 hf q6⟩
theorem mkS_agr {fr to pr : Nat} (h81 : fr ≠ 81) (hf : agr 81 f g) : agr 81 (mkS f p fr to pr) (mkS g p fr to pr) := by
  intro i hi
  unfold mkS
  by_cases hd : 81 < fr
  · rw [if_pos hd, if_pos hd]; unfold up1; rw [hf i hi]
  · rw [if_neg hd, if_neg hd, hf fr (by omega)]; unfold up1; rw [hf i hi]
theorem mkH_agr {fr to : Nat} (hto : to < 81) (hf : agr 81 f g) (hh : agr 16 h h') : agr 16 (mkH f h p fr to) (mkH g h' p fr to) := by
  intro i hi
  unfold mkH
  rw [hf to hto]
  split
  · unfold up1
    split
    · next e => rw [← e, hh i hi]
    · exact hh i hi
  · split
    · exact hh i hi
    · unfold up1
      split
      · next e => rw [← e, hh i hi]
      · exact hh i hi
theorem mkK_agr {fr to : Nat} (h81 : fr ≠ 81) (hf : agr 81 f g) (hk : agr 2 kg kg') : agr 2 (mkK f kg p fr to) (mkK g kg' p fr to) := by
  intro i hi
  unfold mkK
  by_cases hd : 81 < fr
  · rw [if_pos hd, if_pos hd]; exact hk i hi
  · rw [if_neg hd, if_neg hd, hf fr (by omega)]
    split
    · unfold up1; rw [hk i hi]
    · exact hk i hi
theorem sfe_agr1 {fr to pr : Nat} (hp : p < 2) (h81 : fr ≠ 81) (hf : agr 81 f g) (hk : agr 2 kg kg') (q : sfe f kg p fr to pr) : sfe g kg' p fr to pr := by
  unfold sfe at q ⊢
  rw [← mkK_agr h81 hf hk p hp]
  exact fun w => q (att_agr1 (mkS_agr h81 hf).symm' w)
theorem imv_81 {fr to pr : Nat} (q : imv f h p fr to pr) : fr ≠ 81 := by rcases q with ⟨q, _⟩ | ⟨q, _⟩ <;> omega
theorem hsS_agr1 (hp : p < 2) (hf : agr 81 f g) (hh : agr 16 h h') (hk : agr 2 kg kg') (q : hsS f h kg p) : hsS g h' kg' p := by
  obtain ⟨fr, to, pr, a, b, c, d, e⟩ := q
  exact ⟨fr, to, pr, a, b, c, imv_agr1 hp a b hf hh d, sfe_agr1 hp (imv_81 d) hf hk e⟩
theorem pmt_agr1 {fr to : Nat} (hp : p < 2) (hto : to < 81) (hf : agr 81 f g) (hh : agr 16 h h') (hk : agr 2 kg kg') (q : pmt f h kg p fr to) : pmt g h' kg' p fr to := by
  obtain ⟨q1, q2, q3⟩ := q
  have h81 : fr ≠ 81 := by omega
  refine ⟨q1, ?_, fun w => q3 (hsS_agr1 (by omega) (mkS_agr h81 hf).symm' (mkH_agr hto hf hh).symm' (mkK_agr h81 hf hk).symm' w)⟩
  rw [← mkK_agr h81 hf hk (1 - p) (by omega)]
  exact att_agr1 (mkS_agr h81 hf) q2
theorem alw_agr {fr to pr : Nat} (hp : p < 2) (hfr : fr < 89) (hto : to < 81) (hf : agr 81 f g) (hh : agr 16 h h') (hk : agr 2 kg kg') : alw f h kg p fr to pr ↔ alw g h' kg' p fr to pr := by
  constructor
  · rintro ⟨a, b, c⟩
    exact ⟨imv_agr1 hp hfr hto hf hh a, sfe_agr1 hp (imv_81 a) hf hk b, fun w => c (pmt_agr1 hp hto hf.symm' hh.symm' hk.symm' w)⟩
  · rintro ⟨a, b, c⟩
    exact ⟨imv_agr1 hp hfr hto hf.symm' hh.symm' a, sfe_agr1 hp (imv_81 a) hf.symm' hk.symm' b, fun w => c (pmt_agr1 hp hto hf hh hk w)⟩
theorem rl_agr (hp : p < 2) (hf : agr 81 f g) (hh : agr 16 h h') (hk : agr 2 kg kg') : rl f h kg p = rl g h' kg' p := by
  unfold rl
  apply fm_congr
  intro fr hfr
  unfold rF
  apply fm_congr
  intro to hto
  have : ∀ pr, rc f h kg p fr to pr = rc g h' kg' p fr to pr := by
    intro pr
    unfold rc
    rw [propext (alw_agr hp (List.mem_range.mp hfr) (List.mem_range.mp hto) hf hh hk)]
  rw [this, this]
end AG
/-- no square holds what is no kind -/
def no13 (f : Nat → Int) : Prop := ∀ i, i < 81 → kd (f i) ≠ 13
section IV
variable {f h kg : Nat → Int} {p fr to pr : Nat}
theorem mkS_to : mkS f p fr to pr to = vof p (if 81 < fr then (fr : Int) - 81 else kd (f fr) + 8 * pr) := by
  unfold mkS
  split
  · rw [up1_s]
  · rw [up1_s]
theorem mkS_n {i : Nat} (hi : i ≠ to) (hfr : i ≠ fr) : mkS f p fr to pr i = f i := by
  unfold mkS
  split
  · rw [up1_n hi]
  · rw [up1_n hi, up1_n hfr]
theorem mkS_fr (h : fr < 81) (hm : mvg f kg p fr to pr) : mkS f p fr to pr fr = 0 := by
  unfold mkS
  rw [if_neg (by omega), up1_n (hm.hne h), up1_s]
theorem vof_inj {q : Int} {a b : Int} (h : vof q a = vof q b) : a = b := by unfold vof at h; split at h <;> omega
theorem vof_ne {p q : Nat} (hp : p < 2) (hq : q < 2) (hpq : p ≠ q) {a b : Int} (ha : 0 < a) (hb : 0 < b) : vof p a ≠ vof q b := by
  unfold vof
  intro e
  split at e <;> split at e <;> omega
theorem no13_mk (hp : p < 2) (hm : mvg f kg p fr to pr) (ha : imv f h p fr to pr) (hn : no13 f) : no13 (mkS f p fr to pr) := by
  intro i hi
  by_cases e : i = to
  · subst e
    rw [mkS_to]
    split
    · next hd => rw [kd_vofI (by omega)]; have := hm.hfr; omega
    · next hd =>
      have hfr : fr < 81 := by have := hm.h81; omega
      have hk := (kd_own hp (hm.hown hfr)).2
      rw [kd_vofI (by omega)]
      rcases (show pr = 0 ∨ pr = 1 by have := hm.hpr; omega) with rfl | rfl
      · have := hn fr hfr; omega
      · rcases ha with ⟨q, _⟩ | ⟨_, q⟩
        · omega
        · have := (q.2.2.2.1 rfl).1; omega
  · by_cases e' : i = fr
    · subst e'
      rw [mkS_fr hi hm]
      show kd 0 ≠ 13
      decide
    · rw [mkS_n e e']; exact hn i hi
theorem kq_mk (hp : p < 2) (hm : mvg f kg p fr to pr) (hq : kq f kg) : kq (mkS f p fr to pr) (mkK f kg p fr to) := by
  intro q hq2
  obtain ⟨c1, c2, c3⟩ := hq q hq2
  have hto := hm.hto
  by_cases hd : 81 < fr
  · have hz := (hm.hdr hd).1
    have hK : mkK f kg p fr to = kg := by unfold mkK; rw [if_pos hd]
    rw [hK]
    have hkn : (kg q).toNat ≠ to := fun e => by
      rw [e, hz] at c2
      exact own_n0 (vof_own (by omega) (by omega) : own q (vof q 8)) c2.symm
    refine ⟨c1, by rw [mkS_n hkn (by omega)]; exact c2, fun i hi e => ?_⟩
    by_cases ei : i = to
    · exfalso
      subst ei
      rw [mkS_to, if_pos hd] at e
      have := hm.hfr
      by_cases hpq : p = q
      · subst hpq; have := vof_inj e; omega
      · exact vof_ne hp hq2 hpq (by omega) (by omega) e
    · rw [mkS_n ei (by omega)] at e
      exact c3 i hi e
  · have hfr : fr < 81 := by have := hm.h81; omega
    have hown := hm.hown hfr
    have hk := kd_own hp hown
    have hne := hm.hne hfr
    have hv : mkS f p fr to pr to = vof p (kd (f fr) + 8 * pr) := by rw [mkS_to, if_neg hd]
    by_cases h8 : kd (f fr) = 8
    · have hpr : pr = 0 := by
        have := hm.hpr
        have := hm.hpro hfr
        omega
      have hK : mkK f kg p fr to = up1 kg p to := by unfold mkK; rw [if_neg hd, if_pos h8]
      rw [hK]
      by_cases hpq : q = p
      · subst hpq
        rw [up1_s]
        refine ⟨by omega, ?_, fun i hi e => ?_⟩
        · rw [show ((to : Nat) : Int).toNat = to from rfl, hv, h8, hpr]; rfl
        · by_cases ei : i = to
          · omega
          · exfalso
            by_cases ef : i = fr
            · subst ef
              rw [mkS_fr hi hm] at e
              exact own_n0 (vof_own (by omega) (by omega) : own q (vof q 8)) e.symm
            · rw [mkS_n ei ef] at e
              have e1 := c3 i hi e
              have e2 := c3 fr hfr (by rw [hk.1, h8])
              omega
      · rw [up1_n hpq]
        have hkt : (kg q).toNat ≠ to := fun e => hm.hkt hfr (by rw [← e, c2, kd_vofI (by omega)])
        have hkf : (kg q).toNat ≠ fr := fun e => by
          rw [e] at c2
          exact vof_ne hp hq2 (fun w => hpq w.symm) (show 0 < kd (f fr) by omega) (by omega) (hk.1.symm.trans c2)
        refine ⟨c1, by rw [mkS_n hkt hkf]; exact c2, fun i hi e => ?_⟩
        by_cases ei : i = to
        · exfalso
          subst ei
          rw [hv] at e
          exact vof_ne hp hq2 (fun w => hpq w.symm) (by omega) (by omega) e
        · by_cases ef : i = fr
          · exfalso
            subst ef
            rw [mkS_fr hi hm] at e
            exact own_n0 (vof_own (by omega) (by omega) : own q (vof q 8)) e.symm
          · rw [mkS_n ei ef] at e
            exact c3 i hi e
    · have hK : mkK f kg p fr to = kg := by unfold mkK; rw [if_neg hd, if_neg h8]
      rw [hK]
      have hkt : (kg q).toNat ≠ to := fun e => hm.hkt hfr (by rw [← e, c2, kd_vofI (by omega)])
      have hkf : (kg q).toNat ≠ fr := fun e => h8 (by rw [← e, c2, kd_vofI (by omega)])
      refine ⟨c1, by rw [mkS_n hkt hkf]; exact c2, fun i hi e => ?_⟩
      by_cases ei : i = to
      · exfalso
        subst ei
        rw [hv] at e
        by_cases hpq : p = q
        · subst hpq
          have := vof_inj e
          have := hm.hpr
          have := hm.hpro hfr
          omega
        · exact vof_ne hp hq2 hpq (by omega) (by omega) e
      · by_cases ef : i = fr
        · exfalso
          subst ef
          rw [mkS_fr hi hm] at e
          exact own_n0 (vof_own (by omega) (by omega) : own q (vof q 8)) e.symm
        · rw [mkS_n ei ef] at e
          exact c3 i hi e
theorem bdok_mk (hp : p < 2) (hm : mvg f kg p fr to pr) (ha : alw f h kg p fr to pr) (hb : bdok f kg p) : bdok (mkS f p fr to pr) (mkK f kg p fr to) (1 - p) := by
  refine ⟨sqok_mk hm hb.1, kq_mk hp hm hb.2.1, ?_⟩
  rw [show 1 - (1 - p) = p by omega, show ((1 - p : Nat) : Int) = 1 - (p : Int) by omega]
  exact ha.2.1
/-! the pieces of a kind, on the board and in the hands, stay as many as they were -/
def ind (t : Nat) (v : Int) : Int := if (unp (kd v)).toNat = t then 1 else 0
def tc (f : Nat → Int) (t : Nat) : Nat → Int
  | 0 => 0
  | n + 1 => tc f t n + ind t (f n)
def tot (f h : Nat → Int) (t : Nat) : Int := h t + h (8 + t) + tc f t 81
theorem tc_b {t : Nat} : ∀ n, 0 ≤ tc f t n ∧ tc f t n ≤ n := by
  intro n
  induction n with
  | zero => exact ⟨Int.le_refl _, Int.le_refl _⟩
  | succ n ih => unfold tc ind; split <;> omega
theorem tc_up {t k : Nat} {v : Int} : ∀ n, tc (up1 f k v) t n = tc f t n + (if k < n then ind t v - ind t (f k) else 0) := by
  intro n
  induction n with
  | zero => rw [if_neg (by omega)]; rfl
  | succ n ih =>
    show tc (up1 f k v) t n + ind t (up1 f k v n) = tc f t n + ind t (f n) + _
    rw [ih]
    by_cases e : n = k
    · subst e
      rw [up1_s, if_neg (by omega), if_pos (by omega)]; omega
    · rw [up1_n e]
      by_cases hk : k < n
      · rw [if_pos hk, if_pos (by omega)]; omega
      · rw [if_neg hk, if_neg (by omega)]; omega
theorem unp_pr {k : Int} {pr : Nat} (h1 : 0 < k) (h2 : k ≤ 15) (hpr : pr < 2) (h : pr = 1 → k ≤ 7) : unp (k + 8 * pr) = unp k := by
  unfold unp
  rcases (show pr = 0 ∨ pr = 1 by omega) with rfl | rfl
  · simp
  · have := h rfl
    rw [if_pos (by omega), if_neg (by omega)]; omega
theorem up1_two {h : Nat → Int} {k t : Nat} {d : Int} (hp : p < 2) (hk : 1 ≤ k ∧ k ≤ 7) (ht : 1 ≤ t ∧ t ≤ 7) : up1 h (8 * p + k) (h (8 * p + k) + d) t + up1 h (8 * p + k) (h (8 * p + k) + d) (8 + t) = h t + h (8 + t) + (if k = t then d else 0) := by
  unfold up1
  rcases (show p = 0 ∨ p = 1 by omega) with rfl | rfl
  · by_cases e : k = t
    · subst e; rw [if_pos (by omega), if_neg (by omega), if_pos rfl, show 8 * 0 + k = k by omega]; omega
    · rw [if_neg (by omega), if_neg (by omega), if_neg e]; omega
  · by_cases e : k = t
    · subst e; rw [if_neg (by omega), if_pos (by omega), if_pos rfl, show 8 * 1 + k = 8 + k by omega]; omega
    · rw [if_neg (by omega), if_neg (by omega), if_neg e]; omega
theorem tot_mk {t : Nat} (hp : p < 2) (hm : mvg f kg p fr to pr) (hs : sqok f) (ht : 1 ≤ t ∧ t ≤ 7) : tot (mkS f p fr to pr) (mkH f h p fr to) t = tot f h t := by
  unfold tot mkS mkH
  have hto := hm.hto
  by_cases hd : 81 < fr
  · rw [if_pos hd, if_pos hd, tc_up, if_pos hto, (hm.hdr hd).1]
    have := hm.hfr
    have h1 := up1_two (h := h) (k := fr - 81) (t := t) (d := -1) hp (by omega) ht
    rw [show h (8 * p + (fr - 81)) - 1 = h (8 * p + (fr - 81)) + -1 by omega, h1]
    have h2 : ind t (vof p ((fr : Int) - 81)) = if fr - 81 = t then 1 else 0 := by
      unfold ind
      rw [kd_vofI (by omega)]
      rw [show unp ((fr : Int) - 81) = (fr : Int) - 81 by unfold unp; rw [if_neg (by omega)], show ((fr : Int) - 81).toNat = fr - 81 by omega]
    have h3 : ind t 0 = 0 := by unfold ind; rw [show (unp (kd 0)).toNat = 0 from rfl, if_neg (by omega)]
    rw [h2, h3]
    split <;> omega
  · have hfr : fr < 81 := by have := hm.h81; omega
    have hne := hm.hne hfr
    have hk := kd_own hp (hm.hown hfr)
    have hsf := hs fr hfr
    have hst := hs to hto
    have hkb : ∀ v : Int, -15 ≤ v → v ≤ 15 → 0 ≤ kd v ∧ kd v ≤ 15 := fun v a b => by unfold kd; split <;> omega
    have hkf := hkb _ hsf.1 hsf.2
    have hkt := hkb _ hst.1 hst.2
    rw [if_neg hd, if_neg hd, tc_up, tc_up, if_pos hto, if_pos hfr, up1_n (fun e => hne e.symm)]
    have h3 : ind t 0 = 0 := by unfold ind; rw [show (unp (kd 0)).toNat = 0 from rfl, if_neg (by omega)]
    have h4 : ind t (vof p (kd (f fr) + 8 * pr)) = ind t (f fr) := by
      unfold ind
      rw [kd_vofI (by omega), unp_pr (by omega) (by omega) hm.hpr (hm.hpro hfr)]
    rw [h3, h4]
    by_cases hz : f to = 0
    · rw [if_pos hz, hz, h3]; omega
    · rw [if_neg hz]
      have h8 := hm.hkt hfr
      have hn0 : kd (f to) ≠ 0 := fun e => hz ((kd_0 _).mp e)
      have hu : 1 ≤ (unp (kd (f to))).toNat ∧ (unp (kd (f to))).toNat ≤ 7 := by unfold unp; split <;> omega
      have h1 := up1_two (h := h) (k := (unp (kd (f to))).toNat) (t := t) (d := 1) hp hu ht
      rw [h1]
      have h5 : ind t (f to) = if (unp (kd (f to))).toNat = t then 1 else 0 := rfl
      rw [h5]
      split <;> omega
/-- hands as they can be in a game -/
def hdg (f h : Nat → Int) : Prop := (∀ i, i < 16 → 0 ≤ h i) ∧ h 0 = 0 ∧ h 8 = 0 ∧ ∀ t, 1 ≤ t ∧ t ≤ 7 → tot f h t ≤ 117
theorem hdg_le (hh : hdg f h) {i : Nat} (hi : i < 16) : 0 ≤ h i ∧ h i ≤ 117 := by
  obtain ⟨h1, h2, h3, h4⟩ := hh
  refine ⟨h1 i hi, ?_⟩
  by_cases e0 : i = 0
  · subst e0; omega
  by_cases e8 : i = 8
  · subst e8; omega
  by_cases hl : i < 8
  · have := h4 i (by omega)
    have a := h1 (8 + i) (by omega)
    have b := tc_b (f := f) (t := i) 81
    unfold tot at this
    omega
  · have := h4 (i - 8) (by omega)
    have a := h1 (i - 8) (by omega)
    have b := tc_b (f := f) (t := i - 8) 81
    unfold tot at this
    rw [show 8 + (i - 8) = i by omega] at this
    omega
theorem hdg_mk (hp : p < 2) (hm : mvg f kg p fr to pr) (hs : sqok f) (ha : imv f h p fr to pr) (hh : hdg f h) : hdg (mkS f p fr to pr) (mkH f h p fr to) := by
  obtain ⟨h1, h2, h3, h4⟩ := hh
  have hto := hm.hto
  have key : ∀ (k : Nat) (d : Int), 1 ≤ k ∧ k ≤ 7 → 0 ≤ h (8 * p + k) + d → (∀ i, i < 16 → 0 ≤ up1 h (8 * p + k) (h (8 * p + k) + d) i) ∧ up1 h (8 * p + k) (h (8 * p + k) + d) 0 = 0 ∧ up1 h (8 * p + k) (h (8 * p + k) + d) 8 = 0 := by
    intro k d hk hd
    refine ⟨fun i hi => ?_, ?_, ?_⟩
    · unfold up1; split
      · exact hd
      · exact h1 i hi
    · rw [up1_n (by omega)]; exact h2
    · rw [up1_n (by omega)]; exact h3
  have ht : ∀ t, 1 ≤ t ∧ t ≤ 7 → tot (mkS f p fr to pr) (mkH f h p fr to) t ≤ 117 := fun t ht => by rw [tot_mk hp hm hs ht]; exact h4 t ht
  suffices hx : (∀ i, i < 16 → 0 ≤ mkH f h p fr to i) ∧ mkH f h p fr to 0 = 0 ∧ mkH f h p fr to 8 = 0 from ⟨hx.1, hx.2.1, hx.2.2, ht⟩
  unfold mkH
  by_cases hd : 81 < fr
  · rw [if_pos hd]
    have hfr := hm.hfr
    have hpos : 0 < h (8 * p + (fr - 81)) := by
      rcases ha with ⟨_, q⟩ | ⟨q, _⟩
      · exact q.2.1
      · omega
    exact key (fr - 81) (-1) (by omega) (by omega)
  · rw [if_neg hd]
    by_cases hz : f to = 0
    · rw [if_pos hz]; exact ⟨h1, h2, h3⟩
    · rw [if_neg hz]
      have hfr : fr < 81 := by have := hm.h81; omega
      have h8 := hm.hkt hfr
      have hst := hs to hto
      have hn0 : kd (f to) ≠ 0 := fun e => hz ((kd_0 _).mp e)
      have hkt : 0 ≤ kd (f to) ∧ kd (f to) ≤ 15 := by unfold kd; split <;> omega
      have hu : 1 ≤ (unp (kd (f to))).toNat ∧ (unp (kd (f to))).toNat ≤ 7 := by unfold unp; split <;> omega
      have := h1 (8 * p + (unp (kd (f to))).toNat) (by omega)
      exact key _ 1 hu (by omega)
end IV
