/-! the reference's rules, and its list -/
def hpn (f : Nat → Int) (p c : Nat) : Prop := ∃ i, i < 81 ∧ i % 9 = c ∧ f i = vof p 1
def imvB (f : Nat → Int) (p fr to pr : Nat) : Prop := own p (f fr) ∧ ¬ own p (f to) ∧ kd (f to) ≠ 8 ∧ (pr = 1 → canP (kd (f fr)) ∧ (rah p fr < 3 ∨ rah p to < 3)) ∧ (pr = 0 → ¬ stk p (kd (f fr)) to) ∧ goes f p (kd (f fr)).toNat fr to
def imvD (f h : Nat → Int) (p fr to pr : Nat) : Prop := pr = 0 ∧ 0 < h (8 * p + (fr - 81)) ∧ f to = 0 ∧ ¬ stk p ((fr : Int) - 81) to ∧ (fr = 82 → ¬ hpn f p (to % 9))
def imv (f h : Nat → Int) (p fr to pr : Nat) : Prop := (81 < fr ∧ imvD f h p fr to pr) ∨ (fr < 81 ∧ imvB f p fr to pr)
def sfe (f kg : Nat → Int) (p fr to pr : Nat) : Prop := ¬ att (mkS f p fr to pr) (1 - (p : Int)) (mkK f kg p fr to p)
def hsS (f h kg : Nat → Int) (p : Nat) : Prop := ∃ fr to pr, fr < 89 ∧ to < 81 ∧ pr < 2 ∧ imv f h p fr to pr ∧ sfe f kg p fr to pr
def pmt (f h kg : Nat → Int) (p fr to : Nat) : Prop := fr = 82 ∧ att (mkS f p fr to 0) p (mkK f kg p fr to (1 - p)) ∧ ¬ hsS (mkS f p fr to 0) (mkH f h p fr to) (mkK f kg p fr to) (1 - p)
def alw (f h kg : Nat → Int) (p fr to pr : Nat) : Prop := imv f h p fr to pr ∧ sfe f kg p fr to pr ∧ ¬ pmt f h kg p fr to
noncomputable def rc (f h kg : Nat → Int) (p fr to pr : Nat) : List Int := @ite _ (alw f h kg p fr to pr) (Classical.propDecidable _) [mvN fr to pr] []
noncomputable def rF (f h kg : Nat → Int) (p fr : Nat) : List Int := (List.range 81).flatMap (fun to => rc f h kg p fr to 0 ++ rc f h kg p fr to 1)
/-- the list of the reference -/
noncomputable def rl (f h kg : Nat → Int) (p : Nat) : List Int := (List.range 89).flatMap (rF f h kg p)
/-- each player has one king, and it's known where -/
def kq (f kg : Nat → Int) : Prop := ∀ q : Nat, q < 2 → (0 ≤ kg q ∧ kg q < 81) ∧ f (kg q).toNat = vof q 8 ∧ ∀ i, i < 81 → f i = vof q 8 → i = (kg q).toNat
def bdok (f kg : Nat → Int) (p : Nat) : Prop := sqok f ∧ kq f kg ∧ ¬ att f p (kg (1 - p))
theorem mvN_c (fr to pr : Nat) : mvN fr to pr = (fr : Int) + 128 * to + 16384 * (pr : Int) := by unfold mvN; omega
section RL
variable {f h kg : Nat → Int} {p : Nat}
theorem kd_oth (hp : p < 2) {v : Int} (ho : ¬ own p v) (hk : kd v = 8) : v = vof ((1 - p : Nat) : Int) 8 := by
  rcases (show p = 0 ∨ p = 1 by omega) with rfl | rfl <;> unfold own at ho <;> unfold kd at hk <;> unfold vof <;> simp at ho ⊢ <;> split at hk <;> omega
/-- the other one's king can't be taken -/
theorem no_king (hp : p < 2) (hb : bdok f kg p) {fr to : Nat} (hfr : fr < 81) (ho : own p (f fr)) (hno : ¬ own p (f to)) (hg : goes f p (kd (f fr)).toNat fr to) : kd (f to) ≠ 8 := by
  intro h8
  obtain ⟨b1, b2, b3⟩ := hb
  obtain ⟨c1, c2, c3⟩ := b2 (1 - p) (by omega)
  have ht := (goes_ne hfr hg).2
  have e := c3 to ht (kd_oth hp hno h8)
  apply b3
  rw [show kg (1 - p) = ((to : Nat) : Int) by omega]
  exact (att_goes hp ht b1).mpr ⟨fr, hfr, ho, hg⟩
theorem bcell_eq {M : am} {b g fr : Nat} (hp : p < 2) (hb : bdok f kg p) (hfr : fr < 81) : bcell f (gG M f kg b g p).2.1 (gG M f kg b g p).2.2 (gG M f kg b g p).1 p fr = rF f h kg p fr := by
  unfold bcell rF
  have hnp : ∀ to, ¬ pmt f h kg p fr to := fun to q => by have := q.1; omega
  have halw : ∀ to pr, alw f h kg p fr to pr ↔ imvB f p fr to pr ∧ sfe f kg p fr to pr := by
    intro to pr
    unfold alw imv
    constructor
    · rintro ⟨⟨h1, _⟩ | ⟨_, h1⟩, h2, _⟩
      · omega
      · exact ⟨h1, h2⟩
    · rintro ⟨h1, h2⟩; exact ⟨Or.inr ⟨hfr, h1⟩, h2, hnp to⟩
  by_cases ho : own p (f fr)
  · rw [if_pos ho]
    have hmS : ∀ to pr, mkS f p fr to pr = up1 (up1 f fr 0) to (vof p (kd (f fr) + 8 * pr)) := fun to pr => by unfold mkS; rw [if_neg (by omega)]
    by_cases h8 : kd (f fr) = 8
    · rw [if_pos h8, kmv_cells hp hfr]
      unfold cells
      apply fm_congr
      intro to _
      have h1 : rc f h kg p fr to 1 = [] := by
        unfold rc
        rw [if_neg]
        rw [halw]
        rintro ⟨h1, _⟩
        have := (h1.2.2.2.1 rfl).1.1
        omega
      have h0 : alw f h kg p fr to 0 ↔ kgo f p fr to := by
        rw [halw]
        have hK : mkK f kg p fr to p = to := by unfold mkK; rw [if_neg (by omega), if_pos h8]; unfold up1; rw [if_pos rfl]
        unfold imvB sfe kgo
        rw [hK, hmS, h8, show (8 : Int) + 8 * ((0 : Nat) : Int) = 8 by omega, show (8 : Int).toNat = 8 from rfl]
        constructor
        · rintro ⟨⟨a, b, c, d, e, g⟩, w⟩; exact ⟨⟨g, b⟩, w⟩
        · rintro ⟨⟨g, b⟩, w⟩
          exact ⟨⟨ho, b, no_king hp hb hfr ho b (by rw [h8]; exact g), fun q => by omega, fun _ q => by have := q.1; omega, g⟩, w⟩
      rw [h1, List.append_nil]
      unfold rc
      by_cases hk : kgo f p fr to
      · rw [if_pos hk, if_pos (h0.mpr hk), mvN_c]; rfl
      · rw [if_neg hk, if_neg (fun q => hk (h0.mp q))]
    · rw [if_neg h8]
      unfold cells
      apply fm_congr
      intro to _
      have hK : mkK f kg p fr to p = kg p := by unfold mkK; rw [if_neg (by omega), if_neg h8]
      obtain ⟨c1, c2, c3⟩ := hb.2.1 p hp
      have hkp := kd_own hp ho
      have hk : own p (f (kg p).toNat) := by rw [c2]; exact vof_own (by omega) (by omega)
      have hpt : ∀ pr : Nat, ptgt f ((gG M f kg b g p).2.1 fr) (gG M f kg b g p).2.2 (gG M f kg b g p).1 p (kd (f fr)).toNat fr 10 to ↔ (goes f p (kd (f fr)).toNat fr to ∧ ¬ own p (f to)) ∧ sfe f kg p fr to pr := by
        intro pr
        unfold sfe gG
        rw [hK, hmS]
        exact ptgt_iff hp c1.1 c1.2 hk hfr ho (vof_own (by omega) (by omega))
      have hkc : (((kd (f fr)).toNat : Nat) : Int) = kd (f fr) := by omega
      by_cases hX : ptgt f ((gG M f kg b g p).2.1 fr) (gG M f kg b g p).2.2 (gG M f kg b g p).1 p (kd (f fr)).toNat fr 10 to
      · rw [if_pos hX]
        obtain ⟨⟨x1, x2⟩, x3⟩ := (hpt 0).mp hX
        have x4 := ((hpt 1).mp hX).2
        have nk := no_king hp hb hfr ho x2 x1
        unfold pcell
        congr 1
        · by_cases hs : stk p (kd (f fr)) to
          · rw [pc0_t (by rw [hkc]; exact hs)]
            unfold rc
            rw [if_neg]
            rw [halw]
            rintro ⟨q, _⟩
            exact q.2.2.2.2.1 rfl hs
          · rw [pc0_f (by rw [hkc]; exact hs)]
            unfold rc
            rw [if_pos ((halw to 0).mpr ⟨⟨ho, x2, nk, fun q => by omega, fun _ => hs, x1⟩, x3⟩), mvN_c]
            rfl
        · by_cases hs : canP (kd (f fr)) ∧ (rah p fr < 3 ∨ rah p to < 3)
          · rw [pc1_t (by rw [hkc]; exact hs)]
            unfold rc
            rw [if_pos ((halw to 1).mpr ⟨⟨ho, x2, nk, fun _ => hs, fun q => by omega, x1⟩, x4⟩), mvN_c]
            rfl
          · rw [pc1_f (by rw [hkc]; exact hs)]
            unfold rc
            rw [if_neg]
            rw [halw]
            rintro ⟨q, _⟩
            exact hs (q.2.2.2.1 rfl)
      · rw [if_neg hX]
        have no : ∀ pr, rc f h kg p fr to pr = [] := by
          intro pr
          unfold rc
          rw [if_neg]
          rw [halw]
          rintro ⟨q1, q2⟩
          exact hX ((hpt pr).mpr ⟨⟨q1.2.2.2.2.2, q1.2.1⟩, q2⟩)
        rw [no, no]; rfl
  · rw [if_neg ho]
    have no : ∀ to pr, rc f h kg p fr to pr = [] := by
      intro to pr
      unfold rc
      rw [if_neg]
      rw [halw]
      rintro ⟨q1, _⟩
      exact ho q1.1
    simp only [no, List.append_nil]
    generalize List.range 81 = R
    induction R with
    | nil => rfl
    | cons a R ih => rw [List.flatMap_cons, ← ih]; rfl
theorem bmv_eq {M : am} {b g : Nat} (hp : p < 2) (hb : bdok f kg p) : ∀ n, n ≤ 81 → bmv f (gG M f kg b g p).2.1 (gG M f kg b g p).2.2 (gG M f kg b g p).1 p n = (List.range n).flatMap (rF f h kg p) := by
  intro n
  induction n with
  | zero => intro _; rfl
  | succ n ih =>
    intro hn
    rw [List.range_succ, List.flatMap_append, ← ih (by omega), List.flatMap_cons, List.flatMap_nil, List.append_nil, ← bcell_eq (M := M) (b := b) (g := g) hp hb (show n < 81 by omega)]
    rfl
end RL
