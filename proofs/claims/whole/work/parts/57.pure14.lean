/-! how often a position was there -/
theorem tbS_agr {f g : Nat → Int} {p fr to pr : Nat} {tk : Int} (hto : to < 81) (hf : agr 81 f g) : agr 81 (tbS f p fr to pr tk) (tbS g p fr to pr tk) := by
  intro i hi
  unfold tbS
  rw [hf to hto]
  split
  · unfold up1; rw [hf i hi]
  · unfold up1; rw [hf i hi]
theorem tbH_agr {f g h h' : Nat → Int} {p fr to : Nat} {tk : Int} (hto : to < 81) (hf : agr 81 f g) (hh : agr 16 h h') : agr 16 (tbH f h p fr to tk) (tbH g h' p fr to tk) := by
  intro i hi
  unfold tbH
  rw [hf to hto]
  split
  · unfold up1
    split
    · next e => rw [← e, hh i hi]
    · exact hh i hi
  · split
    · exact hh i hi
    · unfold up1
      split
      · next e => rw [← e, hh i hi]
      · exact hh i hi
/-- a game: squares, hands, kings after k moves; the moves; who began -/
def gmk (F H K : Nat → Nat → Int) (mv : Nat → Int) (p0 k : Nat) : Prop :=
  mvok (mv k) ∧ alw (F k) (H k) (K k) (plr p0 k) (mFr (mv k)) (mTo (mv k)) (mPr (mv k)) ∧ F (k + 1) = mkS (F k) (plr p0 k) (mFr (mv k)) (mTo (mv k)) (mPr (mv k)) ∧ H (k + 1) = mkH (F k) (H k) (plr p0 k) (mFr (mv k)) (mTo (mv k)) ∧ K (k + 1) = mkK (F k) (K k) (plr p0 k) (mFr (mv k)) (mTo (mv k))
def pok (f h kg : Nat → Int) (p : Nat) : Prop := bdok f kg p ∧ no13 f ∧ hdg f h
def gam (F H K : Nat → Nat → Int) (mv : Nat → Int) (p0 n : Nat) : Prop := p0 < 2 ∧ pok (F 0) (H 0) (K 0) p0 ∧ ∀ k, k < n → gmk F H K mv p0 k
section GM
variable {F H K : Nat → Nat → Int} {mv tk : Nat → Int} {p0 n : Nat}
theorem plr_2 (p k : Nat) : plr p k < 2 := Nat.mod_lt _ (by omega)
theorem plr_s (p k : Nat) : plr p (k + 1) = 1 - plr p k := by unfold plr; omega
theorem pok_s {k : Nat} (hb : pok (F k) (H k) (K k) (plr p0 k)) (hg : gmk F H K mv p0 k) : mvg (F k) (K k) (plr p0 k) (mFr (mv k)) (mTo (mv k)) (mPr (mv k)) ∧ pok (F (k + 1)) (H (k + 1)) (K (k + 1)) (plr p0 (k + 1)) := by
  obtain ⟨b1, b2, b3⟩ := hb
  obtain ⟨g1, g2, g3, g4, g5⟩ := hg
  have hp := plr_2 p0 k
  have hm := alw_mvg hp b1.2.1 g1.2.1 g1.2.2.2.1 g1.2.2.2.2 g2
  rw [g3, g4, g5, plr_s]
  exact ⟨hm, bdok_mk hp hm g2 b1, no13_mk hp hm g2.1 b2, hdg_mk hp hm b1.1 g2.1 b3⟩
theorem gam_pok (h : gam F H K mv p0 n) : ∀ k, k ≤ n → pok (F k) (H k) (K k) (plr p0 k) := by
  intro k
  induction k with
  | zero => intro _; rw [show plr p0 0 = p0 by unfold plr; have := h.1; omega]; exact h.2.1
  | succ k ih => intro hk; exact (pok_s (ih (by omega)) (h.2.2 k (by omega))).2
theorem gam_mvg (h : gam F H K mv p0 n) {k : Nat} (hk : k < n) : mvg (F k) (K k) (plr p0 k) (mFr (mv k)) (mTo (mv k)) (mPr (mv k)) := (pok_s (gam_pok h k (by omega)) (h.2.2 k hk)).1
/-- what is taken back, square by square -/
theorem bk_agr {f0 h0 : Nat → Int} {tm : Nat} (h : gam F H K mv p0 n) (htm : tm = plr p0 n) (hf : agr 81 f0 (F n)) (hh : agr 16 h0 (H n)) (htk : ∀ k, k < n → tk k = mkT (F k) (mFr (mv k)) (mTo (mv k))) :
    ∀ j, j ≤ n → agr 81 (bkS f0 h0 mv tk n tm j).1 (F (n - j)) ∧ agr 16 (bkS f0 h0 mv tk n tm j).2 (H (n - j)) := by
  intro j
  induction j with
  | zero => intro _; exact ⟨hf, hh⟩
  | succ j ih =>
    intro hj
    obtain ⟨i1, i2⟩ := ih (by omega)
    have hk : n - 1 - j < n := by omega
    have hm := gam_mvg h hk
    have hg := h.2.2 (n - 1 - j) hk
    have hpl : plr tm (j + 1) = plr p0 (n - 1 - j) := by rw [htm]; unfold plr; omega
    have e1 : F (n - j) = mkS (F (n - 1 - j)) (plr p0 (n - 1 - j)) (mFr (mv (n - 1 - j))) (mTo (mv (n - 1 - j))) (mPr (mv (n - 1 - j))) := by rw [← hg.2.2.1, show n - 1 - j + 1 = n - j by omega]
    have e2 : H (n - j) = mkH (F (n - 1 - j)) (H (n - 1 - j)) (plr p0 (n - 1 - j)) (mFr (mv (n - 1 - j))) (mTo (mv (n - 1 - j))) := by rw [← hg.2.2.2.1, show n - 1 - j + 1 = n - j by omega]
    have a1 := tbS_mkS (plr_2 _ _) hm
    have a2 := tbH_mkH (h := H (n - 1 - j)) (plr_2 _ _) hm
    rw [← e1] at a1 a2
    rw [← e2] at a2
    show agr 81 (tbS (bkS f0 h0 mv tk n tm j).1 (plr tm (j + 1)) _ _ _ (tk (n - 1 - j))) _ ∧ agr 16 (tbH (bkS f0 h0 mv tk n tm j).1 (bkS f0 h0 mv tk n tm j).2 (plr tm (j + 1)) _ _ (tk (n - 1 - j))) _
    rw [hpl, htk _ hk, show n - (j + 1) = n - 1 - j by omega]
    refine ⟨fun i hi => ?_, fun i hi => ?_⟩
    · rw [tbS_agr hm.hto i1 i hi, a1]
    · rw [tbH_agr hm.hto i1 i2 i hi, a2]
theorem bk_ok {f0 h0 : Nat → Int} {tm : Nat} (h : gam F H K mv p0 n) (htm : tm = plr p0 n) (hf : agr 81 f0 (F n)) (hh : agr 16 h0 (H n)) (htk : ∀ k, k < n → tk k = mkT (F k) (mFr (mv k)) (mTo (mv k))) : bkok f0 h0 mv tk n tm := by
  intro j hj
  obtain ⟨i1, i2⟩ := bk_agr h htm hf hh htk j (by omega)
  have hk : n - 1 - j < n := by omega
  have hm := gam_mvg h hk
  have hg := h.2.2 (n - 1 - j) hk
  obtain ⟨b1, b2, b3⟩ := gam_pok h (n - j) (by omega)
  obtain ⟨c1, -, -⟩ := gam_pok h (n - 1 - j) (by omega)
  refine ⟨fun i hi => by rw [i1 i hi]; exact b1.1 i hi, fun i hi => by rw [i2 i hi]; have := hdg_le b3 hi; omega, hg.1, ?_, fun hd => ?_⟩
  · rw [htk _ hk]; exact mkT_b hm c1.1
  · rw [i1 _ hm.hto, show n - j = n - 1 - j + 1 by omega, hg.2.2.1]
    exact mkS_drop hm hd
end GM
/-! two ways to count -/
noncomputable def oft (E : Nat → Prop) : Nat → Int
  | 0 => 0
  | n + 1 => oft E n + bi (E n)
noncomputable def befL (E : Nat → Prop) : Nat → Nat → Int
  | 0, _ => 0
  | k + 1, l => @ite _ (E k) (Classical.propDecidable _) (if l = 1 then (k : Int) else befL E k (l - 1)) (befL E k l)
section CT
variable {E : Nat → Prop} {f h : Nat → Int} {S : Nat → (Nat → Int) × (Nat → Int)} {n : Nat}
theorem cs_oft (hE : ∀ j, 1 ≤ j → j ≤ n → (hit f h S j ↔ E (n - j))) : ∀ j, j ≤ n → csI f h S j + oft E (n - j) = 1 + oft E n := by
  intro j
  induction j with
  | zero => intro _; rfl
  | succ j ih =>
    intro hj
    have := ih (by omega)
    have e : oft E (n - j) = oft E (n - (j + 1)) + bi (E (n - (j + 1))) := by rw [show n - j = (n - (j + 1)) + 1 by omega]; rfl
    show csI f h S j + bi (hit f h S (j + 1)) + oft E (n - (j + 1)) = _
    rw [bi_c (hE (j + 1) (by omega) hj)]
    omega
theorem cs_often (hE : ∀ j, 1 ≤ j → j ≤ n → (hit f h S j ↔ E (n - j))) (hn : E n) : csI f h S n = oft E (n + 1) := by
  have := cs_oft hE n (Nat.le_refl _)
  show _ = oft E n + bi (E n)
  rw [bi_t hn, show n - n = 0 by omega, show oft E 0 = 0 from rfl] at *
  omega
theorem csI_mono (j : Nat) : ∀ m, csI f h S j ≤ csI f h S (j + m) := by
  intro m
  induction m with
  | zero => exact Int.le_refl _
  | succ m ih =>
    show _ ≤ csI f h S (j + m) + bi (hit f h S (j + m + 1))
    have := bi_01 (hit f h S (j + m + 1))
    omega
theorem csT_stay {t0 : Int} {j : Nat} (h4 : csI f h S j = 4) : ∀ m, csT f h S n t0 (j + m) = csT f h S n t0 j := by
  intro m
  induction m with
  | zero => rfl
  | succ m ih =>
    show @ite _ (hit f h S (j + m + 1) ∧ csI f h S (j + m + 1) = 4) (Classical.propDecidable _) _ _ = _
    rw [if_neg]
    · exact ih
    · rintro ⟨a, b⟩
      have h1 := csI_mono (f := f) (h := h) (S := S) j m
      have h2 : csI f h S (j + m + 1) = csI f h S (j + m) + bi (hit f h S (j + m + 1)) := rfl
      rw [bi_t a] at h2
      omega
theorem cs_bef {t0 : Int} (hE : ∀ j, 1 ≤ j → j ≤ n → (hit f h S j ↔ E (n - j))) (h4 : 4 ≤ csI f h S n) : ∀ q j, j + q = n → ∀ c : Nat, csI f h S j = c → 1 ≤ c → c < 4 → csT f h S n t0 n = befL E (n - j) (4 - c) := by
  intro q
  induction q with
  | zero => intro j hj c hc _ _; rw [show j = n by omega] at hc; omega
  | succ q ih =>
    intro j hj c hc c1 c4
    have hh := hE (j + 1) (by omega) (by omega)
    have hs : csI f h S (j + 1) = csI f h S j + bi (hit f h S (j + 1)) := rfl
    rw [show n - j = (n - (j + 1)) + 1 by omega]
    unfold befL
    by_cases he : E (n - (j + 1))
    · rw [if_pos he]
      have hi := hh.mpr he
      rw [bi_t hi] at hs
      by_cases h3 : c = 3
      · rw [if_pos (by omega)]
        have e4 : csI f h S (j + 1) = 4 := by omega
        have := csT_stay (n := n) (t0 := t0) e4 (n - (j + 1))
        rw [show j + 1 + (n - (j + 1)) = n by omega] at this
        rw [this]
        show @ite _ (hit f h S (j + 1) ∧ csI f h S (j + 1) = 4) (Classical.propDecidable _) _ _ = _
        rw [if_pos ⟨hi, e4⟩, show n - 1 - j = n - (j + 1) by omega]
      · rw [if_neg (by omega), show 4 - c - 1 = 4 - (c + 1) by omega]
        exact ih (j + 1) (by omega) (c + 1) (by omega) (by omega) (by omega)
    · rw [if_neg he]
      rw [bi_f (fun w => he (hh.mp w))] at hs
      exact ih (j + 1) (by omega) c (by omega) c1 c4
theorem befL_E : ∀ (k l : Nat), 1 ≤ l → (l : Int) ≤ oft E k → ∃ m : Nat, befL E k l = m ∧ m < k ∧ E m := by
  intro k
  induction k with
  | zero => intro l h1 h2; have : oft E 0 = 0 := rfl; omega
  | succ k ih =>
    intro l h1 h2
    have hs : oft E (k + 1) = oft E k + bi (E k) := rfl
    unfold befL
    by_cases he : E k
    · rw [if_pos he]
      rw [bi_t he] at hs
      by_cases h : l = 1
      · rw [if_pos h]; exact ⟨k, rfl, by omega, he⟩
      · rw [if_neg h]
        obtain ⟨m, a, b, c⟩ := ih (l - 1) (by omega) (by omega)
        exact ⟨m, a, by omega, c⟩
    · rw [if_neg he]
      rw [bi_f he] at hs
      obtain ⟨m, a, b, c⟩ := ih l h1 (by omega)
      exact ⟨m, a, by omega, c⟩
end CT
/-- the reference's allChecks -/
def allM (ch : Nat → Int) (n k b : Nat) : Prop := ∀ i, k ≤ i → i < n → (n - i) % 2 = b → ¬ ch (i + 1) = 0
noncomputable def resM (E : Nat → Prop) (ch : Nat → Int) (n : Nat) : Int := if oft E (n + 1) < 4 then 0 else 3 * bi (allM ch n (befL E n 3).toNat 0) + (1 - bi (allM ch n (befL E n 3).toNat 0)) * (2 + 2 * bi (allM ch n (befL E n 3).toNat 1))
theorem allc_M {c ch : Nat → Int} {n k : Nat} (b : Nat) (hc : ∀ i, i < n → c i = ch (i + 1)) (hk : k ≤ n) (h : (n - k) % 2 = b) : allc c n k ↔ allM ch n k b := by
  constructor
  · intro q i i1 i2 i3
    have := q ((i - k) / 2) (by omega)
    rw [show k + 2 * ((i - k) / 2) = i by omega, hc i i2] at this
    exact this
  · intro q t ht
    have := q (k + 2 * t) (by omega) ht (by omega)
    rw [hc _ ht]
    exact this
theorem allc_M1 {c ch : Nat → Int} {n k : Nat} (hc : ∀ i, i < n → c i = ch (i + 1)) (hk : k < n) (h : (n - k) % 2 = 0) : allc c n (k + 1) ↔ allM ch n k 1 := by
  rw [allc_M 1 hc (by omega) (by omega)]
  constructor
  · intro q i i1 i2 i3
    exact q i (by omega) i2 i3
  · intro q i i1 i2 i3
    exact q i (by omega) i2 i3
/-- both results of repetition -/
theorem rep_res {E : Nat → Prop} {f h : Nat → Int} {S : Nat → (Nat → Int) × (Nat → Int)} {n : Nat} {c ch : Nat → Int} {t0 : Int} (hE : ∀ j, 1 ≤ j → j ≤ n → (hit f h S j ↔ E (n - j))) (hn : E n) (h2 : ∀ k, k ≤ n → E k → (n - k) % 2 = 0) (hc : ∀ i, i < n → c i = ch (i + 1)) :
    repV c n (csI f h S n) (csT f h S n t0 n) = resM E ch n := by
  unfold repV resM
  have ho := cs_often hE hn
  rw [ho]
  by_cases h4 : oft E (n + 1) < 4
  · rw [if_pos h4, if_pos h4]
  · rw [if_neg h4, if_neg h4]
    have hb := cs_bef (t0 := t0) hE (by omega) n 0 (by omega) 1 rfl (by omega) (by omega)
    rw [show n - 0 = n by omega, show 4 - 1 = 3 from rfl] at hb
    have hs : oft E (n + 1) = oft E n + bi (E n) := rfl
    rw [bi_t hn] at hs
    obtain ⟨m, m1, m2, m3⟩ := befL_E (E := E) n 3 (by omega) (by omega)
    have hm2 := h2 m (by omega) m3
    rw [hb, m1, show ((m : Nat) : Int).toNat = m from rfl, bi_c (allc_M 0 hc (by omega) hm2), bi_c (allc_M1 hc m2 hm2)]
