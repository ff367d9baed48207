/-! A move made and taken back -/
def mvg (f g : Nat → Int) (p fr to pr : Nat) : Prop := (fr < 89) ∧ (fr ≠ 81) ∧ (to < 81) ∧ (pr < 2) ∧ (81 < fr → f to = 0 ∧ pr = 0) ∧ (fr < 81 → fr ≠ to) ∧ (fr < 81 → own p (f fr)) ∧ (fr < 81 → ¬ own p (f to)) ∧ (fr < 81 → kd (f to) ≠ 8) ∧ (fr < 81 → pr = 1 → kd (f fr) ≤ 7) ∧ (fr < 81 → kd (f fr) = 8 → g p = fr)
theorem mvg.hfr {f g : Nat → Int} {p fr to pr : Nat} (h : mvg f g p fr to pr) : fr < 89 := h.1
theorem mvg.h81 {f g : Nat → Int} {p fr to pr : Nat} (h : mvg f g p fr to pr) : fr ≠ 81 := h.2.1
theorem mvg.hto {f g : Nat → Int} {p fr to pr : Nat} (h : mvg f g p fr to pr) : to < 81 := h.2.2.1
theorem mvg.hpr {f g : Nat → Int} {p fr to pr : Nat} (h : mvg f g p fr to pr) : pr < 2 := h.2.2.2.1
theorem mvg.hdr {f g : Nat → Int} {p fr to pr : Nat} (h : mvg f g p fr to pr) : 81 < fr → f to = 0 ∧ pr = 0 := h.2.2.2.2.1
theorem mvg.hne {f g : Nat → Int} {p fr to pr : Nat} (h : mvg f g p fr to pr) : fr < 81 → fr ≠ to := h.2.2.2.2.2.1
theorem mvg.hown {f g : Nat → Int} {p fr to pr : Nat} (h : mvg f g p fr to pr) : fr < 81 → own p (f fr) := h.2.2.2.2.2.2.1
theorem mvg.hnot {f g : Nat → Int} {p fr to pr : Nat} (h : mvg f g p fr to pr) : fr < 81 → ¬ own p (f to) := h.2.2.2.2.2.2.2.1
theorem mvg.hkt {f g : Nat → Int} {p fr to pr : Nat} (h : mvg f g p fr to pr) : fr < 81 → kd (f to) ≠ 8 := h.2.2.2.2.2.2.2.2.1
theorem mvg.hpro {f g : Nat → Int} {p fr to pr : Nat} (h : mvg f g p fr to pr) : fr < 81 → pr = 1 → kd (f fr) ≤ 7 := h.2.2.2.2.2.2.2.2.2.1
theorem mvg.hkg {f g : Nat → Int} {p fr to pr : Nat} (h : mvg f g p fr to pr) : fr < 81 → kd (f fr) = 8 → g p = fr := h.2.2.2.2.2.2.2.2.2.2
theorem vof_kd {p : Nat} {v : Int} (hp : p < 2) (h : own p v) : vof p (kd v) = v := by
  unfold vof kd; split <;> split <;> omega
theorem vof_kd' {p : Nat} {v : Int} (hp : p < 2) (h : ¬ own p v) : vof (1 - (p : Int)) (kd v) = v := by
  unfold vof kd; split <;> split <;> omega
theorem kd_vof {p : Nat} {k : Int} (h : 0 ≤ k) : kd (vof p k) = k := by
  unfold vof kd; split <;> split <;> omega
theorem vof_0 (q : Int) : vof q 0 = 0 := by unfold vof; split <;> rfl
theorem up1_back {f : Nat → Int} {k : Nat} {v w : Int} (h : w = f k) : up1 (up1 f k v) k w = f := by rw [up1_up1, h, up1_id]
theorem tbS_mkS {f g : Nat → Int} {p fr to pr : Nat} (hp : p < 2) (h : mvg f g p fr to pr) : tbS (mkS f p fr to pr) p fr to pr (mkT f fr to) = f := by
  unfold tbS mkS mkT
  by_cases hd : 81 < fr
  · simp only [if_pos hd]
    exact up1_back (by rw [vof_0]; exact (h.hdr hd).1.symm)
  · simp only [if_neg hd]
    have hf : fr < 81 := by have := h.h81; omega
    have h0 : 0 ≤ kd (f fr) := by unfold kd; split <;> omega
    rw [up1_s, kd_vof (by omega), vof_kd' hp (h.hnot hf), show kd (f fr) + 8 * (pr : Int) - 8 * pr = kd (f fr) by omega, vof_kd hp (h.hown hf), up1_up1]
    funext j
    by_cases e : j = fr
    · subst e; rw [up1_s]
    · rw [up1_n e]
      by_cases e2 : j = to
      · subst e2; rw [up1_s]
      · rw [up1_n e2, up1_n e]
theorem tbH_mkH {f g h : Nat → Int} {p fr to pr : Nat} (hp : p < 2) (hm : mvg f g p fr to pr) : tbH (mkS f p fr to pr) (mkH f h p fr to) p fr to (mkT f fr to) = h := by
  unfold tbH mkS mkH mkT
  by_cases hd : 81 < fr
  · simp only [if_pos hd]
    rw [up1_s, kd_vof (by omega), show ((fr : Int) - 81).toNat = fr - 81 by omega]
    exact up1_back (by rw [up1_s]; omega)
  · simp only [if_neg hd]
    by_cases h0 : f to = 0
    · rw [if_pos ((kd_0 _).mpr h0), if_pos h0]
    · rw [if_neg (fun q => h0 ((kd_0 _).mp q)), if_neg h0]
      exact up1_back (by rw [up1_s]; omega)
theorem tbK_mkK {f g : Nat → Int} {p fr to pr : Nat} (hp : p < 2) (hm : mvg f g p fr to pr) : tbK (mkS f p fr to pr) (mkK f g p fr to) p fr to = g := by
  unfold tbK mkS mkK
  by_cases hd : 81 < fr
  · simp only [if_pos hd]
  · simp only [if_neg hd]
    have hf : fr < 81 := by have := hm.h81; omega
    have h0 : 0 ≤ kd (f fr) := by unfold kd; split <;> omega
    have h1 : kd (f fr) ≠ 0 := fun q => by have := (kd_0 _).mp q; have := hm.hown hf; omega
    rw [up1_s, kd_vof (by omega)]
    by_cases h8 : kd (f fr) = 8
    · have hp0 : pr = 0 := by have := hm.hpro hf; have := hm.hpr; omega
      rw [if_pos (by omega), if_pos h8]
      exact up1_back (hm.hkg hf h8).symm
    · have hp0 := hm.hpro hf
      have := hm.hpr
      rw [if_neg (by omega), if_neg h8]
theorem sqok_mk {f g : Nat → Int} {p fr to pr : Nat} (hm : mvg f g p fr to pr) (hf : sqok f) : sqok (mkS f p fr to pr) := by
  unfold mkS
  have h1 := hm.hpr
  have h2 := hm.hpro
  have h3 := hm.hfr
  split
  · exact sqok_up hf (by unfold vof; split <;> omega)
  · next hd =>
    have h4 : fr < 81 := by have := hm.h81; omega
    have h5 := hf fr h4
    have h6 : 0 ≤ kd (f fr) ∧ kd (f fr) ≤ 15 := by unfold kd; split <;> omega
    exact sqok_up (sqok_up hf (by omega)) (by have := h2 h4; unfold vof; split <;> omega)
theorem kgok_mk {f g : Nat → Int} {p fr to pr : Nat} (hp : p < 2) (hm : mvg f g p fr to pr) (hg : kgok g) : kgok (mkK f g p fr to) := by
  unfold mkK
  have h1 := hm.hto
  have : p = 0 ∨ p = 1 := by omega
  split
  · exact hg
  · split
    · rcases this with rfl | rfl
      · exact ⟨by rw [up1_s]; omega, by rw [up1_n (by decide)]; exact hg.2⟩
      · exact ⟨by rw [up1_n (by decide)]; exact hg.1, by rw [up1_s]; omega⟩
    · exact hg
theorem mkT_b {f g : Nat → Int} {p fr to pr : Nat} (hm : mvg f g p fr to pr) (hf : sqok f) : 0 ≤ mkT f fr to ∧ mkT f fr to ≤ 15 ∧ mkT f fr to ≠ 8 := by
  unfold mkT
  split
  · omega
  · have h1 := hm.hto
    have h3 := hm.h81
    have h2 := hm.hkt (by omega)
    have h4 := hf to h1
    unfold kd at *
    split <;> split at h2 <;> omega
/-- hands not too large -/
def hdok1 (h : Nat → Int) : Prop := ∀ i, i < 16 → -900 ≤ h i ∧ h i ≤ 900
theorem hdok_mk {f g h : Nat → Int} {p fr to pr : Nat} (hp : p < 2) (hm : mvg f g p fr to pr) (hf : sqok f) (hh : hdok1 h) : hdok (mkH f h p fr to) := by
  unfold mkH
  have h3 := hm.hfr
  have hw : hdok h := fun i hi => by have := hh i hi; omega
  have hu : ∀ (k : Nat) (d : Int), -1 ≤ d → d ≤ 1 → hdok (up1 h k (h k + d)) := by
    intro k d d1 d2 i hi
    unfold up1
    have := hh i hi
    split
    · next e => subst e; omega
    · omega
  split
  · exact hu _ (-1) (by omega) (by omega)
  · split
    · exact hw
    · exact hu _ 1 (by omega) (by omega)
theorem mkS_drop {f g : Nat → Int} {p fr to pr : Nat} (hm : mvg f g p fr to pr) (h : 81 < fr) : kd (mkS f p fr to pr to) ≤ 7 := by
  unfold mkS
  have h3 := hm.hfr
  rw [if_pos h, up1_s, kd_vof (by omega)]
  omega
