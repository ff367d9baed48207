/-! what the reference takes back -/
section UN
variable {F h0 K g hm kg : Nat → Int} {p fr to pr : Nat}
theorem un_all (hp : p < 2) (hv : mvg F K p fr to pr) (hs : sqok F) (a1 : agr 81 (mkS F p fr to pr) g) (a2 : agr 16 (mkH F h0 p fr to) hm) (a3 : agr 2 (mkK F K p fr to) kg) :
    ∃ f h k : Nat → Int, mkS f p fr to pr = g ∧ mkH f h p fr to = hm ∧ mkK f k p fr to = kg ∧ agr 81 F f ∧ agr 16 h0 h ∧ agr 2 K k ∧ mvg f k p fr to pr ∧ f to = F to := by
  have hto := hv.hto
  have hfr := hv.hfr
  have h81 := hv.h81
  have hpr := hv.hpr
  have gto : g to = mkS F p fr to pr to := (a1 to hto).symm
  have A1 : agr 81 F (tbS g p fr to pr (mkT F fr to)) := fun i hi => by rw [← tbS_agr hto a1 i hi, tbS_mkS hp hv]
  have A2 : agr 16 h0 (tbH g hm p fr to (mkT F fr to)) := fun i hi => by rw [← tbH_agr hto a1 a2 i hi, tbH_mkH hp hv]
  have fto := (A1 to hto).symm
  by_cases hd : 81 < fr
  · have hz := (hv.hdr hd).1
    have hpr0 := (hv.hdr hd).2
    have eT : mkT F fr to = 0 := by unfold mkT; rw [if_pos hd]
    have eg : g to = vof p ((fr : Int) - 81) := by rw [gto]; unfold mkS; rw [if_pos hd, up1_s]
    have ef : tbS g p fr to pr (mkT F fr to) = up1 g to 0 := by unfold tbS; rw [if_pos hd, eT, vof_0]
    have ek : kd (g to) = (fr : Int) - 81 := by rw [eg, kd_vofI (by omega)]
    have eh : tbH g hm p fr to (mkT F fr to) = up1 hm (8 * p + (fr - 81)) (hm (8 * p + (fr - 81)) + 1) := by unfold tbH; rw [if_pos hd, ek, show ((fr : Int) - 81).toNat = fr - 81 by omega]
    refine ⟨_, _, kg, ?_, ?_, ?_, A1, A2, ?_, ?_, fto⟩
    · rw [ef]; unfold mkS; rw [if_pos hd]; exact up1_back (by rw [eg])
    · rw [eh]; unfold mkH; rw [if_pos hd]; refine up1_back ?_; rw [up1_s]; omega
    · unfold mkK; rw [if_pos hd]
    · intro i hi; rw [← a3 i hi]; unfold mkK; rw [if_pos hd]
    · exact ⟨hfr, h81, hto, hpr, fun _ => ⟨by rw [fto]; exact hz, hpr0⟩, fun w => by omega, fun w => by omega, fun w => by omega, fun w => by omega, fun w => by omega, fun w => by omega⟩
  · have hfl : fr < 81 := by omega
    have hne := hv.hne hfl
    have hown := hv.hown hfl
    have hk := kd_own hp hown
    have hnot := hv.hnot hfl
    have hkt := hv.hkt hfl
    have eT : mkT F fr to = kd (F to) := by unfold mkT; rw [if_neg hd]
    have eg : g to = vof p (kd (F fr) + 8 * pr) := by rw [gto]; unfold mkS; rw [if_neg hd, up1_s]
    have egf : g fr = 0 := by rw [← a1 fr hfl, mkS_fr hfl hv]
    have ek : kd (g to) = kd (F fr) + 8 * pr := by rw [eg, kd_vofI (by omega)]
    have ffr := (A1 fr hfl).symm
    have ef : tbS g p fr to pr (mkT F fr to) = up1 (up1 g to (F to)) fr (F fr) := by
      unfold tbS
      rw [if_neg hd, eT, vof_kd' hp hnot, ek, show kd (F fr) + 8 * (pr : Int) - 8 * (pr : Int) = kd (F fr) by omega, ← hk.1]
    have eS : mkS (tbS g p fr to pr (mkT F fr to)) p fr to pr = g := by
      unfold mkS
      rw [if_neg hd, ffr, ef]
      funext i
      unfold up1
      by_cases h1 : i = to
      · rw [if_pos h1, h1, eg]
      · rw [if_neg h1]
        by_cases h2 : i = fr
        · rw [if_pos h2, h2, egf]
        · rw [if_neg h2, if_neg h2, if_neg h1]
    have hH : mkH (tbS g p fr to pr (mkT F fr to)) (tbH g hm p fr to (mkT F fr to)) p fr to = hm := by
      unfold mkH tbH
      rw [if_neg hd, if_neg hd, fto, eT]
      by_cases hz : F to = 0
      · rw [if_pos hz, if_pos ((kd_0 _).mpr hz)]
      · rw [if_neg hz, if_neg (fun q => hz ((kd_0 _).mp q))]
        refine up1_back ?_
        rw [up1_s]
        omega
    have hg8 : kd (g to) = 8 ↔ kd (F fr) = 8 := by
      rw [ek]
      rcases (show pr = 0 ∨ pr = 1 by omega) with h | h
      · rw [h]; simp
      · have := hv.hpro hfl h
        rw [h]
        omega
    have hK : mkK (tbS g p fr to pr (mkT F fr to)) (tbK g kg p fr to) p fr to = kg ∧ agr 2 K (tbK g kg p fr to) ∧ (kd (F fr) = 8 → tbK g kg p fr to p = fr) := by
      unfold mkK tbK
      rw [if_neg hd, if_neg hd, ffr]
      by_cases h8 : kd (F fr) = 8
      · rw [if_pos h8, if_pos (hg8.mpr h8)]
        have hkp := hv.hkg hfl h8
        have ekp : kg p = to := by rw [← a3 p hp]; unfold mkK; rw [if_neg hd, if_pos h8, up1_s]
        refine ⟨by rw [up1_up1, ← ekp, up1_id], fun i hi => ?_, fun _ => up1_s _ _ _⟩
        by_cases e : i = p
        · rw [e, up1_s]; exact hkp
        · rw [up1_n e, ← a3 i hi]
          unfold mkK
          rw [if_neg hd, if_pos h8, up1_n e]
      · rw [if_neg h8, if_neg (fun q => h8 (hg8.mp q))]
        refine ⟨rfl, fun i hi => ?_, fun q => absurd q h8⟩
        rw [← a3 i hi]
        unfold mkK
        rw [if_neg hd, if_neg h8]
    refine ⟨_, _, _, eS, hH, hK.1, A1, A2, hK.2.1, ?_, fto⟩
    exact ⟨hfr, h81, hto, hpr, fun w => by omega, fun _ => hne, fun _ => by rw [ffr]; exact hown, fun _ => by rw [fto]; exact hnot, fun _ => by rw [fto]; exact hkt, fun _ w => by rw [ffr]; exact hv.hpro hfl w, fun _ w => by rw [ffr] at w; exact hK.2.2 w⟩
end UN
