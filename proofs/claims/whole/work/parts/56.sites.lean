/-! The places where the class throws -/
section ST
variable {N k pc : Nat} {P : Option av → am → Prop} {ls : List al} {M : am}
def siteOk (k pc : Nat) (cn : Int) (ix is ic : Nat) (tx : String) : Bool :=
  decide (decode (mC k) pc = .ok (.new ix, 3)) && decide (decode (mC k) (pc + 3) = .ok (.dup, 1)) && decide (decode (mC k) (pc + 4) = .ok (.ldc is, 2)) && decide (decode (mC k) (pc + 6) = .ok (.invokespecial ic, 3)) && decide (decode (mC k) (pc + 9) = .ok (.athrow, 1)) &&
  (decide (cnm (mN k) = "DroppedPieces") && gw (.classLink "DroppedPieces" ix (xcl cn)) && gw (.instantiable (xcl cn) 6) && gw (.initialized (xcl cn)) && decide (Cond.stringRef "DroppedPieces" is tx ∈ exT) && decide (6 ≤ mF k) && decide (90 ≤ mO k) && Bundle.fit (xcl cn) && decide (hdl k = []) && decide ((cn, ic) ∈ [((1 : Int), 143), (2, 124), (3, 73), (4, 157)]))
theorem site_ic {cn : Int} {ic : Nat} (h : cn = 1 ∧ ic = 143 ∨ cn = 2 ∧ ic = 124 ∨ cn = 3 ∧ ic = 73) : ∀ w ∈ exA cn ic, w ∈ exL := by
  intro w hw
  simp only [exL, List.mem_append]
  rcases h with ⟨rfl, rfl⟩ | ⟨rfl, rfl⟩ | ⟨rfl, rfl⟩
  · exact Or.inl hw
  · exact Or.inr (Or.inl hw)
  · exact Or.inr (Or.inr (Or.inl hw))
theorem V_throw4X {ix is : Nat} {tx : String} (hh : hdl k = []) (d0 : decode (mC k) pc = .ok (.new ix, 3)) (d1 : decode (mC k) (pc + 3) = .ok (.dup, 1)) (d2 : decode (mC k) (pc + 4) = .ok (.ldc is, 2)) (d3 : decode (mC k) (pc + 6) = .ok (.invokespecial 157, 3)) (d4 : decode (mC k) (pc + 9) = .ok (.athrow, 1))
    (hN : cnm (mN k) = "DroppedPieces") (w1 : gw (.classLink "DroppedPieces" ix (xcl 4)) = true) (w2 : gw (.instantiable (xcl 4) 6) = true) (w3 : gw (.initialized (xcl 4)) = true) (w4 : Cond.stringRef "DroppedPieces" is tx ∈ exT) (hF : 6 ≤ mF k) (hO : 90 ≤ mO k)
    {ζ : qx} (hc1 : zc ζ + 1 ≤ zRc ζ) (hc2 : zs ζ + 6 ≤ zRs ζ) (hP : P (some (.inr (.inr 4))) M) : VX N k ζ P pc ls [] M := by
  intro x p l e s m args below meth c H locs lsA hA hPw hS hR hl hv
  obtain ⟨hx, hb, hml, hr, hown, hlk, hDx, hNx, hTB, hK, hSt⟩ := hA
  intro T hT X
  subst hT
  have X0 := rb_stand X hDx.2.2.1 hDx.2.2.2
  have hvm : (T.setFrames (.invoking m args :: below)).vm = T.vm := rfl
  have hTB' : TB (T.setFrames (.invoking m args :: below)) := hTB.warm X.warmed
  have hEx : Ex x (T.setFrames (.invoking m args :: below)) := hDx.2.1.2.2.1.step X.warmed (fun a h1 h2 => hS.2.1 a h1 h2)
  have htr : e.platform.stackTraces = false := Launch.traces_off hDx.2.1.2.2.2 X.admits
  rw [hN] at hown
  have hown' : (T.setFrames (.invoking m args :: below)).vm.findClass "DroppedPieces" = some m.cls := by rw [hvm, X.warmed.alike.findClass]; exact hown
  have htab : c.exceptionTable.toList = [] := by
    have h0 := hDx.2.1.2.1
    rw [hh] at h0
    exact List.map_eq_nil_iff.mp h0
  obtain ⟨vm₁, cX, kX, hfX, hkX, -, -, X₁, st1⟩ := X0.newCold hx (own := "DroppedPieces") (C := xcl 4) (index := ix) (n := 6) hown' (hTB'.use w1 args) (hTB'.use w2 args) (hTB'.use w3 args)
    (g := F0 m pc lsA []) rfl (by rw [hb]; exact d0) (show 0 + 1 ≤ zRc ζ - zc ζ by omega) (show 0 + 6 ≤ zRs ζ - zs ζ by omega)
  generalize hT2 : (T.setVm vm₁).pushCell { cls := cX, slots := kX.instanceTypes.map defaultValue, vm := .none } = T2 at X₁ st1
  have hcellA : T2.heap[T.heap.size]? = some (freshCell cX kX) := by rw [← hT2]; exact State.heap_pushCell_size _ _
  have hconst := hEx.use (mem_exT w4) args
  obtain ⟨-, -, -, sa, -, -, -, -, -, hev⟩ := Cond.stringRef_spec hown' hconst
  obtain ⟨U, hsteps, hrun, hend, hW, hsame, ce, hce, K1, K2⟩ := throw4 X₁ hx htr hown'
    (fun y hy => hEx.use (by simp only [exL, List.mem_append]; exact Or.inr (Or.inr (Or.inr (Or.inl hy)))) _) rfl hfX hkX hcellA (Nat.le_refl _) (msg := .ref sa) rfl
    (g := F0 m (pc + 6) lsA [.ref sa, .ref T.heap.size, .ref T.heap.size]) rfl (hl.2.1.trans hml.symm) rfl rfl (rest := []) rfl
    (by rw [hb]; exact d3) (by rw [hb]; exact d4) (fun y hy => by rw [htab] at hy; cases hy) (show 5 < mF k by omega) (show 2 * (F0 m (pc + 6) lsA [Value.ref sa, .ref T.heap.size, .ref T.heap.size]).monitorRoom + 1 + (13 * 3 + 42) ≤ mO k by have hmr : (F0 m (pc + 6) lsA [Value.ref sa, .ref T.heap.size, .ref T.heap.size]).monitorRoom = 0 := rfl; omega) hlk
  refine ⟨U, ?_, FX_threw X hc1 hc2 hP hR (by unfold r64; omega) hPw hS hrun hend hW hsame (Nat.le_refl _) hce (by rw [← hvm]; exact K1) (fun q h => by rw [K2] at h; cases h)⟩
  refine st1 _ ?_
  show Steps p.tables e below (T2.setTop (F0 m (pc + 3) lsA [.ref T.heap.size])) _
  jvm_step X₁.here [X₁.here.top, hx, hb, d1, Value.category]
  exact X₁.ldcString hx (own := "DroppedPieces") (text := tx) (index := is) (a := sa) hown' hconst hev (g := F0 m (pc + 4) lsA [.ref T.heap.size, .ref T.heap.size]) rfl (by rw [hb]; exact d2) _ hsteps
theorem V_site {cn : Int} {ix is ic : Nat} {tx : String} (h : siteOk k pc cn ix is ic tx = true) (hP : P (some (.inr (.inr cn))) M) : VX N k z16 P pc ls [] M := by
  simp only [siteOk, Bool.and_eq_true, decide_eq_true_eq, List.mem_cons, List.not_mem_nil, or_false, Prod.mk.injEq] at h
  obtain ⟨⟨⟨⟨⟨d0, d1⟩, d2⟩, d3⟩, d4⟩, ⟨⟨⟨⟨⟨⟨⟨⟨hN, w1⟩, w2⟩, w3⟩, w4⟩, hF⟩, hO⟩, hfit⟩, hh⟩, hic⟩ := h
  rcases hic with hic | hic | hic | ⟨rfl, rfl⟩
  · exact V_throwX (Or.inl hic.1) hh d0 d1 d2 d3 d4 hN w1 w2 w3 w4 hF hO hfit (by decide) (by decide) (site_ic (Or.inl hic)) hP
  · exact V_throwX (Or.inr (Or.inl hic.1)) hh d0 d1 d2 d3 d4 hN w1 w2 w3 w4 hF hO hfit (by decide) (by decide) (site_ic (Or.inr (Or.inl hic))) hP
  · exact V_throwX (Or.inr (Or.inr hic.1)) hh d0 d1 d2 d3 d4 hN w1 w2 w3 w4 hF hO hfit (by decide) (by decide) (site_ic (Or.inr (Or.inr hic))) hP
  · exact V_throw4X hh d0 d1 d2 d3 d4 hN w1 w2 w3 w4 hF hO (by decide) (by decide) hP
end ST
theorem RunsX.go {N k n : Nat} {as : List (Int ⊕ Nat)} {M : am} {P : Option av → am → Prop} (hL : mL k = n) (hk : decide (k < 143) = true) (hh : hdl k = []) (hn : as.length ≤ n) (h : Rg M → VX N k z16 P 0 (ini as n) [] M) : RunsX N k as M P :=
  RunsX.of (of_decide_eq_true hk) hh (by rw [hL]; exact hn) (fun hR => by rw [hL]; exact h hR)
theorem RunsX.okas {N k : Nat} {as : List (Int ⊕ Nat)} {M : am} {P : Option av → am → Prop} (h : (∀ v ∈ as, oko v) → RunsX N k as M P) : RunsX N k as M P := fun hR ho => h ho hR ho
theorem si_DP_requireSettingUp_8 : siteOk k_DP_requireSettingUp 8 1 139 177 143 "no position is being set up" = true := by decide +kernel
theorem si_DP_requireGame_8 : siteOk k_DP_requireGame 8 1 139 179 143 "a position is being set up" = true := by decide +kernel
theorem si_DP_requireSquare_7 : siteOk k_DP_requireSquare 7 2 120 181 124 "no such square" = true := by decide +kernel
theorem si_DP_put_15 : siteOk k_DP_put 15 3 69 71 73 "no such value" = true := by decide +kernel
theorem si_DP_give_28 : siteOk k_DP_give 28 3 69 86 73 "no such hand" = true := by decide +kernel
theorem si_DP_start_22 : siteOk k_DP_start 22 3 69 98 73 "no game can begin so" = true := by decide +kernel
theorem si_DP_move_34 : siteOk k_DP_move 34 2 120 122 124 "no such legal move" = true := by decide +kernel
theorem si_DP_play_39 : siteOk k_DP_play 39 1 139 141 143 "no move can be made any more" = true := by decide +kernel
theorem si_DP_play_60 : siteOk k_DP_play 60 3 69 144 73 "not a legal move" = true := by decide +kernel
theorem si_DP_back_14 : siteOk k_DP_back 14 4 153 155 157 "no move was made" = true := by decide +kernel
theorem si_DP_count_13 : siteOk k_DP_count 13 3 69 168 73 "not a length that is counted" = true := by decide +kernel
