/-! The law's helpers -/
def hpL : List (Nat × Nat × Nat) := [(74, 143, 4), (83, 144, 4), (87, 145, 2), (91, 146, 3), (112, 147, 2), (116, 148, 3), (119, 149, 3), (122, 150, 2), (125, 151, 2), (128, 152, 3), (131, 153, 2), (138, 154, 3), (141, 155, 2)]
def hpB (q : Nat × Nat × Nat) : Bool := gw (.codeWith (mY q.2.1) (mC q.2.1) (mL q.2.1) (mR q.2.1) (hdl q.2.1)) && gw (.initialized (mY q.2.1).cls) && gw (.static (mY q.2.1)) && gw (.methodLink (cnm (mN k_Law_law)) q.1 (mY q.2.1)) && plainName (mY q.2.1).cls && decide ((mY q.2.1).cls = cnm (mN q.2.1)) && decide ((mY q.2.1).cls ≠ "java/lang/invoke/MethodHandle") && decide ((mY q.2.1).cls ≠ "java/lang/invoke/VarHandle") && decide ((parseMethodDescriptor (mY q.2.1).desc).map (fun d => d.parameters.length) = some q.2.2)
theorem hpL_ok : hpL.all hpB = true := by decide +kernel
theorem hp_of {ix kc np : Nat} (h : (ix, kc, np) ∈ hpL) : gw (.codeWith (mY kc) (mC kc) (mL kc) (mR kc) (hdl kc)) = true ∧ gw (.initialized (mY kc).cls) = true ∧ gw (.static (mY kc)) = true ∧ gw (.methodLink (cnm (mN k_Law_law)) ix (mY kc)) = true ∧ plainName (mY kc).cls = true ∧ (mY kc).cls = cnm (mN kc) ∧ ((mY kc).cls ≠ "java/lang/invoke/MethodHandle" ∧ (mY kc).cls ≠ "java/lang/invoke/VarHandle") ∧ (parseMethodDescriptor (mY kc).desc).map (fun d => d.parameters.length) = some np := by
  have h0 := List.all_eq_true.mp hpL_ok _ h
  simp only [hpB, Bool.and_eq_true, decide_eq_true_eq] at h0
  obtain ⟨⟨⟨⟨⟨⟨⟨⟨a, b⟩, c⟩, d⟩, e⟩, f⟩, g⟩, i⟩, j⟩ := h0
  exact ⟨a, b, c, d, e, f, ⟨g, i⟩, j⟩
def RunsW (N k : Nat) (as : List (Int ⊕ Nat)) (M : am) (P : Option av → am → Prop) : Prop :=
  Rg M → (∀ v ∈ as, oko v) → ∀ (l : Launch) (x : cx), l.flags = flags0 → Dx x → N ≤ x.n → Met l (mY k) [.codeWith (mY k) (mC k) (mL k) (mR k) (hdl k)] (rmX k z16) (PcX x as M) (Qc x P) 1 6 x.A
theorem FX_MQ {x : cx} {P : Option av → am → Prop} (hret : ∀ r M', P r M' → ∀ z, r ≠ some (.inr (.inr z))) {below : List Frame} {args : Array Value} {s t : State} (h : FX x z16 P below s t) : MQ below (Qc x P) args s 1 6 x.A t := by
  obtain ⟨o, h1, h2, ⟨r, M', g1, g2, g3, g4, g5, g6⟩, h4, L, h5, h6⟩ := h
  have ho : o = .returned (r.map (vl x)) := by
    rcases r with _ | z | a | z
    · exact g4
    · exact g4
    · exact g4
    · exact absurd rfl (hret _ M' g1 z)
  exact ⟨o, h1, h2, ⟨r, M', g1, g2, g3, ho, g5, g6⟩, L, ⟨⟨_, ho⟩, h4, h5⟩, h6⟩
theorem RunsW.of {N k ix np : Nat} {as : List (Int ⊕ Nat)} {M : am} {P : Option av → am → Prop} (hq : (ix, k, np) ∈ hpL) (hn : as.length ≤ mL k) (hret : ∀ r M', P r M' → ∀ z, r ≠ some (.inr (.inr z))) (h : Rg M → VX N k z16 P 0 (ini as (mL k)) [] M) : RunsW N k as M P := by
  intro hR ho l x hfl hDx hN
  obtain ⟨h1, h2, h3, h4, h5, h6, h7, h8⟩ := hp_of hq
  refine va_MetW (hh := hdl k) (cc := mC k) (maxL := mL k) (ret := mR k) (ws' := []) h5 rfl ?_
  intro p e s m args below meth c s₁ B hml hP
  obtain ⟨⟨rfl, hC, hPw⟩, hEx⟩ := hP
  have X₀ : Stand p l e (rmX k z16) s m _ below meth c s₁ [] 0 0 := Stand.of_body B
  have hown : s.vm.findClass (mY k).cls = some m.cls := findClass_of_methodNamed B.named
  rw [h6] at hown
  have htab : c.exceptionTable.toList.map (fun h => (h.startPc, h.endPc, h.handlerPc, h.catchType)) = hdl k := by
    obtain ⟨m9, meth', c', hn9, g1, g2, -, -, g5, -⟩ := Cond.codeWith_spec (atoms_spec (ws := [.codeWith (mY k) (mC k) (mL k) (mR k) (hdl k)]) B.pre _ List.mem_cons_self)
    cases B.named.symm.trans hn9
    cases g1.symm.trans X₀.method
    cases g2.symm.trans X₀.code
    exact g5
  rw [lg_entry_eq]
  exact W_post (h hR x p l e s m _ below meth c s.heap [] _ ⟨B.exec, B.bytes, hml, B.returns, hown, B.notSynchronized, ⟨hDx, ⟨(fun q => by cases q), htab, hEx, hfl⟩, Nat.zero_le _, Nat.zero_le _⟩, hN, hC⟩ hPw va_S.rf hR (ini_lok hn ho) (fun v hv => by cases hv)) (fun t ht => FX_MQ hret ht)
theorem PcX_blind (x : cx) (as : List (Int ⊕ Nat)) (M : am) : FrameBlind (PcX x as M) := by
  intro a U g mk h
  exact ⟨Pc_blind x as M _ _ _ _ h.1, h.2.step (State.WarmedH.refl U) (fun _ _ _ => rfl)⟩
section CW
variable {N k pc : Nat} {P : Option av → am → Prop} {ls : List al} {st : List av} {M : am} {ζ : qx}
theorem V_callsW {ix kc np : Nat} {as : List (Int ⊕ Nat)} {rest : List av} {P' : Option av → am → Prop} (hd : decode (mC k) pc = .ok (.invokestatic ix, 3)) (hk : mN k = mN k_Law_law) (hq : (ix, kc, np) ∈ hpL) (hr : mF kc + 1 ≤ mF k ∧ 8 + (mL kc + 11) + mO kc ≤ mO k) (hpop : popn np st [] = some (as, rest)) (hwt : wt rest ≤ 8)
    (hc1 : zc ζ + 1 ≤ zRc ζ) (hc2 : zs ζ + 6 ≤ zRs ζ) (hM : RunsW N kc as M P') (kk : ∀ r M', P' r M' → VX N k (zin ζ) P (pc + 3) ls (r.toList ++ rest) M') : VX N k ζ P pc ls st M := by
  intro x p l e s m args below meth c H locs lsA hA hP hS hR hl hv
  have hA0 := hA
  obtain ⟨hx, hb, hml, hr0, hown, hlk, hDx, hNx, hC⟩ := hA
  obtain ⟨pre, h1, h2, h3, h4⟩ := popn_spec x np st [] as rest hpop
  rw [List.append_nil] at h1
  subst h1
  obtain ⟨h5, h6⟩ := h4 hv
  obtain ⟨f1, f2, f3, f4, f5, f6, f7, f8⟩ := hp_of hq
  have hK : Back l (rmX k ζ) p e below s args (mY kc) 3 8 (PreOf (rmX k ζ) 1 6 (PcX x as M)) (PostOf (Qc x P') 1 6 x.A) :=
    va_backW (hh := hdl kc) (bytes := mC kc) (maxL := mL kc) (ret := mR kc) (hM hR h5 l x hDx.2.1.2.2.2 hDx.1 hNx) (PcX_blind x as M) rfl rfl hr.1 hr.2
      (fun w hw a' U hW => by rw [List.mem_singleton.mp hw]; exact word_at hW (good_of_word (gw_mem f1).2) (hC.1.use f1 args)) (List.mem_singleton.mpr rfl)
      (fun a' U hW => word_at hW (good_of_word (gw_mem f2).2) (hC.1.use f2 args))
  intro T hT X
  subst hT
  obtain ⟨mk, methM, cM, hnamed, hmethM, -, -, -, -, -, -, hsigM⟩ := Cond.codeWith_spec (hC.1.use f1 args)
  have hstatic : methM.isStatic = true := Cond.static_spec hnamed hmethM (hC.1.use f3 args)
  obtain ⟨kP, hkP, -⟩ := className_of_methodNamed hnamed
  have hinitP : kP.init = .initialized := Cond.initialized_spec (findClass_of_methodNamed hnamed) hkP (hC.1.use f2 args)
  have hlen : (as.map (vo x)).length = methM.sig.parameters.length := by
    rw [hsigM] at f8
    simp only [Option.map_some, Option.some.injEq] at f8
    rw [List.length_map, h2, f8]
  have hstk : (st.map (vl x)) = (as.map (vo x)).reverse ++ rest.map (vl x) := by rw [h3]
  rw [hk] at hown
  obtain ⟨vm₁, X₁, hstep₁⟩ := X.invokestatic hx hown (hC.1.use f4 args) hnamed hmethM hstatic hkP hinitP f7 (g := F0 m pc lsA (st.map (vl x))) rfl (argsL := as.map (vo x)) (rest := rest.map (vl x)) hlen hstk (by rw [hb]; exact hd)
  have hW1 : s.WarmedH (T.setVm vm₁).vm := X₁.warmed
  obtain ⟨v, ⟨U', l2, c2, s2⟩, X', ⟨g', mk', t, L, e1, e2, hq', q1, hL, q2, q3⟩, hsteps⟩ := hK m meth c ⟨T.setVm vm₁, locs, zc ζ, zs ζ⟩ (F0 m pc lsA (rest.map (vl x))) (.invokestatic ix) mk (as.map (vo x)).toArray X₁ rfl (hl.2.1.trans hml.symm) (by rw [hb]; exact hd) (lv_room (by rw [wt_cat]; exact hwt)) (X₁.named hnamed)
    ⟨hc1, hc2, Pc_at (as := as) hC hS hP (U := T.setVm vm₁) rfl hW1, hDx.2.1.2.2.1.step (U := T.setVm vm₁) hW1 (fun q q1 q2 => hS.2.1 q q1 q2)⟩
  dsimp only [Pt.U, Pt.locs, Pt.cells, Pt.slots] at X' e1 e2 q1 q2 q3 hsteps
  subst q1; subst q2; subst q3
  obtain ⟨r, M', b1, b2, b3, b4, b5, hz, hkk⟩ := hq'
  cases b4
  have hF : va_S x.A s.heap U'.heap (locs ++ L) := by
    refine ⟨Nat.le_trans hS.1 (by rw [e1]; exact hz), fun q p1 p2 => by rw [e1, hkk q (Nat.lt_of_lt_of_le p1 hS.1) p2]; exact hS.2.1 q p1 p2, fun q hq => ?_⟩
    rcases List.mem_append.mp hq with h | h
    · exact hS.2.2 q h
    · exact hL q h
  have hgo := kk r M' b1 x p l e s m args below meth c U'.heap (locs ++ L) lsA ⟨hx, hb, hml, hr0, by rw [hk]; exact hown, hlk, ⟨hDx.1, ⟨hDx.2.1.1, hDx.2.1.2⟩, hc1, hc2⟩, hNx, hC⟩ (by rw [e1]; exact b5) hF b2 hl (fun v hv => ?_)
  · have e0 : (r.toList ++ rest).map (vl x) = (r.map (vl x)).toList ++ rest.map (vl x) := by cases r <;> rfl
    rw [e0] at hgo
    obtain ⟨t2, a1, c1⟩ := hgo U' rfl X'
    exact ⟨t2, hstep₁ _ (fun acts => by rw [doInvoke_state]; exact hsteps.trans a1), c1⟩
  · rcases List.mem_append.mp hv with h | h
    · exact b3 v (by cases r with
        | none => cases h
        | some w => rw [List.mem_singleton.mp h])
    · exact h6 v h
end CW
