/-! The call of a method that throws, in the caller's judgement -/
section CX
variable {N k pc : Nat} {P : Option av → am → Prop} {ls : List al} {st : List av} {M : am} {ζ : qx}
/-- what a throwing callee leaves -/
def thE (x : cx) (s0 : State) (P' : Option av → am → Prop) (b : Addr) (t : State) (L : List Loc) : Prop :=
  ∃ (cn : Int) (M' : am) (cell : Cell), P' (some (.inr (.inr cn))) M' ∧ Rg M' ∧ t.heap[b]? = some cell ∧ s0.heap.size ≤ b ∧ (∀ q, cell.vm ≠ .statics q) ∧ s0.vm.findClass (xcl cn) = some cell.cls ∧ va_P x.D vcl (wld x M') t.heap ∧ va_F x.A s0 t ∧ ∀ q ∈ L, x.A q.base
theorem FQ_thE {x : cx} {P' : Option av → am → Prop} (hthr : ∀ r M', P' r M' → ∃ cn, r = some (.inr (.inr cn))) {a : Array Value} {s0 t : State} {o : Outcome} (h : FQ x z16 P' a s0 o t) : ∃ b L, o = .threw b ∧ s0.WarmedH t.vm ∧ s0.sameButNew ({ t with vm := s0.vm } : State) L 1 6 ∧ thE x s0 P' b t L := by
  obtain ⟨⟨r, M', g1, g2, g3, g4, g5, g6⟩, g7, L, g8, g9⟩ := h
  obtain ⟨cn, rfl⟩ := hthr r M' g1
  obtain ⟨b, cell, e1, e2, e3, e4, e5⟩ := g4
  exact ⟨b, L, e1, g7, g8, cn, M', cell, g1, g2, e2, e3, e4, e5, g5, g6, g9⟩
theorem tx_go {x : cx} {p : Program} {l : Launch} {e : Env} {s s0 T0 : State} {m : MethodId} {args : Array Value} {below : List Frame} {meth : Method} {c : Code} {locs L : List Loc} {lsA : Array Slot} {rest : List Value} {P' : Option av → am → Prop} {b : Addr} {t : State}
    (hA : AmX x N k ζ p l s m meth c) (hc1 : zc ζ + 1 ≤ zRc ζ) (hc2 : zs ζ + 6 ≤ zRs ζ) (hS : va_S x.A s.heap T0.heap locs) (hl : lok x (mL k) ls lsA) (h0 : s0.heap = T0.heap) (hW0 : s.vm.Alike s0.vm) (hE : thE x s0 P' b t L)
    (X : Stand p l e (rmX k ζ) s m args below meth c (({ T0 with heap := t.heap, slotsUsed := t.slotsUsed } : State).setVm t.vm) (locs ++ L) (zc ζ + 1) (zs ζ + 6)) (kk : ∀ cn M', P' (some (.inr (.inr cn))) M' → TX N k (zin ζ) P pc ls cn M') :
    ∃ t', Steps p.tables e below (((({ T0 with heap := t.heap, slotsUsed := t.slotsUsed } : State).setVm t.vm).setTop (F0 m pc lsA rest)).pushFrame (.throwing b)) t' ∧ FX x ζ P below s t' := by
  obtain ⟨cn, M', cell, g1, g2, g3, g4, g5, g6, g7, g8, g9⟩ := hE
  obtain ⟨hx, hbc, hml, hr, hown, hlk, hDx, hNx, hC⟩ := hA
  rw [h0] at g4
  have hF : va_S x.A s.heap t.heap (locs ++ L) := by
    obtain ⟨f1, f2⟩ := g8
    rw [h0] at f1 f2
    refine ⟨Nat.le_trans hS.1 f1, fun q q1 q2 => (f2 q (Nat.lt_of_lt_of_le q1 hS.1) q2).trans (hS.2.1 q q1 q2), fun q hq => ?_⟩
    rcases List.mem_append.mp hq with h | h
    · exact hS.2.2 q h
    · exact g9 q h
  exact kk cn M' g1 x p l e s m args below meth c (locs ++ L) lsA rest b cell (({ T0 with heap := t.heap, slotsUsed := t.slotsUsed } : State).setVm t.vm) ⟨hx, hbc, hml, hr, hown, hlk, ⟨hDx.1, ⟨hDx.2.1.1, hDx.2.1.2⟩, hc1, hc2⟩, hNx, hC⟩ g7 hF g2 hl g3 g5 (by rw [← hW0.findClass]; exact g6) (Nat.le_trans hS.1 g4) X
theorem V_callvT {ix kc np a : Nat} {as : List (Int ⊕ Nat)} {rest : List av} {P' : Option av → am → Prop} (hd : decode (mC k) pc = .ok (.invokevirtual ix, 3)) (hq : (mN k, ix, kc, np) ∈ MLV) (hr : mF kc + 1 ≤ mF k ∧ 8 + (mL kc + 11) + mO kc ≤ mO k) (hpop : popn np st [] = some (as, .inr (.inl a) :: rest)) (ha : a < N) (hs : (sh a).1 = 3) (hc : (sh a).2.1 = mN kc) (hwt : wt rest ≤ 8)
    (hc1 : zc ζ + 1 ≤ zRc ζ) (hc2 : zs ζ + 6 ≤ zRs ζ) (hM : RunsX N kc (.inr a :: as) M P') (hthr : ∀ r M', P' r M' → ∃ cn, r = some (.inr (.inr cn))) (kk : ∀ cn M', P' (some (.inr (.inr cn))) M' → TX N k (zin ζ) P pc ls cn M') : VX N k ζ P pc ls st M := by
  intro x p l e s m args below meth c H locs lsA hA hP hS hR hl hv
  have hA0 := hA
  obtain ⟨hx, hb, hml, hr0, hown, hlk, hDx, hNx, hC⟩ := hA
  obtain ⟨pre, h1, h2, h3, h4⟩ := popn_spec x np st [] as _ hpop
  rw [List.append_nil] at h1
  subst h1
  obtain ⟨h5, h6⟩ := h4 hv
  obtain ⟨i, j, j2, g1, g2, g3, g4, g5, g6⟩ := MLV.use hq
  obtain ⟨f1, f2, f3, f4, f5⟩ := mP_of g4
  cases hcl : vcl[mN kc]? with
  | none => simp only [hcl] at g6; cases g6
  | some rc =>
    simp only [hcl, Option.map_some, Option.some.injEq] at g6
    intro T hT X
    subst hT
    obtain ⟨cellB, hcB, hoB, hclB⟩ := va_recv hC.2.1 hP hcl ((wld_at (Nat.lt_of_lt_of_le ha hNx)).trans (by rw [ent_3 hs, hc]))
    rw [g6] at hclB
    obtain ⟨mk, methM, hnamed, hmethM, hstM, habM⟩ := Cond.instanceMethod_spec (hC.1.at g2 args)
    obtain ⟨methM', cM, hmethM', -, -, -, -, -, -, hsigM⟩ := Cond.code_spec hnamed (hC.1.use f1 args)
    cases hmethM.symm.trans hmethM'
    obtain ⟨c2, r2, m2, q1, q2, q3, q4, kP, hkP, hkPi⟩ := Cond.selects_spec (hC.1.at g3 args)
    cases hclB.symm.trans q1
    cases (State.methodFound?_of_named hnamed f3).symm.trans q2
    cases hnamed.symm.trans q3
    have hselP : selectMethod e.platform s.vm cellB.cls mk = .method mk := by rw [Launch.admits_selectMethod X.admits]; exact q4
    have hlen : (as.map (vo x)).length = methM.sig.parameters.length := by
      rw [hsigM] at g5
      simp only [Option.map_some, Option.some.injEq] at g5
      rw [List.length_map, h2, g5]
    have hstk : (st.map (vl x)) = (as.map (vo x)).reverse ++ .ref (x.loc a) :: rest.map (vl x) := by rw [h3]; rfl
    obtain ⟨vm₁, X₁, hstep₁⟩ := X.invokevirtual hx hown (hC.1.at g1 args) hnamed hmethM hstM hkP hkPi f3 (a := x.loc a) (cell := cellB) hcB
      (fun z h => by rw [h] at hoB; cases hoB) hselP hmethM habM hkP hkPi (g := F0 m pc lsA (st.map (vl x))) rfl (argsL := as.map (vo x)) (rest := rest.map (vl x)) hlen hstk (by rw [hb]; exact hd)
    have hW1 : s.WarmedH (T.setVm vm₁).vm := X₁.warmed
    have hPc : PcX x (.inr a :: as) M (Value.ref (x.loc a) :: as.map (vo x)).toArray ((T.setVm vm₁).calling (F0 m pc lsA (rest.map (vl x))) mk (Value.ref (x.loc a) :: as.map (vo x)).toArray) :=
      ⟨Pc_blind x _ M _ _ _ _ (Pc_at (as := .inr a :: as) hC hS hP (U := T.setVm vm₁) rfl hW1), hDx.2.1.2.2.1.step (U := (T.setVm vm₁).calling (F0 m pc lsA (rest.map (vl x))) mk (Value.ref (x.loc a) :: as.map (vo x)).toArray) hW1 (fun q q1 q2 => hS.2.1 q q1 q2)⟩
    obtain ⟨b, t, L, X', hE, hsteps⟩ := bk_throw X₁ (hM hR (fun v hv => (List.mem_cons.mp hv).elim (fun e => by rw [e]; trivial) (h5 v)) l x hDx.2.1.2.2.2 hDx.1 hNx) (show mF kc + 1 ≤ mF k from hr.1) (show 8 + (mL kc + 11) + mO kc ≤ mO k from hr.2)
      (by
        refine atoms_intro fun w hw => ?_
        rw [List.mem_singleton.mp hw]
        exact (hC.1.warm hW1).use f1 _)
      ((hC.1.warm hW1).use f1 _) ((hC.1.warm hW1).use f2 _) hc1 hc2 hPc (g := F0 m pc lsA (rest.map (vl x))) rfl (hl.2.1.trans hml.symm) (by rw [hb]; exact hd) (lv_room (by rw [wt_cat]; exact hwt)) (X₁.named hnamed) (fun o t h => FQ_thE hthr h)
    obtain ⟨t', hst', hF'⟩ := tx_go (rest := rest.map (vl x)) (T0 := T.setVm vm₁) (P := P) hA0 hc1 hc2 hS hl rfl hW1.alike hE X' kk
    exact ⟨t', hstep₁ _ (fun acts => by rw [doInvoke_state]; exact hsteps.trans hst'), hF'⟩
theorem V_callsT {ix kc np : Nat} {as : List (Int ⊕ Nat)} {rest : List av} {P' : Option av → am → Prop} (hd : decode (mC k) pc = .ok (.invokestatic ix, 3)) (hq : (mN k, ix, kc, np) ∈ MLS) (hr : mF kc + 1 ≤ mF k ∧ 8 + (mL kc + 11) + mO kc ≤ mO k) (hpop : popn np st [] = some (as, rest)) (hwt : wt rest ≤ 8)
    (hc1 : zc ζ + 1 ≤ zRc ζ) (hc2 : zs ζ + 6 ≤ zRs ζ) (hM : RunsX N kc as M P') (hthr : ∀ r M', P' r M' → ∃ cn, r = some (.inr (.inr cn))) (kk : ∀ cn M', P' (some (.inr (.inr cn))) M' → TX N k (zin ζ) P pc ls cn M') : VX N k ζ P pc ls st M := by
  intro x p l e s m args below meth c H locs lsA hA hP hS hR hl hv
  have hA0 := hA
  obtain ⟨hx, hb, hml, hr0, hown, hlk, hDx, hNx, hC⟩ := hA
  obtain ⟨pre, h1, h2, h3, h4⟩ := popn_spec x np st [] as _ hpop
  rw [List.append_nil] at h1
  subst h1
  obtain ⟨h5, h6⟩ := h4 hv
  obtain ⟨i, j, g1, g2, g4, g5⟩ := MLS.use hq
  obtain ⟨f1, f2, f3, f4, f5⟩ := mP_of g4
  intro T hT X
  subst hT
  obtain ⟨mk, hnamed⟩ := Cond.code_named (hC.1.use f1 args)
  obtain ⟨methM, cM, hmethM, -, -, -, -, -, -, hsigM⟩ := Cond.code_spec hnamed (hC.1.use f1 args)
  have hstatic : methM.isStatic = true := Cond.static_spec hnamed hmethM (hC.1.at g2 args)
  obtain ⟨kP, hkP, -⟩ := className_of_methodNamed hnamed
  have hinitP : kP.init = .initialized := Cond.initialized_spec (findClass_of_methodNamed hnamed) hkP (hC.1.use f2 args)
  have hlen : (as.map (vo x)).length = methM.sig.parameters.length := by
    rw [hsigM] at g5
    simp only [Option.map_some, Option.some.injEq] at g5
    rw [List.length_map, h2, g5]
  have hstk : (st.map (vl x)) = (as.map (vo x)).reverse ++ rest.map (vl x) := by rw [h3]
  obtain ⟨vm₁, X₁, hstep₁⟩ := X.invokestatic hx hown (hC.1.at g1 args) hnamed hmethM hstatic hkP hinitP f3 (g := F0 m pc lsA (st.map (vl x))) rfl (argsL := as.map (vo x)) (rest := rest.map (vl x)) hlen hstk (by rw [hb]; exact hd)
  have hW1 : s.WarmedH (T.setVm vm₁).vm := X₁.warmed
  have hPc : PcX x as M (as.map (vo x)).toArray ((T.setVm vm₁).calling (F0 m pc lsA (rest.map (vl x))) mk (as.map (vo x)).toArray) :=
    ⟨Pc_blind x _ M _ _ _ _ (Pc_at (as := as) hC hS hP (U := T.setVm vm₁) rfl hW1), hDx.2.1.2.2.1.step (U := (T.setVm vm₁).calling (F0 m pc lsA (rest.map (vl x))) mk (as.map (vo x)).toArray) hW1 (fun q q1 q2 => hS.2.1 q q1 q2)⟩
  obtain ⟨b, t, L, X', hE, hsteps⟩ := bk_throw X₁ (hM hR h5 l x hDx.2.1.2.2.2 hDx.1 hNx) (show mF kc + 1 ≤ mF k from hr.1) (show 8 + (mL kc + 11) + mO kc ≤ mO k from hr.2)
    (by
      refine atoms_intro fun w hw => ?_
      rw [List.mem_singleton.mp hw]
      exact (hC.1.warm hW1).use f1 _)
    ((hC.1.warm hW1).use f1 _) ((hC.1.warm hW1).use f2 _) hc1 hc2 hPc (g := F0 m pc lsA (rest.map (vl x))) rfl (hl.2.1.trans hml.symm) (by rw [hb]; exact hd) (lv_room (by rw [wt_cat]; exact hwt)) (X₁.named hnamed) (fun o t h => FQ_thE hthr h)
  obtain ⟨t', hst', hF'⟩ := tx_go (rest := rest.map (vl x)) (T0 := T.setVm vm₁) (P := P) hA0 hc1 hc2 hS hl rfl hW1.alike hE X' kk
  exact ⟨t', hstep₁ _ (fun acts => by rw [doInvoke_state]; exact hsteps.trans hst'), hF'⟩
end CX
