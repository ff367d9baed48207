/-! calls -/
section VC
variable {N k pc : Nat} {P : Option av → am → Prop} {ls : List al} {st : List av} {M : am}
theorem V_call_go {p : Program} {l : Launch} {e : Env} {R : Room} {s : State} {m : MethodId} {args a : Array Value} {below : List Frame} {meth : Method} {c : Code} {H : Heap} {locs : List Loc} {Q : State → Prop} {x : cx} {P' : Option av → am → Prop} {lsA : Array Slot} {st0 rest : List Value}
    (hr : va_Run p l e R s m args below meth c H locs 0 0 0 0 (F0 m pc lsA st0) rest (Qc x P' a) x.A) (hS : va_S x.A s.heap H locs)
    (kk : ∀ (r : Option av) (M' : am) (H1 : Heap) (locs1 : List Loc), P' r M' → Rg M' → (∀ v, r = some v → okv v) → va_P x.D vcl (wld x M') H1 → va_S x.A s.heap H1 locs1 → W p l e R s m args below meth c H1 locs1 0 0 Q (F0 m (pc + 3) lsA ((r.map (vl x)).toList ++ rest))) : W p l e R s m args below meth c H locs 0 0 Q (F0 m pc lsA st0) := by
  intro T hT X
  obtain ⟨v, st₀, t, T', L, h0, X', hL, e1, e2, ⟨r, M', b1, b2, b3, b4, b5, hz, hk⟩, stp⟩ := hr T hT X
  cases b4
  rw [h0] at hz hk
  obtain ⟨t2, a1, c1⟩ := kk r M' T'.heap (locs ++ L) b1 b2 b3 (by rw [e1]; exact b5)
    ⟨Nat.le_trans hS.1 (by rw [e1]; exact hz), fun q h1 h2 => by rw [e1, hk q (Nat.lt_of_lt_of_le h1 hS.1) h2]; exact hS.2.1 q h1 h2, fun q hq => by
      rcases List.mem_append.mp hq with h | h
      · exact hS.2.2 q h
      · exact hL q h⟩ T' rfl X'
  exact ⟨t2, stp t2 a1, c1⟩
theorem Pc_blind (x : cx) (as : List (Int ⊕ Nat)) (M : am) : FrameBlind (Pc x as M) := fun a U g mk h =>
  ⟨h.1, ⟨h.2.1.1.warm (U := U.calling g mk a) (State.WarmedH.refl U), va_K.moved (u := U) (U := U.calling g mk a) (Vm.Alike.refl U.vm) h.2.1.2.1, Sx.moved (u := U) (U := U.calling g mk a) (Vm.Alike.refl U.vm) h.2.1.2.2⟩, h.2.2⟩
theorem Pc_at {x : cx} {as : List (Int ⊕ Nat)} {M : am} {s U : State} {H : Heap} {locs : List Loc} (hC : Cx x s) (hS : va_S x.A s.heap H locs) (hP : va_P x.D vcl (wld x M) H) (hU : U.heap = H) (hW : s.WarmedH U.vm) : Pc x as M (as.map (vo x)).toArray U := by
  refine ⟨rfl, ⟨hC.1.warm hW, va_K.moved hW.alike hC.2.1, ?_⟩, by rw [hU]; exact hP⟩
  rw [hU]
  exact Sx.moved hW.alike (hC.2.2.kept (fun a h1 h2 => hS.2.1 a h1 h2))
def lo : av → Option (Int ⊕ Nat)
  | .inl z => some (.inl z)
  | .inr (.inl a) => some (.inr a)
  | .inr (.inr _) => none
def popn : Nat → List av → List (Int ⊕ Nat) → Option (List (Int ⊕ Nat) × List av)
  | 0, st, acc => some (acc, st)
  | n + 1, [], _ => none
  | n + 1, v :: st, acc => match lo v with
    | some w => popn n st (w :: acc)
    | none => none
theorem lo_vl {x : cx} {v : av} {w : Int ⊕ Nat} (h : lo v = some w) : vl x v = vo x w ∧ (okv v → oko w) := by
  rcases v with z | a | z <;> simp only [lo, Option.some.injEq] at h
  · subst h; exact ⟨rfl, fun h => h⟩
  · subst h; exact ⟨rfl, fun _ => trivial⟩
  · cases h
theorem popn_spec (x : cx) : ∀ (n : Nat) (st : List av) (acc as : List (Int ⊕ Nat)) (rest : List av), popn n st acc = some (as, rest) → (∃ pre, as = pre ++ acc ∧ pre.length = n ∧ st.map (vl x) = (pre.map (vo x)).reverse ++ rest.map (vl x) ∧ ((∀ v ∈ st, okv v) → (∀ v ∈ pre, oko v) ∧ ∀ v ∈ rest, okv v))
  | 0, st, acc, as, rest, h => by
    simp only [popn, Option.some.injEq, Prod.mk.injEq] at h
    obtain ⟨rfl, rfl⟩ := h
    exact ⟨[], rfl, rfl, rfl, fun h => ⟨(fun v hv => by cases hv), h⟩⟩
  | n + 1, [], acc, as, rest, h => by simp [popn] at h
  | n + 1, v :: st, acc, as, rest, h => by
    simp only [popn] at h
    cases hl : lo v with
    | none => rw [hl] at h; cases h
    | some w =>
      rw [hl] at h
      obtain ⟨pre, h1, h2, h3, h4⟩ := popn_spec x n st (w :: acc) as rest h
      obtain ⟨h5, h6⟩ := lo_vl (x := x) hl
      refine ⟨pre ++ [w], by rw [h1]; simp, by simp [h2], by simp [h3, h5], fun hv => ?_⟩
      obtain ⟨h7, h8⟩ := h4 (fun u hu => hv u (List.mem_cons_of_mem _ hu))
      refine ⟨fun u hu => ?_, h8⟩
      rcases List.mem_append.mp hu with hu | hu
      · exact h7 u hu
      · rw [List.mem_singleton.mp hu]; exact h6 (hv v List.mem_cons_self)
def wt : List av → Nat
  | [] => 0
  | .inl _ :: st => wt st + 1
  | .inr (.inl _) :: st => wt st + 1
  | .inr (.inr _) :: st => wt st + 2
theorem wt_cat (x : cx) : ∀ st : List av, ((st.map (vl x)).map fun v => v.category).sum = wt st
  | [] => rfl
  | .inl z :: st => by
    have h := wt_cat x st
    rw [List.map_cons, List.map_cons, List.sum_cons, h]
    exact Nat.add_comm 1 (wt st)
  | .inr (.inl a) :: st => by
    have h := wt_cat x st
    rw [List.map_cons, List.map_cons, List.sum_cons, h]
    exact Nat.add_comm 1 (wt st)
  | .inr (.inr z) :: st => by
    have h := wt_cat x st
    rw [List.map_cons, List.map_cons, List.sum_cons, h]
    exact Nat.add_comm 2 (wt st)
theorem MLS.use {q : Nat × Nat × Nat × Nat} (h : q ∈ MLS) : ∃ i j, gp i (mW q) = true ∧ gp j (.static (mY q.2.2.1)) = true ∧ q.2.2.1 < 143 ∧ (parseMethodDescriptor (mY q.2.2.1).desc).map (fun d => d.parameters.length) = some q.2.2.2 := by
  rw [← sPl_no] at h
  obtain ⟨r, hr, rfl⟩ := List.mem_map.mp h
  have h := List.all_eq_true.mp sPl_ok r hr
  simp only [sP, Bool.and_eq_true, decide_eq_true_eq] at h
  exact ⟨_, _, h.1.1.1, h.1.1.2, h.1.2, h.2⟩
theorem MLV.use {q : Nat × Nat × Nat × Nat} (h : q ∈ MLV) : ∃ i j j2, gp i (mW q) = true ∧ gp j (.instanceMethod (mY q.2.2.1)) = true ∧ gp j2 (.selects (mY q.2.2.1).cls (mY q.2.2.1) (mY q.2.2.1)) = true ∧ q.2.2.1 < 143 ∧ (parseMethodDescriptor (mY q.2.2.1).desc).map (fun d => d.parameters.length) = some q.2.2.2 ∧ (vcl[mN q.2.2.1]?).map (fun r => r.1) = some (mY q.2.2.1).cls := by
  rw [← vPl_no] at h
  obtain ⟨r, hr, rfl⟩ := List.mem_map.mp h
  have h := List.all_eq_true.mp vPl_ok r hr
  simp only [vP, Bool.and_eq_true, decide_eq_true_eq] at h
  exact ⟨_, _, _, h.1.1.1.1.1, h.1.1.1.1.2, h.1.1.1.2, h.1.1.2, h.1.2, h.2⟩
/-- what every call asks -/
theorem call_B {kc ix np i : Nat} {s : State} {args : Array Value} (hk : kc < 143) (hr : mF kc + 1 ≤ mF k ∧ 8 + (mL kc + 11) + mO kc ≤ mO k) (hTB : TB s) (hl : gp i (mW (mN k, ix, kc, np)) = true) (hp : (parseMethodDescriptor (mY kc).desc).map (fun d => d.parameters.length) = some np) :
    CallB (rmk k) s args (cnm (mN k)) ix (mY kc) (mC kc) (mL kc) (mR kc) [.code (mY kc) (mC kc) (mL kc) (mR kc)] (rmk kc) 0 0 np := by
  obtain ⟨h1, h2, h3, h4, h5⟩ := mP_of hk
  refine ⟨rfl, rfl, hr.1, hr.2, fun w hw a' U hW => ?_, List.mem_singleton.mpr rfl, hTB.use h1 args, hTB.use h2 args, h3, fun sig h => ?_, hTB.at hl args⟩
  · rw [List.mem_singleton.mp hw]
    exact word_at hW (good_of_word (gw_mem h1).2) (hTB.use h1 args)
  · rw [h] at hp
    exact (Option.some.inj hp).symm
theorem V_calls {ix kc np : Nat} {as : List (Int ⊕ Nat)} {rest : List av} {P' : Option av → am → Prop} (hd : decode (mC k) pc = .ok (.invokestatic ix, 3)) (hq : (mN k, ix, kc, np) ∈ MLS) (hr : mF kc + 1 ≤ mF k ∧ 8 + (mL kc + 11) + mO kc ≤ mO k) (hpop : popn np st [] = some (as, rest)) (hwt : wt rest ≤ 8) (hM : Runs N kc as M P') (kk : ∀ r M', P' r M' → V N k P (pc + 3) ls (r.toList ++ rest) M') : V N k P pc ls st M := by
  intro x p l e s m args below meth c H locs lsA hA hP hS hR hl hv
  have hA0 := hA
  obtain ⟨hx, hb, hml, hr0, hown, hlk, hDx, hNx, hC⟩ := hA
  obtain ⟨pre, h1, h2, h3, h4⟩ := popn_spec x np st [] as rest hpop
  rw [List.append_nil] at h1
  subst h1
  obtain ⟨h5, h6⟩ := h4 hv
  obtain ⟨i, j, g1, g2, g3, g4⟩ := MLS.use hq
  refine V_call_go (va_runS (Ts := gtb) (As := as.map (vo x)) (rest := rest.map (vl x)) ⟨hx, hb, hml, hown, hC.1.hts args⟩ (hM hR h5 l x hDx hNx) ⟨call_B g3 hr hC.1 g1 g4, hC.1.at g2 args⟩ ⟨Pc_blind x as M, fun U hU hW => Pc_at hC hS hP hU hW⟩ rfl (by simpa using h2) hl.2.1 (by rw [← List.map_reverse]; rw [h3, List.map_reverse]) (lv_room (by rw [wt_cat]; exact hwt)) hd ⟨Nat.le_refl _, Nat.le_refl _⟩) hS (fun r M' H1 locs1 b1 b2 b3 b4 b5 => ?_)
  have hgo := kk r M' b1 x p l e s m args below meth c H1 locs1 lsA hA0 b4 b5 b2 hl (fun v hv => ?_)
  · have e0 : (r.toList ++ rest).map (vl x) = (r.map (vl x)).toList ++ rest.map (vl x) := by cases r <;> rfl
    rw [← e0]
    exact hgo
  · rcases List.mem_append.mp hv with h | h
    · exact b3 v (by cases r with
        | none => cases h
        | some w => rw [List.mem_singleton.mp h])
    · exact h6 v h
theorem V_callv {ix kc np a : Nat} {as : List (Int ⊕ Nat)} {rest : List av} {P' : Option av → am → Prop} (hd : decode (mC k) pc = .ok (.invokevirtual ix, 3)) (hq : (mN k, ix, kc, np) ∈ MLV) (hr : mF kc + 1 ≤ mF k ∧ 8 + (mL kc + 11) + mO kc ≤ mO k) (hpop : popn np st [] = some (as, .inr (.inl a) :: rest)) (ha : a < N) (hs : (sh a).1 = 3) (hc : (sh a).2.1 = mN kc) (hwt : wt rest ≤ 8) (hM : Runs N kc (.inr a :: as) M P') (kk : ∀ r M', P' r M' → V N k P (pc + 3) ls (r.toList ++ rest) M') : V N k P pc ls st M := by
  intro x p l e s m args below meth c H locs lsA hA hP hS hR hl hv
  have hA0 := hA
  obtain ⟨hx, hb, hml, hr0, hown, hlk, hDx, hNx, hC⟩ := hA
  obtain ⟨pre, h1, h2, h3, h4⟩ := popn_spec x np st [] as _ hpop
  rw [List.append_nil] at h1
  subst h1
  obtain ⟨h5, h6⟩ := h4 hv
  obtain ⟨i, j, j2, g1, g2, g3, g4, g5, g6⟩ := MLV.use hq
  cases hcl : vcl[mN kc]? with
  | none => simp only [hcl] at g6; cases g6
  | some r =>
    simp only [hcl, Option.map_some, Option.some.injEq] at g6
    have hrec := va_recv hC.2.1 hP hcl ((wld_at (Nat.lt_of_lt_of_le ha hNx)).trans (by rw [ent_3 hs, hc]))
    rw [g6] at hrec
    refine V_call_go (va_runV (C := (mY kc).cls) (Ts := gtb) (As := as.map (vo x)) (rest := rest.map (vl x)) (b := x.loc a) ⟨hx, hb, hml, hown, hC.1.hts args⟩ (hM hR (fun v hv => (List.mem_cons.mp hv).elim (fun e => by rw [e]; trivial) (h5 v)) l x hDx hNx) ⟨call_B g4 hr hC.1 g1 g5, hC.1.at g2 args, hC.1.at g3 args⟩ ⟨Pc_blind x _ M, hrec, fun U hU hW => Pc_at hC hS hP hU hW⟩ rfl (by simpa using h2) hl.2.1 (by rw [← List.map_reverse]; rw [h3, List.map_reverse]; rfl) (lv_room (by rw [wt_cat]; exact hwt)) hd ⟨Nat.le_refl _, Nat.le_refl _⟩) hS (fun r M' H1 locs1 b1 b2 b3 b4 b5 => ?_)
    have hgo := kk r M' b1 x p l e s m args below meth c H1 locs1 lsA hA0 b4 b5 b2 hl (fun v hv => ?_)
    · have e0 : (r.toList ++ rest).map (vl x) = (r.map (vl x)).toList ++ rest.map (vl x) := by cases r <;> rfl
      rw [← e0]
      exact hgo
    · rcases List.mem_append.mp hv with h | h
      · exact b3 v (by cases r with
          | none => cases h
          | some w => rw [List.mem_singleton.mp h])
      · exact h6 v (List.mem_cons_of_mem _ h)
end VC
