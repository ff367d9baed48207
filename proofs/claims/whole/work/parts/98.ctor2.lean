/-! contracts of constructors -/
def PN (x : cx) (as : List Value) (E : List va_E) : Array Value → State → Prop := fun v U => v = as.toArray ∧ Cx x U ∧ NX U ∧ U.heap.size = x.B + E.length ∧ va_P x.D vcl (wE x E) U.heap
def QN (x : cx) (P : List va_E → Prop) : Array Value → State → Outcome → State → Prop := fun _ st o t => o = .returned none ∧ (∃ E', P E' ∧ t.heap.size = x.B + E'.length ∧ va_P x.D vcl (wE x E') t.heap) ∧ va_F x.A st t
theorem PN_blind (x : cx) (as : List Value) (E : List va_E) : FrameBlind (PN x as E) := fun a U g mk h =>
  ⟨h.1, ⟨h.2.1.1.warm (U := U.calling g mk a) (State.WarmedH.refl U), va_K.moved (u := U) (U := U.calling g mk a) (Vm.Alike.refl U.vm) h.2.1.2.1, Sx.moved (u := U) (U := U.calling g mk a) (Vm.Alike.refl U.vm) h.2.1.2.2⟩, h.2.2.1.warm (U := U.calling g mk a) (State.WarmedH.refl U), h.2.2.2⟩
theorem PN_at {x : cx} {as : List Value} {pre tl : List va_E} {s U : State} {H : Heap} {locs : List Loc} (hC : Cx x s) (hX : NX s) (hZ : ZN x pre tl s H locs) (hU : U.heap = H) (hW : s.WarmedH U.vm) : PN x as (pre ++ tl) as.toArray U := by
  obtain ⟨z1, z2, z3, z4⟩ := hZ
  refine ⟨rfl, ⟨hC.1.warm hW, va_K.moved hW.alike hC.2.1, ?_⟩, hX.warm hW, by rw [hU]; exact z1, by rw [hU]; exact z2⟩
  rw [hU]
  exact Sx.moved hW.alike (hC.2.2.kept (fun a h1 h2 => z3.2.1 a h1 h2))
theorem ZN.mv {x : cx} {pre tl pre' tl' : List va_E} {s : State} {H : Heap} {locs : List Loc} (h : ZN x pre tl s H locs) (e : pre ++ tl = pre' ++ tl') : ZN x pre' tl' s H locs := by
  unfold ZN at h ⊢
  rw [← e]
  exact h
section CU
variable {p : Program} {l : Launch} {e : Env} {R : Room} {s : State} {m : MethodId} {args : Array Value} {below : List Frame} {meth : Method} {c : Code} {H : Heap} {locs : List Loc} {cells slots : Nat} {Q : State → Prop}
variable {cc : ByteArray} {pc ci nL nb : Nat} {ls : Array Slot} {rest : List Value} {x : cx} {pre tl : List va_E}
theorem n_obj {idx a : Nat} (hA : AN x ci nL cc p s m c) (hw : gw (.methodLink (cnm ci) idx Lib.objectInit) = true) (hs : ls.size = nL) (hdg : decode cc pc = .ok (.invokespecial idx, 3)) (hf : 1 ≤ R.frames) (hr : (rest.map fun v => v.category).sum + 12 ≤ R.locals)
    (kk : W p l e R s m args below meth c H locs cells slots Q (F0 m (pc + 3) ls rest)) : W p l e R s m args below meth c H locs cells slots Q (F0 m pc ls (rf x a :: rest)) := by
  obtain ⟨hx, hb, hml, hown, hC, hNX⟩ := hA
  exact W.objInit hx hb hown (hC.1.use hw args) (hC.1.use (by decide +kernel) args) (hC.1.use (by decide +kernel) args) rfl (hs.trans hml.symm) rfl hdg hf (by simpa using hr) kk
theorem n_go {mc ms : Nat} {P : List va_E → Prop} {a : Array Value} {st0 : List Value} (hr : va_Run p l e R s m args below meth c H locs cells slots mc ms (F0 m pc ls st0) rest (QN x P a) x.A) (hZ : ZN x pre tl s H locs)
    (kk : ∀ (E' : List va_E) (H1 : Heap) (locs1 : List Loc), P E' → ZN x E' [] s H1 locs1 → W p l e R s m args below meth c H1 locs1 (cells + mc) (slots + ms) Q (F0 m (pc + 3) ls rest)) : W p l e R s m args below meth c H locs cells slots Q (F0 m pc ls st0) := by
  intro T hT X
  obtain ⟨z1, z2, hS, z4⟩ := hZ
  obtain ⟨v, st₀, t, T', L, h0, X', hL, e1, e2, ⟨b1, ⟨E', b2, b3, b4⟩, hz, hk⟩, stp⟩ := hr T hT X
  cases b1
  rw [h0] at hz hk
  obtain ⟨t2, a1, c1⟩ := kk E' T'.heap (locs ++ L) b2 ⟨by rw [e1, List.append_nil]; exact b3, by rw [e1, List.append_nil]; exact b4,
    ⟨Nat.le_trans hS.1 (by rw [e1]; exact hz), fun q h1 h2 => by rw [e1, hk q (Nat.lt_of_lt_of_le h1 hS.1) h2]; exact hS.2.1 q h1 h2, fun q hq => by
      rcases List.mem_append.mp hq with h | h
      · exact hS.2.2 q h
      · exact hL q h⟩, z4⟩ T' rfl X'
  exact ⟨t2, stp t2 a1, c1⟩
/-- a constructor's own words -/
def cW (y : MethodName) (bytes : ByteArray) (maxL n : Nat) : Bool := gw (.code y bytes maxL none) && gw (.initialized y.cls) && gw (.instanceMethod y) && decide (y.name = "<init>") && decide (y.cls ≠ "java/lang/invoke/MethodHandle" ∧ y.cls ≠ "java/lang/invoke/VarHandle") && decide ((parseMethodDescriptor y.desc).map (fun d => d.parameters.length) = some n)
theorem cW_use {y : MethodName} {bytes : ByteArray} {maxL n : Nat} (h : cW y bytes maxL n = true) : gw (.code y bytes maxL none) = true ∧ gw (.initialized y.cls) = true ∧ gw (.instanceMethod y) = true ∧ y.name = "<init>" ∧ (y.cls ≠ "java/lang/invoke/MethodHandle" ∧ y.cls ≠ "java/lang/invoke/VarHandle") ∧ (∀ sig, parseMethodDescriptor y.desc = some sig → n = sig.parameters.length) := by
  simp only [cW, Bool.and_eq_true, decide_eq_true_eq] at h
  obtain ⟨⟨⟨⟨⟨h1, h2⟩, h3⟩, h4⟩, h5⟩, h6⟩ := h
  refine ⟨h1, h2, h3, h4, h5, fun sig hs => ?_⟩
  rw [hs] at h6
  exact (Option.some.inj h6).symm
theorem n_call {y : MethodName} {bytes : ByteArray} {maxL n mc ms index a : Nat} {rm : Room} {As : List Value} {P : List va_E → Prop} {st : List Value} (hA : AN x ci nL cc p s m c) (hZ : ZN x pre tl s H locs) (hM : Met l y [.code y bytes maxL none] rm (PN x (rf x a :: As) (pre ++ tl)) (QN x P) mc ms x.A) (hy : cW y bytes maxL n = true) (hlink : gw (.methodLink (cnm ci) index y) = true)
    (hrm : rm.cells = mc ∧ rm.slots = ms ∧ rm.frames + 1 ≤ R.frames ∧ 8 + (maxL + 11) + rm.locals ≤ R.locals) (hn : As.length = n) (hls : ls.size = nL) (hst : st = As.reverse ++ rf x a :: rest) (hwt : (rest.map fun v => v.category).sum ≤ 8) (hdg : decode cc pc = .ok (.invokespecial index, 3)) (hroom : cells + mc ≤ R.cells ∧ slots + ms ≤ R.slots)
    (kk : ∀ (E' : List va_E) (H1 : Heap) (locs1 : List Loc), P E' → ZN x E' [] s H1 locs1 → W p l e R s m args below meth c H1 locs1 (cells + mc) (slots + ms) Q (F0 m (pc + 3) ls rest)) : W p l e R s m args below meth c H locs cells slots Q (F0 m pc ls st) := by
  obtain ⟨hx, hb, hml, hown, hC, hNX⟩ := hA
  obtain ⟨w1, w2, w3, w4, w5, w6⟩ := cW_use hy
  refine n_go (va_runI (Ts := gtb) (own := cnm ci) (As := As) (rest := rest) (b := x.B + a) (index := index) (bytes := bytes) (maxL := maxL) (n := n) ⟨hx, hb, hml, hown, hC.1.hts args⟩ hM ⟨⟨hrm.1, hrm.2.1, hrm.2.2.1, hrm.2.2.2, fun w hw a' U hW => ?_, List.mem_cons_self, hC.1.use w1 args, hC.1.use w2 args, w5, w6, hC.1.use hlink args⟩, w4, hC.1.use w3 args⟩ ⟨PN_blind x _ _, fun U hU hW => PN_at hC hNX hZ hU hW⟩ rfl hn hls hst (lv_room hwt) hdg hroom) hZ kk
  rw [List.mem_singleton.mp hw]
  exact (hC.1.warm hW).use w1 a'
theorem n_callN {y : MethodName} {host : String} {bytes : ByteArray} {maxL n mc ms index a : Nat} {rm : Room} {As : List Value} {P : List va_E → Prop} {st : List Value} (hA : AN x ci nL cc p s m c) (hZ : ZN x pre tl s H locs) (hM : Met l y [.code y bytes maxL none] rm (PN x (rf x a :: As) (pre ++ tl)) (QN x P) mc ms x.A) (hy : cW y bytes maxL n = true) (hlink : va_Nw (.methodLinkNest (cnm ci) index y host) s)
    (hrm : rm.cells = mc ∧ rm.slots = ms ∧ rm.frames + 1 ≤ R.frames ∧ 8 + (maxL + 11) + rm.locals ≤ R.locals) (hn : As.length = n) (hls : ls.size = nL) (hst : st = As.reverse ++ rf x a :: rest) (hwt : (rest.map fun v => v.category).sum ≤ 8) (hdg : decode cc pc = .ok (.invokespecial index, 3)) (hroom : cells + mc ≤ R.cells ∧ slots + ms ≤ R.slots)
    (kk : ∀ (E' : List va_E) (H1 : Heap) (locs1 : List Loc), P E' → ZN x E' [] s H1 locs1 → W p l e R s m args below meth c H1 locs1 (cells + mc) (slots + ms) Q (F0 m (pc + 3) ls rest)) : W p l e R s m args below meth c H locs cells slots Q (F0 m pc ls st) := by
  obtain ⟨hx, hb, hml, hown, hC, hNX⟩ := hA
  obtain ⟨w1, w2, w3, w4, w5, w6⟩ := cW_use hy
  refine n_go (va_runIN (Ts := gtb) (own := cnm ci) (host := host) (As := As) (rest := rest) (b := x.B + a) (index := index) (bytes := bytes) (maxL := maxL) (n := n) ⟨hx, hb, hml, hown, hC.1.hts args⟩ hM ⟨⟨⟨hrm.1, hrm.2.1, hrm.2.2.1, hrm.2.2.2, fun w hw a' U hW => ?_, List.mem_cons_self⟩, hC.1.use w1 args, hC.1.use w2 args, w5, w6, va_tabs rfl rfl hlink⟩, w4, hC.1.use w3 args⟩ ⟨PN_blind x _ _, fun U hU hW => PN_at hC hNX hZ hU hW⟩ rfl hn hls hst (lv_room hwt) hdg hroom) hZ kk
  rw [List.mem_singleton.mp hw]
  exact (hC.1.warm hW).use w1 a'
theorem n_ret {P : List va_E → Prop} (hA : AN x ci nL cc p s m c) (hr : meth.sig.returnType = none) (hlk : meth.locks = false) (hZ : ZN x pre tl s H locs) (hP : P (pre ++ tl)) (hdg : decode cc pc = .ok (.return_, 1)) : W p l e R s m args below meth c H locs cells slots (MQ below (QN x P) args s cells slots x.A) (F0 m pc ls []) := by
  obtain ⟨z1, z2, hS, z4⟩ := hZ
  exact W.vret hA.1 hA.2.1 hr (fun t ht _ => ⟨rfl, ⟨_, hP, by rw [ht]; exact z1, by rw [ht]; exact z2⟩, hS.F ht⟩) hS.2.2 hdg hlk
end CU
theorem n_of {y : MethodName} {bytes : ByteArray} {maxL mc ms ci : Nat} {rm : Room} {x : cx} {as : List Value} {pre tl : List va_E} {P : List va_E → Prop} {lsA : Array Slot} (hpl : plainName y.cls = true) (hcls : y.cls = cnm ci) (hname : y.name = "<init>") (hls : (lg_sl as ++ List.replicate (maxL - (lg_sl as).length) Slot.unset).toArray = lsA)
    (h : ∀ (p : Program) (l : Launch) (e : Env) (s : State) (m : MethodId) (args : Array Value) (below : List Frame) (meth : Method) (c : Code) (H : Heap), AN x ci maxL bytes p s m c → meth.name = "<init>" → meth.sig.returnType = none → meth.locks = false → s.heap.size = x.B + (pre ++ tl).length → ZN x pre tl s H [] → W p l e rm s m args below meth c H [] 0 0 (MQ below (QN x P) args s mc ms x.A) (F0 m 0 lsA [])) (l : Launch) : Met l y [.code y bytes maxL none] rm (PN x as (pre ++ tl)) (QN x P) mc ms x.A := by
  refine Met.ofW (cc := bytes) (maxL := maxL) (ret := none) hpl rfl ?_
  intro p e s m args below meth c s₁ B hml hv
  obtain ⟨rfl, hC, hX, hsz, hP⟩ := hv
  have hown : s.vm.findClass y.cls = some m.cls := findClass_of_methodNamed B.named
  rw [hcls] at hown
  have hin : meth.name = "<init>" := (name_of_methodNamed B.named B.method).1.trans hname
  rw [lg_entry_eq, hls]
  exact h p l e s m _ below meth c s.heap ⟨B.exec, B.bytes, hml, hown, hC, hX⟩ hin B.returns B.notSynchronized hsz ⟨hsz, hP, va_S.rf, by omega⟩
/-- objects lie one behind the other -/
def lcB (x : cx) (n : Nat) : Prop := ∀ a, a < n → x.loc a = x.B + a
def xn (x : cx) (n : Nat) : cx := (x.1, x.2.1, x.2.2.1, n, x.2.2.2.2)
def eM (x : cx) (n : Nat) (M : am) : List va_E := (List.range n).map (ent x M)
theorem eM_len (x : cx) (n : Nat) (M : am) : (eM x n M).length = n := by simp [eM]
theorem wld_eM {x : cx} {n : Nat} (h : lcB x n) (M : am) : wld (xn x n) M = wE x (eM x n M) := by
  apply List.ext_getElem?
  intro i
  by_cases hi : i < n
  · rw [wE_at]
    have e1 : (eM x n M)[i]? = some (ent x M i) := by simp [eM, hi]
    rw [e1, wld_at (x := xn x n) (show i < n from hi)]
    show some (x.loc i, _) = some (x.B + i, _)
    rw [h i hi]
    rfl
  · rw [List.getElem?_eq_none (by simp only [wld, List.length_map, List.length_range]; exact Nat.le_of_not_lt hi), List.getElem?_eq_none (by simp only [wE, List.length_mapIdx, eM, List.length_map, List.length_range]; exact Nat.le_of_not_lt hi)]
theorem lcB_D {x : cx} {n : Nat} (h : lcB x n) : Dx (xn x n) := by
  refine ⟨fun i j hi hj e => ?_, fun i hi => ?_⟩
  · have h1 := h i hi
    have h2 := h j hj
    have e' : x.loc i = x.loc j := e
    omega
  · show x.B ≤ x.loc i
    rw [h i hi]
    exact Nat.le_add_right _ _
/-- a link of a call of a method without arguments -/
def vLk (ci ix kc : Nat) : Prop := ∃ i j j2, gp i (mW (ci, ix, kc, 0)) = true ∧ gp j (Cond.instanceMethod (mY kc)) = true ∧ gp j2 (Cond.selects (mY kc).cls (mY kc) (mY kc)) = true ∧ kc < 143 ∧ (parseMethodDescriptor (mY kc).desc).map (fun d => d.parameters.length) = some 0 ∧ (vcl[mN kc]?).map (fun r => r.1) = some (mY kc).cls
theorem vLk_sb : vLk 5 44 k_DP_setBeginning := MLV.use (q := (5, 44, k_DP_setBeginning, 0)) (by decide +kernel)
theorem vLk_bg : vLk 6 36 k_Model_begin := ⟨760, 761, 762, by decide +kernel, by decide +kernel, by decide +kernel, by decide +kernel, by decide +kernel, by decide +kernel⟩
section CV
variable {p : Program} {l : Launch} {e : Env} {R : Room} {s : State} {m : MethodId} {args : Array Value} {below : List Frame} {meth : Method} {c : Code} {H : Heap} {locs : List Loc} {cells slots : Nat} {Q : State → Prop}
variable {cc : ByteArray} {pc ci nL nb : Nat} {ls : Array Slot} {rest : List Value} {x : cx} {pre tl : List va_E}
theorem call_BR {kc ix np i : Nat} {s : State} {args : Array Value} (hk : kc < 143) (hr : mF kc + 1 ≤ R.frames ∧ 8 + (mL kc + 11) + mO kc ≤ R.locals) (hTB : TB s) (hl : gp i (mW (ci, ix, kc, np)) = true) (hp : (parseMethodDescriptor (mY kc).desc).map (fun d => d.parameters.length) = some np) :
    CallB R s args (cnm ci) ix (mY kc) (mC kc) (mL kc) (mR kc) [.code (mY kc) (mC kc) (mL kc) (mR kc)] (rmk kc) 0 0 np := by
  obtain ⟨h1, h2, h3, h4, h5⟩ := mP_of hk
  refine ⟨rfl, rfl, hr.1, hr.2, fun w hw a' U hW => ?_, List.mem_singleton.mpr rfl, hTB.use h1 args, hTB.use h2 args, h3, fun sig h => ?_, hTB.at hl args⟩
  · rw [List.mem_singleton.mp hw]
    exact word_at hW (good_of_word (gw_mem h1).2) (hTB.use h1 args)
  · rw [h] at hp
    exact (Option.some.inj hp).symm
theorem n_al {k : Fin 4} {a : Nat} (hA : AN x ci nL cc p s m c) (hd : decode cc pc = .ok (.aload_n k, 1)) (hi : ls[k.val]? = some (Slot.val (rf x a))) (kk : W p l e R s m args below meth c H locs cells slots Q (F0 m (pc + 1) ls (rf x a :: rest))) : W p l e R s m args below meth c H locs cells slots Q (F0 m pc ls rest) := lv_aload_n hA.1 hA.2.1 hd rfl hi kk
theorem n_il {k : Fin 4} {z : Int32} (hA : AN x ci nL cc p s m c) (hd : decode cc pc = .ok (.iload_n k, 1)) (hi : ls[k.val]? = some (Slot.val (.int z))) (kk : W p l e R s m args below meth c H locs cells slots Q (F0 m (pc + 1) ls (.int z :: rest))) : W p l e R s m args below meth c H locs cells slots Q (F0 m pc ls rest) := lv_iload_n hA.1 hA.2.1 hd rfl hi kk
theorem n_dup {a : Nat} (hA : AN x ci nL cc p s m c) (hd : decode cc pc = .ok (.dup, 1)) (kk : W p l e R s m args below meth c H locs cells slots Q (F0 m (pc + 1) ls (rf x a :: rf x a :: rest))) : W p l e R s m args below meth c H locs cells slots Q (F0 m pc ls (rf x a :: rest)) := lv_dup hA.1 hA.2.1 hd rfl kk
theorem n_callv {ix kc N a : Nat} {M : am} {P' : Option av → am → Prop} (hA : AN x ci nL cc p s m c) (hsz : H.size = s.heap.size + cells) (hZ : ZN x pre tl s H locs) (hE : pre ++ tl = eM x N M) (hlc : lcB x N) (hR : Rg M) (hdg : decode cc pc = .ok (.invokevirtual ix, 3)) (hq : vLk ci ix kc) (hr : mF kc + 1 ≤ R.frames ∧ 8 + (mL kc + 11) + mO kc ≤ R.locals) (hroom : cells ≤ R.cells ∧ slots ≤ R.slots) (ha : a < N) (hs : (sh a).1 = 3) (hc : (sh a).2.1 = mN kc) (hls : ls.size = nL) (hwt : (rest.map fun v => v.category).sum ≤ 8) (hM : Runs N kc [.inr a] M P') (hP' : ∀ r M', P' r M' → r = none)
    (kk : ∀ (M' : am) (H1 : Heap) (locs1 : List Loc), P' none M' → Rg M' → ZN x (eM x N M') [] s H1 locs1 → W p l e R s m args below meth c H1 locs1 cells slots Q (F0 m (pc + 3) ls rest)) : W p l e R s m args below meth c H locs cells slots Q (F0 m pc ls (rf x a :: rest)) := by
  obtain ⟨hx, hb, hml, hown, hC, hNX⟩ := hA
  obtain ⟨z1, z2, hS, z4⟩ := hZ
  rw [hE] at z1 z2
  rw [← wld_eM hlc] at z2
  obtain ⟨i, j, j2, g1, g2, g3, g4, g5, g6⟩ := hq
  have hCx : Cx (xn x N) s := hC
  have hS' : va_S (xn x N).A s.heap H locs := hS
  cases hcl : vcl[mN kc]? with
  | none => simp only [hcl] at g6; cases g6
  | some r =>
    simp only [hcl, Option.map_some, Option.some.injEq] at g6
    have hrec := va_recv hCx.2.1 z2 hcl ((wld_at (x := xn x N) (show a < N from ha)).trans (by rw [ent_3 hs, hc]))
    rw [g6] at hrec
    have hla : (xn x N).loc a = x.B + a := hlc a ha
    have hrun := va_runV (R := R) (cells := cells) (slots := slots) (p := p) (e := e) (below := below) (meth := meth) (locs := locs) (C := (mY kc).cls) (Ts := gtb) (own := cnm ci) (As := []) (rest := rest) (b := (xn x N).loc a) (g := F0 m pc ls (rf x a :: rest)) (mc := 0) (ms := 0) (index := ix) (n := 0) (nL := nL) (cc := cc) ⟨hx, hb, hml, hown, hC.1.hts args⟩ (hM hR (fun v hv => by rw [List.mem_singleton.mp hv]; trivial) l (xn x N) (lcB_D hlc) (Nat.le_refl N)) ⟨call_BR g4 hr hC.1 g1 g5, hC.1.at g2 args, hC.1.at g3 args⟩ ⟨Pc_blind (xn x N) _ M, hrec, fun U hU hW => Pc_at hCx hS' z2 hU hW⟩ rfl rfl hls (by rw [hla]; rfl) (lv_room hwt) hdg hroom
    intro T hT X
    obtain ⟨v, st₀, t, T', L, h0, X', hL, e1, e2, ⟨r', M', b1, b2, b3, b4, b5, hz, hk⟩, stp⟩ := hrun T hT X
    have hr' := hP' r' M' b1
    subst hr'
    cases b4
    rw [h0] at hz hk
    have hup := X'.same.2.2.1
    have hup' : T'.heap.size ≤ s.heap.size + cells := hup
    obtain ⟨t2, a1, c1⟩ := kk M' T'.heap (locs ++ L) b1 b2 ⟨by rw [List.append_nil, eM_len]; rw [eM_len] at z1; rw [e1] at hup' ⊢; omega, by rw [List.append_nil, ← wld_eM hlc, e1]; exact b5,
      ⟨Nat.le_trans hS.1 (by rw [e1]; exact hz), fun q h1 h2 => by rw [e1, hk q (Nat.lt_of_lt_of_le h1 hS.1) h2]; exact hS.2.1 q h1 h2, fun q hq => by
        rcases List.mem_append.mp hq with h | h
        · exact hS.2.2 q h
        · exact hL q h⟩, z4⟩ T' rfl X'
    exact ⟨t2, stp t2 a1, c1⟩
end CV
