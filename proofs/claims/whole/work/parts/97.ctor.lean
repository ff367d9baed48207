/-! Objects in the making: the cells from x.B on are pre, then tl; what they hold is said outright. -/
def wE (x : cx) (E : List va_E) : va_W := E.mapIdx (fun i en => (x.B + i, en))
theorem wE_at (x : cx) (E : List va_E) (i : Nat) : (wE x E)[i]? = E[i]?.map (fun en => (x.B + i, en)) := by simp [wE]
theorem wE_app (x : cx) (E : List va_E) (en : va_E) : wE x (E ++ [en]) = wE x E ++ [(x.B + E.length, en)] := by simp [wE, List.mapIdx_append]
theorem wE_set (x : cx) (E : List va_E) (i : Nat) (en : va_E) : (wE x E).set i (x.B + i, en) = wE x (E.set i en) := by
  apply List.ext_getElem?
  intro j
  rw [wE_at, List.getElem?_set, List.getElem?_set, wE_at]
  by_cases h : i = j
  · subst h
    simp only [if_true]
    by_cases h2 : i < E.length
    · simp [wE, h2]
    · simp [wE, h2]
  · rw [if_neg h, if_neg h]
theorem wE_D (x : cx) (E : List va_E) : va_D x.A (wE x E) := by
  refine ⟨fun i j p q hi hj e => ?_, fun k q hk => ?_⟩
  · rw [wE_at] at hi hj
    obtain ⟨a, -, rfl⟩ := Option.map_eq_some_iff.mp hi
    obtain ⟨b, -, rfl⟩ := Option.map_eq_some_iff.mp hj
    simpa using e
  · rw [wE_at] at hk
    obtain ⟨a, -, rfl⟩ := Option.map_eq_some_iff.mp hk
    exact Nat.le_add_right _ _
abbrev yB : MethodName := ⟨"DroppedPieces$Board", "<init>", "()V"⟩
abbrev yH : MethodName := ⟨"DroppedPieces$History", "<init>", "()V"⟩
/-- the links between nest mates -/
def NX (U : State) : Prop := va_Nw (.methodLinkNest "DroppedPieces" 9 yB "DroppedPieces") U ∧ va_Nw (.methodLinkNest "DroppedPieces" 27 yH "DroppedPieces") U ∧ va_Nw (.methodLinkNest "DroppedPieces$History" 24 yB "DroppedPieces") U
theorem NX.warm {s U : State} (h : NX s) (hW : s.WarmedH U.vm) : NX U := ⟨h.1.warmM hW, h.2.1.warmM hW, h.2.2.warmM hW⟩
def ZN (x : cx) (pre tl : List va_E) (s : State) (H : Heap) (locs : List Loc) : Prop := H.size = x.B + (pre ++ tl).length ∧ va_P x.D vcl (wE x (pre ++ tl)) H ∧ va_S x.A s.heap H locs ∧ x.B ≤ s.heap.size
def AN (x : cx) (ci nL : Nat) (cc : ByteArray) (p : Program) (s : State) (m : MethodId) (c : Code) : Prop := p.tables.exec = Jvm.exec ∧ c.code = cc ∧ c.maxLocals = nL ∧ s.vm.findClass (cnm ci) = some m.cls ∧ Cx x s ∧ NX s
def rf (x : cx) (n : Nat) : Value := .ref (x.B + n)
section CT
variable {p : Program} {l : Launch} {e : Env} {R : Room} {s : State} {m : MethodId} {args : Array Value} {below : List Frame} {meth : Method} {c : Code} {H : Heap} {locs : List Loc} {cells slots : Nat} {Q : State → Prop}
variable {cc : ByteArray} {pc ci nL nb : Nat} {ls : Array Slot} {rest : List Value} {x : cx} {pre tl : List va_E}
theorem n_newa {i : Nat} {ty : FieldType} {atype : ArrayType} {n : Int32} {N' : Nat} {a0 : vp_A} (hA : AN x ci nL cc p s m c) (hZ : ZN x pre tl s H locs) (hn : pre.length = nb) (ht : (tysx x)[i]? = some (x.cA i, ty)) (hty : newarray.typeOf atype = ty) (hra : ∀ (U : State) (c : ClassId), va_RA U c ty = (U.vm.findClass ("[" ++ ty.toString) = some c)) (hw : gw (.arrayClass ty) = true)
    (ha : ∀ cA : ClassId, vp_cell cA a0 = arrV cA N' (fun _ => defaultValue ty)) (hn0 : ¬ n < 0) (hN : n.toNatClampNeg = N') (hbytes : N' * componentBytes ty ≤ 536870912) (hcells : cells + 1 ≤ R.cells) (hslots : slots + N' ≤ R.slots) (hdg : decode cc pc = .ok (.newarray atype, 2))
    (kk : ∀ (H1 : Heap), ZN x pre (tl ++ [.inl (x.cA i, a0)]) s H1 locs → W p l e R s m args below meth c H1 locs (cells + 1) (slots + N') Q (F0 m (pc + 2) ls (rf x (nb + tl.length) :: rest))) : W p l e R s m args below meth c H locs cells slots Q (F0 m pc ls (.int n :: rest)) := by
  subst hty
  obtain ⟨hx, hb, hml, hown, hC, hNX⟩ := hA
  obtain ⟨z1, z2, z3, z4⟩ := hZ
  refine va_newaK hx hb (hC.1.use hw args) rfl hdg rfl hn0 hN hbytes hcells hslots z1 fun H1 cA e1 s1 o1 hAr hNm => ?_
  have hcA : cA = x.cA i := by
    have h2 := (hC.2.1.2 i _ ht).2
    rw [hra] at h2
    exact Option.some.inj (hNm.symm.trans h2)
  subst hcA
  have hk : ∀ (k : Nat) (q : Nat × va_E), (wE x (pre ++ tl))[k]? = some q → H1[q.1]? = H[q.1]? := fun k q hq => o1 q.1 (by rw [← z1]; exact (z2 k q hq).lt)
  have h := kk H1 ⟨by rw [s1]; simp only [List.length_append, List.length_cons, List.length_nil]; omega, ?_, ⟨Nat.le_trans z3.1 (by omega), fun q h1 h2 => (o1 q (by rw [← z1]; exact Nat.lt_of_lt_of_le h1 z3.1)).trans (z3.2.1 q h1 h2), z3.2.2⟩, z4⟩
  · have e2 : x.B + (pre ++ tl).length = x.B + (nb + tl.length) := by rw [List.length_append, hn]
    rw [e2]
    exact h
  · rw [← List.append_assoc, wE_app]
    refine (z2.kept hk).app (fun k q hq => ?_)
    have hz : k < 1 := (List.getElem?_eq_some_iff.mp hq).1
    rw [show k = 0 by omega] at hq
    cases hq
    show H1[x.B + (pre ++ tl).length]? = some (vp_cell _ _)
    rw [ha]
    exact e1
theorem n_new {cj index : Nat} {r : vw_C} {fs : List Value} (hA : AN x ci nL cc p s m c) (hZ : ZN x pre tl s H locs) (hn : pre.length = nb) (hc : vcl[cj]? = some r) (hcl : gw (.classLink (cnm ci) index r.1) = true) (hinst : gw (.instantiable r.1 r.2.2) = true) (hini : gw (.initialized r.1) = true) (hfs : ∀ j, j < r.2.2 → defaultValue (vty cj j) = vp_V fs j)
    (hcells : cells + 1 ≤ R.cells) (hslots : slots + r.2.2 ≤ R.slots) (hdg : decode cc pc = .ok (.new index, 3))
    (kk : ∀ (H1 : Heap), ZN x pre (tl ++ [.inr (cj, fs)]) s H1 locs → W p l e R s m args below meth c H1 locs (cells + 1) (slots + r.2.2) Q (F0 m (pc + 3) ls (rf x (nb + tl.length) :: rest))) : W p l e R s m args below meth c H locs cells slots Q (F0 m pc ls rest) := by
  obtain ⟨hx, hb, hml, hown, hC, hNX⟩ := hA
  obtain ⟨z1, z2, z3, z4⟩ := hZ
  obtain ⟨g1, g2, g3, g4⟩ := cl_use hc
  have hKn := hC.2.1.1 cj _ hc
  refine W.newcK hx hb hown (hC.1.use hcl args) (hC.1.use hinst args) (hC.1.use hini args) rfl hdg hcells hslots hKn.2.1 z1 fun H1 kC hkC e1 s1 o1 => ?_
  have hk : ∀ (k : Nat) (q : Nat × va_E), (wE x (pre ++ tl))[k]? = some q → H1[q.1]? = H[q.1]? := fun k q hq => o1 q.1 (by rw [← z1]; exact (z2 k q hq).lt)
  have h := kk H1 ⟨by rw [s1]; simp only [List.length_append, List.length_cons, List.length_nil]; omega, ?_, ⟨Nat.le_trans z3.1 (by omega), fun q h1 h2 => (o1 q (by rw [← z1]; exact Nat.lt_of_lt_of_le h1 z3.1)).trans (z3.2.1 q h1 h2), z3.2.2⟩, z4⟩
  · have e2 : x.B + (pre ++ tl).length = x.B + (nb + tl.length) := by rw [List.length_append, hn]
    rw [e2]
    exact h
  · rw [← List.append_assoc, wE_app]
    refine (z2.kept hk).app (fun k q hq => ?_)
    have hz : k < 1 := (List.getElem?_eq_some_iff.mp hq).1
    rw [show k = 0 by omega] at hq
    cases hq
    exact ⟨_, hc, (u_born (vty cj) (hC.1.hts args) (fun w h => gw_gtb (g1 w h)) hKn hkC e1 g2).to hfs⟩
theorem tl_at {i : Nat} {en : va_E} (hn : pre.length = nb) (h : tl[i]? = some en) : (wE x (pre ++ tl))[nb + i]? = some (x.B + (nb + i), en) := by
  rw [wE_at, ← hn, List.getElem?_append_right (by omega), Nat.add_sub_cancel_left, h]
  rfl
theorem n_get {i k index : Nat} {r : vw_C} {fs : List Value} {v : Value} (hA : AN x ci nL cc p s m c) (hZ : ZN x pre tl s H locs) (hn : pre.length = nb) (hc : vcl[ci]? = some r) (he : tl[i]? = some (.inr (ci, fs))) (hk : k < r.2.2) (hq : (ci, index, ci, k) ∈ FLT) (hv : fs[k]? = some v) (hdg : decode cc pc = .ok (.getfield index, 3))
    (kk : W p l e R s m args below meth c H locs cells slots Q (F0 m (pc + 3) ls (v :: rest))) : W p l e R s m args below meth c H locs cells slots Q (F0 m pc ls (rf x (nb + i) :: rest)) := by
  obtain ⟨hx, hb, hml, hown, hC, hNX⟩ := hA
  obtain ⟨z1, z2, z3, z4⟩ := hZ
  obtain ⟨g1, g2, g3, g4⟩ := cl_use hc
  have hw := FLT.use hq
  simp only [fW, hc] at hw
  exact va_get (D := x.D) (ci := ci) (v := v) (C := r.1) (T := r.2.1) (N := r.2.2) hx hb (hC.1.hts args) (fun w h => gw_gtb (g1 w h)) hown hC.2.1 z2 (nb + i) (tl_at hn he) hc k hk (hC.1.use hw args) (fun _ h => h) hv hdg kk
theorem n_put {i k index : Nat} {r : vw_C} {fs : List Value} {v : Value} (hA : AN x ci nL cc p s m c) (hin : meth.name = "<init>") (hZ : ZN x pre tl s H locs) (hn : pre.length = nb) (hc : vcl[ci]? = some r) (hr : r.1 = cnm ci) (he : tl[i]? = some (.inr (ci, fs))) (hk : k < r.2.2) (hl : k < fs.length) (hq : (ci, index, ci, k) ∈ FLT) (hnv : narrow (vty ci k) v = v) (hfit : fits (vty ci k) v = true) (hdg : decode cc pc = .ok (.putfield index, 3))
    (kk : ∀ (H1 : Heap) (locs1 : List Loc), ZN x pre (tl.set i (.inr (ci, fs.set k v))) s H1 locs1 → W p l e R s m args below meth c H1 locs1 cells slots Q (F0 m (pc + 3) ls rest)) : W p l e R s m args below meth c H locs cells slots Q (F0 m pc ls (v :: rf x (nb + i) :: rest)) := by
  obtain ⟨hx, hb, hml, hown, hC, hNX⟩ := hA
  obtain ⟨z1, z2, z3, z4⟩ := hZ
  obtain ⟨g1, g2, g3, g4⟩ := cl_use hc
  have hw := FLT.use hq
  simp only [fW, hc] at hw
  have hlink := hC.1.use hw args
  have hts := hC.1.hts args
  have hinw : ∀ w ∈ u_ws r.1 r.2.1 r.2.2, w ∈ gtb := fun w h => gw_gtb (g1 w h)
  have hat := tl_at (x := x) hn he
  have hap := va_apart (own := cnm ci) hts hinw (vty ci) g2 g3 hC.2.1 hc
  obtain ⟨r', h1, cell, q1, q2, q3, q4⟩ := z2 _ _ hat
  have hr' : r' = r := Option.some.inj (h1.symm.trans hc)
  subst hr'
  obtain ⟨hS, hfc, kC, hkC, hkind⟩ := hC.2.1.1 ci _ hc
  obtain ⟨cf, kf, fi, f, hi, hsl⟩ := hS k hk
  have hlay := hts _ (hinw _ (u_in_lay hk))
  have hst := (u_facts hfc hkC (u_lays hts hinw hk) hi).1
  have hend : ∀ (H' : Heap), H'[x.B + (nb + i)]? = some (cell.setSlot f.slot v) → Array.size H' = Array.size H → (∀ q : Addr, q ≠ x.B + (nb + i) → H'[q]? = H[q]?) → W p l e R s m args below meth c H' (locs ++ [{ base := x.B + (nb + i), slot := f.slot }]) cells slots Q (F0 m (pc + 3) ls rest) := by
    intro H' e1 e2 e3
    rw [hsl] at e1 ⊢
    have hP' := z2.set (wE_D x _) hat (e := .inr (ci, fs.set k v)) ⟨_, hc, t_OB.to (V := updV (vp_V fs) k v) ⟨_, e1, q2, q3, t_set q4 hap hk v⟩ (fun j _ => vp_updV_set hl v j)⟩ e3
    rw [wE_set, ← hn, List.set_append_right _ _ (by omega), Nat.add_sub_cancel_left] at hP'
    refine kk H' _ ⟨by rw [e2, z1]; simp, hP', z3.put e2 e3 ((wE_D x _).2 _ _ hat), z4⟩
  by_cases hfin : (r'.2.1 k).2.2.2 = true
  · unfold u_lay at hlay
    rw [if_pos hfin] at hlay
    have hcf : m.cls = cf := by
      obtain ⟨_, _, c', _, _, _, -, -, hf', -, -, -, hown2, -⟩ := Cond.laysFinal_spec hlay
      have e1 : c' = cf := by have := hi.symm.trans hf'; simp at this; exact this.1.symm
      rw [g4 k hk, hr] at hown2
      rw [← e1]; exact Option.some.inj (hown.symm.trans hown2)
    have h6 := u_fits hfc hkC hkind (Or.inr hlay) hi (g2 k hk) hnv hfit
    exact W.putFinK hx hb hown hlink hi hst hcf hin (by rw [q2]; exact h6) q1 q3 (by rw [hsl]; exact k2_hasslot (q4 k hk)) rfl rfl hdg hend
  · unfold u_lay at hlay
    rw [if_neg hfin] at hlay
    have h6 := u_store hfc hkC hkind hlay hi (g2 k hk) hnv hfit
    exact W.putK hx hb (f := f) ⟨hown, hlink, ⟨_, _, _, hi⟩, hst⟩ (by rw [q2]; exact h6) q1 q3 (by rw [hsl]; exact k2_hasslot (q4 k hk)) rfl rfl hdg hend
end CT
