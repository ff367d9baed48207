/-! The judgement: from this place of method k, with these locals, stack and memory, the method comes to its end with an answer and a memory that P allows. -/
def Qc (x : cx) (P : Option av → am → Prop) : Array Value → State → Outcome → State → Prop := fun _ st o t => ∃ (r : Option av) (M' : am), P r M' ∧ Rg M' ∧ (∀ v, r = some v → okv v) ∧ o = .returned (r.map (vl x)) ∧ va_P x.D vcl (wld x M') t.heap ∧ va_F x.A st t
def Pc (x : cx) (as : List (Int ⊕ Nat)) (M : am) : Array Value → State → Prop := fun v U => v = (as.map (vo x)).toArray ∧ Cx x U ∧ va_P x.D vcl (wld x M) U.heap
def rmk (k : Nat) : Room := { frames := mF k, cells := 0, slots := 0, locals := mO k }
def Runs (N k : Nat) (as : List (Int ⊕ Nat)) (M : am) (P : Option av → am → Prop) : Prop :=
  Rg M → (∀ v ∈ as, oko v) → ∀ (l : Launch) (x : cx), Dx x → N ≤ x.n → Met l (mY k) [.code (mY k) (mC k) (mL k) (mR k)] (rmk k) (Pc x as M) (Qc x P) 0 0 x.A
def Am (x : cx) (N k : Nat) (p : Program) (s : State) (m : MethodId) (meth : Method) (c : Code) : Prop :=
  p.tables.exec = Jvm.exec ∧ c.code = mC k ∧ c.maxLocals = mL k ∧ meth.sig.returnType = mR k ∧ s.vm.findClass (cnm (mN k)) = some m.cls ∧ meth.locks = false ∧ Dx x ∧ N ≤ x.n ∧ Cx x s
def V (N k : Nat) (P : Option av → am → Prop) (pc : Nat) (ls : List al) (st : List av) (M : am) : Prop :=
  ∀ (x : cx) (p : Program) (l : Launch) (e : Env) (s : State) (m : MethodId) (args : Array Value) (below : List Frame) (meth : Method) (c : Code) (H : Heap) (locs : List Loc) (lsA : Array Slot),
    Am x N k p s m meth c → va_P x.D vcl (wld x M) H → va_S x.A s.heap H locs → Rg M → lok x (mL k) ls lsA → (∀ v ∈ st, okv v) →
    W p l e (rmk k) s m args below meth c H locs 0 0 (MQ below (Qc x P) args s 0 0 x.A) (F0 m pc lsA (st.map (vl x)))
theorem TB.use {U : State} (h : TB U) {w : Cond} (hw : gw w = true) (args : Array Value) : w.before args U = true := by
  simp only [gw, Bool.and_eq_true, decide_eq_true_eq] at hw
  exact word_at (State.WarmedH.refl U) (good_of_word hw.2) (h w hw.1 hw.2)
theorem TB.at {U : State} (h : TB U) {i : Nat} {w : Cond} (hw : gp i w = true) (args : Array Value) : w.before args U = true := by
  simp only [gp, Bool.and_eq_true, decide_eq_true_eq] at hw
  exact word_at (State.WarmedH.refl U) (good_of_word hw.2) (h w (List.mem_of_getElem? hw.1) hw.2)
theorem TB.warm {s U : State} (h : TB s) (hW : s.WarmedH U.vm) : TB U := fun w hw hg => word_at hW (good_of_word hg) (h w hw hg)
theorem Sx.moved {x : cx} {u U : State} {H : Heap} (hvm : u.vm.Alike U.vm) (h : Sx x u H) : Sx x U H := fun i q hq => ⟨(h i q hq).1.moved hvm, (h i q hq).2.moved hvm⟩
theorem Sx.kept {x : cx} {U : State} {H H1 : Heap} (h : Sx x U H) (hq : ∀ a : Nat, a < H.size → ¬ x.A a → H1[a]? = H[a]?) : Sx x U H1 := fun i q hi => ⟨(h i q hi).1.kept hq, (h i q hi).2.kept hq⟩
/-- a method's own facts -/
theorem mP_of {k : Nat} (hk : k < 143) : gw (.code (mY k) (mC k) (mL k) (mR k)) = true ∧ gw (.initialized (mY k).cls) = true ∧ ((mY k).cls ≠ "java/lang/invoke/MethodHandle" ∧ (mY k).cls ≠ "java/lang/invoke/VarHandle") ∧ plainName (mY k).cls = true ∧ (mY k).cls = cnm (mN k) := by
  have hm : k ∈ mPl.map (fun q => q.1) := by rw [mPl_no]; exact List.mem_range.mpr hk
  obtain ⟨q, hq, rfl⟩ := List.mem_map.mp hm
  have h := List.all_eq_true.mp mPl_ok q hq
  simp only [mP, gp, Bool.and_eq_true, decide_eq_true_eq] at h
  obtain ⟨⟨⟨⟨⟨h1, h2⟩, h3, h4⟩, h5⟩, h6⟩, h7⟩ := h
  refine ⟨?_, ?_, h5, h6, h7⟩
  · simp only [gw, Bool.and_eq_true, decide_eq_true_eq]; exact ⟨List.mem_of_getElem? h1, h2⟩
  · simp only [gw, Bool.and_eq_true, decide_eq_true_eq]; exact ⟨List.mem_of_getElem? h3, h4⟩
def ini (as : List (Int ⊕ Nat)) (n : Nat) : List al := as.map some ++ List.replicate (n - as.length) none
theorem lg_sl_vo (x : cx) (as : List (Int ⊕ Nat)) : lg_sl (as.map (vo x)) = as.map (fun v => Slot.val (vo x v)) := by
  induction as with
  | nil => rfl
  | cons a as ih => simp only [List.map_cons, lg_sl, List.flatMap_cons] at ih ⊢; rw [vo_cat, if_neg (by decide), ih]; rfl
theorem ini_lok {x : cx} {as : List (Int ⊕ Nat)} {n : Nat} (hn : as.length ≤ n) (ho : ∀ v ∈ as, oko v) : lok x n (ini as n) ((lg_sl (as.map (vo x)) ++ List.replicate (n - (lg_sl (as.map (vo x))).length) Slot.unset).toArray) := by
  have hlen : (lg_sl (as.map (vo x))).length = as.length := by rw [lg_sl_vo]; simp
  have h := lv_entry (as.map (vo x)) (n := n) (by omega)
  refine ⟨by simp [ini]; omega, h.1, h.2.1, fun i v hi => ?_⟩
  unfold ini at hi
  by_cases hl : i < as.length
  · rw [List.getElem?_append_left (by simpa using hl), List.getElem?_map, List.getElem?_eq_getElem hl] at hi
    have e : as[i] = v := by simpa using hi
    refine ⟨?_, ho v (by rw [← e]; exact List.getElem_mem hl)⟩
    rw [List.getElem?_toArray, List.getElem?_append_left (by omega), lg_sl_vo, List.getElem?_map, List.getElem?_eq_getElem hl, e]
    rfl
  · rw [List.getElem?_append_right (by simpa using hl)] at hi
    have := List.eq_of_mem_replicate (List.mem_of_getElem? hi)
    cases this
/-- a contract out of the walk of the body -/
theorem Runs.of {N k : Nat} {as : List (Int ⊕ Nat)} {M : am} {P : Option av → am → Prop} (hk : k < 143) (hn : as.length ≤ mL k) (h : Rg M → V N k P 0 (ini as (mL k)) [] M) : Runs N k as M P := by
  intro hR ho l x hDx hN
  obtain ⟨h1, h2, h3, h4, h5⟩ := mP_of hk
  refine Met.ofW (cc := mC k) (maxL := mL k) (ret := mR k) h4 rfl ?_
  intro p e s m args below meth c s₁ B hml hv
  obtain ⟨rfl, hC, hP⟩ := hv
  have hown : s.vm.findClass (mY k).cls = some m.cls := findClass_of_methodNamed B.named
  rw [h5] at hown
  rw [lg_entry_eq]
  exact h hR x p l e s m _ below meth c s.heap [] _ ⟨B.exec, B.bytes, hml, B.returns, hown, B.notSynchronized, hDx, hN, hC⟩ hP va_S.rf hR (ini_lok hn ho) (fun v hv => by cases hv)
theorem V.rg {N k pc : Nat} {P : Option av → am → Prop} {ls : List al} {st : List av} {M : am} (h : Rg M → V N k P pc ls st M) : V N k P pc ls st M :=
  fun x p l e s m args below meth c H locs lsA hA hP hS hR hl hv => h hR x p l e s m args below meth c H locs lsA hA hP hS hR hl hv
theorem V.okst {N k pc : Nat} {P : Option av → am → Prop} {ls : List al} {st : List av} {M : am} (h : (∀ v ∈ st, okv v) → V N k P pc ls st M) : V N k P pc ls st M :=
  fun x p l e s m args below meth c H locs lsA hA hP hS hR hl hv => h hv x p l e s m args below meth c H locs lsA hA hP hS hR hl hv
theorem V.okls {N k pc : Nat} {P : Option av → am → Prop} {ls : List al} {st : List av} {M : am} (h : (∀ (i : Nat) (v : Int ⊕ Nat), ls[i]? = some (some v) → oko v) → V N k P pc ls st M) : V N k P pc ls st M :=
  fun x p l e s m args below meth c H locs lsA hA hP hS hR hl hv => h (fun i v hi => (hl.2.2.2 i v hi).2) x p l e s m args below meth c H locs lsA hA hP hS hR hl hv
theorem Runs.mono {N N' k : Nat} {as : List (Int ⊕ Nat)} {M : am} {P P' : Option av → am → Prop} (hN : N ≤ N') (h : Runs N k as M P) (hP : ∀ r M', Rg M' → P r M' → P' r M') : Runs N' k as M P' := by
  intro hR ho l x hD hn
  have h1 := h hR ho l x hD (Nat.le_trans hN hn)
  intro p e ha hc hk s m args below hf hS hPp hKp
  obtain ⟨n, o, a1, a2, a3, ⟨⟨r, M', b1, b2, b3, b4, b5, b6⟩, a5⟩⟩ := h1 p e ha hc hk s m args below hf hS hPp hKp
  exact ⟨n, o, a1, a2, a3, ⟨⟨r, M', hP r M' b2 b1, b2, b3, b4, b5, b6⟩, a5⟩⟩
