/-! Contracts of methods that throw; how a throw goes on in the caller -/
def z16 : qx := (1, 6, 0, 0, false, 0, fun _ => 0)
def zin (ζ : qx) : qx := (zRc ζ, zRs ζ, zc ζ + 1, zs ζ + 6, zon ζ, zL ζ, zX ζ)
def FQ (x : cx) (ζ : qx) (P : Option av → am → Prop) : Array Value → State → Outcome → State → Prop := fun _ s o t =>
  (∃ (r : Option av) (M' : am), P r M' ∧ Rg M' ∧ (∀ v, r = some v → okv v) ∧ ocm x s r o t ∧ va_P x.D vcl (wld x M') t.heap ∧ va_F x.A s t) ∧ s.WarmedH t.vm ∧ ∃ L, s.sameButNew ({ t with vm := s.vm } : State) L (zRc ζ) (zRs ζ) ∧ ∀ q ∈ L, x.A q.base
def PcX (x : cx) (as : List (Int ⊕ Nat)) (M : am) : Array Value → State → Prop := fun v U => Pc x as M v U ∧ Ex x U
def RunsX (N k : Nat) (as : List (Int ⊕ Nat)) (M : am) (P : Option av → am → Prop) : Prop :=
  Rg M → (∀ v ∈ as, oko v) → ∀ (l : Launch) (x : cx), l.flags = flags0 → Dx x → N ≤ x.n → MetFree l (mY k) (headSpec [.code (mY k) (mC k) (mL k) (mR k)] (rmX k z16)) (PcX x as M) (fun _ _ _ _ _ => True) (FQ x z16 P)
theorem tab_nil {c : Code} (h : c.exceptionTable.isEmpty = true) : c.exceptionTable.toList.map (fun h => (h.startPc, h.endPc, h.handlerPc, h.catchType)) = [] := by
  have h0 : c.exceptionTable.size = 0 := by simpa [Array.isEmpty] using h
  have h1 : c.exceptionTable.toList = [] := List.eq_nil_of_length_eq_zero (by simpa using h0)
  rw [h1]; rfl
theorem RunsX.of {N k : Nat} {as : List (Int ⊕ Nat)} {M : am} {P : Option av → am → Prop} (hk : k < 143) (hh : hdl k = []) (hn : as.length ≤ mL k) (h : Rg M → VX N k z16 P 0 (ini as (mL k)) [] M) : RunsX N k as M P := by
  intro hR ho l x hfl hDx hN
  obtain ⟨h1, h2, h3, h4, h5⟩ := mP_of hk
  refine MetFree.of_bodyS (code := mC k) (maxLocals := mL k) (ret := mR k) h4 ?_ ?_
  · intro args s m hp hn
    obtain ⟨meth, c, g1, g2, g3, g4, g5, g6, -, -⟩ := Cond.code_spec hn (atoms_spec (ws := [.code (mY k) (mC k) (mL k) (mR k)]) hp _ List.mem_cons_self)
    exact ⟨meth, c, g1, g2, g3, g4, g5, g6⟩
  · intro p e s m args below meth c s₁ B hml hP _
    obtain ⟨⟨rfl, hC, hPw⟩, hEx⟩ := hP
    have X₀ : Stand p l e (rmX k z16) s m _ below meth c s₁ [] 0 0 := Stand.of_body B
    have hown : s.vm.findClass (mY k).cls = some m.cls := findClass_of_methodNamed B.named
    rw [h5] at hown
    have hh0 : s₁.heap = s.heap := by rw [B.state]; rfl
    have htab : c.exceptionTable.toList.map (fun h => (h.startPc, h.endPc, h.handlerPc, h.catchType)) = hdl k := by
      obtain ⟨meth', c', g1, g2, -, -, -, -, g7, -⟩ := Cond.code_spec B.named (atoms_spec (ws := [.code (mY k) (mC k) (mL k) (mR k)]) B.pre _ List.mem_cons_self)
      cases g1.symm.trans X₀.method
      cases g2.symm.trans X₀.code
      rw [hh]; exact tab_nil g7
    rw [lg_entry_eq]
    obtain ⟨t, a1, o, b1, b2, b3⟩ := h hR x p l e s m _ below meth c s.heap [] _ ⟨B.exec, B.bytes, hml, B.returns, hown, B.notSynchronized, ⟨hDx, ⟨(fun q => by cases q), htab, hEx, hfl⟩, Nat.zero_le _, Nat.zero_le _⟩, hN, hC⟩ hPw va_S.rf hR (ini_lok hn ho) (fun v hv => by cases hv) s₁ hh0 X₀
    exact ⟨t, o, a1, b1, b2, b3⟩
/-- the note of a throw lies over the method's frame -/
def TX (N k : Nat) (ζ : qx) (P : Option av → am → Prop) (pc : Nat) (ls : List al) (cn : Int) (M : am) : Prop :=
  ∀ (x : cx) (p : Program) (l : Launch) (e : Env) (s : State) (m : MethodId) (args : Array Value) (below : List Frame) (meth : Method) (c : Code) (locs : List Loc) (lsA : Array Slot) (st : List Value) (b : Addr) (cell : Cell) (T : State),
    AmX x N k ζ p l s m meth c → va_P x.D vcl (wld x M) T.heap → va_S x.A s.heap T.heap locs → Rg M → lok x (mL k) ls lsA → T.heap[b]? = some cell → (∀ q, cell.vm ≠ .statics q) → s.vm.findClass (xcl cn) = some cell.cls → s.heap.size ≤ b →
    Stand p l e (rmX k ζ) s m args below meth c T locs (zc ζ) (zs ζ) → ∃ t, Steps p.tables e below ((T.setTop (F0 m pc lsA st)).pushFrame (.throwing b)) t ∧ FX x ζ P below s t
section RX
variable {N k pc : Nat} {P : Option av → am → Prop} {ls : List al} {st : List av} {M : am} {ζ : qx}
/-- out of the caller too -/
theorem TX_leave {cn : Int} (hh : hdl k = []) (hcn : r64 cn) (h : P (some (.inr (.inr cn))) M) : TX N k ζ P pc ls cn M := by
  intro x p l e s m args below meth c locs lsA st b cell T hA hPw hS hR hl hb hvm hcl hsz X
  obtain ⟨hx, hbc, hml, hr, hown, hlk, hDx, hNx, hTB, hK, hSt⟩ := hA
  have htab : c.exceptionTable.toList = [] := by
    have h0 := hDx.2.1.2.1
    rw [hh] at h0
    exact List.map_eq_nil_iff.mp h0
  obtain ⟨hwalk, hrun, hend, hW, hsame⟩ := X.leaveThrown b (g := F0 m pc lsA st) rfl rfl rfl (fun y hy => by rw [htab] at hy; cases hy) hlk
  exact ⟨_, hwalk, _, hrun, hend, ⟨some (.inr (.inr cn)), M, h, hR, (fun v e => by cases e; exact hcn), ⟨b, cell, rfl, hb, hsz, hvm, hcl⟩, hPw, hS.F rfl⟩, hW, locs, hsame.mono hDx.2.2.1 hDx.2.2.2, hS.2.2⟩
end RX
