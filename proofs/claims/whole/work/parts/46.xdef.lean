/-! The second judgement: a method that may make a cell, throw, or read the script. -/
/-- cells and slots that may be made in all, that are made so far; whether the script may be read, its length, what it holds -/
abbrev qx : Type := Nat × Nat × Nat × Nat × Bool × Nat × (Nat → Int)
abbrev zRc (ζ : qx) : Nat := ζ.1
abbrev zRs (ζ : qx) : Nat := ζ.2.1
abbrev zc (ζ : qx) : Nat := ζ.2.2.1
abbrev zs (ζ : qx) : Nat := ζ.2.2.2.1
abbrev zon (ζ : qx) : Bool := ζ.2.2.2.2.1
abbrev zL (ζ : qx) : Nat := ζ.2.2.2.2.2.1
abbrev zX (ζ : qx) : Nat → Int := ζ.2.2.2.2.2.2
def rmX (k : Nat) (ζ : qx) : Room := { frames := mF k, cells := zRc ζ, slots := zRs ζ, locals := mO k }
/-- the handlers of the helpers of the law -/
def hdl : Nat → List (Nat × Nat × Nat × Nat)
  | 143 => [(0, 10, 13, 13), (0, 10, 17, 15), (0, 10, 21, 17)]
  | 144 => [(0, 7, 10, 13), (0, 7, 14, 17)]
  | 145 => [(0, 5, 8, 13), (0, 5, 11, 17)]
  | 146 => [(0, 9, 12, 15)]
  | 147 => [(0, 8, 11, 13)]
  | 148 => [(0, 9, 12, 13), (0, 9, 15, 15)]
  | 149 => [(0, 16, 19, 13)]
  | 150 => [(0, 8, 11, 13)]
  | 151 => [(0, 8, 11, 13)]
  | 152 => [(0, 9, 12, 13), (0, 9, 15, 17)]
  | 153 => [(0, 8, 11, 13), (0, 8, 14, 54)]
  | 154 => [(0, 9, 12, 13), (0, 9, 15, 17)]
  | 155 => [(0, 8, 11, 13)]
  | _ => []
/-- the classes that are thrown -/
def xcl (c : Int) : String := if c = 1 then "java/lang/IllegalStateException" else if c = 2 then "java/lang/IndexOutOfBoundsException" else if c = 3 then "java/lang/IllegalArgumentException" else "java/util/NoSuchElementException"
/-- what the making of an exception asks of the tables -/
def exU : Cond := .isRef (.static Bundle.tN "UNASSIGNED_STACK" Bundle.steD)
def exS : Cond := .isRef (.static Bundle.tN "SUPPRESSED_SENTINEL" Bundle.listD)
def exN : List String := ["java/lang/RuntimeException", "java/lang/Exception"]
def exA (c : Int) (ic : Nat) : List Cond := Bundle.ownAtoms "DroppedPieces" ic (xcl c) exN
def six13 : ByteArray := ⟨#[0x2a, 0x2b, 0xb7, 0x00, 0x0d, 0xb1]⟩
def exA4 : List Cond := Bundle.throwableAtoms ++ Bundle.throwableSAtoms ++ Bundle.passSAtoms (xcl 4) "java/lang/RuntimeException" 13 six13 ++ Bundle.chainSAtoms "java/lang/RuntimeException" ["java/lang/Exception"] ++
  [.methodLink "DroppedPieces" 157 (Bundle.initS (xcl 4)), .instantiable (xcl 4) 6, .castable (xcl 4) (xcl 4), .selects (xcl 4) Bundle.tFill0 Bundle.tFill0, .selects (xcl 4) Bundle.tFill Bundle.tFill,
   .lays (xcl 4) Bundle.tN "cause" "Ljava/lang/Throwable;", .lays (xcl 4) Bundle.tN "stackTrace" Bundle.steD, .lays (xcl 4) Bundle.tN "suppressedExceptions" Bundle.listD, .lays (xcl 4) Bundle.tN "detailMessage" "Ljava/lang/String;",
   exU, exS, .fieldLink Bundle.tN 198 Bundle.tN "backtrace" "Ljava/lang/Object;", .lays Bundle.tN Bundle.tN "backtrace" "Ljava/lang/Object;", .lays (xcl 4) Bundle.tN "backtrace" "Ljava/lang/Object;"]
/-- that the classes are none of each other -/
def exC : List Cond := [.not (.castable (xcl 2) (xcl 1)), .not (.castable (xcl 3) (xcl 1)), .not (.castable (xcl 3) (xcl 2)), .not (.castable (xcl 4) (xcl 1))]
/-- the messages -/
def exT : List Cond := [.stringRef "DroppedPieces" 177 "no position is being set up", .stringRef "DroppedPieces" 181 "no such square", .stringRef "DroppedPieces" 71 "no such value", .stringRef "DroppedPieces" 86 "no such hand", .stringRef "DroppedPieces" 98 "no game can begin so", .stringRef "DroppedPieces" 179 "a position is being set up", .stringRef "DroppedPieces" 122 "no such legal move", .stringRef "DroppedPieces" 141 "no move can be made any more", .stringRef "DroppedPieces" 144 "not a legal move", .stringRef "DroppedPieces" 155 "no move was made", .stringRef "DroppedPieces" 168 "not a length that is counted"]
def exL : List Cond := exA 1 143 ++ (exA 2 124 ++ (exA 3 73 ++ (exA4 ++ (exC ++ exT))))
/-- the two static fields of Throwable that its making reads -/
def exY (n d : String) : Prop := (n = "UNASSIGNED_STACK" ∧ d = Bundle.steD) ∨ (n = "SUPPRESSED_SENTINEL" ∧ d = Bundle.listD)
def Ex (x : cx) (U : State) : Prop := (∀ w ∈ exL, w.before #[] U = true) ∧ ∀ (n d : String), exY n d → ∀ (c : ClassId) (k : Class) (i : Nat) (f : Field) (a : Nat), U.fieldFound? Bundle.tN n d = some (c, k, i, f) → k.statics = some a → ¬ x.A a
/-- how a method ends: an answer; a long stands for a throw of the class of that number -/
def ocm (x : cx) (s : State) : Option av → Outcome → State → Prop
  | some (.inr (.inr c)), o, t => ∃ (a : Addr) (cell : Cell), o = .threw a ∧ t.heap[a]? = some cell ∧ s.heap.size ≤ a ∧ (∀ k, cell.vm ≠ .statics k) ∧ s.vm.findClass (xcl c) = some cell.cls
  | r, o, _ => o = .returned (r.map (vl x))
def FX (x : cx) (ζ : qx) (P : Option av → am → Prop) (below : List Frame) (s : State) : State → Prop := fun t =>
  ∃ o, t.status = .running ∧ Ended t below o ∧ (∃ (r : Option av) (M' : am), P r M' ∧ Rg M' ∧ (∀ v, r = some v → okv v) ∧ ocm x s r o t ∧ va_P x.D vcl (wld x M') t.heap ∧ va_F x.A s t) ∧
    s.WarmedH t.vm ∧ ∃ L, s.sameButNew ({ t with vm := s.vm } : State) L (zRc ζ) (zRs ζ) ∧ ∀ q ∈ L, x.A q.base
/-- the script, where it may be read: object 99, which lies ahead of all that is written -/
def ZX (x : cx) (ζ : qx) (s : State) : Prop := zon ζ = true → va_X (x.loc 99) (zL ζ) (fun j => Int32.ofInt (zX ζ j)) s s.heap ∧ x.loc 99 < s.heap.size ∧ ¬ x.A (x.loc 99) ∧ (∀ j, r32 (zX ζ j)) ∧ zL ζ < 100000
def AmX (x : cx) (N k : Nat) (ζ : qx) (p : Program) (l : Launch) (s : State) (m : MethodId) (meth : Method) (c : Code) : Prop :=
  p.tables.exec = Jvm.exec ∧ c.code = mC k ∧ c.maxLocals = mL k ∧ meth.sig.returnType = mR k ∧ s.vm.findClass (cnm (mN k)) = some m.cls ∧ meth.locks = false ∧ (Dx x ∧ (ZX x ζ s ∧ c.exceptionTable.toList.map (fun h => (h.startPc, h.endPc, h.handlerPc, h.catchType)) = hdl k ∧ Ex x s ∧ l.flags = flags0) ∧ zc ζ ≤ zRc ζ ∧ zs ζ ≤ zRs ζ) ∧ N ≤ x.n ∧ Cx x s
def VX (N k : Nat) (ζ : qx) (P : Option av → am → Prop) (pc : Nat) (ls : List al) (st : List av) (M : am) : Prop :=
  ∀ (x : cx) (p : Program) (l : Launch) (e : Env) (s : State) (m : MethodId) (args : Array Value) (below : List Frame) (meth : Method) (c : Code) (H : Heap) (locs : List Loc) (lsA : Array Slot),
    AmX x N k ζ p l s m meth c → va_P x.D vcl (wld x M) H → va_S x.A s.heap H locs → Rg M → lok x (mL k) ls lsA → (∀ v ∈ st, okv v) →
    W p l e (rmX k ζ) s m args below meth c H locs (zc ζ) (zs ζ) (FX x ζ P below s) (F0 m pc lsA (st.map (vl x)))
section VXD
variable {N k pc : Nat} {P : Option av → am → Prop} {ls : List al} {st : List av} {M : am} {ζ : qx}
theorem FX_of {x : cx} {below : List Frame} {args : Array Value} {s t : State} {r : Option av} {M : am} (hr : ∀ z, r ≠ some (.inr (.inr z))) (h : P r M) (hR : Rg M) (ho : ∀ v, r = some v → okv v)
    (hq : MQ below (fun _ st o t => o = .returned (r.map (vl x)) ∧ va_P x.D vcl (wld x M) t.heap ∧ va_F x.A st t) args s (zRc ζ) (zRs ζ) x.A t) : FX x ζ P below s t := by
  obtain ⟨o, h1, h2, ⟨h3, h4, h5⟩, L, ⟨-, h6, h7⟩, h8⟩ := hq
  refine ⟨o, h1, h2, ⟨r, M, h, hR, ho, ?_, h4, h5⟩, h6, L, h7, h8⟩
  rcases r with _ | z | a | z
  · exact h3
  · exact h3
  · exact h3
  · exact absurd rfl (hr z)
theorem W_post {p : Program} {l : Launch} {e : Env} {R : Room} {s : State} {m : MethodId} {args : Array Value} {below : List Frame} {meth : Method} {c : Code} {H : Heap} {locs : List Loc} {cells slots : Nat} {Q Q' : State → Prop} {g : JFrame} (h : W p l e R s m args below meth c H locs cells slots Q g) (hq : ∀ t, Q t → Q' t) : W p l e R s m args below meth c H locs cells slots Q' g := fun T hT X => by
  obtain ⟨t, a, b⟩ := h T hT X
  exact ⟨t, a, hq t b⟩
theorem V_iretX {z : Int} (hd : decode (mC k) pc = .ok (.ireturn, 1)) (hr0 : mR k = some .int ∨ (mR k = some .boolean ∧ (z = 0 ∨ z = 1))) (h : P (some (.inl z)) M) : VX N k ζ P pc ls [.inl z] M := by
  intro x p l e s m args below meth c H locs lsA hA hP hS hR hl hv
  obtain ⟨hx, hb, hml, hr, hown, hlk, hDx, hNx, hTB, hK, hSt⟩ := hA
  have hz : r32 z := ok_h hv
  refine W.widen hDx.2.2.1 hDx.2.2.2 (W_post (Q := MQ below (fun _ st o t => o = .returned ((some (.inl z : av)).map (vl x)) ∧ va_P x.D vcl (wld x M) t.heap ∧ va_F x.A st t) args s (zRc ζ) (zRs ζ) x.A) ?_ (fun t ht => FX_of (r := some (.inl z)) (fun _ e => by cases e) h hR (fun v e => by cases e; exact hz) ht))
  have hq : ∀ t : State, t.heap = H → s.WarmedH t.vm → (fun _ st o t => o = .returned ((some (.inl z : av)).map (vl x)) ∧ va_P x.D vcl (wld x M) t.heap ∧ va_F x.A st t : Array Value → State → Outcome → State → Prop) args s (.returned (some (.int (Int32.ofInt z)))) t := fun t ht _ => ⟨rfl, by rw [ht]; exact hP, hS.F ht⟩
  rcases hr0 with hi | ⟨hi, h01⟩
  · exact W.zret (ty := .int) hx hb (hr.trans hi) rfl hq hS.2.2 hd hlk
  · exact W.zret (ty := .boolean) hx hb (hr.trans hi) (by rcases h01 with rfl | rfl <;> rfl) hq hS.2.2 hd hlk
theorem V_vretX (hd : decode (mC k) pc = .ok (.return_, 1)) (hr0 : mR k = none) (h : P none M) : VX N k ζ P pc ls [] M := by
  intro x p l e s m args below meth c H locs lsA hA hP hS hR hl hv
  obtain ⟨hx, hb, hml, hr, hown, hlk, hDx, hNx, hTB, hK, hSt⟩ := hA
  refine W.widen hDx.2.2.1 hDx.2.2.2 (W_post (Q := MQ below (fun _ st o t => o = .returned ((none : Option av).map (vl x)) ∧ va_P x.D vcl (wld x M) t.heap ∧ va_F x.A st t) args s (zRc ζ) (zRs ζ) x.A) ?_ (fun t ht => FX_of (r := none) (fun _ e => by cases e) h hR (fun v e => by cases e) ht))
  exact W.vret hx hb (hr.trans hr0) (fun t ht _ => ⟨rfl, by rw [ht]; exact hP, hS.F ht⟩) hS.2.2 hd hlk
theorem V_scaldX {i : Int} (hd : decode (mC k) pc = .ok (.iaload, 1)) (hz : zon ζ = true) (h0 : 0 ≤ i) (h1 : i < zL ζ) (kk : VX N k ζ P (pc + 1) ls (.inl (zX ζ i.toNat) :: st) M) : VX N k ζ P pc ls (.inl i :: .inr (.inl 99) :: st) M := by
  intro x p l e s m args below meth c H locs lsA hA hP hS hR hl hv
  have hA0 := hA
  obtain ⟨hx, hb, hml, hr, hown, hlk, hDx, hNx, hTB, hK, hSt⟩ := hA
  obtain ⟨g1, g2, g3, g4, g5⟩ := hDx.2.1.1 hz
  have hi : r32 i := ok_h hv
  have hh := kk x p l e s m args below meth c H locs lsA hA0 hP hS hR hl (ok_c (v := .inl (zX ζ i.toNat)) (g4 _) (ok_t (ok_t hv)))
  refine va_sld hx hb g1 g2 g3 hS (i_in hi h0 (by omega)) hd ?_
  rw [i_clamp hi]
  exact hh
theorem V_scalenX (hd : decode (mC k) pc = .ok (.arraylength, 1)) (hz : zon ζ = true) (kk : VX N k ζ P (pc + 1) ls (.inl (zL ζ : Int) :: st) M) : VX N k ζ P pc ls (.inr (.inl 99) :: st) M := by
  intro x p l e s m args below meth c H locs lsA hA hP hS hR hl hv
  have hA0 := hA
  obtain ⟨hx, hb, hml, hr, hown, hlk, hDx, hNx, hTB, hK, hSt⟩ := hA
  obtain ⟨g1, g2, g3, g4, g5⟩ := hDx.2.1.1 hz
  have hh := kk x p l e s m args below meth c H locs lsA hA0 hP hS hR hl (ok_c (v := .inl (zL ζ : Int)) (show r32 _ by unfold r32; omega) (ok_t hv))
  refine va_slen hx hb g1 g2 g3 hS hd ?_
  exact hh
end VXD
