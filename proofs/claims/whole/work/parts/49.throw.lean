/-! The throw of a new exception with a message -/
def exP (w : Cond) : Bool := wkB w || decide (w ∈ [Cond.laysStatic Bundle.tN "UNASSIGNED_STACK" Bundle.steD, Cond.laysStatic Bundle.tN "SUPPRESSED_SENTINEL" Bundle.listD, exU, exS])
theorem exP_1 : (exA 1 143).all exP = true := by decide +kernel
theorem exP_2 : (exA 2 124).all exP = true := by decide +kernel
theorem exP_3 : (exA 3 73).all exP = true := by decide +kernel
theorem exP_4 : exA4.all exP = true := by decide +kernel
theorem exC_step {w : Cond} (hw : w ∈ exC) {s U : State} (hvm : s.vm.Alike U.vm) {A A' : Array Value} (h : w.before A s = true) : w.before A' U = true := by
  simp only [exC, List.mem_cons, List.not_mem_nil, or_false] at hw
  rcases hw with rfl | rfl | rfl | rfl <;> simp only [Cond.before, Cond.holds, Cond.value, hvm.findClass, hvm.assignable] at h ⊢ <;> exact h
theorem exT_1 {own tx : String} {k : Nat} {s U : State} (hW : s.WarmedH U.vm) {A A' : Array Value} (h : (Cond.stringRef own k tx).before A s = true) : (Cond.stringRef own k tx).before A' U = true := by
  have hcur : ∃ cur, s.vm.findClass own = some cur := by
    have h1 := h
    simp only [Cond.before, Cond.holds, Cond.value] at h1
    cases hc : s.vm.findClass own with
    | none => simp [hc] at h1
    | some cur => exact ⟨cur, rfl⟩
  obtain ⟨cur, hcur⟩ := hcur
  obtain ⟨-, -, -, sa, -, -, -, -, -, hev⟩ := Cond.stringRef_spec hcur h
  have h2 := (vk_R.warm hW (vk_R.of h hev)).1
  simp only [Cond.before, Cond.holds, Cond.value] at h2 ⊢
  exact h2
theorem exT_step {w : Cond} (hw : w ∈ exT) {s U : State} (hW : s.WarmedH U.vm) {A A' : Array Value} (h : w.before A s = true) : w.before A' U = true := by
  simp only [exT, List.mem_cons, List.not_mem_nil, or_false] at hw
  rcases hw with rfl | rfl | rfl | rfl | rfl | rfl | rfl | rfl | rfl | rfl | rfl <;> exact exT_1 hW h
theorem exP_ok : ∀ w ∈ exL, exP w = true ∨ w ∈ exC ∨ w ∈ exT := by
  intro w hw
  simp only [exL, List.mem_append] at hw
  rcases hw with h | h | h | h | h | h
  · exact Or.inl (List.all_eq_true.mp exP_1 w h)
  · exact Or.inl (List.all_eq_true.mp exP_2 w h)
  · exact Or.inl (List.all_eq_true.mp exP_3 w h)
  · exact Or.inl (List.all_eq_true.mp exP_4 w h)
  · exact Or.inr (Or.inl h)
  · exact Or.inr (Or.inr h)
theorem Ex.word {x : cx} {s U : State} (h : Ex x s) (hW : s.WarmedH U.vm) (hq : ∀ a : Nat, a < s.heap.size → ¬ x.A a → U.heap[a]? = s.heap[a]?) {w : Cond} (hw : w ∈ exL) (A' : Array Value) : w.before A' U = true := by
  have h0 := h.1 w hw
  rcases exP_ok w hw with h1 | h1 | h1
  rotate_left
  · exact exC_step h1 hW.alike h0
  · exact exT_step h1 hW h0
  simp only [exP, Bool.or_eq_true, decide_eq_true_eq, List.mem_cons, List.not_mem_nil, or_false] at h1
  rcases h1 with h1 | rfl | rfl | rfl | rfl
  · exact wk_face h1 hW h0
  · exact wk_lays hW.alike hq h0 (fun c k i f a g1 g2 => h.2 _ _ (Or.inl ⟨rfl, rfl⟩) c k i f a g1 g2)
  · exact wk_lays hW.alike hq h0 (fun c k i f a g1 g2 => h.2 _ _ (Or.inr ⟨rfl, rfl⟩) c k i f a g1 g2)
  · exact wk_isRef hW.alike hq h0 (fun c k i f a g1 g2 => h.2 _ _ (Or.inl ⟨rfl, rfl⟩) c k i f a g1 g2)
  · exact wk_isRef hW.alike hq h0 (fun c k i f a g1 g2 => h.2 _ _ (Or.inr ⟨rfl, rfl⟩) c k i f a g1 g2)
theorem Ex.step {x : cx} {s U : State} (h : Ex x s) (hW : s.WarmedH U.vm) (hq : ∀ a : Nat, a < s.heap.size → ¬ x.A a → U.heap[a]? = s.heap[a]?) : Ex x U := by
  refine ⟨fun w hw => h.word hW hq hw _, fun n d hy c k i f a g1 g2 => ?_⟩
  obtain ⟨k', hi', he⟩ := State.fieldFound?_setVm (s := U) (vm' := s.vm) hW.alike.symm g1
  exact h.2 n d hy c k' i f a hi' (by rw [he]; exact g2)
theorem Ex.use {x : cx} {s : State} (h : Ex x s) {w : Cond} (hw : w ∈ exL) (A' : Array Value) : w.before A' s = true := h.word (State.WarmedH.refl s) (fun _ _ _ => rfl) hw A'
theorem mem_exT {w : Cond} (h : w ∈ exT) : w ∈ exL := by
  simp only [exL, List.mem_append]
  exact Or.inr (Or.inr (Or.inr (Or.inr (Or.inr h))))
section TH
variable {N k pc : Nat} {P : Option av → am → Prop} {ls : List al} {st : List av} {M : am} {ζ : qx}
/-- the end of a walk that threw, out of what is known of the machine behind it -/
theorem FX_threw {p : Program} {l : Launch} {e : Env} {R : Room} {s : State} {m : MethodId} {args : Array Value} {below : List Frame} {meth : Method} {c : Code} {T U : State} {locs : List Loc} {cells slots : Nat} {x : cx} {cn : Int} {a : Addr} {ce : Cell}
    (X : Stand p l e R s m args below meth c T locs cells slots) (hc1 : cells + 1 ≤ zRc ζ) (hc2 : slots + 6 ≤ zRs ζ) (hP : P (some (.inr (.inr cn))) M) (hR : Rg M) (hcn : r64 cn) (hPw : va_P x.D vcl (wld x M) T.heap) (hS : va_S x.A s.heap T.heap locs)
    (hrun : U.status = .running) (hend : Ended U below (.threw a)) (hW : (T.setFrames (.invoking m args :: below)).WarmedH U.vm) (hsame : (T.setFrames (.invoking m args :: below)).sameButNew ({ U with vm := (T.setFrames (.invoking m args :: below)).vm } : State) [] 1 6)
    (ha : T.heap.size ≤ a) (hce : U.heap[a]? = some ce) (hcl : T.vm.findClass (xcl cn) = some ce.cls) (hvm : ∀ q, ce.vm ≠ .statics q) : FX x ζ P below s U := by
  have hkeep : ∀ q : Nat, q < T.heap.size → U.heap[q]? = T.heap[q]? := fun q hq => by
    obtain ⟨c', d1, d2, d3, d4⟩ := hsame.2.2.2.2.2 q T.heap[q] (Array.getElem?_eq_getElem hq)
    have e1 : U.heap[q]? = some c' := d1
    rw [e1, Array.getElem?_eq_getElem hq, d2]
    congr 1
    have e2 : c'.slots = T.heap[q].slots := by
      apply Array.ext_getElem?
      intro i
      exact d4 i (by simp)
    rw [e2]
  have hsz : T.heap.size ≤ U.heap.size := hsame.2.1
  have hWU : s.WarmedH U.vm := State.WarmedH.trans X.warmed hW
  refine ⟨_, hrun, hend, ⟨some (.inr (.inr cn)), M, hP, hR, (fun v e => by cases e; exact hcn), ⟨a, ce, rfl, hce, Nat.le_trans hS.1 ha, hvm, ?_⟩, ?_, ?_⟩, hWU, locs ++ [], ?_, ?_⟩
  · rw [← X.warmed.alike.findClass]; exact hcl
  · exact hPw.kept (fun q y hy => hkeep _ ((hPw q y hy).lt))
  · exact ⟨Nat.le_trans hS.1 hsz, fun q h1 h2 => (hkeep q (Nat.lt_of_lt_of_le h1 hS.1)).trans (hS.2.1 q h1 h2)⟩
  · have h2 : T.sameButNew ({ U with vm := T.vm } : State) [] 1 6 := by
      refine ⟨?_, hsame.2⟩
      have h3 := hsame.1
      rw [State.setFrames_setFrames] at h3
      exact h3
    exact (X.same.trans (h2.setVm s.vm)).mono hc1 hc2
  · intro q hq
    rw [List.append_nil] at hq
    exact hS.2.2 q hq
theorem V_throwX {cn : Int} {ix is ic : Nat} {tx : String} (hcn : cn = 1 ∨ cn = 2 ∨ cn = 3) (hh : hdl k = []) (d0 : decode (mC k) pc = .ok (.new ix, 3)) (d1 : decode (mC k) (pc + 3) = .ok (.dup, 1)) (d2 : decode (mC k) (pc + 4) = .ok (.ldc is, 2)) (d3 : decode (mC k) (pc + 6) = .ok (.invokespecial ic, 3)) (d4 : decode (mC k) (pc + 9) = .ok (.athrow, 1))
    (hN : cnm (mN k) = "DroppedPieces") (w1 : gw (.classLink "DroppedPieces" ix (xcl cn)) = true) (w2 : gw (.instantiable (xcl cn) 6) = true) (w3 : gw (.initialized (xcl cn)) = true) (w4 : Cond.stringRef "DroppedPieces" is tx ∈ exT) (hF : 6 ≤ mF k) (hO : 90 ≤ mO k) (hfit : Bundle.fit (xcl cn) = true)
    (hc1 : zc ζ + 1 ≤ zRc ζ) (hc2 : zs ζ + 6 ≤ zRs ζ) (hic : ∀ w ∈ exA cn ic, w ∈ exL) (hP : P (some (.inr (.inr cn))) M) : VX N k ζ P pc ls [] M := by
  intro x p l e s m args below meth c H locs lsA hA hPw hS hR hl hv
  obtain ⟨hx, hb, hml, hr, hown, hlk, hDx, hNx, hTB, hK, hSt⟩ := hA
  intro T hT X
  subst hT
  have X0 := rb_stand X hDx.2.2.1 hDx.2.2.2
  have hvm : (T.setFrames (.invoking m args :: below)).vm = T.vm := rfl
  have hTB' : TB (T.setFrames (.invoking m args :: below)) := hTB.warm X.warmed
  have hEx : Ex x (T.setFrames (.invoking m args :: below)) := hDx.2.1.2.2.1.step X.warmed (fun a h1 h2 => hS.2.1 a h1 h2)
  have htr : e.platform.stackTraces = false := Launch.traces_off hDx.2.1.2.2.2 X.admits
  rw [hN] at hown
  have hown' : (T.setFrames (.invoking m args :: below)).vm.findClass "DroppedPieces" = some m.cls := by rw [hvm, X.warmed.alike.findClass]; exact hown
  have htab : c.exceptionTable.toList = [] := by
    have h0 := hDx.2.1.2.1
    rw [hh] at h0
    exact List.map_eq_nil_iff.mp h0
  obtain ⟨vm₁, cX, kX, hfX, hkX, -, -, X₁, st1⟩ := X0.newCold hx (own := "DroppedPieces") (C := xcl cn) (index := ix) (n := 6) hown' (hTB'.use w1 args) (hTB'.use w2 args) (hTB'.use w3 args)
    (g := F0 m pc lsA []) rfl (by rw [hb]; exact d0) (show 0 + 1 ≤ zRc ζ - zc ζ by omega) (show 0 + 6 ≤ zRs ζ - zs ζ by omega)
  generalize hT2 : (T.setVm vm₁).pushCell { cls := cX, slots := kX.instanceTypes.map defaultValue, vm := .none } = T2 at X₁ st1
  have hcellA : T2.heap[T.heap.size]? = some (freshCell cX kX) := by rw [← hT2]; exact State.heap_pushCell_size _ _
  have hconst := hEx.use (mem_exT w4) args
  obtain ⟨-, -, -, sa, -, -, -, -, -, hev⟩ := Cond.stringRef_spec hown' hconst
  obtain ⟨U, hsteps, hrun, hend, hW, hsame, ce, hce, K⟩ := X₁.ctorThrowS hx htr (own := "DroppedPieces") (cls := xcl cn) (names := exN) (ic := ic) hown' hfit (by decide +kernel)
    (fun y hy => hEx.use (hic y hy) _) (fun y hy => by cases hy) hfX hkX hcellA (Nat.le_refl _) (msg := .ref sa) rfl
    (g := F0 m (pc + 6) lsA [.ref sa, .ref T.heap.size, .ref T.heap.size]) rfl (hl.2.1.trans hml.symm) rfl rfl (rest := []) rfl
    (by rw [hb]; exact d3) (by rw [hb]; exact d4) (fun y hy => by rw [htab] at hy; cases hy) (show 2 + 3 < mF k by omega) (show 2 * (F0 m (pc + 6) lsA [Value.ref sa, .ref T.heap.size, .ref T.heap.size]).monitorRoom + 1 + (13 * (2 + 1) + 42) ≤ mO k by have hmr : (F0 m (pc + 6) lsA [Value.ref sa, .ref T.heap.size, .ref T.heap.size]).monitorRoom = 0 := rfl; omega)
  refine ⟨U, ?_, FX_threw X hc1 hc2 hP hR (by rcases hcn with rfl | rfl | rfl <;> (unfold r64; omega)) hPw hS hrun hend hW hsame (Nat.le_refl _) hce (by rw [← hvm]; exact K.cls) (fun q h => by rw [K.vm] at h; cases h)⟩
  refine st1 _ ?_
  have hb2 := hb
  show Steps p.tables e below (T2.setTop (F0 m (pc + 3) lsA [.ref T.heap.size])) _
  jvm_step X₁.here [X₁.here.top, hx, hb, d1, Value.category]
  exact X₁.ldcString hx (own := "DroppedPieces") (text := tx) (index := is) (a := sa) hown' hconst hev (g := F0 m (pc + 4) lsA [.ref T.heap.size, .ref T.heap.size]) rfl (by rw [hb]; exact d2) _ hsteps
end TH
