/-! The handlers of the law's helpers -/
def ctn (ct : Nat) : Int := if ct = 13 then 1 else if ct = 15 then 2 else if ct = 17 then 3 else 4
def fnd (cn : Int) : List (Nat × Nat × Nat × Nat) → Option Nat
  | [] => none
  | q :: t => if ctn q.2.2.2 = cn then some q.2.2.1 else fnd cn t
/-- of which class c an exception of class cn is none -/
def apx (cn c : Int) : Bool := decide ((cn, c) ∈ [((2 : Int), (1 : Int)), (3, 1), (3, 2), (4, 1)])
/-- all entries ahead of the one that takes it are passed -/
def fok (cn : Int) (pc : Nat) : List (Nat × Nat × Nat × Nat) → Bool
  | [] => false
  | q :: t => decide (q.1 ≤ pc) && decide (pc < q.2.1) && decide (q.2.2.2 ∈ [13, 15, 17, 54]) && (decide (ctn q.2.2.2 = cn) || (apx cn (ctn q.2.2.2) && fok cn pc t))
theorem ct_links : ([13, 15, 17, 54] : List Nat).all (fun ct => gw (.classLink "DroppedPiecesLaw" ct (xcl (ctn ct)))) = true := by decide +kernel
theorem xcl_4 : ∀ ct ∈ ([13, 15, 17, 54] : List Nat), (Cond.castable (xcl (ctn ct)) (xcl (ctn ct))) ∈ exL := by
  intro ct hct
  simp only [List.mem_cons, List.not_mem_nil, or_false] at hct
  rcases hct with rfl | rfl | rfl | rfl
  · exact List.mem_append.mpr (Or.inl (by simp [exA, Bundle.ownAtoms, ctn]))
  · exact List.mem_append.mpr (Or.inr (List.mem_append.mpr (Or.inl (by simp [exA, Bundle.ownAtoms, ctn]))))
  · exact List.mem_append.mpr (Or.inr (List.mem_append.mpr (Or.inr (List.mem_append.mpr (Or.inl (by simp [exA, Bundle.ownAtoms, ctn]))))))
  · exact List.mem_append.mpr (Or.inr (List.mem_append.mpr (Or.inr (List.mem_append.mpr (Or.inr (List.mem_append.mpr (Or.inl (by simp [exA4, ctn]))))))))
theorem apx_C {cn c : Int} (h : apx cn c = true) : Cond.not (.castable (xcl cn) (xcl c)) ∈ exL := by
  have h0 : Cond.not (.castable (xcl cn) (xcl c)) ∈ exC := by
    simp only [apx, decide_eq_true_eq, List.mem_cons, List.not_mem_nil, or_false, Prod.mk.injEq] at h
    rcases h with ⟨rfl, rfl⟩ | ⟨rfl, rfl⟩ | ⟨rfl, rfl⟩ | ⟨rfl, rfl⟩ <;> simp [exC]
  simp only [exL, List.mem_append]
  exact Or.inr (Or.inr (Or.inr (Or.inr (Or.inl h0))))
section HS
variable {e : Env} {s : State} {f : JFrame} {a : Addr} {cell : Cell} {cn : Int} {l : Launch}
theorem cls_some {vm : Vm} {name : String} {c : ClassId} (h : vm.findClass name = some c) {vm' : Vm} (ha : vm.Alike vm') : ∃ k, vm'.classes[c]? = some k := by
  obtain ⟨k, hk⟩ := Vm.classAt_of_findClass h
  obtain ⟨k', hk', -⟩ := ha.2.2 c k hk
  exact ⟨k', hk'⟩
theorem fh_list (hpl : e.platform.magicAccessors = ({} : Platform).magicAccessors) (hTB : TB s) (hEx : ∀ w ∈ exL, w.before #[] s = true) (hown : s.vm.findClass "DroppedPiecesLaw" = some f.method.cls) (hobj : ∀ k, cell.vm ≠ .statics k) (hcl : s.vm.findClass (xcl cn) = some cell.cls) :
    ∀ (es : List ExceptionTableEntry) (ts : List (Nat × Nat × Nat × Nat)) (hp : Nat) (S : State), es.map (fun h => (h.startPc, h.endPc, h.handlerPc, h.catchType)) = ts → fok cn f.pc ts = true → fnd cn ts = some hp → s.WarmedH S.vm → S.heap[a]? = some cell →
      ∃ vm', s.WarmedH vm' ∧ ∀ (Q : Handler → Pre) (E : CtlPost) (d : Bool) (acts : List Action), wp (findHandler.go f a es) Q E e d acts S ↔ Q (.found hp) d acts (S.setVm vm') := by
  intro es
  induction es with
  | nil => intro ts hp S h1 h2; rw [← h1] at h2; cases h2
  | cons x t ih =>
    intro ts hp S h1 h2 h3 hW hcell
    rw [← h1] at h2 h3
    simp only [List.map_cons, fok, Bool.and_eq_true, decide_eq_true_eq, Bool.or_eq_true] at h2
    simp only [List.map_cons, fnd] at h3
    obtain ⟨⟨⟨c1, c2⟩, c3⟩, c4⟩ := h2
    have hcov : covers x f.pc = true := by simp only [covers, Bool.and_eq_true, decide_eq_true_eq]; exact ⟨c1, c2⟩
    have h0 : x.catchType ≠ 0 := fun q => by rw [q] at c3; revert c3; decide
    have hlk := hTB.use (List.all_eq_true.mp ct_links _ c3) #[]
    obtain ⟨cc, hfcc, hccl⟩ := Cond.classLink_spec hown hlk e.platform hpl
    obtain ⟨hg₁, hwarm₁, hready₁⟩ := State.classEntry (e := e) hW hccl
    generalize S.vm.noted f.method.cls x.catchType (.cls cc) = vm₁ at hg₁ hwarm₁ hready₁
    have hsz : vm₁.classes.size ≤ S.vm.classes.size := by rw [hwarm₁.alike.2.1, hW.alike.2.1]; exact Nat.le_refl _
    have hgo := fun (Q : Handler → Pre) (E : CtlPost) (d : Bool) (acts : List Action) => fh_cold (E := E) (d := d) (acts := acts) (Q := Q) (t := t) hcov h0 hg₁ hsz hcell hobj (cls_some hcl hwarm₁.alike) (cls_some hfcc hwarm₁.alike)
    by_cases hm : ctn x.catchType = cn
    · rw [if_pos hm] at h3
      cases h3
      refine ⟨vm₁, hwarm₁, fun Q E d acts => ?_⟩
      rw [hgo Q E d acts, if_pos]
      have hcast := hEx _ (xcl_4 x.catchType c3)
      obtain ⟨d1, d2, e1, e2, e3⟩ := Cond.castable_spec hcast
      rw [hm] at e1 e2 hfcc
      cases hcl.symm.trans e1
      cases hcl.symm.trans e2
      cases hcl.symm.trans hfcc
      rw [hwarm₁.alike.assignable]; exact e3
    · rw [if_neg hm] at h3
      rcases c4 with c4 | ⟨c4, c5⟩
      · exact absurd c4 hm
      have hnot : vm₁.assignable cell.cls cc = false := by
        have hw := hEx _ (apx_C c4)
        rw [hwarm₁.alike.assignable]
        simp only [Cond.before, Cond.holds, Cond.value, hcl, hfcc] at hw
        simpa using hw
      obtain ⟨vm', hW', hgo'⟩ := ih _ hp (S.setVm vm₁) rfl c5 h3 hwarm₁ hcell
      refine ⟨vm', hW', fun Q E d acts => ?_⟩
      rw [hgo Q E d acts, if_neg (by rw [hnot]; decide), hgo' Q E d acts]
      exact Iff.rfl
end HS
section TXC
variable {N k pc : Nat} {P : Option av → am → Prop} {ls : List al} {st : List av} {M : am} {ζ : qx}
/-- what a handler does: the reference away, a number back -/
theorem handler_ret {x : cx} {p : Program} {l : Launch} {e : Env} {s : State} {m : MethodId} {args : Array Value} {below : List Frame} {meth : Method} {c : Code} {H : Heap} {locs : List Loc} {lsA : Array Slot} {b : Addr} {hp n i : Nat} {z : Int}
    (hA : AmX x N k ζ p l s m meth c) (hP : va_P x.D vcl (wld x M) H) (hS : va_S x.A s.heap H locs) (hR : Rg M) (hl : lok x (mL k) ls lsA) (hi : i < mL k) (hd : decode (mC k) hp = .ok (.astore i, n) ∨ ∃ q : Fin 4, q.val = i ∧ decode (mC k) hp = .ok (.astore_n q, n))
    (hd2 : decode (mC k) (hp + n) = .ok (.iconst z, 1)) (hz : -1 ≤ z ∧ z ≤ 5) (hd3 : decode (mC k) (hp + n + 1) = .ok (.ireturn, 1)) (hr0 : mR k = some .int) (h : P (some (.inl z)) M) :
    W p l e (rmX k ζ) s m args below meth c H locs (zc ζ) (zs ζ) (FX x ζ P below s) (F0 m hp lsA [.ref b]) := by
  have hA0 := hA
  obtain ⟨hx, hb, hml, hr, hown, hlk, hDx, hNx, hC⟩ := hA
  have h0 : lv_has lsA (mL k) [] := ⟨hl.2.1, hl.2.2.1, fun q hq => by cases hq⟩
  obtain ⟨ls', e1, g1, g2, g3⟩ := lv_store1 (v := .ref b) h0 hi rfl
  have hl' : lok x (mL k) (List.replicate (mL k) none) ls' := ⟨by simp, g1, g2, fun j v hj => by
    have := List.eq_of_mem_replicate (List.mem_of_getElem? hj); cases this⟩
  have hgo : W p l e (rmX k ζ) s m args below meth c H locs (zc ζ) (zs ζ) (FX x ζ P below s) (F0 m (hp + n) ls' []) :=
    V_iconstX (N := N) (st := []) hd2 (by unfold r32; omega) (V_iretX hd3 (Or.inl hr0) h) x p l e s m args below meth c H locs ls' hA0 hP hS hR hl' (fun v hv => by cases hv)
  intro T hT X
  obtain ⟨t, a1, a2⟩ := hgo T hT X
  refine ⟨t, ?_, a2⟩
  rcases hd with hd | ⟨q, hq, hd⟩
  · jvm_step X.here [X.here.top, ↓top_set X.here.top, hx, hb, hd, e1]
    exact ⟨rfl, a1⟩
  · subst hq
    jvm_step X.here [X.here.top, ↓top_set X.here.top, hx, hb, hd, e1]
    exact ⟨rfl, a1⟩
theorem TX_catch {cn : Int} {hp n i : Nat} {z : Int} (hN : cnm (mN k) = "DroppedPiecesLaw") (hf : fnd cn (hdl k) = some hp) (hf2 : fok cn pc (hdl k) = true) (hi : i < mL k) (hd : decode (mC k) hp = .ok (.astore i, n) ∨ ∃ q : Fin 4, q.val = i ∧ decode (mC k) hp = .ok (.astore_n q, n))
    (hd2 : decode (mC k) (hp + n) = .ok (.iconst z, 1)) (hz : -1 ≤ z ∧ z ≤ 5) (hd3 : decode (mC k) (hp + n + 1) = .ok (.ireturn, 1)) (hr0 : mR k = some .int) (h : P (some (.inl z)) M) : TX N k ζ P pc ls cn M := by
  intro x p l e s m args below meth c locs lsA st b cell T hA hPw hS hR hl hb hvm hcl hsz X
  have hA0 := hA
  obtain ⟨hx, hbc, hml, hr, hown, hlk, hDx, hNx, hC⟩ := hA
  have hpl : e.platform.magicAccessors = ({} : Platform).magicAccessors := by rw [X.admits.platform]
  rw [hN] at hown
  have hvmS : ((T.setTop (F0 m pc lsA st)).pushFrame (.throwing b)).vm = T.vm := Stand.throwing_vm T _ b
  have hhS : ((T.setTop (F0 m pc lsA st)).pushFrame (.throwing b)).heap = T.heap := Stand.throwing_heap T _ b
  obtain ⟨vm', hW', hgo⟩ := fh_list (e := e) (f := F0 m pc lsA st) (a := b) hpl hC.1 hDx.2.1.2.2.1.1 hown hvm hcl c.exceptionTable.toList (hdl k) hp ((T.setTop (F0 m pc lsA st)).pushFrame (.throwing b)) hDx.2.1.2.1 hf2 hf (by rw [hvmS]; exact X.warmed) (by rw [hhS]; exact hb)
  have hret := handler_ret (p := p) (l := l) (e := e) (args := args) (below := below) (H := T.heap) (b := b) (P := P) hA0 hPw hS hR hl hi hd hd2 hz hd3 hr0 h
  obtain ⟨t, a1, a2⟩ := hret (T.setVm vm') rfl (X.noted hW')
  refine ⟨t, ?_, a2⟩
  refine tc_caught (g := F0 m pc lsA st) X.here (fun Q E d acts => ?_) a1
  rw [W.findHandler_eq (meth := meth) (code := c) (by rw [hvmS]; exact X.method') X.code]
  exact hgo Q E d acts
end TXC
