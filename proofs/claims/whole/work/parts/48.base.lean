/-! A walk's own state taken as a new beginning: what was written before it counts as old -/
section RB
variable {p : Program} {l : Launch} {e : Env} {R : Room} {s : State} {m : MethodId} {args : Array Value} {below : List Frame} {meth : Method} {c : Code} {T : State} {locs : List Loc} {cells slots : Nat}
theorem rb_stand (X : Stand p l e R s m args below meth c T locs cells slots) (h1 : cells ≤ R.cells) (h2 : slots ≤ R.slots) :
    Stand p l e { frames := R.frames, cells := R.cells - cells, slots := R.slots - slots, locals := R.locals } (T.setFrames (.invoking m args :: below)) m args below meth c T [] 0 0 := by
  have ht : T.cur < T.threads.size := by
    obtain ⟨g₀, hfr⟩ := X.frames_eq
    exact State.cur_lt_of_frames hfr
  obtain ⟨th, hth⟩ : ∃ th, T.threads[T.cur]? = some th := ⟨_, Array.getElem?_eq_getElem ht⟩
  have hfs : (T.setFrames (.invoking m args :: below)).frames = .invoking m args :: below := State.frames_setFrames _ ht
  have hvm : (T.setFrames (.invoking m args :: below)).vm = T.vm := rfl
  refine ⟨X.admits, X.cas, X.clock, hfs, ?_, ?_, X.method', X.code, X.here, X.tail, State.WarmedH.refl _, (State.stackLimits_setFrames _ _ _).symm, (State.stackBytes_setFrames _ _).symm, ?_⟩
  · have hr := X.room
    have hsz := X.heapSize
    have hus := X.used
    have hbook := X.book
    have hloc : (T.setFrames (.invoking m args :: below)).localsInUse = s.localsInUse := by
      unfold State.localsInUse
      rw [hfs, X.frames]
      simp only [hvm, X.warmed.alike.method?]
    simp only [State.hasRoom, Bool.and_eq_true, decide_eq_true_eq] at hr ⊢
    rw [hloc, hfs, State.stackLimits_setFrames, State.stackBytes_setFrames, X.limits, X.bytes]
    rw [X.frames] at hr
    obtain ⟨⟨⟨⟨r1, r2⟩, r3⟩, r4⟩, r5⟩ := hr
    refine ⟨⟨⟨⟨r1, r2⟩, ?_⟩, ?_⟩, hbook⟩
    · show T.heap.size + (R.cells - cells) ≤ _
      omega
    · show T.slotsUsed + (R.slots - slots) ≤ _
      omega
  · have hh := X.hears
    unfold State.hears at hh ⊢
    split at hh <;> simp only [State.code?_eq, hvm, X.warmed.alike.method?] at hh ⊢ <;> exact hh
  · obtain ⟨th2, hth2⟩ : ∃ th2, (T.setFrames (.invoking m args :: below)).threads[(T.setFrames (.invoking m args :: below)).cur]? = some th2 := ⟨_, Array.getElem?_eq_getElem (by simpa [State.setFrames] using ht)⟩
    have h := (State.sameButNew.refl (T.setFrames (.invoking m args :: below)) hth2).setFrames T.frames (by simpa [State.setFrames] using ht)
    have e1 : (T.setFrames (.invoking m args :: below)).setFrames T.frames = T := by
      rw [State.setFrames_setFrames, State.setFrames_self hth]
    rw [e1] at h
    exact h
end RB
/-- words that stay, whatever is warmed -/
def wkB (w : Cond) : Bool := w.keepsFace && w.onTables
theorem wk_face {w : Cond} (hf : wkB w = true) {s U : State} (hW : s.WarmedH U.vm) {A A' : Array Value} (h : w.before A s = true) : w.before A' U = true := by
  simp only [wkB, Bool.and_eq_true] at hf
  exact va_tabs hf.2 (u := s.setVm U.vm) (U := U) rfl (Cond.before_shiftedFace (State.Shifted.of_warmed hW) w hf.1 h)
theorem wk_lays {C n d : String} {s U : State} {Q : Nat → Prop} (hvm : s.vm.Alike U.vm) (hq : ∀ a : Nat, a < s.heap.size → ¬ Q a → U.heap[a]? = s.heap[a]?) {A A' : Array Value} (h : (Cond.laysStatic C n d).before A s = true)
    (hA : ∀ (c : ClassId) (k : Class) (i : Nat) (f : Field) (a : Nat), s.fieldFound? C n d = some (c, k, i, f) → k.statics = some a → ¬ Q a) : (Cond.laysStatic C n d).before A' U = true := by
  obtain ⟨c, k, i, f, a, cell, g1, g2, g3, g4, g5, g6, g7, g8, g9⟩ := Cond.laysStatic_spec h
  obtain ⟨k', hi', he⟩ := State.fieldFound?_setVm hvm g2
  have hU : U.fieldFound? C n d = some (c, k', i, f) := hi'
  have hfc : U.vm.findClass C = some c := by rw [hvm.findClass]; exact g1
  have hc : U.heap[a]? = some cell := by rw [hq a (Array.getElem?_eq_some_iff.mp g5).1 (hA c k i f a g2 g4)]; exact g5
  have hs : k'.statics = some a := by rw [he]; exact g4
  have ht : k'.staticTypes[f.slot]? = some f.type := by rw [he]; exact g9
  simp only [Cond.before, Cond.holds, Cond.value, hfc, hU, hs, Option.bind_some, hc, Option.map_some, g3, g6, g7, g8, ht, beq_self_eq_true, decide_true, Bool.and_self]
theorem wk_isRef {C n d : String} {s U : State} {Q : Nat → Prop} (hvm : s.vm.Alike U.vm) (hq : ∀ a : Nat, a < s.heap.size → ¬ Q a → U.heap[a]? = s.heap[a]?) {A A' : Array Value} (h : (Cond.isRef (.static C n d)).before A s = true)
    (hA : ∀ (c : ClassId) (k : Class) (i : Nat) (f : Field) (a : Nat), s.fieldFound? C n d = some (c, k, i, f) → k.statics = some a → ¬ Q a) : (Cond.isRef (.static C n d)).before A' U = true := by
  cases hv : (Term.static C n d).eval A s none [] s with
  | none => simp [Cond.before, Cond.holds, Cond.value, hv] at h
  | some v =>
    cases hff : s.fieldFound? C n d with
    | none => simp [Term.eval, State.fieldNamed?, hff] at hv
    | some q =>
      obtain ⟨c, k, i, f⟩ := q
      obtain ⟨g1, a, cell, g2, g3, g4, g5⟩ := Term.static_spec hff hv
      obtain ⟨k', hi', he⟩ := State.fieldFound?_setVm hvm hff
      have hU : U.fieldFound? C n d = some (c, k', i, f) := hi'
      have hc : U.heap[a]? = some cell := by rw [hq a (Array.getElem?_eq_some_iff.mp g3).1 (hA c k i f a hff g2)]; exact g3
      have hs : k'.statics = some a := by rw [he]; exact g2
      have hiss : cell.vm.isStatics = true := by
        have hv2 := hv
        simp [Term.eval, State.fieldNamed?, hff, g1, g2, g3] at hv2
        exact hv2.1
      have hev : (Term.static C n d).eval A' U none [] U = some v := by
        simp [Term.eval, State.fieldNamed?, hU, g1, hs, hc, hiss, g5]
      simp only [Cond.before, Cond.holds, Cond.value, hv] at h
      simp only [Cond.before, Cond.holds, Cond.value, hev]
      exact h
