/-! a method's code as a table of stretches; all stretches but those at 'stops' are gone through by computation -/
abbrev tb4 : Type := List (Nat × List rw4)
def lkp (F : List rw4 → Prop) (G : Prop) : tb4 → Nat → Prop
  | [], _ => G
  | q :: t, pc => if q.1 = pc then F q.2 else lkp F G t pc
def tOk (k : Nat) (t : tb4) : Bool := t.all (fun q => rsOk k q.1 q.2)
def inS : Nat → List Nat → Bool
  | _, [] => false
  | a, b :: l => if a = b then true else inS a l
def runT (N k : Nat) (P : Option av → am → Prop) (t : tb4) (stops : List Nat) : Nat → Nat → List al → List av → am → Prop
  | 0, pc, ls, st, M => V N k P pc ls st M
  | n + 1, pc, ls, st, M => if inS pc stops = true then V N k P pc ls st M else lkp (fun rs => run N P (runT N k P t stops n) rs pc ls st M) (V N k P pc ls st M) t pc
def go (N k : Nat) (P : Option av → am → Prop) (t : tb4) (stops : List Nat) (n pc : Nat) (ls : List al) (st : List av) (M : am) : Prop := lkp (fun rs => run N P (runT N k P t stops n) rs pc ls st M) False t pc
section EX
variable {N k : Nat} {P : Option av → am → Prop} {t : tb4} {stops : List Nat}
theorem lkp_ok {F : List rw4 → Prop} {G : Prop} (ht : tOk k t = true) {pc : Nat} (h : lkp F G t pc) : (∃ rs, rsOk k pc rs = true ∧ F rs) ∨ G := by
  unfold tOk at ht
  induction t with
  | nil => exact Or.inr h
  | cons q t ih =>
    simp only [List.all_cons, Bool.and_eq_true] at ht
    simp only [lkp] at h
    split at h
    · next e => exact Or.inl ⟨q.2, by rw [← e]; exact ht.1, h⟩
    · exact ih ht.2 h
theorem stpB_mono {P : Option av → am → Prop} {K K' : Nat → List al → List av → am → Prop} (hK : ∀ q ls st M, K q ls st M → K' q ls st M) {pc : Nat} {r : rw4} {ls : List al} {st : List av} {M : am} (h : stpB P K pc r ls st M) : stpB P K' pc r ls st M := by
  obtain ⟨i, len, r1, r2⟩ := r
  cases i with
  | goto o => exact hK _ _ _ _ h
  | ifCond c o => cases c <;> simp only [stpB, br1] at h ⊢ <;> split at h <;> first | exact h.elim | exact ⟨fun a => hK _ _ _ _ (h.1 a), fun a => hK _ _ _ _ (h.2 a)⟩
  | if_icmp c o => cases c <;> simp only [stpB, br2] at h ⊢ <;> split at h <;> first | exact h.elim | exact ⟨fun a => hK _ _ _ _ (h.1 a), fun a => hK _ _ _ _ (h.2 a)⟩
  | tableswitch d lo hi offs =>
    simp only [stpB] at h ⊢
    split at h
    · refine ⟨fun a => hK _ _ _ _ (h.1 a), ?_⟩
      have h2 := h.2
      generalize offs.toList = os at h2 ⊢
      generalize lo = v at h2 ⊢
      induction os generalizing v with
      | nil => trivial
      | cons o os ih => exact ⟨fun a => hK _ _ _ _ (h2.1 a), ih _ h2.2⟩
    · exact h.elim
  | ireturn => exact h
  | return_ => exact h
  | _ => exact h.elim
/-- 'run' over a continuation that the judgement follows from -/
theorem run_ok2 {K : Nat → List al → List av → am → Prop} (hK : ∀ q ls st M, K q ls st M → V N k P q ls st M) : ∀ (rs : List rw4) (pc : Nat) (ls : List al) (st : List av) (M : am), rsOk k pc rs = true → run N P K rs pc ls st M → V N k P pc ls st M
  | [], _, _, _, _, _, h => hK _ _ _ _ h
  | r :: rs, pc, ls, st, M, hr, h => by
    simp only [rsOk, Bool.and_eq_true] at hr
    simp only [run] at h
    split at h
    · exact stpB_ok hr.1 (stpB_mono hK h)
    · exact stpS_ok hr.1 (fun ls st M q => run_ok2 hK rs (pc + r.2.1) ls st M hr.2 q) h
theorem runT_ok (ht : tOk k t = true) : ∀ (n pc : Nat) (ls : List al) (st : List av) (M : am), runT N k P t stops n pc ls st M → V N k P pc ls st M
  | 0, _, _, _, _, h => h
  | n + 1, pc, ls, st, M, h => by
    simp only [runT] at h
    split at h
    · exact h
    · rcases lkp_ok ht h with ⟨rs, h1, h2⟩ | h
      · exact run_ok2 (fun q ls st M => runT_ok ht n q ls st M) rs pc ls st M h1 h2
      · exact h
theorem go_ok (ht : tOk k t = true) (stops : List Nat) (n : Nat) {pc : Nat} {ls : List al} {st : List av} {M : am} (h : go N k P t stops n pc ls st M) : V N k P pc ls st M := by
  rcases lkp_ok ht h with ⟨rs, h1, h2⟩ | h
  · exact run_ok2 (fun q ls st M => runT_ok ht n q ls st M) rs pc ls st M h1 h2
  · exact h.elim
end EX
