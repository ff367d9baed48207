/-! a stretch of code: what 'run' asks is enough -/
section VS
variable {N k pc : Nat} {P : Option av → am → Prop} {ls : List al} {st : List av} {M : am}
theorem KLT.use {a b v : Nat} (hq : (a, b, v) ∈ KLT) : gw (.constant (cnm a) b (Int32.ofNat v)) = true := by
  have h := List.all_eq_true.mp KLT_ok (a, b, v) hq
  exact h
theorem nl_of {v : av} (h : nl v = true) : ∀ z, v ≠ .inr (.inr z) := fun z e => by subst e; cases h
def shK : Bool := (List.range 37).all (fun a => !(decide ((sh a).1 = 3)) || ((List.range (sh a).2.2.length).all (fun f => match (sh a).2.2[f]? with
  | some (.inr 0) => decide (vty (sh a).2.1 f = .int)
  | some (.inr _) => decide (vty (sh a).2.1 f = .boolean)
  | _ => true)))
theorem shK_ok : shK = true := by decide +kernel
theorem sh_lt {a : Nat} (h : (sh a).1 = 3) : a < 37 := by
  by_cases ha : a < 37
  · exact ha
  · have e : sh a = (4, 0, []) := by
      unfold sh
      rw [List.getD_eq_getElem?_getD, List.getElem?_eq_none (by show shs.length ≤ a; have : shs.length = 37 := rfl; omega)]
      rfl
    rw [e] at h
    cases h
theorem sh_ty {a f j : Nat} (h : (sh a).1 = 3) (hf : (sh a).2.2[f]? = some (.inr j)) : (j = 0 → vty (sh a).2.1 f = .int) ∧ (j ≠ 0 → vty (sh a).2.1 f = .boolean) := by
  have h1 := List.all_eq_true.mp shK_ok a (List.mem_range.mpr (sh_lt h))
  have hl : f < (sh a).2.2.length := (List.getElem?_eq_some_iff.mp hf).1
  rw [show decide ((sh a).1 = 3) = true by simp [h]] at h1
  have h2 := List.all_eq_true.mp (show _ = true by simpa using h1) f (List.mem_range.mpr hl)
  rw [hf] at h2
  cases j with
  | zero => exact ⟨fun _ => by simpa using h2, fun q => absurd rfl q⟩
  | succ j => exact ⟨fun q => (by cases q), fun _ => by simpa using h2⟩
set_option maxHeartbeats 4000000 in
theorem stpS_ok {r : rw4} (hr : rOk k pc r = true) {K : List al → List av → am → Prop} (hK : ∀ ls st M, K ls st M → V N k P (pc + r.2.1) ls st M) (h : stpS N K r ls st M) : V N k P pc ls st M := by
  obtain ⟨i, len, r1, r2⟩ := r
  simp only [rOk, Bool.and_eq_true, decide_eq_true_eq] at hr
  obtain ⟨hd, hr⟩ := hr
  cases i with
  | iconst z =>
    simp only [Bool.and_eq_true, decide_eq_true_eq] at hr; obtain ⟨⟨h1, h2⟩, rfl⟩ := hr
    exact V_iconst hd (by unfold r32; omega) (hK _ _ _ h)
  | bipush z =>
    simp only [Bool.and_eq_true, decide_eq_true_eq] at hr; obtain ⟨⟨h1, h2⟩, rfl⟩ := hr
    exact V_bipush hd h1 h2 (hK _ _ _ h)
  | sipush z =>
    simp only [Bool.and_eq_true, decide_eq_true_eq] at hr; obtain ⟨⟨h1, h2⟩, rfl⟩ := hr
    exact V_sipush hd h1 h2 (hK _ _ _ h)
  | ldc ix =>
    simp only [Bool.and_eq_true, decide_eq_true_eq] at hr; obtain ⟨⟨h1, h2⟩, rfl⟩ := hr
    exact V_ldc hd (KLT.use h1) h2 (hK _ _ _ h)
  | ldc_w ix =>
    simp only [Bool.and_eq_true, decide_eq_true_eq] at hr; obtain ⟨⟨h1, h2⟩, rfl⟩ := hr
    exact V_ldcw hd (KLT.use h1) h2 (hK _ _ _ h)
  | iload i =>
    simp only [decide_eq_true_eq] at hr; subst hr
    simp only [stpS, ldi] at h
    split at h
    · next z hz => exact V_iload hd hz (hK _ _ _ h)
    · exact h.elim
  | iload_n i =>
    simp only [decide_eq_true_eq] at hr; subst hr
    simp only [stpS, ldi] at h
    split at h
    · next z hz => exact V_iload_n hd hz (hK _ _ _ h)
    · exact h.elim
  | aload i =>
    simp only [decide_eq_true_eq] at hr; subst hr
    simp only [stpS, lda] at h
    split at h
    · next z hz => exact V_aload hd hz (hK _ _ _ h)
    · exact h.elim
  | aload_n i =>
    simp only [decide_eq_true_eq] at hr; subst hr
    simp only [stpS, lda] at h
    split at h
    · next z hz => exact V_aload_n hd hz (hK _ _ _ h)
    · exact h.elim
  | istore i =>
    simp only [Bool.and_eq_true, decide_eq_true_eq] at hr; obtain ⟨h1, rfl⟩ := hr
    simp only [stpS, sti] at h
    split at h
    · exact V_istore hd h1 (hK _ _ _ h)
    · exact h.elim
  | istore_n i =>
    simp only [Bool.and_eq_true, decide_eq_true_eq] at hr; obtain ⟨h1, rfl⟩ := hr
    simp only [stpS, sti] at h
    split at h
    · exact V_istore_n hd h1 (hK _ _ _ h)
    · exact h.elim
  | iinc i n =>
    simp only [Bool.and_eq_true, decide_eq_true_eq] at hr; obtain ⟨h1, rfl⟩ := hr
    simp only [stpS, inc] at h
    split at h
    · next z hz => exact V_iinc hd h1 hz h.1 (hK _ _ _ h.2)
    · exact h.elim
  | iadd =>
    simp only [decide_eq_true_eq] at hr; subst hr
    simp only [stpS, ar2] at h
    split at h
    · exact V_iadd hd h.1 (hK _ _ _ h.2)
    · exact h.elim
  | isub =>
    simp only [decide_eq_true_eq] at hr; subst hr
    simp only [stpS, ar2] at h
    split at h
    · exact V_isub hd h.1 (hK _ _ _ h.2)
    · exact h.elim
  | imul =>
    simp only [decide_eq_true_eq] at hr; subst hr
    simp only [stpS, ar2] at h
    split at h
    · exact V_imul hd h.1 (hK _ _ _ h.2)
    · exact h.elim
  | idiv =>
    simp only [decide_eq_true_eq] at hr; subst hr
    simp only [stpS, ar2] at h
    split at h
    · exact V_idiv hd h.1.1 h.1.2 (hK _ _ _ h.2)
    · exact h.elim
  | irem =>
    simp only [decide_eq_true_eq] at hr; subst hr
    simp only [stpS, ar2] at h
    split at h
    · exact V_irem hd h.1.1 h.1.2 (hK _ _ _ h.2)
    · exact h.elim
  | iand =>
    simp only [Bool.and_eq_true, decide_eq_true_eq] at hr; obtain ⟨h1, rfl⟩ := hr
    simp only [stpS, ar2] at h
    split at h
    · split at h
      · obtain ⟨h2, h3⟩ := h
        subst h2
        exact V_imask hd h1 (hK _ _ _ h3)
      · exact h.elim
    · split at h
      · exact V_iand hd h.1.1 h.1.2 (hK _ _ _ h.2)
      · exact h.elim
  | ior =>
    simp only [decide_eq_true_eq] at hr; subst hr
    simp only [stpS, ar2] at h
    split at h
    · exact V_ior hd h.1.1 h.1.2 (hK _ _ _ h.2)
    · exact h.elim
  | ixor =>
    simp only [decide_eq_true_eq] at hr; subst hr
    simp only [stpS, ar2] at h
    split at h
    · exact V_ixor hd h.1.1 h.1.2 (hK _ _ _ h.2)
    · exact h.elim
  | ishr =>
    simp only [decide_eq_true_eq] at hr; subst hr
    simp only [stpS, ar2] at h
    split at h
    · exact V_ishr hd h.1.1 h.1.2 (hK _ _ _ h.2)
    · exact h.elim
  | iushr =>
    simp only [decide_eq_true_eq] at hr; subst hr
    simp only [stpS, ar2] at h
    split at h
    · exact V_iushr hd h.1.1 h.1.2.1 h.1.2.2 (hK _ _ _ h.2)
    · exact h.elim
  | ishl =>
    simp only [decide_eq_true_eq] at hr; subst hr
    simp only [stpS, ar2] at h
    split at h
    · exact V_ishl hd h.1.1 h.1.2.1 h.1.2.2 (hK _ _ _ h.2)
    · exact h.elim
  | ineg =>
    simp only [decide_eq_true_eq] at hr; subst hr
    simp only [stpS] at h
    split at h
    · exact V_ineg hd h.1 (hK _ _ _ h.2)
    · exact h.elim
  | dup =>
    simp only [decide_eq_true_eq] at hr; subst hr
    simp only [stpS] at h
    split at h
    · exact V_dup hd (nl_of h.1) (hK _ _ _ h.2)
    · exact h.elim
  | pop =>
    simp only [decide_eq_true_eq] at hr; subst hr
    simp only [stpS] at h
    split at h
    · exact V_pop hd (nl_of h.1) (hK _ _ _ h.2)
    · exact h.elim
  | dup2 =>
    simp only [decide_eq_true_eq] at hr; subst hr
    simp only [stpS] at h
    split at h
    · exact V_dup2 hd (nl_of h.1) (nl_of h.2.1) (hK _ _ _ h.2.2)
    · exact h.elim
  | getfield ix =>
    simp only [Bool.and_eq_true, decide_eq_true_eq] at hr; obtain ⟨⟨h1, h2⟩, rfl⟩ := hr
    simp only [stpS, gtf] at h
    split at h
    · obtain ⟨a1, a2, a3, h⟩ := h
      unfold gfm at h
      split at h
      · next t ht => exact V_getfR hd h1 a1 a2 a3 ht h2 (hK _ _ _ h)
      · next j hj => exact V_getfI hd h1 a1 a2 a3 hj h2 (hK _ _ _ h)
      · exact h.elim
    · exact h.elim
  | putfield ix =>
    simp only [Bool.and_eq_true, decide_eq_true_eq] at hr; obtain ⟨⟨⟨h1, h2⟩, h3⟩, rfl⟩ := hr
    simp only [stpS, ptf] at h
    split at h
    · obtain ⟨a1, a2, a3, h⟩ := h
      unfold pfm at h
      split at h
      · next hj => exact V_putf hd h1 a1 a2 a3 hj h2 h3 (Or.inl (by rw [← a3]; exact (sh_ty a2 hj).1 rfl)) (hK _ _ _ h)
      · next j hn hj =>
        have ht := sh_ty a2 hj
        by_cases hj0 : j = 0
        · exact V_putf hd h1 a1 a2 a3 hj h2 h3 (Or.inl (by rw [← a3]; exact ht.1 hj0)) (hK _ _ _ h.2)
        · exact V_putf hd h1 a1 a2 a3 hj h2 h3 (Or.inr ⟨by rw [← a3]; exact ht.2 hj0, h.1⟩) (hK _ _ _ h.2)
      · exact h.elim
    · exact h.elim
  | getstatic ix =>
    simp only [Bool.and_eq_true, decide_eq_true_eq] at hr; obtain ⟨⟨⟨h1, h2⟩, h3⟩, rfl⟩ := hr
    exact V_gets hd h1 h2 h3 (hK _ _ _ h)
  | iaload =>
    simp only [decide_eq_true_eq] at hr; subst hr
    simp only [stpS, ald] at h
    split at h
    · split at h
      · next hq => exact V_sald hd hq h.1 h.2.1 h.2.2.1 (hK _ _ _ h.2.2.2)
      · exact V_iald hd h.1 h.2.1 h.2.2.1 h.2.2.2.1 (hK _ _ _ h.2.2.2.2)
    · exact h.elim
  | baload =>
    simp only [decide_eq_true_eq] at hr; subst hr
    simp only [stpS, zld] at h
    split at h
    · exact V_zald hd h.1 h.2.1 h.2.2.1 h.2.2.2.1 (hK _ _ _ h.2.2.2.2)
    · exact h.elim
  | laload =>
    simp only [decide_eq_true_eq] at hr; subst hr
    simp only [stpS, lld] at h
    split at h
    · exact V_lald hd h.1 h.2.1 h.2.2.1 h.2.2.2.1 (hK _ _ _ h.2.2.2.2)
    · exact h.elim
  | iastore =>
    simp only [decide_eq_true_eq] at hr; subst hr
    simp only [stpS, ast] at h
    split at h
    · exact V_iast hd h.1 h.2.1 h.2.2.1 h.2.2.2.1 (hK _ _ _ h.2.2.2.2)
    · exact h.elim
  | bastore =>
    simp only [decide_eq_true_eq] at hr; subst hr
    simp only [stpS, zst] at h
    split at h
    · exact V_zast hd h.1 h.2.1 h.2.2.1 h.2.2.2.1 h.2.2.2.2.1 (hK _ _ _ h.2.2.2.2.2)
    · exact h.elim
  | lastore =>
    simp only [decide_eq_true_eq] at hr; subst hr
    simp only [stpS, lst] at h
    split at h
    · exact V_last hd h.1 h.2.1 h.2.2.1 h.2.2.2.1 (hK _ _ _ h.2.2.2.2)
    · exact h.elim
  | arraylength =>
    simp only [decide_eq_true_eq] at hr; subst hr
    simp only [stpS, aln] at h
    split at h
    · exact V_alen hd h.1 h.2.1 h.2.2.1 (hK _ _ _ h.2.2.2)
    · exact h.elim
  | i2l =>
    simp only [decide_eq_true_eq] at hr; subst hr
    simp only [stpS] at h
    split at h
    · exact V_i2l hd (hK _ _ _ h)
    · exact h.elim
  | lconst q =>
    simp only [decide_eq_true_eq] at hr; subst hr
    exact V_lconst hd (hK _ _ _ h)
  | lshl =>
    simp only [decide_eq_true_eq] at hr; subst hr
    simp only [stpS] at h
    split at h
    · exact V_lshl hd h.1 h.2.1 h.2.2.1 (hK _ _ _ h.2.2.2)
    · exact h.elim
  | lor =>
    simp only [decide_eq_true_eq] at hr; subst hr
    simp only [stpS] at h
    split at h
    · exact V_lor hd h.1 h.2.1 (hK _ _ _ h.2.2)
    · exact h.elim
  | lcmp =>
    simp only [decide_eq_true_eq] at hr; subst hr
    simp only [stpS] at h
    split at h
    · exact V_lcmp hd (hK _ _ _ h)
    · exact h.elim
  | invokestatic ix =>
    simp only [Bool.and_eq_true, decide_eq_true_eq] at hr; obtain ⟨⟨⟨h1, h2⟩, h3⟩, rfl⟩ := hr
    simp only [stpS, cls] at h
    unfold clsm at h
    split at h
    · next as rest hp =>
      obtain ⟨h4, P', h5, h6⟩ := h
      exact V_calls hd h1 ⟨h2, h3⟩ hp h4 h5 (fun r M' q => hK _ _ _ (h6 r M' q))
    · exact h.elim
  | invokevirtual ix =>
    simp only [Bool.and_eq_true, decide_eq_true_eq] at hr; obtain ⟨⟨⟨h1, h2⟩, h3⟩, rfl⟩ := hr
    simp only [stpS, clv] at h
    unfold clvm at h
    split at h
    · next as a rest hp =>
      obtain ⟨b1, b2, b3, h4, P', h5, h6⟩ := h
      exact V_callv hd h1 ⟨h2, h3⟩ hp b1 b2 b3 h4 h5 (fun r M' q => hK _ _ _ (h6 r M' q))
    · exact h.elim
  | _ => exact h.elim
theorem tsw_ok {d lo hi x : Int} {offs : Array Int} {len : Nat} (hd : decode (mC k) pc = .ok (.tableswitch d lo hi offs, len)) (h0 : 0 ≤ (pc : Int) + d) (h1 : offs.toList.all (fun o => decide (0 ≤ (pc : Int) + o)) = true) (h2 : lo + offs.toList.length = hi + 1)
    (hdf : x < lo ∨ hi < x → V N k P (pc + d).toNat ls st M) (hin : tsw (fun q => V N k P q) pc ls st M x offs.toList lo) : V N k P pc ls (.inl x :: st) M := by
  by_cases hx : x < lo ∨ hi < x
  · intro X p l e s m args below meth c H locs lsA hA hP hS hR hl hv
    have hz : r32 x := ok_h hv
    exact lv_tableOut hA.1 hA.2.1 hd (by rw [i_toInt hz]; exact hx) (Int.toNat_of_nonneg h0).symm (hdf hx X p l e s m args below meth c H locs lsA hA hP hS hR hl (ok_t hv))
  · have key : ∀ (os : List Int) (v : Int), tsw (fun q => V N k P q) pc ls st M x os v → v ≤ x → x < v + os.length → ∃ o, os[(x - v).toNat]? = some o ∧ V N k P (pc + o).toNat ls st M := by
      intro os
      induction os with
      | nil => intro v _ a b; simp at b; omega
      | cons o os ih =>
        intro v hts a b
        obtain ⟨g1, g2⟩ := hts
        by_cases hxv : x = v
        · exact ⟨o, by rw [hxv]; simp, g1 hxv⟩
        · obtain ⟨o2, c1, c2⟩ := ih (v + 1) g2 (by omega) (by simp at b; omega)
          refine ⟨o2, ?_, c2⟩
          rw [show (x - v).toNat = (x - (v + 1)).toNat + 1 by omega]
          simpa using c1
    obtain ⟨o, c1, c2⟩ := key offs.toList lo hin (by omega) (by omega)
    have ho : 0 ≤ (pc : Int) + o := by
      have := List.all_eq_true.mp h1 o (List.mem_of_getElem? c1)
      simpa using this
    intro X p l e s m args below meth c H locs lsA hA hP hS hR hl hv
    have hz : r32 x := ok_h hv
    exact lv_tableIn hA.1 hA.2.1 hd (by rw [i_toInt hz]; omega) (by rw [i_toInt hz]; omega) (by rw [i_toInt hz, ← Array.getElem?_toList]; exact c1) (Int.toNat_of_nonneg ho).symm (c2 X p l e s m args below meth c H locs lsA hA hP hS hR hl (ok_t hv))
set_option maxHeartbeats 4000000 in
theorem stpB_ok {r : rw4} (hr : rOk k pc r = true) (h : stpB P (fun q => V N k P q) pc r ls st M) : V N k P pc ls st M := by
  obtain ⟨i, len, r1, r2⟩ := r
  simp only [rOk, Bool.and_eq_true, decide_eq_true_eq] at hr
  obtain ⟨hd, hr⟩ := hr
  cases i with
  | goto o =>
    simp only [Bool.and_eq_true, decide_eq_true_eq] at hr; obtain ⟨h1, rfl⟩ := hr
    exact V_goto hd h1 h
  | ifCond c o =>
    simp only [Bool.and_eq_true, decide_eq_true_eq] at hr; obtain ⟨h1, rfl⟩ := hr
    cases c <;> simp only [stpB, br1] at h <;> split at h <;> first | exact h.elim | skip
    · exact V_ifeq hd h1 h.1 h.2
    · exact V_ifne hd h1 h.1 h.2
    · exact V_iflt hd h1 h.1 h.2
    · exact V_ifge hd h1 h.1 h.2
    · exact V_ifgt hd h1 h.1 h.2
    · exact V_ifle hd h1 h.1 h.2
  | if_icmp c o =>
    simp only [Bool.and_eq_true, decide_eq_true_eq] at hr; obtain ⟨h1, rfl⟩ := hr
    cases c <;> simp only [stpB, br2] at h <;> split at h <;> first | exact h.elim | skip
    · exact V_icmpeq hd h1 h.1 h.2
    · exact V_icmpne hd h1 h.1 h.2
    · exact V_icmplt hd h1 h.1 h.2
    · exact V_icmpge hd h1 h.1 h.2
    · exact V_icmpgt hd h1 h.1 h.2
    · exact V_icmple hd h1 h.1 h.2
  | tableswitch d lo hi offs =>
    simp only [Bool.and_eq_true, decide_eq_true_eq] at hr; obtain ⟨⟨h1, h2⟩, h3⟩ := hr
    simp only [stpB] at h
    split at h
    · exact tsw_ok hd h1 h2 h3 h.1 h.2
    · exact h.elim
  | ireturn =>
    simp only [Bool.and_eq_true, decide_eq_true_eq] at hr; obtain ⟨h1, rfl⟩ := hr
    simp only [stpB] at h
    split at h
    · by_cases hr1 : r1 = 1
      · rw [if_pos hr1] at h1
        exact V_iret hd (Or.inr ⟨by simpa using h1, h.1 hr1⟩) h.2
      · rw [if_neg hr1] at h1
        exact V_iret hd (Or.inl (by simpa using h1)) h.2
    · exact h.elim
  | return_ =>
    simp only [Bool.and_eq_true, decide_eq_true_eq] at hr; obtain ⟨h1, rfl⟩ := hr
    simp only [stpB] at h
    split at h
    · exact V_vret hd h1 h
    · exact h.elim
  | _ => exact h.elim
theorem run_ok : ∀ (rs : List rw4) (pc : Nat) (ls : List al) (st : List av) (M : am), rsOk k pc rs = true → run N P (fun q => V N k P q) rs pc ls st M → V N k P pc ls st M
  | [], _, _, _, _, _, h => h
  | r :: rs, pc, ls, st, M, hr, h => by
    simp only [rsOk, Bool.and_eq_true] at hr
    simp only [run] at h
    split at h
    · exact stpB_ok hr.1 h
    · exact stpS_ok hr.1 (fun ls st M q => run_ok rs (pc + r.2.1) ls st M hr.2 q) h
end VS
