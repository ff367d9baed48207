/-! The law's walk from every start. -/
theorem s3_st {s : State} {b : Nat} {n d : String} (h : (Cond.laysStatic Bundle.tN n d).before #[Value.ref b] s = true) : ∀ (c : ClassId) (k : Class) (i : Nat) (f : Field) (a : Nat), s.fieldFound? Bundle.tN n d = some (c, k, i, f) → k.statics = some a → ¬ s.heap.size ≤ a := by
  intro c k i f a g1 g2
  obtain ⟨c', k', i', f', a', cell, -, h2, -, h4, h5, -⟩ := Cond.laysStatic_spec h
  rw [g1] at h2
  cases h2
  rw [g2] at h4
  cases h4
  exact Nat.not_le.mpr (Array.getElem?_eq_some_iff.mp h5).1
theorem s3_m1 : Cond.laysStatic Bundle.tN "UNASSIGNED_STACK" Bundle.steD ∈ lw_tbl := by decide +kernel
theorem s3_m2 : Cond.laysStatic Bundle.tN "SUPPRESSED_SENTINEL" Bundle.listD ∈ lw_tbl := by decide +kernel
theorem whole_start {p : Program} {e : Env} {s : State} {m : MethodId} {below : List Frame} {meth : Method} {c : Code} (l : Launch) (hfl0 : l.flags = flags0) {b L : Nat} {xs : Nat → Int32} (hL : L ≤ 2048) (htab : c.exceptionTable.toList.map (fun h => (h.startPc, h.endPc, h.handlerPc, h.catchType)) = []) (C0 : lw_At p s m meth c b L xs) : W p l e room_1 s m #[Value.ref b] below meth c s.heap [] 0 0 (lw_Z below #[Value.ref b] s) (entryFrame m ([Value.ref b] : List Value).toArray 7) := by
  obtain ⟨hx, hb, hret, hml, hown, hts, hX, hbl, hlk, hgv⟩ := C0
  have hfl : ∀ w ∈ flN, w.before #[Value.ref b] s = true := flat_of_before _ hgv
  obtain ⟨g, hg⟩ := s1_stat hts hfl
  obtain ⟨D, hD⟩ := s1_cls hts
  obtain ⟨c0, h0, h0'⟩ := s1_arr hts (ty := .int) (by decide +kernel)
  obtain ⟨c1, h1, h1'⟩ := s1_arr hts (ty := .boolean) (by decide +kernel)
  obtain ⟨c2, h2, h2'⟩ := s1_arr hts (ty := .long) (by decide +kernel)
  have hC : Cx (xL s b g D c0 c1 c2) s := by
    refine ⟨s1_TB hts, ⟨fun c q h => hD c q h, fun k q h => ?_⟩, fun i q hq => ?_⟩
    · rcases k with _ | _ | _ | k
      · have h' : some (c0, FieldType.int) = some q := h
        cases h'
        exact ⟨h0, h0'⟩
      · have h' : some (c1, FieldType.boolean) = some q := h
        cases h'
        exact ⟨h1, h1'⟩
      · have h' : some (c2, FieldType.long) = some q := h
        cases h'
        exact ⟨h2, h2'⟩
      · cases h
    · rw [xL_st]
      exact hg i q hq
  have hEx : Ex (xL s b g D c0 c1 c2) s := by
    refine ⟨s1_ex hts hfl, fun n d hy => ?_⟩
    rcases hy with ⟨rfl, rfl⟩ | ⟨rfl, rfl⟩
    · exact s3_st (hts _ s3_m1)
    · exact s3_st (hts _ s3_m2)
  exact W_post (s2_go l hfl0 (xL_lc s b g D c0 c1 c2) rfl rfl (xL_99 s b g D c0 c1 c2) hx hb hret hml hown hlk htab hC (s1_nx hts) hEx hX hbl hL) (fun t ht => FX_lw ht)
