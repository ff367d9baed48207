/-! The law from its entry to its loop. -/
/-- where all lies: our objects from the heap's end on, the script, the static arrays -/
def xL (s : State) (b : Nat) (g : Nat → Nat) (D : va_G) (c0 c1 c2 : ClassId) : cx := (fun a => if a < 99 then s.heap.size + a else if a = 99 then b else g (a - 100), D, fun i => if i = 0 then c0 else if i = 1 then c1 else c2, 37, s.heap.size)
theorem xL_lc (s : State) (b : Nat) (g : Nat → Nat) (D : va_G) (c0 c1 c2 : ClassId) : lcB (xL s b g D c0 c1 c2) 37 := fun a ha => if_pos (by omega)
theorem xL_99 (s : State) (b : Nat) (g : Nat → Nat) (D : va_G) (c0 c1 c2 : ClassId) : (xL s b g D c0 c1 c2).loc 99 = b := rfl
theorem xL_st (s : State) (b : Nat) (g : Nat → Nat) (D : va_G) (c0 c1 c2 : ClassId) (i : Nat) : (xL s b g D c0 c1 c2).loc (100 + i) = g i := by
  show (if 100 + i < 99 then _ else if 100 + i = 99 then _ else g (100 + i - 100)) = g i
  rw [if_neg (by omega), if_neg (by omega), Nat.add_sub_cancel_left]
/-- what the law's walk has made at most -/
def zL0 (L : Nat) (xs : Nat → Int32) : qx := (601024, 7293034, 37, 6069, true, L, fun j => (xs j).toInt)
theorem FX_lw {s : State} {b L : Nat} {xs : Nat → Int32} {g : Nat → Nat} {D : va_G} {c0 c1 c2 : ClassId} {below : List Frame} {t : State} (h : FX (xL s b g D c0 c1 c2) (zL0 L xs) lawP below s t) : lw_Z below #[Value.ref b] s t := by
  obtain ⟨o, h1, h2, ⟨r, M', hr, -, -, ho, -, -⟩, h3, Lc, h4, h5⟩ := h
  have hr' : r = some (.inl 1) := hr
  subst hr'
  have ho' : o = .returned (some (.int 1)) := ho
  refine ⟨o, h1, h2, ho', ⟨_, ho'⟩, h3, h4.1, h4.2.1, h4.2.2.1, h4.2.2.2.1, h4.2.2.2.2.1, fun a c hc => ?_⟩
  obtain ⟨c', e1, e2, e3, e4⟩ := h4.2.2.2.2.2 a c hc
  refine ⟨c', e1, e2, e3, fun i _ => e4 i (fun hm => ?_)⟩
  have h6 : s.heap.size ≤ a := h5 _ hm
  have h7 : a < s.heap.size := (Array.getElem?_eq_some_iff.mp hc).1
  exact absurd h7 (Nat.not_lt.mpr h6)
section S2
variable {p : Program} {e : Env} {s : State} {m : MethodId} {below : List Frame} {meth : Method} {c : Code} {b L : Nat} {xs : Nat → Int32}
theorem s2_go (l : Launch) (hfl0 : l.flags = flags0) {x : cx} (hlc : lcB x 37) (hn : x.n = 37) (hB : x.B = s.heap.size) (h99 : x.loc 99 = b) (hx : p.tables.exec = Jvm.exec) (hb : c.code = code) (hret : meth.sig.returnType = ret) (hml : c.maxLocals = 7) (hown : s.vm.findClass "DroppedPiecesLaw" = some m.cls) (hlk : meth.locks = false) (htab : c.exceptionTable.toList.map (fun h => (h.startPc, h.endPc, h.handlerPc, h.catchType)) = []) (hC : Cx x s) (hNX : NX s) (hEx : Ex x s) (hX : va_X b L xs s s.heap) (hbl : b < s.heap.size) (hL : L ≤ 2048) :
    W p l e room_1 s m #[Value.ref b] below meth c s.heap [] 0 0 (FX x (zL0 L xs) lawP below s) (entryFrame m ([Value.ref b] : List Value).toArray 7) := by
  rw [lg_entry_eq]
  have hls := lv_entry [Value.ref b] (n := 7) (Nat.le_of_ble_eq_true rfl)
  generalize (lg_sl [Value.ref b] ++ List.replicate (7 - (lg_sl [Value.ref b]).length) Slot.unset).toArray = ls0 at hls ⊢
  have hls : lv_has ls0 7 [(0, Value.ref b)] := hls
  have hA : AN x 10 7 code p s m c := ⟨hx, hb, hml, hown, hC, hNX⟩
  have hZ : ZN x [] [] s s.heap [] := ⟨by rw [hB]; rfl, fun k q hq => by simp [wE] at hq, va_S.rf, by rw [hB]; exact Nat.le_refl _⟩
  refine n_new (index := 8) (nb := 0) (cj := 5) (fs := [.null, .null, .null, .null, .null, .int 0]) hA hZ rfl rfl (by decide +kernel) (by decide +kernel) (by decide +kernel) df_5 (by decide +kernel) (by decide +kernel) (by decide +kernel) (fun H hZ => ?_)
  refine n_dup (a := 0 + 0) hA (by decide +kernel) ?_
  refine n_call (index := 62) (a := 0 + 0) (As := []) (tl := [.inr (5, [.null, .null, .null, .null, .null, .int 0])]) hA hZ (cD x hlc l) wD (by decide +kernel) ⟨rfl, rfl, by decide +kernel, by decide +kernel⟩ rfl hls.1 rfl (Nat.le_of_ble_eq_true rfl) (by decide +kernel) ⟨by decide +kernel, by decide +kernel⟩ ?_
  rintro E' H locs ⟨M1, hs, hr1, rfl⟩ hZ
  have h0 : ∀ a, 27 ≤ a → M1 a = M0 a := fun a ha => hs.2.1 a (by omega) (by omega) (by omega) (by omega) (by omega)
  refine lv_astore_n (x := x.B + (0 + 0)) (nL := 7) (i := 1) (k := 1) hx hb (by decide +kernel) rfl hls (by decide) rfl (fun ls1 hls => ?_)
  refine n_new (index := 63) (nb := 27) (cj := 6) (fs := [.int 0, .null, .null, .null, .int 0, .int 0, .int 0, .null, .null, .null, .null, .null]) hA hZ (eM_len x 27 M1) rfl (by decide +kernel) (by decide +kernel) (by decide +kernel) df_6 (by decide +kernel) (by decide +kernel) (by decide +kernel) (fun H hZ => ?_)
  refine n_dup (a := 27 + 0) hA (by decide +kernel) ?_
  refine n_call (index := 65) (a := 27 + 0) (As := []) (tl := [.inr (6, [.int 0, .null, .null, .null, .int 0, .int 0, .int 0, .null, .null, .null, .null, .null])]) hA hZ (cM x hlc M1 hr1 h0 l) wM (by decide +kernel) ⟨rfl, rfl, by decide +kernel, by decide +kernel⟩ rfl hls.1 rfl (Nat.le_of_ble_eq_true rfl) (by decide +kernel) ⟨by decide +kernel, by decide +kernel⟩ ?_
  rintro E' H locs ⟨M2, hs2, hr2, rfl⟩ hZ
  have h36 : M2 36 = M0 36 := (hs2.2.2.2.2.2.2.2.2.2.2 36 (Or.inr (by decide))).trans (h0 36 (by decide))
  refine lv_astore_n (x := x.B + (27 + 0)) (nL := 7) (i := 2) (k := 2) hx hb (by decide +kernel) rfl hls (by decide) rfl (fun ls2 hls => ?_)
  refine lv_iconst hx hb (n := 1) (v := 1) (by decide +kernel) (by decide +kernel) ?_
  refine n_newa (atype := .long) (nb := 36) (i := 2) (ty := .long) (N' := 1) (a0 := (1, .inr (.inl (fun _ => 0)))) hA hZ (eM_len x 36 M2) rfl rfl (fun _ _ => rfl) (by decide +kernel) (fun _ => rfl) (by decide +kernel) (by decide +kernel) (by decide +kernel) (by decide +kernel) (by decide +kernel) (by decide +kernel) (fun H hZ => ?_)
  refine lv_astore_n (x := x.B + (36 + 0)) (nL := 7) (i := 3) (k := 3) hx hb (by decide +kernel) rfl hls (by decide) rfl (fun ls3 hls => ?_)
  refine lv_iconst hx hb (n := 0) (v := 0) (by decide +kernel) (by decide +kernel) ?_
  refine lv_istore (nL := 7) (i := 4) hx hb (by decide +kernel) hls (by decide) rfl (fun ls4 hls => ?_)
  have hsim : Sim M2 := (sim_begin hs hs2).1
  obtain ⟨z1, z2, z3, z4⟩ := hZ
  have e37 : eM x 36 M2 ++ ([] ++ [aJ x 1]) = eM x 37 M2 := (eM_37 hlc h36).symm
  have z2' : va_P x.D vcl (wE x (eM x 37 M2)) H := by rw [← e37]; exact z2
  rw [← wld_eM hlc] at z2'
  have exn : xn x 37 = x := by
    obtain ⟨x1, x2, x3, x4, x5⟩ := x
    have : x4 = 37 := hn
    subst this
    rfl
  rw [exn] at z2'
  have hD : Dx x := by have h := lcB_D hlc; rw [exn] at h; exact h
  have hlok : lok x 7 (lw0 0 none none) ls4 := by
    refine ⟨rfl, hls.1, hls.2.1, fun i v hi => ?_⟩
    have hh := hls.2.2
    have h0l : x.loc 0 = x.B + (0 + 0) := hlc 0 (by decide)
    have h27 : x.loc 27 = x.B + (27 + 0) := hlc 27 (by decide)
    have h36l : x.loc 36 = x.B + (36 + 0) := hlc 36 (by decide)
    rcases i with _ | _ | _ | _ | _ | _ | _ | i
    · injection hi with hi; injection hi with hi; subst hi
      refine ⟨(hh (0, Value.ref b) (by simp [Value.category])).trans ?_, trivial⟩
      rw [show vo x (.inr 99) = .ref (x.loc 99) from rfl, h99]
    · injection hi with hi; injection hi with hi; subst hi
      refine ⟨(hh (1, Value.ref (x.B + (0 + 0))) (by simp [Value.category])).trans ?_, trivial⟩
      rw [show vo x (.inr 0) = .ref (x.loc 0) from rfl, h0l]
    · injection hi with hi; injection hi with hi; subst hi
      refine ⟨(hh (2, Value.ref (x.B + (27 + 0))) (by simp [Value.category])).trans ?_, trivial⟩
      rw [show vo x (.inr 27) = .ref (x.loc 27) from rfl, h27]
    · injection hi with hi; injection hi with hi; subst hi
      refine ⟨(hh (3, Value.ref (x.B + (36 + 0))) (by simp [Value.category])).trans ?_, trivial⟩
      rw [show vo x (.inr 36) = .ref (x.loc 36) from rfl, h36l]
    · injection hi with hi; injection hi with hi; subst hi
      exact ⟨(hh (4, Value.int 0) (by simp)).trans rfl, (by decide : (-2147483648 : Int) ≤ 0 ∧ (0 : Int) ≤ 2147483647)⟩
    · cases hi
    · cases hi
    · cases hi
  have hZX : ZX x (zL0 L xs) s := by
    intro _
    rw [h99]
    refine ⟨?_, hbl, ?_, fun j => ⟨?_, ?_⟩, ?_⟩
    · have e1 : (fun j => Int32.ofInt (zX (zL0 L xs) j)) = xs := by
        funext j
        exact Int32.ofInt_toInt (xs j)
      rw [e1]
      exact hX
    · show ¬ x.B ≤ b
      rw [hB]
      omega
    · exact Int32.le_toInt (xs j)
    · exact Int.le_of_lt_add_one (Int32.toInt_lt (xs j))
    · show L < 100000
      omega
  have hV := law_23 512 0 (zL0 L xs) M2 none none rfl (show L < 100000 by omega) (by decide) (show (0 : Int) ≤ (L : Int) by omega) (show (L : Int) - 0 ≤ 4 * 512 + 3 by omega) ⟨show 37 + 512 ≤ 601024 by decide, show 6069 + 6 * 512 ≤ 7293034 by decide⟩ hsim
  exact hV x p l e s m #[Value.ref b] below meth c H locs ls4 ⟨hx, hb, hml, hret, hown, hlk, ⟨hD, ⟨hZX, htab, hEx, hfl0⟩, show 37 ≤ 601024 by decide, show 6069 ≤ 7293034 by decide⟩, by rw [hn]; exact Nat.le_refl _, hC⟩ z2' z3 hr2 hlok (fun v hv => by cases hv)
end S2
