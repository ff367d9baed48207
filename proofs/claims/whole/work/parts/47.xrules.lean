/-! the rows of 07-13 and 18 once more for the judgement VX (by program: wip/whole/gen/copy.py) -/
section VR
variable {N k pc : Nat} {P : Option av → am → Prop} {ls : List al} {st : List av} {M : am} {ζ : qx}
theorem V_iconstX {z : Int} (hd : decode (mC k) pc = .ok (.iconst z, 1)) (hz : r32 z) (kk : VX N k ζ P (pc + 1) ls (.inl z :: st) M) : VX N k ζ P pc ls st M := by
  intro x p l e s m args below meth c H locs lsA hA hP hS hR hl hv
  exact lv_iconst hA.1 hA.2.1 hd rfl (kk x p l e s m args below meth c H locs lsA hA hP hS hR hl (ok_c (v := .inl z) hz hv))
theorem V_bipushX {z : Int} (hd : decode (mC k) pc = .ok (.bipush z, 2)) (h1 : -128 ≤ z) (h2 : z ≤ 127) (kk : VX N k ζ P (pc + 2) ls (.inl z :: st) M) : VX N k ζ P pc ls st M := by
  intro x p l e s m args below meth c H locs lsA hA hP hS hR hl hv
  exact lv_bipush hA.1 hA.2.1 hd (i_bip h1 h2) (kk x p l e s m args below meth c H locs lsA hA hP hS hR hl (ok_c (v := .inl z) (show r32 z by unfold r32; omega) hv))
theorem V_sipushX {z : Int} (hd : decode (mC k) pc = .ok (.sipush z, 3)) (h1 : -32768 ≤ z) (h2 : z ≤ 32767) (kk : VX N k ζ P (pc + 3) ls (.inl z :: st) M) : VX N k ζ P pc ls st M := by
  intro x p l e s m args below meth c H locs lsA hA hP hS hR hl hv
  exact lv_sipush hA.1 hA.2.1 hd (i_sip h1 h2) (kk x p l e s m args below meth c H locs lsA hA hP hS hR hl (ok_c (v := .inl z) (show r32 z by unfold r32; omega) hv))
theorem V_ldcX {ix v : Nat} (hd : decode (mC k) pc = .ok (.ldc ix, 2)) (hw : gw (.constant (cnm (mN k)) ix (Int32.ofNat v)) = true) (hv0 : v ≤ 2147483647) (kk : VX N k ζ P (pc + 2) ls (.inl v :: st) M) : VX N k ζ P pc ls st M := by
  intro x p l e s m args below meth c H locs lsA hA hP hS hR hl hv
  exact lv_ldc hA.1 hA.2.1 hA.2.2.2.2.1 (hA.2.2.2.2.2.2.2.2.1.use hw args) hd (kk x p l e s m args below meth c H locs lsA hA hP hS hR hl (ok_c (v := .inl v) (show r32 v by unfold r32; omega) hv))
theorem V_ldcwX {ix v : Nat} (hd : decode (mC k) pc = .ok (.ldc_w ix, 3)) (hw : gw (.constant (cnm (mN k)) ix (Int32.ofNat v)) = true) (hv0 : v ≤ 2147483647) (kk : VX N k ζ P (pc + 3) ls (.inl v :: st) M) : VX N k ζ P pc ls st M := by
  intro x p l e s m args below meth c H locs lsA hA hP hS hR hl hv
  exact lv_ldcw hA.1 hA.2.1 hA.2.2.2.2.1 (hA.2.2.2.2.2.2.2.2.1.use hw args) hd (kk x p l e s m args below meth c H locs lsA hA hP hS hR hl (ok_c (v := .inl v) (show r32 v by unfold r32; omega) hv))
theorem V_iloadX {i : Nat} {z : Int} (hd : decode (mC k) pc = .ok (.iload i, 2)) (hi : ls[i]? = some (some (.inl z))) (kk : VX N k ζ P (pc + 2) ls (.inl z :: st) M) : VX N k ζ P pc ls st M := by
  intro x p l e s m args below meth c H locs lsA hA hP hS hR hl hv
  obtain ⟨h1, h2⟩ := hl.2.2.2 i _ hi
  exact lv_iload hA.1 hA.2.1 hd h1 (kk x p l e s m args below meth c H locs lsA hA hP hS hR hl (ok_c (v := .inl z) h2 hv))
theorem V_iload_nX {i : Fin 4} {z : Int} (hd : decode (mC k) pc = .ok (.iload_n i, 1)) (hi : ls[i.val]? = some (some (.inl z))) (kk : VX N k ζ P (pc + 1) ls (.inl z :: st) M) : VX N k ζ P pc ls st M := by
  intro x p l e s m args below meth c H locs lsA hA hP hS hR hl hv
  obtain ⟨h1, h2⟩ := hl.2.2.2 i.val _ hi
  exact lv_iload_n hA.1 hA.2.1 hd rfl h1 (kk x p l e s m args below meth c H locs lsA hA hP hS hR hl (ok_c (v := .inl z) h2 hv))
theorem V_aloadX {i : Nat} {a : Nat} (hd : decode (mC k) pc = .ok (.aload i, 2)) (hi : ls[i]? = some (some (.inr a))) (kk : VX N k ζ P (pc + 2) ls (.inr (.inl a) :: st) M) : VX N k ζ P pc ls st M := by
  intro x p l e s m args below meth c H locs lsA hA hP hS hR hl hv
  obtain ⟨h1, h2⟩ := hl.2.2.2 i _ hi
  exact lv_aload hA.1 hA.2.1 hd h1 (kk x p l e s m args below meth c H locs lsA hA hP hS hR hl (ok_c (v := .inr (.inl a)) trivial hv))
theorem V_aload_nX {i : Fin 4} {a : Nat} (hd : decode (mC k) pc = .ok (.aload_n i, 1)) (hi : ls[i.val]? = some (some (.inr a))) (kk : VX N k ζ P (pc + 1) ls (.inr (.inl a) :: st) M) : VX N k ζ P pc ls st M := by
  intro x p l e s m args below meth c H locs lsA hA hP hS hR hl hv
  obtain ⟨h1, h2⟩ := hl.2.2.2 i.val _ hi
  exact lv_aload_n hA.1 hA.2.1 hd rfl h1 (kk x p l e s m args below meth c H locs lsA hA hP hS hR hl (ok_c (v := .inr (.inl a)) trivial hv))
theorem V_istoreX {i : Nat} {z : Int} (hd : decode (mC k) pc = .ok (.istore i, 2)) (hi : i < mL k) (kk : VX N k ζ P (pc + 2) (ls.set i (some (.inl z))) st M) : VX N k ζ P pc ls (.inl z :: st) M := by
  intro x p l e s m args below meth c H locs lsA hA hP hS hR hl hv
  obtain ⟨ls', e1, h2⟩ := hl.store (v := .inl z) hi (ok_h hv)
  intro T hT X
  obtain ⟨t, a, b⟩ := kk x p l e s m args below meth c H locs ls' hA hP hS hR h2 (ok_t hv) T hT X
  refine ⟨t, ?_, b⟩
  have e1 : storeLocals lsA i (.int (Int32.ofInt z)) = some ls' := e1
  have hb := hA.2.1
  have hexec := hA.1
  show Steps p.tables e below (T.setTop (F0 m pc lsA (.int (Int32.ofInt z) :: st.map (vl x)))) t
  jvm_step X.here [X.here.top, ↓top_set X.here.top, hexec, hb, hd, e1]
  exact a
theorem V_istore_nX {i : Fin 4} {z : Int} (hd : decode (mC k) pc = .ok (.istore_n i, 1)) (hi : i.val < mL k) (kk : VX N k ζ P (pc + 1) (ls.set i.val (some (.inl z))) st M) : VX N k ζ P pc ls (.inl z :: st) M := by
  intro x p l e s m args below meth c H locs lsA hA hP hS hR hl hv
  obtain ⟨ls', e1, h2⟩ := hl.store (v := .inl z) hi (ok_h hv)
  intro T hT X
  obtain ⟨t, a, b⟩ := kk x p l e s m args below meth c H locs ls' hA hP hS hR h2 (ok_t hv) T hT X
  refine ⟨t, ?_, b⟩
  have e1 : storeLocals lsA i.val (.int (Int32.ofInt z)) = some ls' := e1
  have hb := hA.2.1
  have hexec := hA.1
  show Steps p.tables e below (T.setTop (F0 m pc lsA (.int (Int32.ofInt z) :: st.map (vl x)))) t
  jvm_step X.here [X.here.top, ↓top_set X.here.top, hexec, hb, hd, e1]
  exact a
theorem V_iincX {i : Nat} {n z : Int} (hd : decode (mC k) pc = .ok (.iinc i n, 3)) (hn : i < mL k) (hi : ls[i]? = some (some (.inl z))) (hz : r32 (z + n)) (kk : VX N k ζ P (pc + 3) (ls.set i (some (.inl (z + n)))) st M) : VX N k ζ P pc ls st M := by
  intro x p l e s m args below meth c H locs lsA hA hP hS hR hl hv
  obtain ⟨h1, h2⟩ := hl.2.2.2 i _ hi
  obtain ⟨ls', e1, h2⟩ := hl.store (v := .inl (z + n)) hn hz
  intro T hT X
  obtain ⟨t, a, b⟩ := kk x p l e s m args below meth c H locs ls' hA hP hS hR h2 hv T hT X
  refine ⟨t, ?_, b⟩
  have e1 : storeLocals lsA i (.int (Int32.ofInt z + Int32.ofInt n)) = some ls' := by rw [i_add]; exact e1
  have h1 : lsA[i]? = some (.val (.int (Int32.ofInt z))) := h1
  have hb := hA.2.1
  have hexec := hA.1
  jvm_step X.here [X.here.top, ↓top_set X.here.top, hexec, hb, hd, h1, e1]
  exact a
theorem V_iaddX {a b : Int} (hd : decode (mC k) pc = .ok (.iadd, 1)) (hz : r32 (a + b)) (kk : VX N k ζ P (pc + 1) ls (.inl (a + b) :: st) M) : VX N k ζ P pc ls (.inl b :: .inl a :: st) M := by
  intro x p l e s m args below meth c H locs lsA hA hP hS hR hl hv
  have h := kk x p l e s m args below meth c H locs lsA hA hP hS hR hl (ok_c (v := .inl (a + b)) hz (ok_t (ok_t hv)))
  refine lv_iadd hA.1 hA.2.1 hd ?_
  rw [i_add]; exact h
theorem V_isubX {a b : Int} (hd : decode (mC k) pc = .ok (.isub, 1)) (hz : r32 (a - b)) (kk : VX N k ζ P (pc + 1) ls (.inl (a - b) :: st) M) : VX N k ζ P pc ls (.inl b :: .inl a :: st) M := by
  intro x p l e s m args below meth c H locs lsA hA hP hS hR hl hv
  have h := kk x p l e s m args below meth c H locs lsA hA hP hS hR hl (ok_c (v := .inl (a - b)) hz (ok_t (ok_t hv)))
  refine lv_isub hA.1 hA.2.1 hd ?_
  rw [i_sub]; exact h
theorem V_imulX {a b : Int} (hd : decode (mC k) pc = .ok (.imul, 1)) (hz : r32 (a * b)) (kk : VX N k ζ P (pc + 1) ls (.inl (a * b) :: st) M) : VX N k ζ P pc ls (.inl b :: .inl a :: st) M := by
  intro x p l e s m args below meth c H locs lsA hA hP hS hR hl hv
  have h := kk x p l e s m args below meth c H locs lsA hA hP hS hR hl (ok_c (v := .inl (a * b)) hz (ok_t (ok_t hv)))
  refine lv_imul hA.1 hA.2.1 hd ?_
  rw [i_mul]; exact h
theorem V_inegX {a : Int} (hd : decode (mC k) pc = .ok (.ineg, 1)) (hz : r32 (-a)) (kk : VX N k ζ P (pc + 1) ls (.inl (-a) :: st) M) : VX N k ζ P pc ls (.inl a :: st) M := by
  intro x p l e s m args below meth c H locs lsA hA hP hS hR hl hv
  have h := kk x p l e s m args below meth c H locs lsA hA hP hS hR hl (ok_c (v := .inl (-a)) hz (ok_t hv))
  refine lv_ineg hA.1 hA.2.1 hd ?_
  rw [i_neg]; exact h
theorem V_idivX {a b : Int} (hd : decode (mC k) pc = .ok (.idiv, 1)) (h0 : 0 ≤ a) (h1 : 0 < b) (kk : VX N k ζ P (pc + 1) ls (.inl (a / b) :: st) M) : VX N k ζ P pc ls (.inl b :: .inl a :: st) M := by
  intro x p l e s m args below meth c H locs lsA hA hP hS hR hl hv
  have ha : r32 a := ok_h (ok_t hv)
  have hb : r32 b := ok_h hv
  have hz : r32 (a / b) := by
    unfold r32 at *
    have h2 := Int.ediv_le_self b h0
    have h3 := Int.ediv_nonneg h0 (Int.le_of_lt h1)
    omega
  have h := kk x p l e s m args below meth c H locs lsA hA hP hS hR hl (ok_c (v := .inl (a / b)) hz (ok_t (ok_t hv)))
  refine lv_idiv hA.1 hA.2.1 hd (by rw [i_0, i_eq hb r32_0]; omega) ?_
  rw [i_div ha hb h0 h1]; exact h
theorem V_iremX {a b : Int} (hd : decode (mC k) pc = .ok (.irem, 1)) (h0 : 0 ≤ a) (h1 : 0 < b) (kk : VX N k ζ P (pc + 1) ls (.inl (a % b) :: st) M) : VX N k ζ P pc ls (.inl b :: .inl a :: st) M := by
  intro x p l e s m args below meth c H locs lsA hA hP hS hR hl hv
  have ha : r32 a := ok_h (ok_t hv)
  have hb : r32 b := ok_h hv
  have hz : r32 (a % b) := by
    have h2 := Int.emod_nonneg a (Int.ne_of_gt h1)
    have h3 := Int.emod_lt_of_pos a h1
    unfold r32 at *
    omega
  have h := kk x p l e s m args below meth c H locs lsA hA hP hS hR hl (ok_c (v := .inl (a % b)) hz (ok_t (ok_t hv)))
  refine lv_irem hA.1 hA.2.1 hd (by rw [i_0, i_eq hb r32_0]; omega) ?_
  rw [i_rem ha hb h0 h1]; exact h
theorem V_imaskX {a : Int} {q : Nat} (hd : decode (mC k) pc = .ok (.iand, 1)) (hq : q < 31) (kk : VX N k ζ P (pc + 1) ls (.inl (a % 2 ^ q) :: st) M) : VX N k ζ P pc ls (.inl (2 ^ q - 1) :: .inl a :: st) M := by
  intro x p l e s m args below meth c H locs lsA hA hP hS hR hl hv
  have hz : r32 (a % 2 ^ q) := by
    have h2 := Int.emod_nonneg a (show (2 : Int) ^ q ≠ 0 from Int.ne_of_gt (Int.pow_pos (by decide)))
    have h3 := Int.emod_lt_of_pos a (show (0 : Int) < 2 ^ q from Int.pow_pos (by decide))
    have h4 : r32 (2 ^ q - 1) := ok_h hv
    unfold r32 at *
    omega
  have h := kk x p l e s m args below meth c H locs lsA hA hP hS hR hl (ok_c (v := .inl (a % 2 ^ q)) hz (ok_t (ok_t hv)))
  refine lv_iand hA.1 hA.2.1 hd ?_
  rw [i_and hq]; exact h
theorem V_iandX {a b : Int} (hd : decode (mC k) pc = .ok (.iand, 1)) (h0 : 0 ≤ a) (h1 : 0 ≤ b) (kk : VX N k ζ P (pc + 1) ls (.inl ((a.toNat &&& b.toNat : Nat) : Int) :: st) M) : VX N k ζ P pc ls (.inl b :: .inl a :: st) M := by
  intro x p l e s m args below meth c H locs lsA hA hP hS hR hl hv
  have hz : r32 ((a.toNat &&& b.toNat : Nat) : Int) := by
    have h2 := n_lt (ok_h hv) h1
    have h3 := Nat.and_lt_two_pow a.toNat h2
    unfold r32
    omega
  have h := kk x p l e s m args below meth c H locs lsA hA hP hS hR hl (ok_c (v := .inl ((a.toNat &&& b.toNat : Nat) : Int)) hz (ok_t (ok_t hv)))
  refine lv_iand hA.1 hA.2.1 hd ?_
  rw [i_andn h0 h1]; exact h
theorem V_iorX {a b : Int} (hd : decode (mC k) pc = .ok (.ior, 1)) (h0 : 0 ≤ a) (h1 : 0 ≤ b) (kk : VX N k ζ P (pc + 1) ls (.inl ((a.toNat ||| b.toNat : Nat) : Int) :: st) M) : VX N k ζ P pc ls (.inl b :: .inl a :: st) M := by
  intro x p l e s m args below meth c H locs lsA hA hP hS hR hl hv
  have hz : r32 ((a.toNat ||| b.toNat : Nat) : Int) := by
    have h2 := n_lt (ok_h hv) h1
    have h3 := n_lt (ok_h (ok_t hv)) h0
    have h4 := Nat.or_lt_two_pow h3 h2
    unfold r32
    omega
  have h := kk x p l e s m args below meth c H locs lsA hA hP hS hR hl (ok_c (v := .inl ((a.toNat ||| b.toNat : Nat) : Int)) hz (ok_t (ok_t hv)))
  refine lv_ior hA.1 hA.2.1 hd ?_
  rw [i_or h0 h1]; exact h
theorem V_ixorX {a b : Int} (hd : decode (mC k) pc = .ok (.ixor, 1)) (h0 : 0 ≤ a) (h1 : 0 ≤ b) (kk : VX N k ζ P (pc + 1) ls (.inl ((a.toNat ^^^ b.toNat : Nat) : Int) :: st) M) : VX N k ζ P pc ls (.inl b :: .inl a :: st) M := by
  intro x p l e s m args below meth c H locs lsA hA hP hS hR hl hv
  have hz : r32 ((a.toNat ^^^ b.toNat : Nat) : Int) := by
    have h2 := n_lt (ok_h hv) h1
    have h3 := n_lt (ok_h (ok_t hv)) h0
    have h4 := Nat.xor_lt_two_pow h3 h2
    unfold r32
    omega
  have h := kk x p l e s m args below meth c H locs lsA hA hP hS hR hl (ok_c (v := .inl ((a.toNat ^^^ b.toNat : Nat) : Int)) hz (ok_t (ok_t hv)))
  refine lv_ixor hA.1 hA.2.1 hd ?_
  rw [i_xor h0 h1]; exact h
theorem V_ishrX {a b : Int} (hd : decode (mC k) pc = .ok (.ishr, 1)) (h0 : 0 ≤ b) (h1 : b < 32) (kk : VX N k ζ P (pc + 1) ls (.inl (a / 2 ^ b.toNat) :: st) M) : VX N k ζ P pc ls (.inl b :: .inl a :: st) M := by
  intro x p l e s m args below meth c H locs lsA hA hP hS hR hl hv
  have h := kk x p l e s m args below meth c H locs lsA hA hP hS hR hl (ok_c (v := .inl (a / 2 ^ b.toNat)) (r32_shr (ok_h (ok_t hv))) (ok_t (ok_t hv)))
  refine lv_ishr hA.1 hA.2.1 hd ?_
  rw [i_shr (ok_h (ok_t hv)) h0 h1]; exact h
theorem V_ishlX {a b : Int} (hd : decode (mC k) pc = .ok (.ishl, 1)) (h0 : 0 ≤ b) (h1 : b < 32) (hz : r32 (a * 2 ^ b.toNat)) (kk : VX N k ζ P (pc + 1) ls (.inl (a * 2 ^ b.toNat) :: st) M) : VX N k ζ P pc ls (.inl b :: .inl a :: st) M := by
  intro x p l e s m args below meth c H locs lsA hA hP hS hR hl hv
  have h := kk x p l e s m args below meth c H locs lsA hA hP hS hR hl (ok_c (v := .inl (a * 2 ^ b.toNat)) hz (ok_t (ok_t hv)))
  refine lv_ishl hA.1 hA.2.1 hd ?_
  rw [i_shl h0 h1]; exact h
theorem V_iushrX {a b : Int} (hd : decode (mC k) pc = .ok (.iushr, 1)) (ha : 0 ≤ a) (h0 : 0 ≤ b) (h1 : b < 32) (kk : VX N k ζ P (pc + 1) ls (.inl (a / 2 ^ b.toNat) :: st) M) : VX N k ζ P pc ls (.inl b :: .inl a :: st) M := by
  intro x p l e s m args below meth c H locs lsA hA hP hS hR hl hv
  exact lv_iushr hA.1 hA.2.1 hd (i_ushr (ok_h (ok_t hv)) ha h0 h1) (kk x p l e s m args below meth c H locs lsA hA hP hS hR hl (ok_c (v := .inl (a / 2 ^ b.toNat)) (r32_shr (ok_h (ok_t hv))) (ok_t (ok_t hv))))
theorem V_dupX {v : av} (hd : decode (mC k) pc = .ok (.dup, 1)) (h : ∀ z, v ≠ .inr (.inr z)) (kk : VX N k ζ P (pc + 1) ls (v :: v :: st) M) : VX N k ζ P pc ls (v :: st) M := by
  intro x p l e s m args below meth c H locs lsA hA hP hS hR hl hv
  exact lv_dup hA.1 hA.2.1 hd (vl_cat x h) (kk x p l e s m args below meth c H locs lsA hA hP hS hR hl (ok_c (ok_h hv) hv))
theorem V_popX {v : av} (hd : decode (mC k) pc = .ok (.pop, 1)) (h : ∀ z, v ≠ .inr (.inr z)) (kk : VX N k ζ P (pc + 1) ls st M) : VX N k ζ P pc ls (v :: st) M := by
  intro x p l e s m args below meth c H locs lsA hA hP hS hR hl hv
  exact lv_pop hA.1 hA.2.1 hd (vl_cat x h) (kk x p l e s m args below meth c H locs lsA hA hP hS hR hl (ok_t hv))
theorem V_dup2X {v w : av} (hd : decode (mC k) pc = .ok (.dup2, 1)) (h : ∀ z, v ≠ .inr (.inr z)) (h' : ∀ z, w ≠ .inr (.inr z)) (kk : VX N k ζ P (pc + 1) ls (v :: w :: v :: w :: st) M) : VX N k ζ P pc ls (v :: w :: st) M := by
  intro x p l e s m args below meth c H locs lsA hA hP hS hR hl hv
  exact lv_dup2_11 hA.1 hA.2.1 hd (vl_cat x h) (vl_cat x h') (kk x p l e s m args below meth c H locs lsA hA hP hS hR hl (ok_c (ok_h hv) (ok_c (ok_h (ok_t hv)) hv)))
end VR
section VH
variable {N k pc : Nat} {P : Option av → am → Prop} {ls : List al} {st : List av} {M : am} {ζ : qx}
theorem V_getfIX {ix ci f a j : Nat} (hd : decode (mC k) pc = .ok (.getfield ix, 3)) (hq : (mN k, ix, ci, f) ∈ FLT) (ha : a < N) (hs : (sh a).1 = 3) (hc : (sh a).2.1 = ci) (hf : (sh a).2.2[f]? = some (.inr j)) (hN : f < ((vcl[ci]?).map (fun r => r.2.2)).getD 0) (kk : VX N k ζ P (pc + 3) ls (.inl (M a f) :: st) M) : VX N k ζ P pc ls (.inr (.inl a) :: st) M := by
  intro x p l e s m args below meth c H locs lsA hA hP hS hR hl hv
  have hA0 := hA
  obtain ⟨hx, hb, hml, hr, hown, hlk, hDx, hNx, hTB, hK, hSt⟩ := hA
  cases hcl : vcl[ci]? with
  | none => rw [hcl] at hN; exact absurd hN (Nat.not_lt_zero _)
  | some r =>
    have hN : f < r.2.2 := by rw [hcl] at hN; exact hN
    obtain ⟨g1, g2, g3, g4⟩ := cl_use hcl
    have hw := FLT.use hq
    simp only [fW, hcl] at hw
    refine va_get (D := x.D) (ci := ci) (v := .int (Int32.ofInt (M a f))) (C := r.1) (T := r.2.1) (N := r.2.2) hx hb (hTB.hts args) (fun w h => gw_gtb (g1 w h)) hown hK hP a ((wld_at (Nat.lt_of_lt_of_le ha hNx)).trans (by rw [ent_3 hs, hc])) hcl f hN (hTB.use hw args) (fun _ h => h) (by rw [List.getElem?_mapIdx, hf]; rfl) hd ?_
    exact kk x p l e s m args below meth c H locs lsA hA0 hP hS hR hl (ok_c (v := .inl (M a f)) ((hR a f).1 (by omega)) (ok_t hv))
theorem V_getfRX {ix ci f a t : Nat} (hd : decode (mC k) pc = .ok (.getfield ix, 3)) (hq : (mN k, ix, ci, f) ∈ FLT) (ha : a < N) (hs : (sh a).1 = 3) (hc : (sh a).2.1 = ci) (hf : (sh a).2.2[f]? = some (.inl t)) (hN : f < ((vcl[ci]?).map (fun r => r.2.2)).getD 0) (kk : VX N k ζ P (pc + 3) ls (.inr (.inl t) :: st) M) : VX N k ζ P pc ls (.inr (.inl a) :: st) M := by
  intro x p l e s m args below meth c H locs lsA hA hP hS hR hl hv
  have hA0 := hA
  obtain ⟨hx, hb, hml, hr, hown, hlk, hDx, hNx, hTB, hK, hSt⟩ := hA
  cases hcl : vcl[ci]? with
  | none => rw [hcl] at hN; exact absurd hN (Nat.not_lt_zero _)
  | some r =>
    have hN : f < r.2.2 := by rw [hcl] at hN; exact hN
    obtain ⟨g1, g2, g3, g4⟩ := cl_use hcl
    have hw := FLT.use hq
    simp only [fW, hcl] at hw
    refine va_get (D := x.D) (ci := ci) (v := .ref (x.loc t)) (C := r.1) (T := r.2.1) (N := r.2.2) hx hb (hTB.hts args) (fun w h => gw_gtb (g1 w h)) hown hK hP a ((wld_at (Nat.lt_of_lt_of_le ha hNx)).trans (by rw [ent_3 hs, hc])) hcl f hN (hTB.use hw args) (fun _ h => h) (by rw [List.getElem?_mapIdx, hf]; rfl) hd ?_
    exact kk x p l e s m args below meth c H locs lsA hA0 hP hS hR hl (ok_c (v := .inr (.inl t)) trivial (ok_t hv))
theorem V_putfX {ix ci f a j : Nat} {v : Int} (hd : decode (mC k) pc = .ok (.putfield ix, 3)) (hq : (mN k, ix, ci, f) ∈ FLT) (ha : a < N) (hs : (sh a).1 = 3) (hc : (sh a).2.1 = ci) (hf : (sh a).2.2[f]? = some (.inr j)) (hN : f < ((vcl[ci]?).map (fun r => r.2.2)).getD 0) (hfin : ((vcl[ci]?).map (fun r => (r.2.1 f).2.2.2)).getD true = false) (hty : vty ci f = .int ∨ (vty ci f = .boolean ∧ (v = 0 ∨ v = 1)))
    (kk : VX N k ζ P (pc + 3) ls st (up2 M a f v)) : VX N k ζ P pc ls (.inl v :: .inr (.inl a) :: st) M := by
  intro x p l e s m args below meth c H locs lsA hA hP hS hR hl hv
  have hA0 := hA
  obtain ⟨hx, hb, hml, hr, hown, hlk, hDx, hNx, hTB, hK, hSt⟩ := hA
  cases hcl : vcl[ci]? with
  | none => rw [hcl] at hN; exact absurd hN (Nat.not_lt_zero _)
  | some r =>
    have hN : f < r.2.2 := by rw [hcl] at hN; exact hN
    have hfin : (r.2.1 f).2.2.2 = false := by rw [hcl] at hfin; exact hfin
    obtain ⟨g1, g2, g3, g4⟩ := cl_use hcl
    have hw := FLT.use hq
    simp only [fW, hcl] at hw
    have hn : narrow (vty ci f) (.int (Int32.ofInt v)) = .int (Int32.ofInt v) := by
      rcases hty with h | ⟨h, rfl | rfl⟩ <;> rw [h] <;> rfl
    have hfit : fits (vty ci f) (.int (Int32.ofInt v)) = true := by
      rcases hty with h | ⟨h, rfl | rfl⟩ <;> rw [h] <;> first | rfl | decide
    refine va_put (D := x.D) (ci := ci) (v := .int (Int32.ofInt v)) (ty := vty ci f) (C := r.1) (T := r.2.1) (N := r.2.2) hx hb (hTB.hts args) (fun w h => gw_gtb (g1 w h)) (vty ci) g2 g3 hown hK hP (hDx.1.D M) hS a ((wld_at (Nat.lt_of_lt_of_le ha hNx)).trans (by rw [ent_3 hs, hc])) hcl f hN (hTB.use hw args) (fun _ h => h) hfin (g2 f hN) hn hfit (by simp; exact (List.getElem?_eq_some_iff.mp hf).1) hd (fun H1 locs1 hP1 hD1 hS1 => ?_)
    rw [← hc, wld_set (Nat.lt_of_lt_of_le ha hNx) (ent_set3 hs hf)] at hP1
    exact kk x p l e s m args below meth c H1 locs1 lsA hA0 hP1 hS1 (hR.up ⟨fun _ => ok_h hv, fun h => by omega⟩) hl (ok_t (ok_t hv))
theorem V_getsX {ix t : Nat} (hd : decode (mC k) pc = .ok (.getstatic ix, 3)) (hq : (mN k, ix, t) ∈ SLT) (ht : 100 ≤ t) (ht2 : t < 106) (kk : VX N k ζ P (pc + 3) ls (.inr (.inl t) :: st) M) : VX N k ζ P pc ls st M := by
  intro x p l e s m args below meth c H locs lsA hA hP hS hR hl hv
  have hA0 := hA
  obtain ⟨hx, hb, hml, hr, hown, hlk, hDx, hNx, hTB, hK, hSt⟩ := hA
  have hw := List.all_eq_true.mp SLT_ok _ hq
  have hlt : t - 100 < sts.length := by show t - 100 < 6; omega
  have h1 := (hSt (t - 100) sts[t - 100] (List.getElem?_eq_getElem hlt)).1
  rw [show 100 + (t - 100) = t by omega] at h1
  simp only [sW, List.getD_eq_getElem?_getD, List.getElem?_eq_getElem hlt, Option.getD_some] at hw
  exact va_gets hx hb h1 hS hown (hTB.use hw args) (fun _ h => h) hd (kk x p l e s m args below meth c H locs lsA hA0 hP hS hR hl (ok_c (v := .inr (.inl t)) trivial hv))
theorem V_saldX {t : Nat} {i : Int} (hd : decode (mC k) pc = .ok (.iaload, 1)) (ht : 100 ≤ t) (ht2 : t < 106) (h0 : 0 ≤ i) (h1 : i < (stL t).length) (kk : VX N k ζ P (pc + 1) ls (.inl (stv t i.toNat) :: st) M) : VX N k ζ P pc ls (.inl i :: .inr (.inl t) :: st) M := by
  intro x p l e s m args below meth c H locs lsA hA hP hS hR hl hv
  have hA0 := hA
  obtain ⟨hx, hb, hml, hr, hown, hlk, hDx, hNx, hTB, hK, hSt⟩ := hA
  have hlt : t - 100 < sts.length := by show t - 100 < 6; omega
  have h2 := (hSt (t - 100) sts[t - 100] (List.getElem?_eq_getElem hlt)).2
  rw [show 100 + (t - 100) = t by omega] at h2
  have e0 : (sts[t - 100]).2.2 = stL t := by simp only [stL, List.getD_eq_getElem?_getD, List.getElem?_eq_getElem hlt, Option.getD_some]
  rw [e0] at h2
  have hi : r32 i := ok_h hv
  have hz : r32 (stv t i.toNat) := by
    have a1 := stL_len (t - 100) (by omega)
    rw [show 100 + (t - 100) = t by omega] at a1
    have a2 := stv_r (t - 100) (by omega) i.toNat (by omega)
    rw [show 100 + (t - 100) = t by omega] at a2
    exact a2
  exact va_ti hx hb h2 hS (i_in hi h0 h1) (v := .int (Int32.ofInt (stv t i.toNat))) (by rw [i_clamp hi]; rfl) hd (kk x p l e s m args below meth c H locs lsA hA0 hP hS hR hl (ok_c (v := .inl (stv t i.toNat)) hz (ok_t (ok_t hv))))
theorem V_ialdX {a : Nat} {i : Int} (hd : decode (mC k) pc = .ok (.iaload, 1)) (ha : a < N) (hs : (sh a).1 = 0) (h0 : 0 ≤ i) (h1 : i < (sh a).2.1) (kk : VX N k ζ P (pc + 1) ls (.inl (M a i.toNat) :: st) M) : VX N k ζ P pc ls (.inl i :: .inr (.inl a) :: st) M := by
  intro x p l e s m args below meth c H locs lsA hA hP hS hR hl hv
  have hA0 := hA
  obtain ⟨hx, hb, hml, hr, hown, hlk, hDx, hNx, hTB, hK, hSt⟩ := hA
  have hi : r32 i := ok_h hv
  refine va_iald hx hb hK hP a 0 ((wld_at (Nat.lt_of_lt_of_le ha hNx)).trans (by rw [ent_0 hs])) rfl (i_in hi h0 h1) hd ?_
  rw [i_clamp hi]
  exact kk x p l e s m args below meth c H locs lsA hA0 hP hS hR hl (ok_c (v := .inl (M a i.toNat)) ((hR a _).1 (by omega)) (ok_t (ok_t hv)))
theorem V_zaldX {a : Nat} {i : Int} (hd : decode (mC k) pc = .ok (.baload, 1)) (ha : a < N) (hs : (sh a).1 = 1) (h0 : 0 ≤ i) (h1 : i < (sh a).2.1) (kk : VX N k ζ P (pc + 1) ls (.inl (M a i.toNat) :: st) M) : VX N k ζ P pc ls (.inl i :: .inr (.inl a) :: st) M := by
  intro x p l e s m args below meth c H locs lsA hA hP hS hR hl hv
  have hA0 := hA
  obtain ⟨hx, hb, hml, hr, hown, hlk, hDx, hNx, hTB, hK, hSt⟩ := hA
  have hi : r32 i := ok_h hv
  refine va_zald hx hb hK hP a 1 ((wld_at (Nat.lt_of_lt_of_le ha hNx)).trans (by rw [ent_1 hs])) rfl (i_in hi h0 h1) hd ?_
  rw [i_clamp hi]
  exact kk x p l e s m args below meth c H locs lsA hA0 hP hS hR hl (ok_c (v := .inl (M a i.toNat)) ((hR a _).1 (by omega)) (ok_t (ok_t hv)))
theorem V_laldX {a : Nat} {i : Int} (hd : decode (mC k) pc = .ok (.laload, 1)) (ha : a < N) (hs : (sh a).1 = 2) (h0 : 0 ≤ i) (h1 : i < (sh a).2.1) (kk : VX N k ζ P (pc + 1) ls (.inr (.inr (M a i.toNat)) :: st) M) : VX N k ζ P pc ls (.inl i :: .inr (.inl a) :: st) M := by
  intro x p l e s m args below meth c H locs lsA hA hP hS hR hl hv
  have hA0 := hA
  obtain ⟨hx, hb, hml, hr, hown, hlk, hDx, hNx, hTB, hK, hSt⟩ := hA
  have hi : r32 i := ok_h hv
  refine va_lald hx hb hK hP a 2 ((wld_at (Nat.lt_of_lt_of_le ha hNx)).trans (by rw [ent_2 hs])) rfl (i_in hi h0 h1) hd ?_
  rw [i_clamp hi]
  exact kk x p l e s m args below meth c H locs lsA hA0 hP hS hR hl (ok_c (v := .inr (.inr (M a i.toNat))) ((hR a _).2 hs) (ok_t (ok_t hv)))
theorem V_iastX {a : Nat} {i v : Int} (hd : decode (mC k) pc = .ok (.iastore, 1)) (ha : a < N) (hs : (sh a).1 = 0) (h0 : 0 ≤ i) (h1 : i < (sh a).2.1) (kk : VX N k ζ P (pc + 1) ls st (up2 M a i.toNat v)) : VX N k ζ P pc ls (.inl v :: .inl i :: .inr (.inl a) :: st) M := by
  intro x p l e s m args below meth c H locs lsA hA hP hS hR hl hv
  have hA0 := hA
  obtain ⟨hx, hb, hml, hr, hown, hlk, hDx, hNx, hTB, hK, hSt⟩ := hA
  have hi : r32 i := ok_h (ok_t hv)
  refine va_iast hx hb hK hP (hDx.1.D M) hS a 0 ((wld_at (Nat.lt_of_lt_of_le ha hNx)).trans (by rw [ent_0 hs])) rfl (i_in hi h0 h1) hd (fun H1 locs1 hP1 hD1 hS1 => ?_)
  rw [i_clamp hi, upd_up2, wld_set (k := i.toNat) (v := v) (Nat.lt_of_lt_of_le ha hNx) (ent_0 hs).symm] at hP1
  exact kk x p l e s m args below meth c H1 locs1 lsA hA0 hP1 hS1 (hR.up ⟨fun _ => ok_h hv, fun h => by omega⟩) hl (ok_t (ok_t (ok_t hv)))
theorem V_zastX {a : Nat} {i v : Int} (hd : decode (mC k) pc = .ok (.bastore, 1)) (ha : a < N) (hs : (sh a).1 = 1) (h0 : 0 ≤ i) (h1 : i < (sh a).2.1) (hv01 : v = 0 ∨ v = 1) (kk : VX N k ζ P (pc + 1) ls st (up2 M a i.toNat v)) : VX N k ζ P pc ls (.inl v :: .inl i :: .inr (.inl a) :: st) M := by
  intro x p l e s m args below meth c H locs lsA hA hP hS hR hl hv
  have hA0 := hA
  obtain ⟨hx, hb, hml, hr, hown, hlk, hDx, hNx, hTB, hK, hSt⟩ := hA
  have hi : r32 i := ok_h (ok_t hv)
  have hnar : vp_nar .boolean (Int32.ofInt v) = Int32.ofInt v := by rcases hv01 with rfl | rfl <;> rfl
  refine va_zast hx hb hK hP (hDx.1.D M) hS a 1 ((wld_at (Nat.lt_of_lt_of_le ha hNx)).trans (by rw [ent_1 hs])) rfl (i_in hi h0 h1) hd (fun H1 locs1 hP1 hD1 hS1 => ?_)
  rw [hnar, i_clamp hi, upd_up2, wld_set (k := i.toNat) (v := v) (Nat.lt_of_lt_of_le ha hNx) (ent_1 hs).symm] at hP1
  exact kk x p l e s m args below meth c H1 locs1 lsA hA0 hP1 hS1 (hR.up ⟨fun _ => ok_h hv, fun h => by omega⟩) hl (ok_t (ok_t (ok_t hv)))
theorem V_lastX {a : Nat} {i v : Int} (hd : decode (mC k) pc = .ok (.lastore, 1)) (ha : a < N) (hs : (sh a).1 = 2) (h0 : 0 ≤ i) (h1 : i < (sh a).2.1) (kk : VX N k ζ P (pc + 1) ls st (up2 M a i.toNat v)) : VX N k ζ P pc ls (.inr (.inr v) :: .inl i :: .inr (.inl a) :: st) M := by
  intro x p l e s m args below meth c H locs lsA hA hP hS hR hl hv
  have hA0 := hA
  obtain ⟨hx, hb, hml, hr, hown, hlk, hDx, hNx, hTB, hK, hSt⟩ := hA
  have hi : r32 i := ok_h (ok_t hv)
  refine va_last hx hb hK hP (hDx.1.D M) hS a 2 ((wld_at (Nat.lt_of_lt_of_le ha hNx)).trans (by rw [ent_2 hs])) rfl (i_in hi h0 h1) hd (fun H1 locs1 hP1 hD1 hS1 => ?_)
  rw [i_clamp hi, updL_up2, wld_set (k := i.toNat) (v := v) (Nat.lt_of_lt_of_le ha hNx) (ent_2 hs).symm] at hP1
  exact kk x p l e s m args below meth c H1 locs1 lsA hA0 hP1 hS1 (hR.up ⟨fun h => absurd hs h, fun _ => ok_h hv⟩) hl (ok_t (ok_t (ok_t hv)))
theorem V_alenX {a : Nat} (hd : decode (mC k) pc = .ok (.arraylength, 1)) (ha : a < N) (hs : (sh a).1 = 0) (hn : (sh a).2.1 < 100000) (kk : VX N k ζ P (pc + 1) ls (.inl ((sh a).2.1 : Int) :: st) M) : VX N k ζ P pc ls (.inr (.inl a) :: st) M := by
  intro x p l e s m args below meth c H locs lsA hA hP hS hR hl hv
  have hA0 := hA
  obtain ⟨hx, hb, hml, hr, hown, hlk, hDx, hNx, hTB, hK, hSt⟩ := hA
  exact va_alen hx hb hK hP a 0 ((wld_at (Nat.lt_of_lt_of_le ha hNx)).trans (by rw [ent_0 hs])) rfl (v := Int32.ofInt ((sh a).2.1 : Int)) rfl hd (kk x p l e s m args below meth c H locs lsA hA0 hP hS hR hl (ok_c (v := .inl ((sh a).2.1 : Int)) (show r32 _ by unfold r32; omega) (ok_t hv)))
end VH
section VF
variable {N k pc : Nat} {P : Option av → am → Prop} {ls : List al} {st : List av} {M : am} {ζ : qx}
theorem V_gotoX {off : Int} {tgt : Nat} (hd : decode (mC k) pc = .ok (.goto off, 3)) (ht : (pc : Int) + off = (tgt : Int)) (kk : VX N k ζ P tgt ls st M) : VX N k ζ P pc ls st M := by
  intro x p l e s m args below meth c H locs lsA hA hP hS hR hl hv
  exact lv_goto hA.1 hA.2.1 hd ht (kk x p l e s m args below meth c H locs lsA hA hP hS hR hl hv)
theorem V_ifeqX {off z : Int} {tgt : Nat} (hd : decode (mC k) pc = .ok (.ifCond .eq off, 3)) (ht : (pc : Int) + off = (tgt : Int)) (kt : z = 0 → VX N k ζ P tgt ls st M) (kf : ¬ z = 0 → VX N k ζ P (pc + 3) ls st M) : VX N k ζ P pc ls (.inl z :: st) M := by
  intro x p l e s m args below meth c H locs lsA hA hP hS hR hl hv
  have hz : r32 z := ok_h hv
  have hi := i_eq hz r32_0
  exact lv_if_eq hA.1 hA.2.1 hd ht (fun h => kt (hi.mp h) x p l e s m args below meth c H locs lsA hA hP hS hR hl (ok_t hv)) (fun h => kf (fun q => h (hi.mpr q)) x p l e s m args below meth c H locs lsA hA hP hS hR hl (ok_t hv))
theorem V_ifneX {off z : Int} {tgt : Nat} (hd : decode (mC k) pc = .ok (.ifCond .ne off, 3)) (ht : (pc : Int) + off = (tgt : Int)) (kt : ¬ z = 0 → VX N k ζ P tgt ls st M) (kf : z = 0 → VX N k ζ P (pc + 3) ls st M) : VX N k ζ P pc ls (.inl z :: st) M := by
  intro x p l e s m args below meth c H locs lsA hA hP hS hR hl hv
  have hi := i_eq (ok_h hv) r32_0
  exact lv_if_ne hA.1 hA.2.1 hd ht (fun h => kt (fun q => h (hi.mpr q)) x p l e s m args below meth c H locs lsA hA hP hS hR hl (ok_t hv)) (fun h => kf (hi.mp h) x p l e s m args below meth c H locs lsA hA hP hS hR hl (ok_t hv))
theorem V_ifltX {off z : Int} {tgt : Nat} (hd : decode (mC k) pc = .ok (.ifCond .lt off, 3)) (ht : (pc : Int) + off = (tgt : Int)) (kt : z < 0 → VX N k ζ P tgt ls st M) (kf : 0 ≤ z → VX N k ζ P (pc + 3) ls st M) : VX N k ζ P pc ls (.inl z :: st) M := by
  intro x p l e s m args below meth c H locs lsA hA hP hS hR hl hv
  have hi := i_lt (ok_h hv) r32_0
  exact lv_if_lt hA.1 hA.2.1 hd ht (fun h => kt (hi.mp h) x p l e s m args below meth c H locs lsA hA hP hS hR hl (ok_t hv)) (fun h => kf (Int.not_lt.mp fun q => h (hi.mpr q)) x p l e s m args below meth c H locs lsA hA hP hS hR hl (ok_t hv))
theorem V_ifgeX {off z : Int} {tgt : Nat} (hd : decode (mC k) pc = .ok (.ifCond .ge off, 3)) (ht : (pc : Int) + off = (tgt : Int)) (kt : 0 ≤ z → VX N k ζ P tgt ls st M) (kf : z < 0 → VX N k ζ P (pc + 3) ls st M) : VX N k ζ P pc ls (.inl z :: st) M := by
  intro x p l e s m args below meth c H locs lsA hA hP hS hR hl hv
  have hi := i_le r32_0 (ok_h hv)
  exact lv_if_ge hA.1 hA.2.1 hd ht (fun h => kt (hi.mp h) x p l e s m args below meth c H locs lsA hA hP hS hR hl (ok_t hv)) (fun h => kf (Int.not_le.mp fun q => h (hi.mpr q)) x p l e s m args below meth c H locs lsA hA hP hS hR hl (ok_t hv))
theorem V_ifgtX {off z : Int} {tgt : Nat} (hd : decode (mC k) pc = .ok (.ifCond .gt off, 3)) (ht : (pc : Int) + off = (tgt : Int)) (kt : 0 < z → VX N k ζ P tgt ls st M) (kf : z ≤ 0 → VX N k ζ P (pc + 3) ls st M) : VX N k ζ P pc ls (.inl z :: st) M := by
  intro x p l e s m args below meth c H locs lsA hA hP hS hR hl hv
  have hi := i_lt r32_0 (ok_h hv)
  exact lv_if_gt hA.1 hA.2.1 hd ht (fun h => kt (hi.mp h) x p l e s m args below meth c H locs lsA hA hP hS hR hl (ok_t hv)) (fun h => kf (Int.not_lt.mp fun q => h (hi.mpr q)) x p l e s m args below meth c H locs lsA hA hP hS hR hl (ok_t hv))
theorem V_ifleX {off z : Int} {tgt : Nat} (hd : decode (mC k) pc = .ok (.ifCond .le off, 3)) (ht : (pc : Int) + off = (tgt : Int)) (kt : z ≤ 0 → VX N k ζ P tgt ls st M) (kf : 0 < z → VX N k ζ P (pc + 3) ls st M) : VX N k ζ P pc ls (.inl z :: st) M := by
  intro x p l e s m args below meth c H locs lsA hA hP hS hR hl hv
  have hi := i_le (ok_h hv) r32_0
  exact lv_if_le hA.1 hA.2.1 hd ht (fun h => kt (hi.mp h) x p l e s m args below meth c H locs lsA hA hP hS hR hl (ok_t hv)) (fun h => kf (Int.not_le.mp fun q => h (hi.mpr q)) x p l e s m args below meth c H locs lsA hA hP hS hR hl (ok_t hv))
theorem V_icmpeqX {off y z : Int} {tgt : Nat} (hd : decode (mC k) pc = .ok (.if_icmp .eq off, 3)) (ht : (pc : Int) + off = (tgt : Int)) (kt : z = y → VX N k ζ P tgt ls st M) (kf : ¬ z = y → VX N k ζ P (pc + 3) ls st M) : VX N k ζ P pc ls (.inl y :: .inl z :: st) M := by
  intro x p l e s m args below meth c H locs lsA hA hP hS hR hl hv
  have hi := i_eq (ok_h (ok_t hv)) (ok_h hv)
  exact lv_icmp_eq hA.1 hA.2.1 hd ht (fun h => kt (hi.mp h) x p l e s m args below meth c H locs lsA hA hP hS hR hl (ok_t (ok_t hv))) (fun h => kf (fun q => h (hi.mpr q)) x p l e s m args below meth c H locs lsA hA hP hS hR hl (ok_t (ok_t hv)))
theorem V_icmpneX {off y z : Int} {tgt : Nat} (hd : decode (mC k) pc = .ok (.if_icmp .ne off, 3)) (ht : (pc : Int) + off = (tgt : Int)) (kt : ¬ z = y → VX N k ζ P tgt ls st M) (kf : z = y → VX N k ζ P (pc + 3) ls st M) : VX N k ζ P pc ls (.inl y :: .inl z :: st) M := by
  intro x p l e s m args below meth c H locs lsA hA hP hS hR hl hv
  have hi := i_eq (ok_h (ok_t hv)) (ok_h hv)
  exact lv_icmp_ne hA.1 hA.2.1 hd ht (fun h => kt (fun q => h (hi.mpr q)) x p l e s m args below meth c H locs lsA hA hP hS hR hl (ok_t (ok_t hv))) (fun h => kf (hi.mp h) x p l e s m args below meth c H locs lsA hA hP hS hR hl (ok_t (ok_t hv)))
theorem V_icmpltX {off y z : Int} {tgt : Nat} (hd : decode (mC k) pc = .ok (.if_icmp .lt off, 3)) (ht : (pc : Int) + off = (tgt : Int)) (kt : z < y → VX N k ζ P tgt ls st M) (kf : y ≤ z → VX N k ζ P (pc + 3) ls st M) : VX N k ζ P pc ls (.inl y :: .inl z :: st) M := by
  intro x p l e s m args below meth c H locs lsA hA hP hS hR hl hv
  have hi := i_lt (ok_h (ok_t hv)) (ok_h hv)
  exact lv_icmp_lt hA.1 hA.2.1 hd ht (fun h => kt (hi.mp h) x p l e s m args below meth c H locs lsA hA hP hS hR hl (ok_t (ok_t hv))) (fun h => kf (Int.not_lt.mp fun q => h (hi.mpr q)) x p l e s m args below meth c H locs lsA hA hP hS hR hl (ok_t (ok_t hv)))
theorem V_icmpgeX {off y z : Int} {tgt : Nat} (hd : decode (mC k) pc = .ok (.if_icmp .ge off, 3)) (ht : (pc : Int) + off = (tgt : Int)) (kt : y ≤ z → VX N k ζ P tgt ls st M) (kf : z < y → VX N k ζ P (pc + 3) ls st M) : VX N k ζ P pc ls (.inl y :: .inl z :: st) M := by
  intro x p l e s m args below meth c H locs lsA hA hP hS hR hl hv
  have hi := i_le (ok_h hv) (ok_h (ok_t hv))
  exact lv_icmp_ge hA.1 hA.2.1 hd ht (fun h => kt (hi.mp h) x p l e s m args below meth c H locs lsA hA hP hS hR hl (ok_t (ok_t hv))) (fun h => kf (Int.not_le.mp fun q => h (hi.mpr q)) x p l e s m args below meth c H locs lsA hA hP hS hR hl (ok_t (ok_t hv)))
theorem V_icmpgtX {off y z : Int} {tgt : Nat} (hd : decode (mC k) pc = .ok (.if_icmp .gt off, 3)) (ht : (pc : Int) + off = (tgt : Int)) (kt : y < z → VX N k ζ P tgt ls st M) (kf : z ≤ y → VX N k ζ P (pc + 3) ls st M) : VX N k ζ P pc ls (.inl y :: .inl z :: st) M := by
  intro x p l e s m args below meth c H locs lsA hA hP hS hR hl hv
  have hi := i_lt (ok_h hv) (ok_h (ok_t hv))
  exact lv_icmp_gt hA.1 hA.2.1 hd ht (fun h => kt (hi.mp h) x p l e s m args below meth c H locs lsA hA hP hS hR hl (ok_t (ok_t hv))) (fun h => kf (Int.not_lt.mp fun q => h (hi.mpr q)) x p l e s m args below meth c H locs lsA hA hP hS hR hl (ok_t (ok_t hv)))
theorem V_icmpleX {off y z : Int} {tgt : Nat} (hd : decode (mC k) pc = .ok (.if_icmp .le off, 3)) (ht : (pc : Int) + off = (tgt : Int)) (kt : z ≤ y → VX N k ζ P tgt ls st M) (kf : y < z → VX N k ζ P (pc + 3) ls st M) : VX N k ζ P pc ls (.inl y :: .inl z :: st) M := by
  intro x p l e s m args below meth c H locs lsA hA hP hS hR hl hv
  have hi := i_le (ok_h (ok_t hv)) (ok_h hv)
  exact lv_icmp_le hA.1 hA.2.1 hd ht (fun h => kt (hi.mp h) x p l e s m args below meth c H locs lsA hA hP hS hR hl (ok_t (ok_t hv))) (fun h => kf (Int.not_le.mp fun q => h (hi.mpr q)) x p l e s m args below meth c H locs lsA hA hP hS hR hl (ok_t (ok_t hv)))
theorem V_i2lX {z : Int} (hd : decode (mC k) pc = .ok (.i2l, 1)) (kk : VX N k ζ P (pc + 1) ls (.inr (.inr z) :: st) M) : VX N k ζ P pc ls (.inl z :: st) M := by
  intro x p l e s m args below meth c H locs lsA hA hP hS hR hl hv
  exact lv_i2l hA.1 hA.2.1 hd (l_i2l (ok_h hv)) (kk x p l e s m args below meth c H locs lsA hA hP hS hR hl (ok_c (v := .inr (.inr z)) (r64_32 (ok_h hv)) (ok_t hv)))
theorem V_lconstX {q : Fin 2} (hd : decode (mC k) pc = .ok (.lconst q, 1)) (kk : VX N k ζ P (pc + 1) ls (.inr (.inr (q.val : Int)) :: st) M) : VX N k ζ P pc ls st M := by
  intro x p l e s m args below meth c H locs lsA hA hP hS hR hl hv
  exact lv_lconst hA.1 hA.2.1 hd rfl (kk x p l e s m args below meth c H locs lsA hA hP hS hR hl (ok_c (v := .inr (.inr (q.val : Int))) (show r64 _ by have := q.isLt; unfold r64; omega) hv))
theorem V_lshlX {a b : Int} (hd : decode (mC k) pc = .ok (.lshl, 1)) (h0 : 0 ≤ b) (h1 : b < 64) (hz : r64 (a * 2 ^ b.toNat)) (kk : VX N k ζ P (pc + 1) ls (.inr (.inr (a * 2 ^ b.toNat)) :: st) M) : VX N k ζ P pc ls (.inl b :: .inr (.inr a) :: st) M := by
  intro x p l e s m args below meth c H locs lsA hA hP hS hR hl hv
  exact lv_lshl hA.1 hA.2.1 hd (l_shl h0 h1) (kk x p l e s m args below meth c H locs lsA hA hP hS hR hl (ok_c (v := .inr (.inr (a * 2 ^ b.toNat))) hz (ok_t (ok_t hv))))
theorem V_lorX {a b : Int} (hd : decode (mC k) pc = .ok (.lor, 1)) (h0 : 0 ≤ a) (h1 : 0 ≤ b) (kk : VX N k ζ P (pc + 1) ls (.inr (.inr ((a.toNat ||| b.toNat : Nat) : Int)) :: st) M) : VX N k ζ P pc ls (.inr (.inr b) :: .inr (.inr a) :: st) M := by
  intro x p l e s m args below meth c H locs lsA hA hP hS hR hl hv
  have hz : r64 ((a.toNat ||| b.toNat : Nat) : Int) := by
    have h2 : r64 b := ok_h hv
    have h3 : r64 a := ok_h (ok_t hv)
    unfold r64 at h2 h3
    have h4 := Nat.or_lt_two_pow (show a.toNat < 2 ^ 63 by omega) (show b.toNat < 2 ^ 63 by omega)
    unfold r64
    omega
  have h := kk x p l e s m args below meth c H locs lsA hA hP hS hR hl (ok_c (v := .inr (.inr ((a.toNat ||| b.toNat : Nat) : Int))) hz (ok_t (ok_t hv)))
  refine lv_lor hA.1 hA.2.1 hd ?_
  rw [l_or h0 h1]; exact h
theorem V_lcmpX {a b : Int} (hd : decode (mC k) pc = .ok (.lcmp, 1)) (kk : VX N k ζ P (pc + 1) ls (.inl (lcv a b) :: st) M) : VX N k ζ P pc ls (.inr (.inr b) :: .inr (.inr a) :: st) M := by
  intro x p l e s m args below meth c H locs lsA hA hP hS hR hl hv
  have hz := lcv_r a b
  have h := kk x p l e s m args below meth c H locs lsA hA hP hS hR hl (ok_c (v := .inl (lcv a b)) hz (ok_t (ok_t hv)))
  refine W.lcmp hA.1 hA.2.1 hd ?_
  rw [lg_cv (ok_h (ok_t hv)) (ok_h hv)]; exact h
end VF
section VC
variable {N k pc : Nat} {P : Option av → am → Prop} {ls : List al} {st : List av} {M : am} {ζ : qx}
theorem V_call_goX {p : Program} {l : Launch} {e : Env} {R : Room} {s : State} {m : MethodId} {args a : Array Value} {below : List Frame} {meth : Method} {c : Code} {H : Heap} {locs : List Loc} {Q : State → Prop} {x : cx} {P' : Option av → am → Prop} {lsA : Array Slot} {st0 rest : List Value}
    (hr : va_Run p l e R s m args below meth c H locs (zc ζ) (zs ζ) 0 0 (F0 m pc lsA st0) rest (Qc x P' a) x.A) (hS : va_S x.A s.heap H locs)
    (kk : ∀ (r : Option av) (M' : am) (H1 : Heap) (locs1 : List Loc), P' r M' → Rg M' → (∀ v, r = some v → okv v) → va_P x.D vcl (wld x M') H1 → va_S x.A s.heap H1 locs1 → W p l e R s m args below meth c H1 locs1 (zc ζ) (zs ζ) Q (F0 m (pc + 3) lsA ((r.map (vl x)).toList ++ rest))) : W p l e R s m args below meth c H locs (zc ζ) (zs ζ) Q (F0 m pc lsA st0) := by
  intro T hT X
  obtain ⟨v, st₀, t, T', L, h0, X', hL, e1, e2, ⟨r, M', b1, b2, b3, b4, b5, hz, hk⟩, stp⟩ := hr T hT X
  cases b4
  rw [h0] at hz hk
  obtain ⟨t2, a1, c1⟩ := kk r M' T'.heap (locs ++ L) b1 b2 b3 (by rw [e1]; exact b5)
    ⟨Nat.le_trans hS.1 (by rw [e1]; exact hz), fun q h1 h2 => by rw [e1, hk q (Nat.lt_of_lt_of_le h1 hS.1) h2]; exact hS.2.1 q h1 h2, fun q hq => by
      rcases List.mem_append.mp hq with h | h
      · exact hS.2.2 q h
      · exact hL q h⟩ T' rfl X'
  exact ⟨t2, stp t2 a1, c1⟩
theorem call_BX {kc ix np i : Nat} {s : State} {args : Array Value} (hk : kc < 143) (hr : mF kc + 1 ≤ mF k ∧ 8 + (mL kc + 11) + mO kc ≤ mO k) (hTB : TB s) (hl : gp i (mW (mN k, ix, kc, np)) = true) (hp : (parseMethodDescriptor (mY kc).desc).map (fun d => d.parameters.length) = some np) :
    CallB (rmX k ζ) s args (cnm (mN k)) ix (mY kc) (mC kc) (mL kc) (mR kc) [.code (mY kc) (mC kc) (mL kc) (mR kc)] (rmk kc) 0 0 np := by
  obtain ⟨h1, h2, h3, h4, h5⟩ := mP_of hk
  refine ⟨rfl, rfl, hr.1, hr.2, fun w hw a' U hW => ?_, List.mem_singleton.mpr rfl, hTB.use h1 args, hTB.use h2 args, h3, fun sig h => ?_, hTB.at hl args⟩
  · rw [List.mem_singleton.mp hw]
    exact word_at hW (good_of_word (gw_mem h1).2) (hTB.use h1 args)
  · rw [h] at hp
    exact (Option.some.inj hp).symm
theorem V_callsX {ix kc np : Nat} {as : List (Int ⊕ Nat)} {rest : List av} {P' : Option av → am → Prop} (hd : decode (mC k) pc = .ok (.invokestatic ix, 3)) (hq : (mN k, ix, kc, np) ∈ MLS) (hr : mF kc + 1 ≤ mF k ∧ 8 + (mL kc + 11) + mO kc ≤ mO k) (hpop : popn np st [] = some (as, rest)) (hwt : wt rest ≤ 8) (hM : Runs N kc as M P') (kk : ∀ r M', P' r M' → VX N k ζ P (pc + 3) ls (r.toList ++ rest) M') : VX N k ζ P pc ls st M := by
  intro x p l e s m args below meth c H locs lsA hA hP hS hR hl hv
  have hA0 := hA
  obtain ⟨hx, hb, hml, hr0, hown, hlk, hDx, hNx, hC⟩ := hA
  obtain ⟨pre, h1, h2, h3, h4⟩ := popn_spec x np st [] as rest hpop
  rw [List.append_nil] at h1
  subst h1
  obtain ⟨h5, h6⟩ := h4 hv
  obtain ⟨i, j, g1, g2, g3, g4⟩ := MLS.use hq
  refine V_call_goX (va_runS (Ts := gtb) (As := as.map (vo x)) (rest := rest.map (vl x)) ⟨hx, hb, hml, hown, hC.1.hts args⟩ (hM hR h5 l x hDx.1 hNx) ⟨call_BX g3 hr hC.1 g1 g4, hC.1.at g2 args⟩ ⟨Pc_blind x as M, fun U hU hW => Pc_at hC hS hP hU hW⟩ rfl (by simpa using h2) hl.2.1 (by rw [← List.map_reverse]; rw [h3, List.map_reverse]) (lv_room (by rw [wt_cat]; exact hwt)) hd hDx.2.2) hS (fun r M' H1 locs1 b1 b2 b3 b4 b5 => ?_)
  have hgo := kk r M' b1 x p l e s m args below meth c H1 locs1 lsA hA0 b4 b5 b2 hl (fun v hv => ?_)
  · have e0 : (r.toList ++ rest).map (vl x) = (r.map (vl x)).toList ++ rest.map (vl x) := by cases r <;> rfl
    rw [← e0]
    exact hgo
  · rcases List.mem_append.mp hv with h | h
    · exact b3 v (by cases r with
        | none => cases h
        | some w => rw [List.mem_singleton.mp h])
    · exact h6 v h
theorem V_callvX {ix kc np a : Nat} {as : List (Int ⊕ Nat)} {rest : List av} {P' : Option av → am → Prop} (hd : decode (mC k) pc = .ok (.invokevirtual ix, 3)) (hq : (mN k, ix, kc, np) ∈ MLV) (hr : mF kc + 1 ≤ mF k ∧ 8 + (mL kc + 11) + mO kc ≤ mO k) (hpop : popn np st [] = some (as, .inr (.inl a) :: rest)) (ha : a < N) (hs : (sh a).1 = 3) (hc : (sh a).2.1 = mN kc) (hwt : wt rest ≤ 8) (hM : Runs N kc (.inr a :: as) M P') (kk : ∀ r M', P' r M' → VX N k ζ P (pc + 3) ls (r.toList ++ rest) M') : VX N k ζ P pc ls st M := by
  intro x p l e s m args below meth c H locs lsA hA hP hS hR hl hv
  have hA0 := hA
  obtain ⟨hx, hb, hml, hr0, hown, hlk, hDx, hNx, hC⟩ := hA
  obtain ⟨pre, h1, h2, h3, h4⟩ := popn_spec x np st [] as _ hpop
  rw [List.append_nil] at h1
  subst h1
  obtain ⟨h5, h6⟩ := h4 hv
  obtain ⟨i, j, j2, g1, g2, g3, g4, g5, g6⟩ := MLV.use hq
  cases hcl : vcl[mN kc]? with
  | none => simp only [hcl] at g6; cases g6
  | some r =>
    simp only [hcl, Option.map_some, Option.some.injEq] at g6
    have hrec := va_recv hC.2.1 hP hcl ((wld_at (Nat.lt_of_lt_of_le ha hNx)).trans (by rw [ent_3 hs, hc]))
    rw [g6] at hrec
    refine V_call_goX (va_runV (C := (mY kc).cls) (Ts := gtb) (As := as.map (vo x)) (rest := rest.map (vl x)) (b := x.loc a) ⟨hx, hb, hml, hown, hC.1.hts args⟩ (hM hR (fun v hv => (List.mem_cons.mp hv).elim (fun e => by rw [e]; trivial) (h5 v)) l x hDx.1 hNx) ⟨call_BX g4 hr hC.1 g1 g5, hC.1.at g2 args, hC.1.at g3 args⟩ ⟨Pc_blind x _ M, hrec, fun U hU hW => Pc_at hC hS hP hU hW⟩ rfl (by simpa using h2) hl.2.1 (by rw [← List.map_reverse]; rw [h3, List.map_reverse]; rfl) (lv_room (by rw [wt_cat]; exact hwt)) hd hDx.2.2) hS (fun r M' H1 locs1 b1 b2 b3 b4 b5 => ?_)
    have hgo := kk r M' b1 x p l e s m args below meth c H1 locs1 lsA hA0 b4 b5 b2 hl (fun v hv => ?_)
    · have e0 : (r.toList ++ rest).map (vl x) = (r.map (vl x)).toList ++ rest.map (vl x) := by cases r <;> rfl
      rw [← e0]
      exact hgo
    · rcases List.mem_append.mp hv with h | h
      · exact b3 v (by cases r with
          | none => cases h
          | some w => rw [List.mem_singleton.mp h])
      · exact h6 v (List.mem_cons_of_mem _ h)
end VC
def aldX (N : Nat) (ζ : qx) (K : List al → List av → am → Prop) (ls : List al) (st : List av) (M : am) : Prop := match st with
  | .inl i :: .inr (.inl a) :: st => if a = 99 then zon ζ = true ∧ 0 ≤ i ∧ i < zL ζ ∧ K ls (.inl (zX ζ i.toNat) :: st) M else if 100 ≤ a then a < 106 ∧ 0 ≤ i ∧ i < (stL a).length ∧ K ls (.inl (stv a i.toNat) :: st) M
    else a < N ∧ (sh a).1 = 0 ∧ 0 ≤ i ∧ i < (sh a).2.1 ∧ K ls (.inl (M a i.toNat) :: st) M
  | _ => False
def alnX (N : Nat) (ζ : qx) (K : List al → List av → am → Prop) (ls : List al) (st : List av) (M : am) : Prop := match st with
  | .inr (.inl a) :: st => if a = 99 then zon ζ = true ∧ K ls (.inl (zL ζ : Int) :: st) M else a < N ∧ (sh a).1 = 0 ∧ (sh a).2.1 < 100000 ∧ K ls (.inl ((sh a).2.1 : Int) :: st) M
  | _ => False
def stpSX (N : Nat) (ζ : qx) (K : List al → List av → am → Prop) (r : rw4) (ls : List al) (st : List av) (M : am) : Prop := match r.1 with
  | .iconst z => K ls (.inl z :: st) M
  | .bipush z => K ls (.inl z :: st) M
  | .sipush z => K ls (.inl z :: st) M
  | .ldc _ => K ls (.inl (r.2.2.1 : Int) :: st) M
  | .ldc_w _ => K ls (.inl (r.2.2.1 : Int) :: st) M
  | .iload i => ldi K ls st M i
  | .iload_n i => ldi K ls st M i.val
  | .aload i => lda K ls st M i
  | .aload_n i => lda K ls st M i.val
  | .istore i => sti K ls st M i
  | .istore_n i => sti K ls st M i.val
  | .iinc i n => inc K ls st M i n
  | .iadd => ar2 K ls st M (fun a b => r32 (a + b)) (fun a b => a + b)
  | .isub => ar2 K ls st M (fun a b => r32 (a - b)) (fun a b => a - b)
  | .imul => ar2 K ls st M (fun a b => r32 (a * b)) (fun a b => a * b)
  | .idiv => ar2 K ls st M (fun a b => 0 ≤ a ∧ 0 < b) (fun a b => a / b)
  | .irem => ar2 K ls st M (fun a b => 0 ≤ a ∧ 0 < b) (fun a b => a % b)
  | .iand => if r.2.2.1 = 1 then ar2 K ls st M (fun _ b => b = 2 ^ r.2.2.2 - 1) (fun a _ => a % 2 ^ r.2.2.2) else ar2 K ls st M (fun a b => 0 ≤ a ∧ 0 ≤ b) (fun a b => ((a.toNat &&& b.toNat : Nat) : Int))
  | .ior => ar2 K ls st M (fun a b => 0 ≤ a ∧ 0 ≤ b) (fun a b => ((a.toNat ||| b.toNat : Nat) : Int))
  | .ixor => ar2 K ls st M (fun a b => 0 ≤ a ∧ 0 ≤ b) (fun a b => ((a.toNat ^^^ b.toNat : Nat) : Int))
  | .ishr => ar2 K ls st M (fun _ b => 0 ≤ b ∧ b < 32) (fun a b => a / 2 ^ b.toNat)
  | .iushr => ar2 K ls st M (fun a b => 0 ≤ a ∧ 0 ≤ b ∧ b < 32) (fun a b => a / 2 ^ b.toNat)
  | .ishl => ar2 K ls st M (fun a b => 0 ≤ b ∧ b < 32 ∧ r32 (a * 2 ^ b.toNat)) (fun a b => a * 2 ^ b.toNat)
  | .ineg => match st with
    | .inl a :: st => r32 (-a) ∧ K ls (.inl (-a) :: st) M
    | _ => False
  | .dup => match st with
    | v :: st => nl v = true ∧ K ls (v :: v :: st) M
    | _ => False
  | .pop => match st with
    | v :: st => nl v = true ∧ K ls st M
    | _ => False
  | .dup2 => match st with
    | v :: w :: st => nl v = true ∧ nl w = true ∧ K ls (v :: w :: v :: w :: st) M
    | _ => False
  | .getfield _ => gtf N K ls st M r.2.2.1 r.2.2.2
  | .putfield _ => ptf N K ls st M r.2.2.1 r.2.2.2
  | .getstatic _ => K ls (.inr (.inl r.2.2.1) :: st) M
  | .iaload => aldX N ζ K ls st M
  | .baload => zld N K ls st M
  | .laload => lld N K ls st M
  | .iastore => ast N K ls st M
  | .bastore => zst N K ls st M
  | .lastore => lst N K ls st M
  | .arraylength => alnX N ζ K ls st M
  | .i2l => match st with
    | .inl z :: st => K ls (.inr (.inr z) :: st) M
    | _ => False
  | .lconst q => K ls (.inr (.inr (q.val : Int)) :: st) M
  | .lshl => match st with
    | .inl b :: .inr (.inr a) :: st => 0 ≤ b ∧ b < 64 ∧ r64 (a * 2 ^ b.toNat) ∧ K ls (.inr (.inr (a * 2 ^ b.toNat)) :: st) M
    | _ => False
  | .lor => match st with
    | .inr (.inr b) :: .inr (.inr a) :: st => 0 ≤ a ∧ 0 ≤ b ∧ K ls (.inr (.inr ((a.toNat ||| b.toNat : Nat) : Int)) :: st) M
    | _ => False
  | .lcmp => match st with
    | .inr (.inr b) :: .inr (.inr a) :: st => K ls (.inl (lcv a b) :: st) M
    | _ => False
  | .invokestatic _ => cls N K ls st M r.2.2.1 r.2.2.2
  | .invokevirtual _ => clv N K ls st M r.2.2.1 r.2.2.2
  | _ => False
def runX (N : Nat) (ζ : qx) (P : Option av → am → Prop) (K : Nat → List al → List av → am → Prop) : List rw4 → Nat → List al → List av → am → Prop
  | [], pc, ls, st, M => K pc ls st M
  | r :: rs, pc, ls, st, M => if isB r.1 = true then stpB P K pc r ls st M else stpSX N ζ (runX N ζ P K rs (pc + r.2.1)) r ls st M
section VS
variable {N k pc : Nat} {P : Option av → am → Prop} {ls : List al} {st : List av} {M : am} {ζ : qx}
theorem stpS_okX {r : rw4} (hr : rOk k pc r = true) {K : List al → List av → am → Prop} (hK : ∀ ls st M, K ls st M → VX N k ζ P (pc + r.2.1) ls st M) (h : stpSX N ζ K r ls st M) : VX N k ζ P pc ls st M := by
  obtain ⟨i, len, r1, r2⟩ := r
  simp only [rOk, Bool.and_eq_true, decide_eq_true_eq] at hr
  obtain ⟨hd, hr⟩ := hr
  cases i with
  | iconst z =>
    simp only [Bool.and_eq_true, decide_eq_true_eq] at hr; obtain ⟨⟨h1, h2⟩, rfl⟩ := hr
    exact V_iconstX hd (by unfold r32; omega) (hK _ _ _ h)
  | bipush z =>
    simp only [Bool.and_eq_true, decide_eq_true_eq] at hr; obtain ⟨⟨h1, h2⟩, rfl⟩ := hr
    exact V_bipushX hd h1 h2 (hK _ _ _ h)
  | sipush z =>
    simp only [Bool.and_eq_true, decide_eq_true_eq] at hr; obtain ⟨⟨h1, h2⟩, rfl⟩ := hr
    exact V_sipushX hd h1 h2 (hK _ _ _ h)
  | ldc ix =>
    simp only [Bool.and_eq_true, decide_eq_true_eq] at hr; obtain ⟨⟨h1, h2⟩, rfl⟩ := hr
    exact V_ldcX hd (KLT.use h1) h2 (hK _ _ _ h)
  | ldc_w ix =>
    simp only [Bool.and_eq_true, decide_eq_true_eq] at hr; obtain ⟨⟨h1, h2⟩, rfl⟩ := hr
    exact V_ldcwX hd (KLT.use h1) h2 (hK _ _ _ h)
  | iload i =>
    simp only [decide_eq_true_eq] at hr; subst hr
    simp only [stpSX, ldi] at h
    split at h
    · next z hz => exact V_iloadX hd hz (hK _ _ _ h)
    · exact h.elim
  | iload_n i =>
    simp only [decide_eq_true_eq] at hr; subst hr
    simp only [stpSX, ldi] at h
    split at h
    · next z hz => exact V_iload_nX hd hz (hK _ _ _ h)
    · exact h.elim
  | aload i =>
    simp only [decide_eq_true_eq] at hr; subst hr
    simp only [stpSX, lda] at h
    split at h
    · next z hz => exact V_aloadX hd hz (hK _ _ _ h)
    · exact h.elim
  | aload_n i =>
    simp only [decide_eq_true_eq] at hr; subst hr
    simp only [stpSX, lda] at h
    split at h
    · next z hz => exact V_aload_nX hd hz (hK _ _ _ h)
    · exact h.elim
  | istore i =>
    simp only [Bool.and_eq_true, decide_eq_true_eq] at hr; obtain ⟨h1, rfl⟩ := hr
    simp only [stpSX, sti] at h
    split at h
    · exact V_istoreX hd h1 (hK _ _ _ h)
    · exact h.elim
  | istore_n i =>
    simp only [Bool.and_eq_true, decide_eq_true_eq] at hr; obtain ⟨h1, rfl⟩ := hr
    simp only [stpSX, sti] at h
    split at h
    · exact V_istore_nX hd h1 (hK _ _ _ h)
    · exact h.elim
  | iinc i n =>
    simp only [Bool.and_eq_true, decide_eq_true_eq] at hr; obtain ⟨h1, rfl⟩ := hr
    simp only [stpSX, inc] at h
    split at h
    · next z hz => exact V_iincX hd h1 hz h.1 (hK _ _ _ h.2)
    · exact h.elim
  | iadd =>
    simp only [decide_eq_true_eq] at hr; subst hr
    simp only [stpSX, ar2] at h
    split at h
    · exact V_iaddX hd h.1 (hK _ _ _ h.2)
    · exact h.elim
  | isub =>
    simp only [decide_eq_true_eq] at hr; subst hr
    simp only [stpSX, ar2] at h
    split at h
    · exact V_isubX hd h.1 (hK _ _ _ h.2)
    · exact h.elim
  | imul =>
    simp only [decide_eq_true_eq] at hr; subst hr
    simp only [stpSX, ar2] at h
    split at h
    · exact V_imulX hd h.1 (hK _ _ _ h.2)
    · exact h.elim
  | idiv =>
    simp only [decide_eq_true_eq] at hr; subst hr
    simp only [stpSX, ar2] at h
    split at h
    · exact V_idivX hd h.1.1 h.1.2 (hK _ _ _ h.2)
    · exact h.elim
  | irem =>
    simp only [decide_eq_true_eq] at hr; subst hr
    simp only [stpSX, ar2] at h
    split at h
    · exact V_iremX hd h.1.1 h.1.2 (hK _ _ _ h.2)
    · exact h.elim
  | iand =>
    simp only [Bool.and_eq_true, decide_eq_true_eq] at hr; obtain ⟨h1, rfl⟩ := hr
    simp only [stpSX, ar2] at h
    split at h
    · split at h
      · obtain ⟨h2, h3⟩ := h
        subst h2
        exact V_imaskX hd h1 (hK _ _ _ h3)
      · exact h.elim
    · split at h
      · exact V_iandX hd h.1.1 h.1.2 (hK _ _ _ h.2)
      · exact h.elim
  | ior =>
    simp only [decide_eq_true_eq] at hr; subst hr
    simp only [stpSX, ar2] at h
    split at h
    · exact V_iorX hd h.1.1 h.1.2 (hK _ _ _ h.2)
    · exact h.elim
  | ixor =>
    simp only [decide_eq_true_eq] at hr; subst hr
    simp only [stpSX, ar2] at h
    split at h
    · exact V_ixorX hd h.1.1 h.1.2 (hK _ _ _ h.2)
    · exact h.elim
  | ishr =>
    simp only [decide_eq_true_eq] at hr; subst hr
    simp only [stpSX, ar2] at h
    split at h
    · exact V_ishrX hd h.1.1 h.1.2 (hK _ _ _ h.2)
    · exact h.elim
  | iushr =>
    simp only [decide_eq_true_eq] at hr; subst hr
    simp only [stpSX, ar2] at h
    split at h
    · exact V_iushrX hd h.1.1 h.1.2.1 h.1.2.2 (hK _ _ _ h.2)
    · exact h.elim
  | ishl =>
    simp only [decide_eq_true_eq] at hr; subst hr
    simp only [stpSX, ar2] at h
    split at h
    · exact V_ishlX hd h.1.1 h.1.2.1 h.1.2.2 (hK _ _ _ h.2)
    · exact h.elim
  | ineg =>
    simp only [decide_eq_true_eq] at hr; subst hr
    simp only [stpSX] at h
    split at h
    · exact V_inegX hd h.1 (hK _ _ _ h.2)
    · exact h.elim
  | dup =>
    simp only [decide_eq_true_eq] at hr; subst hr
    simp only [stpSX] at h
    split at h
    · exact V_dupX hd (nl_of h.1) (hK _ _ _ h.2)
    · exact h.elim
  | pop =>
    simp only [decide_eq_true_eq] at hr; subst hr
    simp only [stpSX] at h
    split at h
    · exact V_popX hd (nl_of h.1) (hK _ _ _ h.2)
    · exact h.elim
  | dup2 =>
    simp only [decide_eq_true_eq] at hr; subst hr
    simp only [stpSX] at h
    split at h
    · exact V_dup2X hd (nl_of h.1) (nl_of h.2.1) (hK _ _ _ h.2.2)
    · exact h.elim
  | getfield ix =>
    simp only [Bool.and_eq_true, decide_eq_true_eq] at hr; obtain ⟨⟨h1, h2⟩, rfl⟩ := hr
    simp only [stpSX, gtf] at h
    split at h
    · obtain ⟨a1, a2, a3, h⟩ := h
      unfold gfm at h
      split at h
      · next t ht => exact V_getfRX hd h1 a1 a2 a3 ht h2 (hK _ _ _ h)
      · next j hj => exact V_getfIX hd h1 a1 a2 a3 hj h2 (hK _ _ _ h)
      · exact h.elim
    · exact h.elim
  | putfield ix =>
    simp only [Bool.and_eq_true, decide_eq_true_eq] at hr; obtain ⟨⟨⟨h1, h2⟩, h3⟩, rfl⟩ := hr
    simp only [stpSX, ptf] at h
    split at h
    · obtain ⟨a1, a2, a3, h⟩ := h
      unfold pfm at h
      split at h
      · next hj => exact V_putfX hd h1 a1 a2 a3 hj h2 h3 (Or.inl (by rw [← a3]; exact (sh_ty a2 hj).1 rfl)) (hK _ _ _ h)
      · next j hn hj =>
        have ht := sh_ty a2 hj
        by_cases hj0 : j = 0
        · exact V_putfX hd h1 a1 a2 a3 hj h2 h3 (Or.inl (by rw [← a3]; exact ht.1 hj0)) (hK _ _ _ h.2)
        · exact V_putfX hd h1 a1 a2 a3 hj h2 h3 (Or.inr ⟨by rw [← a3]; exact ht.2 hj0, h.1⟩) (hK _ _ _ h.2)
      · exact h.elim
    · exact h.elim
  | getstatic ix =>
    simp only [Bool.and_eq_true, decide_eq_true_eq] at hr; obtain ⟨⟨⟨h1, h2⟩, h3⟩, rfl⟩ := hr
    exact V_getsX hd h1 h2 h3 (hK _ _ _ h)
  | iaload =>
    simp only [decide_eq_true_eq] at hr; subst hr
    simp only [stpSX, aldX] at h
    split at h
    · split at h
      · next hq => subst hq; exact V_scaldX hd h.1 h.2.1 h.2.2.1 (hK _ _ _ h.2.2.2)
      split at h
      · next hq => exact V_saldX hd hq h.1 h.2.1 h.2.2.1 (hK _ _ _ h.2.2.2)
      · exact V_ialdX hd h.1 h.2.1 h.2.2.1 h.2.2.2.1 (hK _ _ _ h.2.2.2.2)
    · exact h.elim
  | baload =>
    simp only [decide_eq_true_eq] at hr; subst hr
    simp only [stpSX, zld] at h
    split at h
    · exact V_zaldX hd h.1 h.2.1 h.2.2.1 h.2.2.2.1 (hK _ _ _ h.2.2.2.2)
    · exact h.elim
  | laload =>
    simp only [decide_eq_true_eq] at hr; subst hr
    simp only [stpSX, lld] at h
    split at h
    · exact V_laldX hd h.1 h.2.1 h.2.2.1 h.2.2.2.1 (hK _ _ _ h.2.2.2.2)
    · exact h.elim
  | iastore =>
    simp only [decide_eq_true_eq] at hr; subst hr
    simp only [stpSX, ast] at h
    split at h
    · exact V_iastX hd h.1 h.2.1 h.2.2.1 h.2.2.2.1 (hK _ _ _ h.2.2.2.2)
    · exact h.elim
  | bastore =>
    simp only [decide_eq_true_eq] at hr; subst hr
    simp only [stpSX, zst] at h
    split at h
    · exact V_zastX hd h.1 h.2.1 h.2.2.1 h.2.2.2.1 h.2.2.2.2.1 (hK _ _ _ h.2.2.2.2.2)
    · exact h.elim
  | lastore =>
    simp only [decide_eq_true_eq] at hr; subst hr
    simp only [stpSX, lst] at h
    split at h
    · exact V_lastX hd h.1 h.2.1 h.2.2.1 h.2.2.2.1 (hK _ _ _ h.2.2.2.2)
    · exact h.elim
  | arraylength =>
    simp only [decide_eq_true_eq] at hr; subst hr
    simp only [stpSX, alnX] at h
    split at h
    · split at h
      · next hq => subst hq; exact V_scalenX hd h.1 (hK _ _ _ h.2)
      exact V_alenX hd h.1 h.2.1 h.2.2.1 (hK _ _ _ h.2.2.2)
    · exact h.elim
  | i2l =>
    simp only [decide_eq_true_eq] at hr; subst hr
    simp only [stpSX] at h
    split at h
    · exact V_i2lX hd (hK _ _ _ h)
    · exact h.elim
  | lconst q =>
    simp only [decide_eq_true_eq] at hr; subst hr
    exact V_lconstX hd (hK _ _ _ h)
  | lshl =>
    simp only [decide_eq_true_eq] at hr; subst hr
    simp only [stpSX] at h
    split at h
    · exact V_lshlX hd h.1 h.2.1 h.2.2.1 (hK _ _ _ h.2.2.2)
    · exact h.elim
  | lor =>
    simp only [decide_eq_true_eq] at hr; subst hr
    simp only [stpSX] at h
    split at h
    · exact V_lorX hd h.1 h.2.1 (hK _ _ _ h.2.2)
    · exact h.elim
  | lcmp =>
    simp only [decide_eq_true_eq] at hr; subst hr
    simp only [stpSX] at h
    split at h
    · exact V_lcmpX hd (hK _ _ _ h)
    · exact h.elim
  | invokestatic ix =>
    simp only [Bool.and_eq_true, decide_eq_true_eq] at hr; obtain ⟨⟨⟨h1, h2⟩, h3⟩, rfl⟩ := hr
    simp only [stpSX, cls] at h
    unfold clsm at h
    split at h
    · next as rest hp =>
      obtain ⟨h4, P', h5, h6⟩ := h
      exact V_callsX hd h1 ⟨h2, h3⟩ hp h4 h5 (fun r M' q => hK _ _ _ (h6 r M' q))
    · exact h.elim
  | invokevirtual ix =>
    simp only [Bool.and_eq_true, decide_eq_true_eq] at hr; obtain ⟨⟨⟨h1, h2⟩, h3⟩, rfl⟩ := hr
    simp only [stpSX, clv] at h
    unfold clvm at h
    split at h
    · next as a rest hp =>
      obtain ⟨b1, b2, b3, h4, P', h5, h6⟩ := h
      exact V_callvX hd h1 ⟨h2, h3⟩ hp b1 b2 b3 h4 h5 (fun r M' q => hK _ _ _ (h6 r M' q))
    · exact h.elim
  | _ => exact h.elim
theorem tsw_okX {d lo hi x : Int} {offs : Array Int} {len : Nat} (hd : decode (mC k) pc = .ok (.tableswitch d lo hi offs, len)) (h0 : 0 ≤ (pc : Int) + d) (h1 : offs.toList.all (fun o => decide (0 ≤ (pc : Int) + o)) = true) (h2 : lo + offs.toList.length = hi + 1)
    (hdf : x < lo ∨ hi < x → VX N k ζ P (pc + d).toNat ls st M) (hin : tsw (fun q => VX N k ζ P q) pc ls st M x offs.toList lo) : VX N k ζ P pc ls (.inl x :: st) M := by
  by_cases hx : x < lo ∨ hi < x
  · intro X p l e s m args below meth c H locs lsA hA hP hS hR hl hv
    have hz : r32 x := ok_h hv
    exact lv_tableOut hA.1 hA.2.1 hd (by rw [i_toInt hz]; exact hx) (Int.toNat_of_nonneg h0).symm (hdf hx X p l e s m args below meth c H locs lsA hA hP hS hR hl (ok_t hv))
  · have key : ∀ (os : List Int) (v : Int), tsw (fun q => VX N k ζ P q) pc ls st M x os v → v ≤ x → x < v + os.length → ∃ o, os[(x - v).toNat]? = some o ∧ VX N k ζ P (pc + o).toNat ls st M := by
      intro os
      induction os with
      | nil => intro v _ a b; simp at b; omega
      | cons o os ih =>
        intro v hts a b
        obtain ⟨g1, g2⟩ := hts
        by_cases hxv : x = v
        · exact ⟨o, by rw [hxv]; simp, g1 hxv⟩
        · obtain ⟨o2, c1, c2⟩ := ih (v + 1) g2 (by omega) (by simp at b; omega)
          refine ⟨o2, ?_, c2⟩
          rw [show (x - v).toNat = (x - (v + 1)).toNat + 1 by omega]
          simpa using c1
    obtain ⟨o, c1, c2⟩ := key offs.toList lo hin (by omega) (by omega)
    have ho : 0 ≤ (pc : Int) + o := by
      have := List.all_eq_true.mp h1 o (List.mem_of_getElem? c1)
      simpa using this
    intro X p l e s m args below meth c H locs lsA hA hP hS hR hl hv
    have hz : r32 x := ok_h hv
    exact lv_tableIn hA.1 hA.2.1 hd (by rw [i_toInt hz]; omega) (by rw [i_toInt hz]; omega) (by rw [i_toInt hz, ← Array.getElem?_toList]; exact c1) (Int.toNat_of_nonneg ho).symm (c2 X p l e s m args below meth c H locs lsA hA hP hS hR hl (ok_t hv))
theorem stpB_okX {r : rw4} (hr : rOk k pc r = true) (h : stpB P (fun q => VX N k ζ P q) pc r ls st M) : VX N k ζ P pc ls st M := by
  obtain ⟨i, len, r1, r2⟩ := r
  simp only [rOk, Bool.and_eq_true, decide_eq_true_eq] at hr
  obtain ⟨hd, hr⟩ := hr
  cases i with
  | goto o =>
    simp only [Bool.and_eq_true, decide_eq_true_eq] at hr; obtain ⟨h1, rfl⟩ := hr
    exact V_gotoX hd h1 h
  | ifCond c o =>
    simp only [Bool.and_eq_true, decide_eq_true_eq] at hr; obtain ⟨h1, rfl⟩ := hr
    cases c <;> simp only [stpB, br1] at h <;> split at h <;> first | exact h.elim | skip
    · exact V_ifeqX hd h1 h.1 h.2
    · exact V_ifneX hd h1 h.1 h.2
    · exact V_ifltX hd h1 h.1 h.2
    · exact V_ifgeX hd h1 h.1 h.2
    · exact V_ifgtX hd h1 h.1 h.2
    · exact V_ifleX hd h1 h.1 h.2
  | if_icmp c o =>
    simp only [Bool.and_eq_true, decide_eq_true_eq] at hr; obtain ⟨h1, rfl⟩ := hr
    cases c <;> simp only [stpB, br2] at h <;> split at h <;> first | exact h.elim | skip
    · exact V_icmpeqX hd h1 h.1 h.2
    · exact V_icmpneX hd h1 h.1 h.2
    · exact V_icmpltX hd h1 h.1 h.2
    · exact V_icmpgeX hd h1 h.1 h.2
    · exact V_icmpgtX hd h1 h.1 h.2
    · exact V_icmpleX hd h1 h.1 h.2
  | tableswitch d lo hi offs =>
    simp only [Bool.and_eq_true, decide_eq_true_eq] at hr; obtain ⟨⟨h1, h2⟩, h3⟩ := hr
    simp only [stpB] at h
    split at h
    · exact tsw_okX hd h1 h2 h3 h.1 h.2
    · exact h.elim
  | ireturn =>
    simp only [Bool.and_eq_true, decide_eq_true_eq] at hr; obtain ⟨h1, rfl⟩ := hr
    simp only [stpB] at h
    split at h
    · by_cases hr1 : r1 = 1
      · rw [if_pos hr1] at h1
        exact V_iretX hd (Or.inr ⟨by simpa using h1, h.1 hr1⟩) h.2
      · rw [if_neg hr1] at h1
        exact V_iretX hd (Or.inl (by simpa using h1)) h.2
    · exact h.elim
  | return_ =>
    simp only [Bool.and_eq_true, decide_eq_true_eq] at hr; obtain ⟨h1, rfl⟩ := hr
    simp only [stpB] at h
    split at h
    · exact V_vretX hd h1 h
    · exact h.elim
  | _ => exact h.elim
theorem run_okX : ∀ (rs : List rw4) (pc : Nat) (ls : List al) (st : List av) (M : am), rsOk k pc rs = true → runX N ζ P (fun q => VX N k ζ P q) rs pc ls st M → VX N k ζ P pc ls st M
  | [], _, _, _, _, _, h => h
  | r :: rs, pc, ls, st, M, hr, h => by
    simp only [rsOk, Bool.and_eq_true] at hr
    simp only [runX] at h
    split at h
    · exact stpB_okX hr.1 h
    · exact stpS_okX hr.1 (fun ls st M q => run_okX rs (pc + r.2.1) ls st M hr.2 q) h
end VS
def runTX (N k : Nat) (ζ : qx) (P : Option av → am → Prop) (t : tb4) (stops : List Nat) : Nat → Nat → List al → List av → am → Prop
  | 0, pc, ls, st, M => VX N k ζ P pc ls st M
  | n + 1, pc, ls, st, M => if inS pc stops = true then VX N k ζ P pc ls st M else lkp (fun rs => runX N ζ P (runTX N k ζ P t stops n) rs pc ls st M) (VX N k ζ P pc ls st M) t pc
def goX (N k : Nat) (ζ : qx) (P : Option av → am → Prop) (t : tb4) (stops : List Nat) (n pc : Nat) (ls : List al) (st : List av) (M : am) : Prop := lkp (fun rs => runX N ζ P (runTX N k ζ P t stops n) rs pc ls st M) False t pc
section EX
variable {N k : Nat} {P : Option av → am → Prop} {t : tb4} {stops : List Nat} {ζ : qx}
theorem run_ok2X {K : Nat → List al → List av → am → Prop} (hK : ∀ q ls st M, K q ls st M → VX N k ζ P q ls st M) : ∀ (rs : List rw4) (pc : Nat) (ls : List al) (st : List av) (M : am), rsOk k pc rs = true → runX N ζ P K rs pc ls st M → VX N k ζ P pc ls st M
  | [], _, _, _, _, _, h => hK _ _ _ _ h
  | r :: rs, pc, ls, st, M, hr, h => by
    simp only [rsOk, Bool.and_eq_true] at hr
    simp only [runX] at h
    split at h
    · exact stpB_okX hr.1 (stpB_mono hK h)
    · exact stpS_okX hr.1 (fun ls st M q => run_ok2X hK rs (pc + r.2.1) ls st M hr.2 q) h
theorem runT_okX (ht : tOk k t = true) : ∀ (n pc : Nat) (ls : List al) (st : List av) (M : am), runTX N k ζ P t stops n pc ls st M → VX N k ζ P pc ls st M
  | 0, _, _, _, _, h => h
  | n + 1, pc, ls, st, M, h => by
    simp only [runTX] at h
    split at h
    · exact h
    · rcases lkp_ok ht h with ⟨rs, h1, h2⟩ | h
      · exact run_ok2X (fun q ls st M => runT_okX ht n q ls st M) rs pc ls st M h1 h2
      · exact h
theorem go_okX (ht : tOk k t = true) (stops : List Nat) (n : Nat) {pc : Nat} {ls : List al} {st : List av} {M : am} (h : goX N k ζ P t stops n pc ls st M) : VX N k ζ P pc ls st M := by
  rcases lkp_ok ht h with ⟨rs, h1, h2⟩ | h
  · exact run_ok2X (fun q ls st M => runT_okX ht n q ls st M) rs pc ls st M h1 h2
  · exact h.elim
end EX
section EQ
variable {N k pc len r1 r2 : Nat} {P : Option av → am → Prop} {K : Nat → List al → List av → am → Prop} {rs : List rw4} {ls : List al} {st : List av} {M : am} {ζ : qx}
theorem q_nilX  : runX N ζ P K [] pc ls st M = (K pc ls st M) := propext Iff.rfl
theorem q_iconstX {z : Int} : runX N ζ P K ((.iconst z, len, r1, r2) :: rs) pc ls (st) M = (runX N ζ P K rs (pc + len) (ls) (.inl z :: st) (M)) := propext Iff.rfl
theorem q_bipushX {z : Int} : runX N ζ P K ((.bipush z, len, r1, r2) :: rs) pc ls (st) M = (runX N ζ P K rs (pc + len) (ls) (.inl z :: st) (M)) := propext Iff.rfl
theorem q_sipushX {z : Int} : runX N ζ P K ((.sipush z, len, r1, r2) :: rs) pc ls (st) M = (runX N ζ P K rs (pc + len) (ls) (.inl z :: st) (M)) := propext Iff.rfl
theorem q_ldcX {ix : Nat} : runX N ζ P K ((.ldc ix, len, r1, r2) :: rs) pc ls (st) M = (runX N ζ P K rs (pc + len) (ls) (.inl (r1 : Int) :: st) (M)) := propext Iff.rfl
theorem q_ldc_wX {ix : Nat} : runX N ζ P K ((.ldc_w ix, len, r1, r2) :: rs) pc ls (st) M = (runX N ζ P K rs (pc + len) (ls) (.inl (r1 : Int) :: st) (M)) := propext Iff.rfl
theorem q_iload_0X {z : Int} : runX N ζ P K ((.iload 0, len, r1, r2) :: rs) pc (some (.inl z) :: ls) (st) M = (runX N ζ P K rs (pc + len) ((some (.inl z) :: ls)) (.inl z :: st) (M)) := propext Iff.rfl
theorem q_iload_n_0X {z : Int} : runX N ζ P K ((.iload_n 0, len, r1, r2) :: rs) pc (some (.inl z) :: ls) (st) M = (runX N ζ P K rs (pc + len) ((some (.inl z) :: ls)) (.inl z :: st) (M)) := propext Iff.rfl
theorem q_aload_0X {a : Nat} : runX N ζ P K ((.aload 0, len, r1, r2) :: rs) pc (some (.inr a) :: ls) (st) M = (runX N ζ P K rs (pc + len) ((some (.inr a) :: ls)) (.inr (.inl a) :: st) (M)) := propext Iff.rfl
theorem q_aload_n_0X {a : Nat} : runX N ζ P K ((.aload_n 0, len, r1, r2) :: rs) pc (some (.inr a) :: ls) (st) M = (runX N ζ P K rs (pc + len) ((some (.inr a) :: ls)) (.inr (.inl a) :: st) (M)) := propext Iff.rfl
theorem q_istore_0X {b : al} {z : Int} : runX N ζ P K ((.istore 0, len, r1, r2) :: rs) pc (b :: ls) (.inl z :: st) M = (runX N ζ P K rs (pc + len) ((some (.inl z) :: ls)) (st) (M)) := propext Iff.rfl
theorem q_istore_n_0X {b : al} {z : Int} : runX N ζ P K ((.istore_n 0, len, r1, r2) :: rs) pc (b :: ls) (.inl z :: st) M = (runX N ζ P K rs (pc + len) ((some (.inl z) :: ls)) (st) (M)) := propext Iff.rfl
theorem q_iinc_0X {z n : Int} : runX N ζ P K ((.iinc 0 n, len, r1, r2) :: rs) pc (some (.inl z) :: ls) (st) M = (r32 (z + n) ∧ runX N ζ P K rs (pc + len) ((some (.inl (z + n)) :: ls)) (st) (M)) := propext Iff.rfl
theorem q_iload_1X {a0 : al} {z : Int} : runX N ζ P K ((.iload 1, len, r1, r2) :: rs) pc (a0 :: some (.inl z) :: ls) (st) M = (runX N ζ P K rs (pc + len) ((a0 :: some (.inl z) :: ls)) (.inl z :: st) (M)) := propext Iff.rfl
theorem q_iload_n_1X {a0 : al} {z : Int} : runX N ζ P K ((.iload_n 1, len, r1, r2) :: rs) pc (a0 :: some (.inl z) :: ls) (st) M = (runX N ζ P K rs (pc + len) ((a0 :: some (.inl z) :: ls)) (.inl z :: st) (M)) := propext Iff.rfl
theorem q_aload_1X {a0 : al} {a : Nat} : runX N ζ P K ((.aload 1, len, r1, r2) :: rs) pc (a0 :: some (.inr a) :: ls) (st) M = (runX N ζ P K rs (pc + len) ((a0 :: some (.inr a) :: ls)) (.inr (.inl a) :: st) (M)) := propext Iff.rfl
theorem q_aload_n_1X {a0 : al} {a : Nat} : runX N ζ P K ((.aload_n 1, len, r1, r2) :: rs) pc (a0 :: some (.inr a) :: ls) (st) M = (runX N ζ P K rs (pc + len) ((a0 :: some (.inr a) :: ls)) (.inr (.inl a) :: st) (M)) := propext Iff.rfl
theorem q_istore_1X {a0 : al} {b : al} {z : Int} : runX N ζ P K ((.istore 1, len, r1, r2) :: rs) pc (a0 :: b :: ls) (.inl z :: st) M = (runX N ζ P K rs (pc + len) ((a0 :: some (.inl z) :: ls)) (st) (M)) := propext Iff.rfl
theorem q_istore_n_1X {a0 : al} {b : al} {z : Int} : runX N ζ P K ((.istore_n 1, len, r1, r2) :: rs) pc (a0 :: b :: ls) (.inl z :: st) M = (runX N ζ P K rs (pc + len) ((a0 :: some (.inl z) :: ls)) (st) (M)) := propext Iff.rfl
theorem q_iinc_1X {a0 : al} {z n : Int} : runX N ζ P K ((.iinc 1 n, len, r1, r2) :: rs) pc (a0 :: some (.inl z) :: ls) (st) M = (r32 (z + n) ∧ runX N ζ P K rs (pc + len) ((a0 :: some (.inl (z + n)) :: ls)) (st) (M)) := propext Iff.rfl
theorem q_iload_2X {a0 a1 : al} {z : Int} : runX N ζ P K ((.iload 2, len, r1, r2) :: rs) pc (a0 :: a1 :: some (.inl z) :: ls) (st) M = (runX N ζ P K rs (pc + len) ((a0 :: a1 :: some (.inl z) :: ls)) (.inl z :: st) (M)) := propext Iff.rfl
theorem q_iload_n_2X {a0 a1 : al} {z : Int} : runX N ζ P K ((.iload_n 2, len, r1, r2) :: rs) pc (a0 :: a1 :: some (.inl z) :: ls) (st) M = (runX N ζ P K rs (pc + len) ((a0 :: a1 :: some (.inl z) :: ls)) (.inl z :: st) (M)) := propext Iff.rfl
theorem q_aload_2X {a0 a1 : al} {a : Nat} : runX N ζ P K ((.aload 2, len, r1, r2) :: rs) pc (a0 :: a1 :: some (.inr a) :: ls) (st) M = (runX N ζ P K rs (pc + len) ((a0 :: a1 :: some (.inr a) :: ls)) (.inr (.inl a) :: st) (M)) := propext Iff.rfl
theorem q_aload_n_2X {a0 a1 : al} {a : Nat} : runX N ζ P K ((.aload_n 2, len, r1, r2) :: rs) pc (a0 :: a1 :: some (.inr a) :: ls) (st) M = (runX N ζ P K rs (pc + len) ((a0 :: a1 :: some (.inr a) :: ls)) (.inr (.inl a) :: st) (M)) := propext Iff.rfl
theorem q_istore_2X {a0 a1 : al} {b : al} {z : Int} : runX N ζ P K ((.istore 2, len, r1, r2) :: rs) pc (a0 :: a1 :: b :: ls) (.inl z :: st) M = (runX N ζ P K rs (pc + len) ((a0 :: a1 :: some (.inl z) :: ls)) (st) (M)) := propext Iff.rfl
theorem q_istore_n_2X {a0 a1 : al} {b : al} {z : Int} : runX N ζ P K ((.istore_n 2, len, r1, r2) :: rs) pc (a0 :: a1 :: b :: ls) (.inl z :: st) M = (runX N ζ P K rs (pc + len) ((a0 :: a1 :: some (.inl z) :: ls)) (st) (M)) := propext Iff.rfl
theorem q_iinc_2X {a0 a1 : al} {z n : Int} : runX N ζ P K ((.iinc 2 n, len, r1, r2) :: rs) pc (a0 :: a1 :: some (.inl z) :: ls) (st) M = (r32 (z + n) ∧ runX N ζ P K rs (pc + len) ((a0 :: a1 :: some (.inl (z + n)) :: ls)) (st) (M)) := propext Iff.rfl
theorem q_iload_3X {a0 a1 a2 : al} {z : Int} : runX N ζ P K ((.iload 3, len, r1, r2) :: rs) pc (a0 :: a1 :: a2 :: some (.inl z) :: ls) (st) M = (runX N ζ P K rs (pc + len) ((a0 :: a1 :: a2 :: some (.inl z) :: ls)) (.inl z :: st) (M)) := propext Iff.rfl
theorem q_iload_n_3X {a0 a1 a2 : al} {z : Int} : runX N ζ P K ((.iload_n 3, len, r1, r2) :: rs) pc (a0 :: a1 :: a2 :: some (.inl z) :: ls) (st) M = (runX N ζ P K rs (pc + len) ((a0 :: a1 :: a2 :: some (.inl z) :: ls)) (.inl z :: st) (M)) := propext Iff.rfl
theorem q_aload_3X {a0 a1 a2 : al} {a : Nat} : runX N ζ P K ((.aload 3, len, r1, r2) :: rs) pc (a0 :: a1 :: a2 :: some (.inr a) :: ls) (st) M = (runX N ζ P K rs (pc + len) ((a0 :: a1 :: a2 :: some (.inr a) :: ls)) (.inr (.inl a) :: st) (M)) := propext Iff.rfl
theorem q_aload_n_3X {a0 a1 a2 : al} {a : Nat} : runX N ζ P K ((.aload_n 3, len, r1, r2) :: rs) pc (a0 :: a1 :: a2 :: some (.inr a) :: ls) (st) M = (runX N ζ P K rs (pc + len) ((a0 :: a1 :: a2 :: some (.inr a) :: ls)) (.inr (.inl a) :: st) (M)) := propext Iff.rfl
theorem q_istore_3X {a0 a1 a2 : al} {b : al} {z : Int} : runX N ζ P K ((.istore 3, len, r1, r2) :: rs) pc (a0 :: a1 :: a2 :: b :: ls) (.inl z :: st) M = (runX N ζ P K rs (pc + len) ((a0 :: a1 :: a2 :: some (.inl z) :: ls)) (st) (M)) := propext Iff.rfl
theorem q_istore_n_3X {a0 a1 a2 : al} {b : al} {z : Int} : runX N ζ P K ((.istore_n 3, len, r1, r2) :: rs) pc (a0 :: a1 :: a2 :: b :: ls) (.inl z :: st) M = (runX N ζ P K rs (pc + len) ((a0 :: a1 :: a2 :: some (.inl z) :: ls)) (st) (M)) := propext Iff.rfl
theorem q_iinc_3X {a0 a1 a2 : al} {z n : Int} : runX N ζ P K ((.iinc 3 n, len, r1, r2) :: rs) pc (a0 :: a1 :: a2 :: some (.inl z) :: ls) (st) M = (r32 (z + n) ∧ runX N ζ P K rs (pc + len) ((a0 :: a1 :: a2 :: some (.inl (z + n)) :: ls)) (st) (M)) := propext Iff.rfl
theorem q_iload_4X {a0 a1 a2 a3 : al} {z : Int} : runX N ζ P K ((.iload 4, len, r1, r2) :: rs) pc (a0 :: a1 :: a2 :: a3 :: some (.inl z) :: ls) (st) M = (runX N ζ P K rs (pc + len) ((a0 :: a1 :: a2 :: a3 :: some (.inl z) :: ls)) (.inl z :: st) (M)) := propext Iff.rfl
theorem q_aload_4X {a0 a1 a2 a3 : al} {a : Nat} : runX N ζ P K ((.aload 4, len, r1, r2) :: rs) pc (a0 :: a1 :: a2 :: a3 :: some (.inr a) :: ls) (st) M = (runX N ζ P K rs (pc + len) ((a0 :: a1 :: a2 :: a3 :: some (.inr a) :: ls)) (.inr (.inl a) :: st) (M)) := propext Iff.rfl
theorem q_istore_4X {a0 a1 a2 a3 : al} {b : al} {z : Int} : runX N ζ P K ((.istore 4, len, r1, r2) :: rs) pc (a0 :: a1 :: a2 :: a3 :: b :: ls) (.inl z :: st) M = (runX N ζ P K rs (pc + len) ((a0 :: a1 :: a2 :: a3 :: some (.inl z) :: ls)) (st) (M)) := propext Iff.rfl
theorem q_iinc_4X {a0 a1 a2 a3 : al} {z n : Int} : runX N ζ P K ((.iinc 4 n, len, r1, r2) :: rs) pc (a0 :: a1 :: a2 :: a3 :: some (.inl z) :: ls) (st) M = (r32 (z + n) ∧ runX N ζ P K rs (pc + len) ((a0 :: a1 :: a2 :: a3 :: some (.inl (z + n)) :: ls)) (st) (M)) := propext Iff.rfl
theorem q_iload_5X {a0 a1 a2 a3 a4 : al} {z : Int} : runX N ζ P K ((.iload 5, len, r1, r2) :: rs) pc (a0 :: a1 :: a2 :: a3 :: a4 :: some (.inl z) :: ls) (st) M = (runX N ζ P K rs (pc + len) ((a0 :: a1 :: a2 :: a3 :: a4 :: some (.inl z) :: ls)) (.inl z :: st) (M)) := propext Iff.rfl
theorem q_aload_5X {a0 a1 a2 a3 a4 : al} {a : Nat} : runX N ζ P K ((.aload 5, len, r1, r2) :: rs) pc (a0 :: a1 :: a2 :: a3 :: a4 :: some (.inr a) :: ls) (st) M = (runX N ζ P K rs (pc + len) ((a0 :: a1 :: a2 :: a3 :: a4 :: some (.inr a) :: ls)) (.inr (.inl a) :: st) (M)) := propext Iff.rfl
theorem q_istore_5X {a0 a1 a2 a3 a4 : al} {b : al} {z : Int} : runX N ζ P K ((.istore 5, len, r1, r2) :: rs) pc (a0 :: a1 :: a2 :: a3 :: a4 :: b :: ls) (.inl z :: st) M = (runX N ζ P K rs (pc + len) ((a0 :: a1 :: a2 :: a3 :: a4 :: some (.inl z) :: ls)) (st) (M)) := propext Iff.rfl
theorem q_iinc_5X {a0 a1 a2 a3 a4 : al} {z n : Int} : runX N ζ P K ((.iinc 5 n, len, r1, r2) :: rs) pc (a0 :: a1 :: a2 :: a3 :: a4 :: some (.inl z) :: ls) (st) M = (r32 (z + n) ∧ runX N ζ P K rs (pc + len) ((a0 :: a1 :: a2 :: a3 :: a4 :: some (.inl (z + n)) :: ls)) (st) (M)) := propext Iff.rfl
theorem q_iload_6X {a0 a1 a2 a3 a4 a5 : al} {z : Int} : runX N ζ P K ((.iload 6, len, r1, r2) :: rs) pc (a0 :: a1 :: a2 :: a3 :: a4 :: a5 :: some (.inl z) :: ls) (st) M = (runX N ζ P K rs (pc + len) ((a0 :: a1 :: a2 :: a3 :: a4 :: a5 :: some (.inl z) :: ls)) (.inl z :: st) (M)) := propext Iff.rfl
theorem q_aload_6X {a0 a1 a2 a3 a4 a5 : al} {a : Nat} : runX N ζ P K ((.aload 6, len, r1, r2) :: rs) pc (a0 :: a1 :: a2 :: a3 :: a4 :: a5 :: some (.inr a) :: ls) (st) M = (runX N ζ P K rs (pc + len) ((a0 :: a1 :: a2 :: a3 :: a4 :: a5 :: some (.inr a) :: ls)) (.inr (.inl a) :: st) (M)) := propext Iff.rfl
theorem q_istore_6X {a0 a1 a2 a3 a4 a5 : al} {b : al} {z : Int} : runX N ζ P K ((.istore 6, len, r1, r2) :: rs) pc (a0 :: a1 :: a2 :: a3 :: a4 :: a5 :: b :: ls) (.inl z :: st) M = (runX N ζ P K rs (pc + len) ((a0 :: a1 :: a2 :: a3 :: a4 :: a5 :: some (.inl z) :: ls)) (st) (M)) := propext Iff.rfl
theorem q_iinc_6X {a0 a1 a2 a3 a4 a5 : al} {z n : Int} : runX N ζ P K ((.iinc 6 n, len, r1, r2) :: rs) pc (a0 :: a1 :: a2 :: a3 :: a4 :: a5 :: some (.inl z) :: ls) (st) M = (r32 (z + n) ∧ runX N ζ P K rs (pc + len) ((a0 :: a1 :: a2 :: a3 :: a4 :: a5 :: some (.inl (z + n)) :: ls)) (st) (M)) := propext Iff.rfl
theorem q_iload_7X {a0 a1 a2 a3 a4 a5 a6 : al} {z : Int} : runX N ζ P K ((.iload 7, len, r1, r2) :: rs) pc (a0 :: a1 :: a2 :: a3 :: a4 :: a5 :: a6 :: some (.inl z) :: ls) (st) M = (runX N ζ P K rs (pc + len) ((a0 :: a1 :: a2 :: a3 :: a4 :: a5 :: a6 :: some (.inl z) :: ls)) (.inl z :: st) (M)) := propext Iff.rfl
theorem q_aload_7X {a0 a1 a2 a3 a4 a5 a6 : al} {a : Nat} : runX N ζ P K ((.aload 7, len, r1, r2) :: rs) pc (a0 :: a1 :: a2 :: a3 :: a4 :: a5 :: a6 :: some (.inr a) :: ls) (st) M = (runX N ζ P K rs (pc + len) ((a0 :: a1 :: a2 :: a3 :: a4 :: a5 :: a6 :: some (.inr a) :: ls)) (.inr (.inl a) :: st) (M)) := propext Iff.rfl
theorem q_istore_7X {a0 a1 a2 a3 a4 a5 a6 : al} {b : al} {z : Int} : runX N ζ P K ((.istore 7, len, r1, r2) :: rs) pc (a0 :: a1 :: a2 :: a3 :: a4 :: a5 :: a6 :: b :: ls) (.inl z :: st) M = (runX N ζ P K rs (pc + len) ((a0 :: a1 :: a2 :: a3 :: a4 :: a5 :: a6 :: some (.inl z) :: ls)) (st) (M)) := propext Iff.rfl
theorem q_iinc_7X {a0 a1 a2 a3 a4 a5 a6 : al} {z n : Int} : runX N ζ P K ((.iinc 7 n, len, r1, r2) :: rs) pc (a0 :: a1 :: a2 :: a3 :: a4 :: a5 :: a6 :: some (.inl z) :: ls) (st) M = (r32 (z + n) ∧ runX N ζ P K rs (pc + len) ((a0 :: a1 :: a2 :: a3 :: a4 :: a5 :: a6 :: some (.inl (z + n)) :: ls)) (st) (M)) := propext Iff.rfl
theorem q_iload_8X {a0 a1 a2 a3 a4 a5 a6 a7 : al} {z : Int} : runX N ζ P K ((.iload 8, len, r1, r2) :: rs) pc (a0 :: a1 :: a2 :: a3 :: a4 :: a5 :: a6 :: a7 :: some (.inl z) :: ls) (st) M = (runX N ζ P K rs (pc + len) ((a0 :: a1 :: a2 :: a3 :: a4 :: a5 :: a6 :: a7 :: some (.inl z) :: ls)) (.inl z :: st) (M)) := propext Iff.rfl
theorem q_aload_8X {a0 a1 a2 a3 a4 a5 a6 a7 : al} {a : Nat} : runX N ζ P K ((.aload 8, len, r1, r2) :: rs) pc (a0 :: a1 :: a2 :: a3 :: a4 :: a5 :: a6 :: a7 :: some (.inr a) :: ls) (st) M = (runX N ζ P K rs (pc + len) ((a0 :: a1 :: a2 :: a3 :: a4 :: a5 :: a6 :: a7 :: some (.inr a) :: ls)) (.inr (.inl a) :: st) (M)) := propext Iff.rfl
theorem q_istore_8X {a0 a1 a2 a3 a4 a5 a6 a7 : al} {b : al} {z : Int} : runX N ζ P K ((.istore 8, len, r1, r2) :: rs) pc (a0 :: a1 :: a2 :: a3 :: a4 :: a5 :: a6 :: a7 :: b :: ls) (.inl z :: st) M = (runX N ζ P K rs (pc + len) ((a0 :: a1 :: a2 :: a3 :: a4 :: a5 :: a6 :: a7 :: some (.inl z) :: ls)) (st) (M)) := propext Iff.rfl
theorem q_iinc_8X {a0 a1 a2 a3 a4 a5 a6 a7 : al} {z n : Int} : runX N ζ P K ((.iinc 8 n, len, r1, r2) :: rs) pc (a0 :: a1 :: a2 :: a3 :: a4 :: a5 :: a6 :: a7 :: some (.inl z) :: ls) (st) M = (r32 (z + n) ∧ runX N ζ P K rs (pc + len) ((a0 :: a1 :: a2 :: a3 :: a4 :: a5 :: a6 :: a7 :: some (.inl (z + n)) :: ls)) (st) (M)) := propext Iff.rfl
theorem q_iload_9X {a0 a1 a2 a3 a4 a5 a6 a7 a8 : al} {z : Int} : runX N ζ P K ((.iload 9, len, r1, r2) :: rs) pc (a0 :: a1 :: a2 :: a3 :: a4 :: a5 :: a6 :: a7 :: a8 :: some (.inl z) :: ls) (st) M = (runX N ζ P K rs (pc + len) ((a0 :: a1 :: a2 :: a3 :: a4 :: a5 :: a6 :: a7 :: a8 :: some (.inl z) :: ls)) (.inl z :: st) (M)) := propext Iff.rfl
theorem q_aload_9X {a0 a1 a2 a3 a4 a5 a6 a7 a8 : al} {a : Nat} : runX N ζ P K ((.aload 9, len, r1, r2) :: rs) pc (a0 :: a1 :: a2 :: a3 :: a4 :: a5 :: a6 :: a7 :: a8 :: some (.inr a) :: ls) (st) M = (runX N ζ P K rs (pc + len) ((a0 :: a1 :: a2 :: a3 :: a4 :: a5 :: a6 :: a7 :: a8 :: some (.inr a) :: ls)) (.inr (.inl a) :: st) (M)) := propext Iff.rfl
theorem q_istore_9X {a0 a1 a2 a3 a4 a5 a6 a7 a8 : al} {b : al} {z : Int} : runX N ζ P K ((.istore 9, len, r1, r2) :: rs) pc (a0 :: a1 :: a2 :: a3 :: a4 :: a5 :: a6 :: a7 :: a8 :: b :: ls) (.inl z :: st) M = (runX N ζ P K rs (pc + len) ((a0 :: a1 :: a2 :: a3 :: a4 :: a5 :: a6 :: a7 :: a8 :: some (.inl z) :: ls)) (st) (M)) := propext Iff.rfl
theorem q_iinc_9X {a0 a1 a2 a3 a4 a5 a6 a7 a8 : al} {z n : Int} : runX N ζ P K ((.iinc 9 n, len, r1, r2) :: rs) pc (a0 :: a1 :: a2 :: a3 :: a4 :: a5 :: a6 :: a7 :: a8 :: some (.inl z) :: ls) (st) M = (r32 (z + n) ∧ runX N ζ P K rs (pc + len) ((a0 :: a1 :: a2 :: a3 :: a4 :: a5 :: a6 :: a7 :: a8 :: some (.inl (z + n)) :: ls)) (st) (M)) := propext Iff.rfl
theorem q_iload_10X {a0 a1 a2 a3 a4 a5 a6 a7 a8 a9 : al} {z : Int} : runX N ζ P K ((.iload 10, len, r1, r2) :: rs) pc (a0 :: a1 :: a2 :: a3 :: a4 :: a5 :: a6 :: a7 :: a8 :: a9 :: some (.inl z) :: ls) (st) M = (runX N ζ P K rs (pc + len) ((a0 :: a1 :: a2 :: a3 :: a4 :: a5 :: a6 :: a7 :: a8 :: a9 :: some (.inl z) :: ls)) (.inl z :: st) (M)) := propext Iff.rfl
theorem q_aload_10X {a0 a1 a2 a3 a4 a5 a6 a7 a8 a9 : al} {a : Nat} : runX N ζ P K ((.aload 10, len, r1, r2) :: rs) pc (a0 :: a1 :: a2 :: a3 :: a4 :: a5 :: a6 :: a7 :: a8 :: a9 :: some (.inr a) :: ls) (st) M = (runX N ζ P K rs (pc + len) ((a0 :: a1 :: a2 :: a3 :: a4 :: a5 :: a6 :: a7 :: a8 :: a9 :: some (.inr a) :: ls)) (.inr (.inl a) :: st) (M)) := propext Iff.rfl
theorem q_istore_10X {a0 a1 a2 a3 a4 a5 a6 a7 a8 a9 : al} {b : al} {z : Int} : runX N ζ P K ((.istore 10, len, r1, r2) :: rs) pc (a0 :: a1 :: a2 :: a3 :: a4 :: a5 :: a6 :: a7 :: a8 :: a9 :: b :: ls) (.inl z :: st) M = (runX N ζ P K rs (pc + len) ((a0 :: a1 :: a2 :: a3 :: a4 :: a5 :: a6 :: a7 :: a8 :: a9 :: some (.inl z) :: ls)) (st) (M)) := propext Iff.rfl
theorem q_iinc_10X {a0 a1 a2 a3 a4 a5 a6 a7 a8 a9 : al} {z n : Int} : runX N ζ P K ((.iinc 10 n, len, r1, r2) :: rs) pc (a0 :: a1 :: a2 :: a3 :: a4 :: a5 :: a6 :: a7 :: a8 :: a9 :: some (.inl z) :: ls) (st) M = (r32 (z + n) ∧ runX N ζ P K rs (pc + len) ((a0 :: a1 :: a2 :: a3 :: a4 :: a5 :: a6 :: a7 :: a8 :: a9 :: some (.inl (z + n)) :: ls)) (st) (M)) := propext Iff.rfl
theorem q_iload_11X {a0 a1 a2 a3 a4 a5 a6 a7 a8 a9 a10 : al} {z : Int} : runX N ζ P K ((.iload 11, len, r1, r2) :: rs) pc (a0 :: a1 :: a2 :: a3 :: a4 :: a5 :: a6 :: a7 :: a8 :: a9 :: a10 :: some (.inl z) :: ls) (st) M = (runX N ζ P K rs (pc + len) ((a0 :: a1 :: a2 :: a3 :: a4 :: a5 :: a6 :: a7 :: a8 :: a9 :: a10 :: some (.inl z) :: ls)) (.inl z :: st) (M)) := propext Iff.rfl
theorem q_aload_11X {a0 a1 a2 a3 a4 a5 a6 a7 a8 a9 a10 : al} {a : Nat} : runX N ζ P K ((.aload 11, len, r1, r2) :: rs) pc (a0 :: a1 :: a2 :: a3 :: a4 :: a5 :: a6 :: a7 :: a8 :: a9 :: a10 :: some (.inr a) :: ls) (st) M = (runX N ζ P K rs (pc + len) ((a0 :: a1 :: a2 :: a3 :: a4 :: a5 :: a6 :: a7 :: a8 :: a9 :: a10 :: some (.inr a) :: ls)) (.inr (.inl a) :: st) (M)) := propext Iff.rfl
theorem q_istore_11X {a0 a1 a2 a3 a4 a5 a6 a7 a8 a9 a10 : al} {b : al} {z : Int} : runX N ζ P K ((.istore 11, len, r1, r2) :: rs) pc (a0 :: a1 :: a2 :: a3 :: a4 :: a5 :: a6 :: a7 :: a8 :: a9 :: a10 :: b :: ls) (.inl z :: st) M = (runX N ζ P K rs (pc + len) ((a0 :: a1 :: a2 :: a3 :: a4 :: a5 :: a6 :: a7 :: a8 :: a9 :: a10 :: some (.inl z) :: ls)) (st) (M)) := propext Iff.rfl
theorem q_iinc_11X {a0 a1 a2 a3 a4 a5 a6 a7 a8 a9 a10 : al} {z n : Int} : runX N ζ P K ((.iinc 11 n, len, r1, r2) :: rs) pc (a0 :: a1 :: a2 :: a3 :: a4 :: a5 :: a6 :: a7 :: a8 :: a9 :: a10 :: some (.inl z) :: ls) (st) M = (r32 (z + n) ∧ runX N ζ P K rs (pc + len) ((a0 :: a1 :: a2 :: a3 :: a4 :: a5 :: a6 :: a7 :: a8 :: a9 :: a10 :: some (.inl (z + n)) :: ls)) (st) (M)) := propext Iff.rfl
theorem q_iload_12X {a0 a1 a2 a3 a4 a5 a6 a7 a8 a9 a10 a11 : al} {z : Int} : runX N ζ P K ((.iload 12, len, r1, r2) :: rs) pc (a0 :: a1 :: a2 :: a3 :: a4 :: a5 :: a6 :: a7 :: a8 :: a9 :: a10 :: a11 :: some (.inl z) :: ls) (st) M = (runX N ζ P K rs (pc + len) ((a0 :: a1 :: a2 :: a3 :: a4 :: a5 :: a6 :: a7 :: a8 :: a9 :: a10 :: a11 :: some (.inl z) :: ls)) (.inl z :: st) (M)) := propext Iff.rfl
theorem q_aload_12X {a0 a1 a2 a3 a4 a5 a6 a7 a8 a9 a10 a11 : al} {a : Nat} : runX N ζ P K ((.aload 12, len, r1, r2) :: rs) pc (a0 :: a1 :: a2 :: a3 :: a4 :: a5 :: a6 :: a7 :: a8 :: a9 :: a10 :: a11 :: some (.inr a) :: ls) (st) M = (runX N ζ P K rs (pc + len) ((a0 :: a1 :: a2 :: a3 :: a4 :: a5 :: a6 :: a7 :: a8 :: a9 :: a10 :: a11 :: some (.inr a) :: ls)) (.inr (.inl a) :: st) (M)) := propext Iff.rfl
theorem q_istore_12X {a0 a1 a2 a3 a4 a5 a6 a7 a8 a9 a10 a11 : al} {b : al} {z : Int} : runX N ζ P K ((.istore 12, len, r1, r2) :: rs) pc (a0 :: a1 :: a2 :: a3 :: a4 :: a5 :: a6 :: a7 :: a8 :: a9 :: a10 :: a11 :: b :: ls) (.inl z :: st) M = (runX N ζ P K rs (pc + len) ((a0 :: a1 :: a2 :: a3 :: a4 :: a5 :: a6 :: a7 :: a8 :: a9 :: a10 :: a11 :: some (.inl z) :: ls)) (st) (M)) := propext Iff.rfl
theorem q_iinc_12X {a0 a1 a2 a3 a4 a5 a6 a7 a8 a9 a10 a11 : al} {z n : Int} : runX N ζ P K ((.iinc 12 n, len, r1, r2) :: rs) pc (a0 :: a1 :: a2 :: a3 :: a4 :: a5 :: a6 :: a7 :: a8 :: a9 :: a10 :: a11 :: some (.inl z) :: ls) (st) M = (r32 (z + n) ∧ runX N ζ P K rs (pc + len) ((a0 :: a1 :: a2 :: a3 :: a4 :: a5 :: a6 :: a7 :: a8 :: a9 :: a10 :: a11 :: some (.inl (z + n)) :: ls)) (st) (M)) := propext Iff.rfl
theorem q_iload_13X {a0 a1 a2 a3 a4 a5 a6 a7 a8 a9 a10 a11 a12 : al} {z : Int} : runX N ζ P K ((.iload 13, len, r1, r2) :: rs) pc (a0 :: a1 :: a2 :: a3 :: a4 :: a5 :: a6 :: a7 :: a8 :: a9 :: a10 :: a11 :: a12 :: some (.inl z) :: ls) (st) M = (runX N ζ P K rs (pc + len) ((a0 :: a1 :: a2 :: a3 :: a4 :: a5 :: a6 :: a7 :: a8 :: a9 :: a10 :: a11 :: a12 :: some (.inl z) :: ls)) (.inl z :: st) (M)) := propext Iff.rfl
theorem q_aload_13X {a0 a1 a2 a3 a4 a5 a6 a7 a8 a9 a10 a11 a12 : al} {a : Nat} : runX N ζ P K ((.aload 13, len, r1, r2) :: rs) pc (a0 :: a1 :: a2 :: a3 :: a4 :: a5 :: a6 :: a7 :: a8 :: a9 :: a10 :: a11 :: a12 :: some (.inr a) :: ls) (st) M = (runX N ζ P K rs (pc + len) ((a0 :: a1 :: a2 :: a3 :: a4 :: a5 :: a6 :: a7 :: a8 :: a9 :: a10 :: a11 :: a12 :: some (.inr a) :: ls)) (.inr (.inl a) :: st) (M)) := propext Iff.rfl
theorem q_istore_13X {a0 a1 a2 a3 a4 a5 a6 a7 a8 a9 a10 a11 a12 : al} {b : al} {z : Int} : runX N ζ P K ((.istore 13, len, r1, r2) :: rs) pc (a0 :: a1 :: a2 :: a3 :: a4 :: a5 :: a6 :: a7 :: a8 :: a9 :: a10 :: a11 :: a12 :: b :: ls) (.inl z :: st) M = (runX N ζ P K rs (pc + len) ((a0 :: a1 :: a2 :: a3 :: a4 :: a5 :: a6 :: a7 :: a8 :: a9 :: a10 :: a11 :: a12 :: some (.inl z) :: ls)) (st) (M)) := propext Iff.rfl
theorem q_iinc_13X {a0 a1 a2 a3 a4 a5 a6 a7 a8 a9 a10 a11 a12 : al} {z n : Int} : runX N ζ P K ((.iinc 13 n, len, r1, r2) :: rs) pc (a0 :: a1 :: a2 :: a3 :: a4 :: a5 :: a6 :: a7 :: a8 :: a9 :: a10 :: a11 :: a12 :: some (.inl z) :: ls) (st) M = (r32 (z + n) ∧ runX N ζ P K rs (pc + len) ((a0 :: a1 :: a2 :: a3 :: a4 :: a5 :: a6 :: a7 :: a8 :: a9 :: a10 :: a11 :: a12 :: some (.inl (z + n)) :: ls)) (st) (M)) := propext Iff.rfl
theorem q_iaddX {a b : Int} : runX N ζ P K ((.iadd, len, r1, r2) :: rs) pc ls (.inl b :: .inl a :: st) M = (r32 (a + b) ∧ runX N ζ P K rs (pc + len) (ls) (.inl (a + b) :: st) (M)) := propext Iff.rfl
theorem q_isubX {a b : Int} : runX N ζ P K ((.isub, len, r1, r2) :: rs) pc ls (.inl b :: .inl a :: st) M = (r32 (a - b) ∧ runX N ζ P K rs (pc + len) (ls) (.inl (a - b) :: st) (M)) := propext Iff.rfl
theorem q_imulX {a b : Int} : runX N ζ P K ((.imul, len, r1, r2) :: rs) pc ls (.inl b :: .inl a :: st) M = (r32 (a * b) ∧ runX N ζ P K rs (pc + len) (ls) (.inl (a * b) :: st) (M)) := propext Iff.rfl
theorem q_idivX {a b : Int} : runX N ζ P K ((.idiv, len, r1, r2) :: rs) pc ls (.inl b :: .inl a :: st) M = ((0 ≤ a ∧ 0 < b) ∧ runX N ζ P K rs (pc + len) (ls) (.inl (a / b) :: st) (M)) := propext Iff.rfl
theorem q_iremX {a b : Int} : runX N ζ P K ((.irem, len, r1, r2) :: rs) pc ls (.inl b :: .inl a :: st) M = ((0 ≤ a ∧ 0 < b) ∧ runX N ζ P K rs (pc + len) (ls) (.inl (a % b) :: st) (M)) := propext Iff.rfl
theorem q_iorX {a b : Int} : runX N ζ P K ((.ior, len, r1, r2) :: rs) pc ls (.inl b :: .inl a :: st) M = ((0 ≤ a ∧ 0 ≤ b) ∧ runX N ζ P K rs (pc + len) (ls) (.inl (((a.toNat ||| b.toNat : Nat) : Int)) :: st) (M)) := propext Iff.rfl
theorem q_ixorX {a b : Int} : runX N ζ P K ((.ixor, len, r1, r2) :: rs) pc ls (.inl b :: .inl a :: st) M = ((0 ≤ a ∧ 0 ≤ b) ∧ runX N ζ P K rs (pc + len) (ls) (.inl (((a.toNat ^^^ b.toNat : Nat) : Int)) :: st) (M)) := propext Iff.rfl
theorem q_ishrX {a b : Int} : runX N ζ P K ((.ishr, len, r1, r2) :: rs) pc ls (.inl b :: .inl a :: st) M = ((0 ≤ b ∧ b < 32) ∧ runX N ζ P K rs (pc + len) (ls) (.inl (a / 2 ^ b.toNat) :: st) (M)) := propext Iff.rfl
theorem q_iushrX {a b : Int} : runX N ζ P K ((.iushr, len, r1, r2) :: rs) pc ls (.inl b :: .inl a :: st) M = ((0 ≤ a ∧ 0 ≤ b ∧ b < 32) ∧ runX N ζ P K rs (pc + len) (ls) (.inl (a / 2 ^ b.toNat) :: st) (M)) := propext Iff.rfl
theorem q_ishlX {a b : Int} : runX N ζ P K ((.ishl, len, r1, r2) :: rs) pc ls (.inl b :: .inl a :: st) M = ((0 ≤ b ∧ b < 32 ∧ r32 (a * 2 ^ b.toNat)) ∧ runX N ζ P K rs (pc + len) (ls) (.inl (a * 2 ^ b.toNat) :: st) (M)) := propext Iff.rfl
theorem q_iand_1X {a b : Int} : runX N ζ P K ((.iand, len, 1, r2) :: rs) pc ls (.inl b :: .inl a :: st) M = (b = 2 ^ r2 - 1 ∧ runX N ζ P K rs (pc + len) ls (.inl (a % 2 ^ r2) :: st) M) := propext Iff.rfl
theorem q_iand_0X {a b : Int} : runX N ζ P K ((.iand, len, 0, r2) :: rs) pc ls (.inl b :: .inl a :: st) M = ((0 ≤ a ∧ 0 ≤ b) ∧ runX N ζ P K rs (pc + len) ls (.inl ((a.toNat &&& b.toNat : Nat) : Int) :: st) M) := propext Iff.rfl
theorem q_inegX {a : Int} : runX N ζ P K ((.ineg, len, r1, r2) :: rs) pc ls (.inl a :: st) M = (r32 (-a) ∧ runX N ζ P K rs (pc + len) (ls) (.inl (-a) :: st) (M)) := propext Iff.rfl
theorem q_dup_iX {z : Int} : runX N ζ P K ((.dup, len, r1, r2) :: rs) pc ls (.inl z :: st) M = (runX N ζ P K rs (pc + len) (ls) (.inl z :: .inl z :: st) (M)) := by show (_ ∧ _) = _; simp [nl]
theorem q_pop_iX {z : Int} : runX N ζ P K ((.pop, len, r1, r2) :: rs) pc ls (.inl z :: st) M = (runX N ζ P K rs (pc + len) (ls) (st) (M)) := by show (_ ∧ _) = _; simp [nl]
theorem q_dup_aX {z : Nat} : runX N ζ P K ((.dup, len, r1, r2) :: rs) pc ls (.inr (.inl z) :: st) M = (runX N ζ P K rs (pc + len) (ls) (.inr (.inl z) :: .inr (.inl z) :: st) (M)) := by show (_ ∧ _) = _; simp [nl]
theorem q_pop_aX {z : Nat} : runX N ζ P K ((.pop, len, r1, r2) :: rs) pc ls (.inr (.inl z) :: st) M = (runX N ζ P K rs (pc + len) (ls) (st) (M)) := by show (_ ∧ _) = _; simp [nl]
theorem q_dup2X {z : Int} {a : Nat} : runX N ζ P K ((.dup2, len, r1, r2) :: rs) pc ls (.inl z :: .inr (.inl a) :: st) M = (runX N ζ P K rs (pc + len) (ls) (.inl z :: .inr (.inl a) :: .inl z :: .inr (.inl a) :: st) (M)) := by show (_ ∧ _ ∧ _) = _; simp [nl]
theorem q_getfieldX {ix : Nat} : runX N ζ P K ((.getfield ix, len, r1, r2) :: rs) pc ls (st) M = (gtf N (runX N ζ P K rs (pc + len)) ls st M r1 r2) := propext Iff.rfl
theorem q_putfieldX {ix : Nat} : runX N ζ P K ((.putfield ix, len, r1, r2) :: rs) pc ls (st) M = (ptf N (runX N ζ P K rs (pc + len)) ls st M r1 r2) := propext Iff.rfl
theorem q_getstaticX {ix : Nat} : runX N ζ P K ((.getstatic ix, len, r1, r2) :: rs) pc ls (st) M = (runX N ζ P K rs (pc + len) (ls) (.inr (.inl r1) :: st) (M)) := propext Iff.rfl
theorem q_ialoadX  : runX N ζ P K ((.iaload, len, r1, r2) :: rs) pc ls (st) M = (aldX N ζ (runX N ζ P K rs (pc + len)) ls st M) := propext Iff.rfl
theorem q_baloadX  : runX N ζ P K ((.baload, len, r1, r2) :: rs) pc ls (st) M = (zld N (runX N ζ P K rs (pc + len)) ls st M) := propext Iff.rfl
theorem q_laloadX  : runX N ζ P K ((.laload, len, r1, r2) :: rs) pc ls (st) M = (lld N (runX N ζ P K rs (pc + len)) ls st M) := propext Iff.rfl
theorem q_iastoreX  : runX N ζ P K ((.iastore, len, r1, r2) :: rs) pc ls (st) M = (ast N (runX N ζ P K rs (pc + len)) ls st M) := propext Iff.rfl
theorem q_bastoreX  : runX N ζ P K ((.bastore, len, r1, r2) :: rs) pc ls (st) M = (zst N (runX N ζ P K rs (pc + len)) ls st M) := propext Iff.rfl
theorem q_lastoreX  : runX N ζ P K ((.lastore, len, r1, r2) :: rs) pc ls (st) M = (lst N (runX N ζ P K rs (pc + len)) ls st M) := propext Iff.rfl
theorem q_arraylengthX  : runX N ζ P K ((.arraylength, len, r1, r2) :: rs) pc ls (st) M = (alnX N ζ (runX N ζ P K rs (pc + len)) ls st M) := propext Iff.rfl
theorem q_i2lX {z : Int} : runX N ζ P K ((.i2l, len, r1, r2) :: rs) pc ls (.inl z :: st) M = (runX N ζ P K rs (pc + len) (ls) (.inr (.inr z) :: st) (M)) := propext Iff.rfl
theorem q_lconstX {q : Fin 2} : runX N ζ P K ((.lconst q, len, r1, r2) :: rs) pc ls (st) M = (runX N ζ P K rs (pc + len) (ls) (.inr (.inr (q.val : Int)) :: st) (M)) := propext Iff.rfl
theorem q_lshlX {a b : Int} : runX N ζ P K ((.lshl, len, r1, r2) :: rs) pc ls (.inl b :: .inr (.inr a) :: st) M = (0 ≤ b ∧ b < 64 ∧ r64 (a * 2 ^ b.toNat) ∧ runX N ζ P K rs (pc + len) (ls) (.inr (.inr (a * 2 ^ b.toNat)) :: st) (M)) := propext Iff.rfl
theorem q_lorX {a b : Int} : runX N ζ P K ((.lor, len, r1, r2) :: rs) pc ls (.inr (.inr b) :: .inr (.inr a) :: st) M = (0 ≤ a ∧ 0 ≤ b ∧ runX N ζ P K rs (pc + len) (ls) (.inr (.inr ((a.toNat ||| b.toNat : Nat) : Int)) :: st) (M)) := propext Iff.rfl
theorem q_lcmpX {a b : Int} : runX N ζ P K ((.lcmp, len, r1, r2) :: rs) pc ls (.inr (.inr b) :: .inr (.inr a) :: st) M = (runX N ζ P K rs (pc + len) (ls) (.inl (lcv a b) :: st) (M)) := propext Iff.rfl
theorem q_callsX {ix : Nat} : runX N ζ P K ((.invokestatic ix, len, r1, r2) :: rs) pc ls (st) M = (cls N (runX N ζ P K rs (pc + len)) ls st M r1 r2) := propext Iff.rfl
theorem q_callvX {ix : Nat} : runX N ζ P K ((.invokevirtual ix, len, r1, r2) :: rs) pc ls (st) M = (clv N (runX N ζ P K rs (pc + len)) ls st M r1 r2) := propext Iff.rfl
theorem q_gotoX {o : Int} : runX N ζ P K ((.goto o, len, r1, r2) :: rs) pc ls (st) M = (K r1 ls st M) := propext Iff.rfl
theorem q_if_eqX {z o : Int} : runX N ζ P K ((.ifCond .eq o, len, r1, r2) :: rs) pc ls (.inl z :: st) M = ((z = 0 → K r1 ls st M) ∧ (¬ z = 0 → K (pc + 3) ls st M)) := propext Iff.rfl
theorem q_if_neX {z o : Int} : runX N ζ P K ((.ifCond .ne o, len, r1, r2) :: rs) pc ls (.inl z :: st) M = ((¬ z = 0 → K r1 ls st M) ∧ (z = 0 → K (pc + 3) ls st M)) := propext Iff.rfl
theorem q_if_ltX {z o : Int} : runX N ζ P K ((.ifCond .lt o, len, r1, r2) :: rs) pc ls (.inl z :: st) M = ((z < 0 → K r1 ls st M) ∧ (0 ≤ z → K (pc + 3) ls st M)) := propext Iff.rfl
theorem q_if_geX {z o : Int} : runX N ζ P K ((.ifCond .ge o, len, r1, r2) :: rs) pc ls (.inl z :: st) M = ((0 ≤ z → K r1 ls st M) ∧ (z < 0 → K (pc + 3) ls st M)) := propext Iff.rfl
theorem q_if_gtX {z o : Int} : runX N ζ P K ((.ifCond .gt o, len, r1, r2) :: rs) pc ls (.inl z :: st) M = ((0 < z → K r1 ls st M) ∧ (z ≤ 0 → K (pc + 3) ls st M)) := propext Iff.rfl
theorem q_if_leX {z o : Int} : runX N ζ P K ((.ifCond .le o, len, r1, r2) :: rs) pc ls (.inl z :: st) M = ((z ≤ 0 → K r1 ls st M) ∧ (0 < z → K (pc + 3) ls st M)) := propext Iff.rfl
theorem q_ic_eqX {z y o : Int} : runX N ζ P K ((.if_icmp .eq o, len, r1, r2) :: rs) pc ls (.inl y :: .inl z :: st) M = ((z = y → K r1 ls st M) ∧ (¬ z = y → K (pc + 3) ls st M)) := propext Iff.rfl
theorem q_ic_neX {z y o : Int} : runX N ζ P K ((.if_icmp .ne o, len, r1, r2) :: rs) pc ls (.inl y :: .inl z :: st) M = ((¬ z = y → K r1 ls st M) ∧ (z = y → K (pc + 3) ls st M)) := propext Iff.rfl
theorem q_ic_ltX {z y o : Int} : runX N ζ P K ((.if_icmp .lt o, len, r1, r2) :: rs) pc ls (.inl y :: .inl z :: st) M = ((z < y → K r1 ls st M) ∧ (y ≤ z → K (pc + 3) ls st M)) := propext Iff.rfl
theorem q_ic_geX {z y o : Int} : runX N ζ P K ((.if_icmp .ge o, len, r1, r2) :: rs) pc ls (.inl y :: .inl z :: st) M = ((y ≤ z → K r1 ls st M) ∧ (z < y → K (pc + 3) ls st M)) := propext Iff.rfl
theorem q_ic_gtX {z y o : Int} : runX N ζ P K ((.if_icmp .gt o, len, r1, r2) :: rs) pc ls (.inl y :: .inl z :: st) M = ((y < z → K r1 ls st M) ∧ (z ≤ y → K (pc + 3) ls st M)) := propext Iff.rfl
theorem q_ic_leX {z y o : Int} : runX N ζ P K ((.if_icmp .le o, len, r1, r2) :: rs) pc ls (.inl y :: .inl z :: st) M = ((z ≤ y → K r1 ls st M) ∧ (y < z → K (pc + 3) ls st M)) := propext Iff.rfl
theorem q_swX {x d lo hi : Int} {offs : Array Int} : runX N ζ P K ((.tableswitch d lo hi offs, len, r1, r2) :: rs) pc ls (.inl x :: st) M = ((x < lo ∨ hi < x → K (pc + d).toNat ls st M) ∧ tsw K pc ls st M x offs.toList lo) := propext Iff.rfl
theorem q_ret_1X {z : Int} : runX N ζ P K ((.ireturn, len, 1, r2) :: rs) pc ls [.inl z] M = ((1 = 1 → z = 0 ∨ z = 1) ∧ P (some (.inl z)) M) := propext Iff.rfl
theorem q_ret1X {z : Int} : runX N ζ P K ((.ireturn, len, 1, r2) :: rs) pc ls [.inl z] M = ((z = 0 ∨ z = 1) ∧ P (some (.inl z)) M) := by rw [q_ret_1X]; simp
theorem q_ret0X {z : Int} : runX N ζ P K ((.ireturn, len, 0, r2) :: rs) pc ls [.inl z] M = (P (some (.inl z)) M) := by show ((0 = 1 → _) ∧ _) = _; simp
theorem q_vretX  : runX N ζ P K ((.return_, len, r1, r2) :: rs) pc ls ([]) M = (P none M) := propext Iff.rfl
variable {F : List al → List av → am → Prop} {ζ : qx}
theorem q_alnX {a : Nat} : alnX N ζ F ls (.inr (.inl a) :: st) M = (if a = 99 then zon ζ = true ∧ F ls (.inl (zL ζ : Int) :: st) M else a < N ∧ (sh a).1 = 0 ∧ (sh a).2.1 < 100000 ∧ F ls (.inl ((sh a).2.1 : Int) :: st) M) := propext Iff.rfl
theorem q_aldX {a : Nat} {i : Int} : aldX N ζ F ls (.inl i :: .inr (.inl a) :: st) M = (if a = 99 then zon ζ = true ∧ 0 ≤ i ∧ i < zL ζ ∧ F ls (.inl (zX ζ i.toNat) :: st) M else if 100 ≤ a then a < 106 ∧ 0 ≤ i ∧ i < (stL a).length ∧ F ls (.inl (stv a i.toNat) :: st) M else a < N ∧ (sh a).1 = 0 ∧ 0 ≤ i ∧ i < (sh a).2.1 ∧ F ls (.inl (M a i.toNat) :: st) M) := propext Iff.rfl
variable {t : tb4} {stops : List Nat} {n : Nat}
theorem q_runTX : runTX N k ζ P t stops (n + 1) pc ls st M = (if inS pc stops = true then VX N k ζ P pc ls st M else lkp (fun rs => runX N ζ P (runTX N k ζ P t stops n) rs pc ls st M) (VX N k ζ P pc ls st M) t pc) := propext Iff.rfl
theorem q_runT0X : runTX N k ζ P t stops 0 pc ls st M = VX N k ζ P pc ls st M := propext Iff.rfl
theorem q_goX : goX N k ζ P t stops n pc ls st M = lkp (fun rs => runX N ζ P (runTX N k ζ P t stops n) rs pc ls st M) False t pc := propext Iff.rfl
end EQ
