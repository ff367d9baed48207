/-! one row an instruction, in the words of the judgement -/
section VR
variable {N k pc : Nat} {P : Option av → am → Prop} {ls : List al} {st : List av} {M : am}
theorem ok_c {v : av} {st : List av} (h : okv v) (hs : ∀ w ∈ st, okv w) : ∀ w ∈ v :: st, okv w := fun w hw => (List.mem_cons.mp hw).elim (fun e => e ▸ h) (hs w)
theorem ok_t {v : av} {st : List av} (hs : ∀ w ∈ v :: st, okv w) : ∀ w ∈ st, okv w := fun w hw => hs w (List.mem_cons_of_mem _ hw)
theorem ok_h {v : av} {st : List av} (hs : ∀ w ∈ v :: st, okv w) : okv v := hs v List.mem_cons_self
theorem V_iconst {z : Int} (hd : decode (mC k) pc = .ok (.iconst z, 1)) (hz : r32 z) (kk : V N k P (pc + 1) ls (.inl z :: st) M) : V N k P pc ls st M := by
  intro x p l e s m args below meth c H locs lsA hA hP hS hR hl hv
  exact lv_iconst hA.1 hA.2.1 hd rfl (kk x p l e s m args below meth c H locs lsA hA hP hS hR hl (ok_c (v := .inl z) hz hv))
theorem V_bipush {z : Int} (hd : decode (mC k) pc = .ok (.bipush z, 2)) (h1 : -128 ≤ z) (h2 : z ≤ 127) (kk : V N k P (pc + 2) ls (.inl z :: st) M) : V N k P pc ls st M := by
  intro x p l e s m args below meth c H locs lsA hA hP hS hR hl hv
  exact lv_bipush hA.1 hA.2.1 hd (i_bip h1 h2) (kk x p l e s m args below meth c H locs lsA hA hP hS hR hl (ok_c (v := .inl z) (show r32 z by unfold r32; omega) hv))
theorem V_sipush {z : Int} (hd : decode (mC k) pc = .ok (.sipush z, 3)) (h1 : -32768 ≤ z) (h2 : z ≤ 32767) (kk : V N k P (pc + 3) ls (.inl z :: st) M) : V N k P pc ls st M := by
  intro x p l e s m args below meth c H locs lsA hA hP hS hR hl hv
  exact lv_sipush hA.1 hA.2.1 hd (i_sip h1 h2) (kk x p l e s m args below meth c H locs lsA hA hP hS hR hl (ok_c (v := .inl z) (show r32 z by unfold r32; omega) hv))
theorem V_ldc {ix v : Nat} (hd : decode (mC k) pc = .ok (.ldc ix, 2)) (hw : gw (.constant (cnm (mN k)) ix (Int32.ofNat v)) = true) (hv0 : v ≤ 2147483647) (kk : V N k P (pc + 2) ls (.inl v :: st) M) : V N k P pc ls st M := by
  intro x p l e s m args below meth c H locs lsA hA hP hS hR hl hv
  exact lv_ldc hA.1 hA.2.1 hA.2.2.2.2.1 (hA.2.2.2.2.2.2.2.2.1.use hw args) hd (kk x p l e s m args below meth c H locs lsA hA hP hS hR hl (ok_c (v := .inl v) (show r32 v by unfold r32; omega) hv))
theorem V_ldcw {ix v : Nat} (hd : decode (mC k) pc = .ok (.ldc_w ix, 3)) (hw : gw (.constant (cnm (mN k)) ix (Int32.ofNat v)) = true) (hv0 : v ≤ 2147483647) (kk : V N k P (pc + 3) ls (.inl v :: st) M) : V N k P pc ls st M := by
  intro x p l e s m args below meth c H locs lsA hA hP hS hR hl hv
  exact lv_ldcw hA.1 hA.2.1 hA.2.2.2.2.1 (hA.2.2.2.2.2.2.2.2.1.use hw args) hd (kk x p l e s m args below meth c H locs lsA hA hP hS hR hl (ok_c (v := .inl v) (show r32 v by unfold r32; omega) hv))
theorem V_iload {i : Nat} {z : Int} (hd : decode (mC k) pc = .ok (.iload i, 2)) (hi : ls[i]? = some (some (.inl z))) (kk : V N k P (pc + 2) ls (.inl z :: st) M) : V N k P pc ls st M := by
  intro x p l e s m args below meth c H locs lsA hA hP hS hR hl hv
  obtain ⟨h1, h2⟩ := hl.2.2.2 i _ hi
  exact lv_iload hA.1 hA.2.1 hd h1 (kk x p l e s m args below meth c H locs lsA hA hP hS hR hl (ok_c (v := .inl z) h2 hv))
theorem V_iload_n {i : Fin 4} {z : Int} (hd : decode (mC k) pc = .ok (.iload_n i, 1)) (hi : ls[i.val]? = some (some (.inl z))) (kk : V N k P (pc + 1) ls (.inl z :: st) M) : V N k P pc ls st M := by
  intro x p l e s m args below meth c H locs lsA hA hP hS hR hl hv
  obtain ⟨h1, h2⟩ := hl.2.2.2 i.val _ hi
  exact lv_iload_n hA.1 hA.2.1 hd rfl h1 (kk x p l e s m args below meth c H locs lsA hA hP hS hR hl (ok_c (v := .inl z) h2 hv))
theorem V_aload {i : Nat} {a : Nat} (hd : decode (mC k) pc = .ok (.aload i, 2)) (hi : ls[i]? = some (some (.inr a))) (kk : V N k P (pc + 2) ls (.inr (.inl a) :: st) M) : V N k P pc ls st M := by
  intro x p l e s m args below meth c H locs lsA hA hP hS hR hl hv
  obtain ⟨h1, h2⟩ := hl.2.2.2 i _ hi
  exact lv_aload hA.1 hA.2.1 hd h1 (kk x p l e s m args below meth c H locs lsA hA hP hS hR hl (ok_c (v := .inr (.inl a)) trivial hv))
theorem V_aload_n {i : Fin 4} {a : Nat} (hd : decode (mC k) pc = .ok (.aload_n i, 1)) (hi : ls[i.val]? = some (some (.inr a))) (kk : V N k P (pc + 1) ls (.inr (.inl a) :: st) M) : V N k P pc ls st M := by
  intro x p l e s m args below meth c H locs lsA hA hP hS hR hl hv
  obtain ⟨h1, h2⟩ := hl.2.2.2 i.val _ hi
  exact lv_aload_n hA.1 hA.2.1 hd rfl h1 (kk x p l e s m args below meth c H locs lsA hA hP hS hR hl (ok_c (v := .inr (.inl a)) trivial hv))
theorem V_istore {i : Nat} {z : Int} (hd : decode (mC k) pc = .ok (.istore i, 2)) (hi : i < mL k) (kk : V N k P (pc + 2) (ls.set i (some (.inl z))) st M) : V N k P pc ls (.inl z :: st) M := by
  intro x p l e s m args below meth c H locs lsA hA hP hS hR hl hv
  obtain ⟨ls', e1, h2⟩ := hl.store (v := .inl z) hi (ok_h hv)
  intro T hT X
  obtain ⟨t, a, b⟩ := kk x p l e s m args below meth c H locs ls' hA hP hS hR h2 (ok_t hv) T hT X
  refine ⟨t, ?_, b⟩
  have e1 : storeLocals lsA i (.int (Int32.ofInt z)) = some ls' := e1
  have hb := hA.2.1
  have hexec := hA.1
  show Steps p.tables e below (T.setTop (F0 m pc lsA (.int (Int32.ofInt z) :: st.map (vl x)))) t
  jvm_step X.here [X.here.top, ↓top_set X.here.top, hexec, hb, hd, e1]
  exact a
theorem V_istore_n {i : Fin 4} {z : Int} (hd : decode (mC k) pc = .ok (.istore_n i, 1)) (hi : i.val < mL k) (kk : V N k P (pc + 1) (ls.set i.val (some (.inl z))) st M) : V N k P pc ls (.inl z :: st) M := by
  intro x p l e s m args below meth c H locs lsA hA hP hS hR hl hv
  obtain ⟨ls', e1, h2⟩ := hl.store (v := .inl z) hi (ok_h hv)
  intro T hT X
  obtain ⟨t, a, b⟩ := kk x p l e s m args below meth c H locs ls' hA hP hS hR h2 (ok_t hv) T hT X
  refine ⟨t, ?_, b⟩
  have e1 : storeLocals lsA i.val (.int (Int32.ofInt z)) = some ls' := e1
  have hb := hA.2.1
  have hexec := hA.1
  show Steps p.tables e below (T.setTop (F0 m pc lsA (.int (Int32.ofInt z) :: st.map (vl x)))) t
  jvm_step X.here [X.here.top, ↓top_set X.here.top, hexec, hb, hd, e1]
  exact a
theorem V_iinc {i : Nat} {n z : Int} (hd : decode (mC k) pc = .ok (.iinc i n, 3)) (hn : i < mL k) (hi : ls[i]? = some (some (.inl z))) (hz : r32 (z + n)) (kk : V N k P (pc + 3) (ls.set i (some (.inl (z + n)))) st M) : V N k P pc ls st M := by
  intro x p l e s m args below meth c H locs lsA hA hP hS hR hl hv
  obtain ⟨h1, h2⟩ := hl.2.2.2 i _ hi
  obtain ⟨ls', e1, h2⟩ := hl.store (v := .inl (z + n)) hn hz
  intro T hT X
  obtain ⟨t, a, b⟩ := kk x p l e s m args below meth c H locs ls' hA hP hS hR h2 hv T hT X
  refine ⟨t, ?_, b⟩
  have e1 : storeLocals lsA i (.int (Int32.ofInt z + Int32.ofInt n)) = some ls' := by rw [i_add]; exact e1
  have h1 : lsA[i]? = some (.val (.int (Int32.ofInt z))) := h1
  have hb := hA.2.1
  have hexec := hA.1
  jvm_step X.here [X.here.top, ↓top_set X.here.top, hexec, hb, hd, h1, e1]
  exact a
theorem V_iadd {a b : Int} (hd : decode (mC k) pc = .ok (.iadd, 1)) (hz : r32 (a + b)) (kk : V N k P (pc + 1) ls (.inl (a + b) :: st) M) : V N k P pc ls (.inl b :: .inl a :: st) M := by
  intro x p l e s m args below meth c H locs lsA hA hP hS hR hl hv
  have h := kk x p l e s m args below meth c H locs lsA hA hP hS hR hl (ok_c (v := .inl (a + b)) hz (ok_t (ok_t hv)))
  refine lv_iadd hA.1 hA.2.1 hd ?_
  rw [i_add]; exact h
theorem V_isub {a b : Int} (hd : decode (mC k) pc = .ok (.isub, 1)) (hz : r32 (a - b)) (kk : V N k P (pc + 1) ls (.inl (a - b) :: st) M) : V N k P pc ls (.inl b :: .inl a :: st) M := by
  intro x p l e s m args below meth c H locs lsA hA hP hS hR hl hv
  have h := kk x p l e s m args below meth c H locs lsA hA hP hS hR hl (ok_c (v := .inl (a - b)) hz (ok_t (ok_t hv)))
  refine lv_isub hA.1 hA.2.1 hd ?_
  rw [i_sub]; exact h
theorem V_imul {a b : Int} (hd : decode (mC k) pc = .ok (.imul, 1)) (hz : r32 (a * b)) (kk : V N k P (pc + 1) ls (.inl (a * b) :: st) M) : V N k P pc ls (.inl b :: .inl a :: st) M := by
  intro x p l e s m args below meth c H locs lsA hA hP hS hR hl hv
  have h := kk x p l e s m args below meth c H locs lsA hA hP hS hR hl (ok_c (v := .inl (a * b)) hz (ok_t (ok_t hv)))
  refine lv_imul hA.1 hA.2.1 hd ?_
  rw [i_mul]; exact h
theorem V_ineg {a : Int} (hd : decode (mC k) pc = .ok (.ineg, 1)) (hz : r32 (-a)) (kk : V N k P (pc + 1) ls (.inl (-a) :: st) M) : V N k P pc ls (.inl a :: st) M := by
  intro x p l e s m args below meth c H locs lsA hA hP hS hR hl hv
  have h := kk x p l e s m args below meth c H locs lsA hA hP hS hR hl (ok_c (v := .inl (-a)) hz (ok_t hv))
  refine lv_ineg hA.1 hA.2.1 hd ?_
  rw [i_neg]; exact h
theorem V_idiv {a b : Int} (hd : decode (mC k) pc = .ok (.idiv, 1)) (h0 : 0 ≤ a) (h1 : 0 < b) (kk : V N k P (pc + 1) ls (.inl (a / b) :: st) M) : V N k P pc ls (.inl b :: .inl a :: st) M := by
  intro x p l e s m args below meth c H locs lsA hA hP hS hR hl hv
  have ha : r32 a := ok_h (ok_t hv)
  have hb : r32 b := ok_h hv
  have hz : r32 (a / b) := by
    unfold r32 at *
    have h2 := Int.ediv_le_self b h0
    have h3 := Int.ediv_nonneg h0 (Int.le_of_lt h1)
    omega
  have h := kk x p l e s m args below meth c H locs lsA hA hP hS hR hl (ok_c (v := .inl (a / b)) hz (ok_t (ok_t hv)))
  refine lv_idiv hA.1 hA.2.1 hd (by rw [i_0, i_eq hb r32_0]; omega) ?_
  rw [i_div ha hb h0 h1]; exact h
theorem V_irem {a b : Int} (hd : decode (mC k) pc = .ok (.irem, 1)) (h0 : 0 ≤ a) (h1 : 0 < b) (kk : V N k P (pc + 1) ls (.inl (a % b) :: st) M) : V N k P pc ls (.inl b :: .inl a :: st) M := by
  intro x p l e s m args below meth c H locs lsA hA hP hS hR hl hv
  have ha : r32 a := ok_h (ok_t hv)
  have hb : r32 b := ok_h hv
  have hz : r32 (a % b) := by
    have h2 := Int.emod_nonneg a (Int.ne_of_gt h1)
    have h3 := Int.emod_lt_of_pos a h1
    unfold r32 at *
    omega
  have h := kk x p l e s m args below meth c H locs lsA hA hP hS hR hl (ok_c (v := .inl (a % b)) hz (ok_t (ok_t hv)))
  refine lv_irem hA.1 hA.2.1 hd (by rw [i_0, i_eq hb r32_0]; omega) ?_
  rw [i_rem ha hb h0 h1]; exact h
theorem V_imask {a : Int} {q : Nat} (hd : decode (mC k) pc = .ok (.iand, 1)) (hq : q < 31) (kk : V N k P (pc + 1) ls (.inl (a % 2 ^ q) :: st) M) : V N k P pc ls (.inl (2 ^ q - 1) :: .inl a :: st) M := by
  intro x p l e s m args below meth c H locs lsA hA hP hS hR hl hv
  have hz : r32 (a % 2 ^ q) := by
    have h2 := Int.emod_nonneg a (show (2 : Int) ^ q ≠ 0 from Int.ne_of_gt (Int.pow_pos (by decide)))
    have h3 := Int.emod_lt_of_pos a (show (0 : Int) < 2 ^ q from Int.pow_pos (by decide))
    have h4 : r32 (2 ^ q - 1) := ok_h hv
    unfold r32 at *
    omega
  have h := kk x p l e s m args below meth c H locs lsA hA hP hS hR hl (ok_c (v := .inl (a % 2 ^ q)) hz (ok_t (ok_t hv)))
  refine lv_iand hA.1 hA.2.1 hd ?_
  rw [i_and hq]; exact h
theorem i_andn {x y : Int} (hx : 0 ≤ x) (hy : 0 ≤ y) : Int32.ofInt x &&& Int32.ofInt y = Int32.ofInt ((x.toNat &&& y.toNat : Nat) : Int) := by
  obtain ⟨a, rfl⟩ := Int.eq_ofNat_of_zero_le hx
  obtain ⟨b, rfl⟩ := Int.eq_ofNat_of_zero_le hy
  rw [i_nat, i_nat, i_nat]
  apply Int32.toBitVec_inj.mp
  show BitVec.ofNat 32 a &&& BitVec.ofNat 32 b = BitVec.ofNat 32 _
  simp only [Int.toNat_natCast]
  apply BitVec.eq_of_getLsbD_eq
  intro i hi
  simp [hi]
theorem n_lt {a : Int} (h : r32 a) (h0 : 0 ≤ a) : a.toNat < 2 ^ 31 := by unfold r32 at h; omega
theorem V_iand {a b : Int} (hd : decode (mC k) pc = .ok (.iand, 1)) (h0 : 0 ≤ a) (h1 : 0 ≤ b) (kk : V N k P (pc + 1) ls (.inl ((a.toNat &&& b.toNat : Nat) : Int) :: st) M) : V N k P pc ls (.inl b :: .inl a :: st) M := by
  intro x p l e s m args below meth c H locs lsA hA hP hS hR hl hv
  have hz : r32 ((a.toNat &&& b.toNat : Nat) : Int) := by
    have h2 := n_lt (ok_h hv) h1
    have h3 := Nat.and_lt_two_pow a.toNat h2
    unfold r32
    omega
  have h := kk x p l e s m args below meth c H locs lsA hA hP hS hR hl (ok_c (v := .inl ((a.toNat &&& b.toNat : Nat) : Int)) hz (ok_t (ok_t hv)))
  refine lv_iand hA.1 hA.2.1 hd ?_
  rw [i_andn h0 h1]; exact h
theorem V_ior {a b : Int} (hd : decode (mC k) pc = .ok (.ior, 1)) (h0 : 0 ≤ a) (h1 : 0 ≤ b) (kk : V N k P (pc + 1) ls (.inl ((a.toNat ||| b.toNat : Nat) : Int) :: st) M) : V N k P pc ls (.inl b :: .inl a :: st) M := by
  intro x p l e s m args below meth c H locs lsA hA hP hS hR hl hv
  have hz : r32 ((a.toNat ||| b.toNat : Nat) : Int) := by
    have h2 := n_lt (ok_h hv) h1
    have h3 := n_lt (ok_h (ok_t hv)) h0
    have h4 := Nat.or_lt_two_pow h3 h2
    unfold r32
    omega
  have h := kk x p l e s m args below meth c H locs lsA hA hP hS hR hl (ok_c (v := .inl ((a.toNat ||| b.toNat : Nat) : Int)) hz (ok_t (ok_t hv)))
  refine lv_ior hA.1 hA.2.1 hd ?_
  rw [i_or h0 h1]; exact h
theorem V_ixor {a b : Int} (hd : decode (mC k) pc = .ok (.ixor, 1)) (h0 : 0 ≤ a) (h1 : 0 ≤ b) (kk : V N k P (pc + 1) ls (.inl ((a.toNat ^^^ b.toNat : Nat) : Int) :: st) M) : V N k P pc ls (.inl b :: .inl a :: st) M := by
  intro x p l e s m args below meth c H locs lsA hA hP hS hR hl hv
  have hz : r32 ((a.toNat ^^^ b.toNat : Nat) : Int) := by
    have h2 := n_lt (ok_h hv) h1
    have h3 := n_lt (ok_h (ok_t hv)) h0
    have h4 := Nat.xor_lt_two_pow h3 h2
    unfold r32
    omega
  have h := kk x p l e s m args below meth c H locs lsA hA hP hS hR hl (ok_c (v := .inl ((a.toNat ^^^ b.toNat : Nat) : Int)) hz (ok_t (ok_t hv)))
  refine lv_ixor hA.1 hA.2.1 hd ?_
  rw [i_xor h0 h1]; exact h
theorem r32_shr {a : Int} {n : Nat} (h : r32 a) : r32 (a / 2 ^ n) := by
  have hp : (0 : Int) < 2 ^ n := Int.pow_pos (by decide)
  unfold r32 at *
  refine ⟨Int.le_ediv_of_mul_le hp ?_, Int.ediv_le_of_le_mul hp ?_⟩
  · have : (1 : Int) ≤ 2 ^ n := by omega
    have := Int.mul_le_mul_of_nonneg_left this (show (0 : Int) ≤ 2147483648 by decide)
    omega
  · have : (1 : Int) ≤ 2 ^ n := by omega
    have := Int.mul_le_mul_of_nonneg_left this (show (0 : Int) ≤ 2147483647 by decide)
    omega
theorem V_ishr {a b : Int} (hd : decode (mC k) pc = .ok (.ishr, 1)) (h0 : 0 ≤ b) (h1 : b < 32) (kk : V N k P (pc + 1) ls (.inl (a / 2 ^ b.toNat) :: st) M) : V N k P pc ls (.inl b :: .inl a :: st) M := by
  intro x p l e s m args below meth c H locs lsA hA hP hS hR hl hv
  have h := kk x p l e s m args below meth c H locs lsA hA hP hS hR hl (ok_c (v := .inl (a / 2 ^ b.toNat)) (r32_shr (ok_h (ok_t hv))) (ok_t (ok_t hv)))
  refine lv_ishr hA.1 hA.2.1 hd ?_
  rw [i_shr (ok_h (ok_t hv)) h0 h1]; exact h
theorem V_ishl {a b : Int} (hd : decode (mC k) pc = .ok (.ishl, 1)) (h0 : 0 ≤ b) (h1 : b < 32) (hz : r32 (a * 2 ^ b.toNat)) (kk : V N k P (pc + 1) ls (.inl (a * 2 ^ b.toNat) :: st) M) : V N k P pc ls (.inl b :: .inl a :: st) M := by
  intro x p l e s m args below meth c H locs lsA hA hP hS hR hl hv
  have h := kk x p l e s m args below meth c H locs lsA hA hP hS hR hl (ok_c (v := .inl (a * 2 ^ b.toNat)) hz (ok_t (ok_t hv)))
  refine lv_ishl hA.1 hA.2.1 hd ?_
  rw [i_shl h0 h1]; exact h
theorem i_ush : ∀ n : Fin 32, (((Int32.ofInt (n.val : Int)).toUInt32 &&& Int32.toUInt32 31).toBitVec % 32).toNat = n.val := by decide +kernel
theorem i_ushr {x y : Int} (hx : r32 x) (hx0 : 0 ≤ x) (h0 : 0 ≤ y) (h1 : y < 32) : ((Int32.ofInt x).toUInt32 >>> ((Int32.ofInt y).toUInt32 &&& Int32.toUInt32 31)).toInt32 = Int32.ofInt (x / 2 ^ y.toNat) := by
  obtain ⟨n, rfl⟩ := Int.eq_ofNat_of_zero_le h0
  obtain ⟨a, rfl⟩ := Int.eq_ofNat_of_zero_le hx0
  rw [i_nat a, pk_ushrN (by unfold r32 at hx; omega) _ n (i_ush ⟨n, by omega⟩), ← i_nat]
  simp only [Int.toNat_natCast]
  congr 1
theorem V_iushr {a b : Int} (hd : decode (mC k) pc = .ok (.iushr, 1)) (ha : 0 ≤ a) (h0 : 0 ≤ b) (h1 : b < 32) (kk : V N k P (pc + 1) ls (.inl (a / 2 ^ b.toNat) :: st) M) : V N k P pc ls (.inl b :: .inl a :: st) M := by
  intro x p l e s m args below meth c H locs lsA hA hP hS hR hl hv
  exact lv_iushr hA.1 hA.2.1 hd (i_ushr (ok_h (ok_t hv)) ha h0 h1) (kk x p l e s m args below meth c H locs lsA hA hP hS hR hl (ok_c (v := .inl (a / 2 ^ b.toNat)) (r32_shr (ok_h (ok_t hv))) (ok_t (ok_t hv))))
theorem vl_cat {v : av} (x : cx) (h : ∀ z, v ≠ .inr (.inr z)) : (vl x v).category = 1 := by
  rcases v with z | a | z
  · rfl
  · rfl
  · exact absurd rfl (h z)
theorem V_dup {v : av} (hd : decode (mC k) pc = .ok (.dup, 1)) (h : ∀ z, v ≠ .inr (.inr z)) (kk : V N k P (pc + 1) ls (v :: v :: st) M) : V N k P pc ls (v :: st) M := by
  intro x p l e s m args below meth c H locs lsA hA hP hS hR hl hv
  exact lv_dup hA.1 hA.2.1 hd (vl_cat x h) (kk x p l e s m args below meth c H locs lsA hA hP hS hR hl (ok_c (ok_h hv) hv))
theorem V_pop {v : av} (hd : decode (mC k) pc = .ok (.pop, 1)) (h : ∀ z, v ≠ .inr (.inr z)) (kk : V N k P (pc + 1) ls st M) : V N k P pc ls (v :: st) M := by
  intro x p l e s m args below meth c H locs lsA hA hP hS hR hl hv
  exact lv_pop hA.1 hA.2.1 hd (vl_cat x h) (kk x p l e s m args below meth c H locs lsA hA hP hS hR hl (ok_t hv))
theorem V_dup2 {v w : av} (hd : decode (mC k) pc = .ok (.dup2, 1)) (h : ∀ z, v ≠ .inr (.inr z)) (h' : ∀ z, w ≠ .inr (.inr z)) (kk : V N k P (pc + 1) ls (v :: w :: v :: w :: st) M) : V N k P pc ls (v :: w :: st) M := by
  intro x p l e s m args below meth c H locs lsA hA hP hS hR hl hv
  exact lv_dup2_11 hA.1 hA.2.1 hd (vl_cat x h) (vl_cat x h') (kk x p l e s m args below meth c H locs lsA hA hP hS hR hl (ok_c (ok_h hv) (ok_c (ok_h (ok_t hv)) hv)))
end VR
