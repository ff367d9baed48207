/-! branches, ends, longs, calls -/
section VF
variable {N k pc : Nat} {P : Option av → am → Prop} {ls : List al} {st : List av} {M : am}
theorem V_goto {off : Int} {tgt : Nat} (hd : decode (mC k) pc = .ok (.goto off, 3)) (ht : (pc : Int) + off = (tgt : Int)) (kk : V N k P tgt ls st M) : V N k P pc ls st M := by
  intro x p l e s m args below meth c H locs lsA hA hP hS hR hl hv
  exact lv_goto hA.1 hA.2.1 hd ht (kk x p l e s m args below meth c H locs lsA hA hP hS hR hl hv)
theorem V_ifeq {off z : Int} {tgt : Nat} (hd : decode (mC k) pc = .ok (.ifCond .eq off, 3)) (ht : (pc : Int) + off = (tgt : Int)) (kt : z = 0 → V N k P tgt ls st M) (kf : ¬ z = 0 → V N k P (pc + 3) ls st M) : V N k P pc ls (.inl z :: st) M := by
  intro x p l e s m args below meth c H locs lsA hA hP hS hR hl hv
  have hz : r32 z := ok_h hv
  have hi := i_eq hz r32_0
  exact lv_if_eq hA.1 hA.2.1 hd ht (fun h => kt (hi.mp h) x p l e s m args below meth c H locs lsA hA hP hS hR hl (ok_t hv)) (fun h => kf (fun q => h (hi.mpr q)) x p l e s m args below meth c H locs lsA hA hP hS hR hl (ok_t hv))
theorem V_ifne {off z : Int} {tgt : Nat} (hd : decode (mC k) pc = .ok (.ifCond .ne off, 3)) (ht : (pc : Int) + off = (tgt : Int)) (kt : ¬ z = 0 → V N k P tgt ls st M) (kf : z = 0 → V N k P (pc + 3) ls st M) : V N k P pc ls (.inl z :: st) M := by
  intro x p l e s m args below meth c H locs lsA hA hP hS hR hl hv
  have hi := i_eq (ok_h hv) r32_0
  exact lv_if_ne hA.1 hA.2.1 hd ht (fun h => kt (fun q => h (hi.mpr q)) x p l e s m args below meth c H locs lsA hA hP hS hR hl (ok_t hv)) (fun h => kf (hi.mp h) x p l e s m args below meth c H locs lsA hA hP hS hR hl (ok_t hv))
theorem V_iflt {off z : Int} {tgt : Nat} (hd : decode (mC k) pc = .ok (.ifCond .lt off, 3)) (ht : (pc : Int) + off = (tgt : Int)) (kt : z < 0 → V N k P tgt ls st M) (kf : 0 ≤ z → V N k P (pc + 3) ls st M) : V N k P pc ls (.inl z :: st) M := by
  intro x p l e s m args below meth c H locs lsA hA hP hS hR hl hv
  have hi := i_lt (ok_h hv) r32_0
  exact lv_if_lt hA.1 hA.2.1 hd ht (fun h => kt (hi.mp h) x p l e s m args below meth c H locs lsA hA hP hS hR hl (ok_t hv)) (fun h => kf (Int.not_lt.mp fun q => h (hi.mpr q)) x p l e s m args below meth c H locs lsA hA hP hS hR hl (ok_t hv))
theorem V_ifge {off z : Int} {tgt : Nat} (hd : decode (mC k) pc = .ok (.ifCond .ge off, 3)) (ht : (pc : Int) + off = (tgt : Int)) (kt : 0 ≤ z → V N k P tgt ls st M) (kf : z < 0 → V N k P (pc + 3) ls st M) : V N k P pc ls (.inl z :: st) M := by
  intro x p l e s m args below meth c H locs lsA hA hP hS hR hl hv
  have hi := i_le r32_0 (ok_h hv)
  exact lv_if_ge hA.1 hA.2.1 hd ht (fun h => kt (hi.mp h) x p l e s m args below meth c H locs lsA hA hP hS hR hl (ok_t hv)) (fun h => kf (Int.not_le.mp fun q => h (hi.mpr q)) x p l e s m args below meth c H locs lsA hA hP hS hR hl (ok_t hv))
theorem V_ifgt {off z : Int} {tgt : Nat} (hd : decode (mC k) pc = .ok (.ifCond .gt off, 3)) (ht : (pc : Int) + off = (tgt : Int)) (kt : 0 < z → V N k P tgt ls st M) (kf : z ≤ 0 → V N k P (pc + 3) ls st M) : V N k P pc ls (.inl z :: st) M := by
  intro x p l e s m args below meth c H locs lsA hA hP hS hR hl hv
  have hi := i_lt r32_0 (ok_h hv)
  exact lv_if_gt hA.1 hA.2.1 hd ht (fun h => kt (hi.mp h) x p l e s m args below meth c H locs lsA hA hP hS hR hl (ok_t hv)) (fun h => kf (Int.not_lt.mp fun q => h (hi.mpr q)) x p l e s m args below meth c H locs lsA hA hP hS hR hl (ok_t hv))
theorem V_ifle {off z : Int} {tgt : Nat} (hd : decode (mC k) pc = .ok (.ifCond .le off, 3)) (ht : (pc : Int) + off = (tgt : Int)) (kt : z ≤ 0 → V N k P tgt ls st M) (kf : 0 < z → V N k P (pc + 3) ls st M) : V N k P pc ls (.inl z :: st) M := by
  intro x p l e s m args below meth c H locs lsA hA hP hS hR hl hv
  have hi := i_le (ok_h hv) r32_0
  exact lv_if_le hA.1 hA.2.1 hd ht (fun h => kt (hi.mp h) x p l e s m args below meth c H locs lsA hA hP hS hR hl (ok_t hv)) (fun h => kf (Int.not_le.mp fun q => h (hi.mpr q)) x p l e s m args below meth c H locs lsA hA hP hS hR hl (ok_t hv))
theorem V_icmpeq {off y z : Int} {tgt : Nat} (hd : decode (mC k) pc = .ok (.if_icmp .eq off, 3)) (ht : (pc : Int) + off = (tgt : Int)) (kt : z = y → V N k P tgt ls st M) (kf : ¬ z = y → V N k P (pc + 3) ls st M) : V N k P pc ls (.inl y :: .inl z :: st) M := by
  intro x p l e s m args below meth c H locs lsA hA hP hS hR hl hv
  have hi := i_eq (ok_h (ok_t hv)) (ok_h hv)
  exact lv_icmp_eq hA.1 hA.2.1 hd ht (fun h => kt (hi.mp h) x p l e s m args below meth c H locs lsA hA hP hS hR hl (ok_t (ok_t hv))) (fun h => kf (fun q => h (hi.mpr q)) x p l e s m args below meth c H locs lsA hA hP hS hR hl (ok_t (ok_t hv)))
theorem V_icmpne {off y z : Int} {tgt : Nat} (hd : decode (mC k) pc = .ok (.if_icmp .ne off, 3)) (ht : (pc : Int) + off = (tgt : Int)) (kt : ¬ z = y → V N k P tgt ls st M) (kf : z = y → V N k P (pc + 3) ls st M) : V N k P pc ls (.inl y :: .inl z :: st) M := by
  intro x p l e s m args below meth c H locs lsA hA hP hS hR hl hv
  have hi := i_eq (ok_h (ok_t hv)) (ok_h hv)
  exact lv_icmp_ne hA.1 hA.2.1 hd ht (fun h => kt (fun q => h (hi.mpr q)) x p l e s m args below meth c H locs lsA hA hP hS hR hl (ok_t (ok_t hv))) (fun h => kf (hi.mp h) x p l e s m args below meth c H locs lsA hA hP hS hR hl (ok_t (ok_t hv)))
theorem V_icmplt {off y z : Int} {tgt : Nat} (hd : decode (mC k) pc = .ok (.if_icmp .lt off, 3)) (ht : (pc : Int) + off = (tgt : Int)) (kt : z < y → V N k P tgt ls st M) (kf : y ≤ z → V N k P (pc + 3) ls st M) : V N k P pc ls (.inl y :: .inl z :: st) M := by
  intro x p l e s m args below meth c H locs lsA hA hP hS hR hl hv
  have hi := i_lt (ok_h (ok_t hv)) (ok_h hv)
  exact lv_icmp_lt hA.1 hA.2.1 hd ht (fun h => kt (hi.mp h) x p l e s m args below meth c H locs lsA hA hP hS hR hl (ok_t (ok_t hv))) (fun h => kf (Int.not_lt.mp fun q => h (hi.mpr q)) x p l e s m args below meth c H locs lsA hA hP hS hR hl (ok_t (ok_t hv)))
theorem V_icmpge {off y z : Int} {tgt : Nat} (hd : decode (mC k) pc = .ok (.if_icmp .ge off, 3)) (ht : (pc : Int) + off = (tgt : Int)) (kt : y ≤ z → V N k P tgt ls st M) (kf : z < y → V N k P (pc + 3) ls st M) : V N k P pc ls (.inl y :: .inl z :: st) M := by
  intro x p l e s m args below meth c H locs lsA hA hP hS hR hl hv
  have hi := i_le (ok_h hv) (ok_h (ok_t hv))
  exact lv_icmp_ge hA.1 hA.2.1 hd ht (fun h => kt (hi.mp h) x p l e s m args below meth c H locs lsA hA hP hS hR hl (ok_t (ok_t hv))) (fun h => kf (Int.not_le.mp fun q => h (hi.mpr q)) x p l e s m args below meth c H locs lsA hA hP hS hR hl (ok_t (ok_t hv)))
theorem V_icmpgt {off y z : Int} {tgt : Nat} (hd : decode (mC k) pc = .ok (.if_icmp .gt off, 3)) (ht : (pc : Int) + off = (tgt : Int)) (kt : y < z → V N k P tgt ls st M) (kf : z ≤ y → V N k P (pc + 3) ls st M) : V N k P pc ls (.inl y :: .inl z :: st) M := by
  intro x p l e s m args below meth c H locs lsA hA hP hS hR hl hv
  have hi := i_lt (ok_h hv) (ok_h (ok_t hv))
  exact lv_icmp_gt hA.1 hA.2.1 hd ht (fun h => kt (hi.mp h) x p l e s m args below meth c H locs lsA hA hP hS hR hl (ok_t (ok_t hv))) (fun h => kf (Int.not_lt.mp fun q => h (hi.mpr q)) x p l e s m args below meth c H locs lsA hA hP hS hR hl (ok_t (ok_t hv)))
theorem V_icmple {off y z : Int} {tgt : Nat} (hd : decode (mC k) pc = .ok (.if_icmp .le off, 3)) (ht : (pc : Int) + off = (tgt : Int)) (kt : z ≤ y → V N k P tgt ls st M) (kf : y < z → V N k P (pc + 3) ls st M) : V N k P pc ls (.inl y :: .inl z :: st) M := by
  intro x p l e s m args below meth c H locs lsA hA hP hS hR hl hv
  have hi := i_le (ok_h (ok_t hv)) (ok_h hv)
  exact lv_icmp_le hA.1 hA.2.1 hd ht (fun h => kt (hi.mp h) x p l e s m args below meth c H locs lsA hA hP hS hR hl (ok_t (ok_t hv))) (fun h => kf (Int.not_le.mp fun q => h (hi.mpr q)) x p l e s m args below meth c H locs lsA hA hP hS hR hl (ok_t (ok_t hv)))
theorem V_iret {z : Int} (hd : decode (mC k) pc = .ok (.ireturn, 1)) (hr0 : mR k = some .int ∨ (mR k = some .boolean ∧ (z = 0 ∨ z = 1))) (h : P (some (.inl z)) M) : V N k P pc ls [.inl z] M := by
  intro x p l e s m args below meth c H locs lsA hA hP hS hR hl hv
  obtain ⟨hx, hb, hml, hr, hown, hlk, hDx, hNx, hTB, hK, hSt⟩ := hA
  have hz : r32 z := ok_h hv
  have hq : ∀ t : State, t.heap = H → s.WarmedH t.vm → Qc x P args s (.returned (some (.int (Int32.ofInt z)))) t := fun t ht _ => ⟨some (.inl z), M, h, hR, (fun v e => by cases e; exact hz), rfl, by rw [ht]; exact hP, hS.F ht⟩
  rcases hr0 with hi | ⟨hi, h01⟩
  · exact W.zret (ty := .int) hx hb (hr.trans hi) rfl hq hS.2.2 hd hlk
  · exact W.zret (ty := .boolean) hx hb (hr.trans hi) (by rcases h01 with rfl | rfl <;> rfl) hq hS.2.2 hd hlk
theorem V_vret (hd : decode (mC k) pc = .ok (.return_, 1)) (hr0 : mR k = none) (h : P none M) : V N k P pc ls [] M := by
  intro x p l e s m args below meth c H locs lsA hA hP hS hR hl hv
  obtain ⟨hx, hb, hml, hr, hown, hlk, hDx, hNx, hTB, hK, hSt⟩ := hA
  have hq : ∀ t : State, t.heap = H → s.WarmedH t.vm → Qc x P args s (.returned none) t := fun t ht _ => ⟨none, M, h, hR, (fun v e => by cases e), rfl, by rw [ht]; exact hP, hS.F ht⟩
  exact W.vret hx hb (hr.trans hr0) hq hS.2.2 hd hlk
theorem V_i2l {z : Int} (hd : decode (mC k) pc = .ok (.i2l, 1)) (kk : V N k P (pc + 1) ls (.inr (.inr z) :: st) M) : V N k P pc ls (.inl z :: st) M := by
  intro x p l e s m args below meth c H locs lsA hA hP hS hR hl hv
  exact lv_i2l hA.1 hA.2.1 hd (l_i2l (ok_h hv)) (kk x p l e s m args below meth c H locs lsA hA hP hS hR hl (ok_c (v := .inr (.inr z)) (r64_32 (ok_h hv)) (ok_t hv)))
theorem V_lconst {q : Fin 2} (hd : decode (mC k) pc = .ok (.lconst q, 1)) (kk : V N k P (pc + 1) ls (.inr (.inr (q.val : Int)) :: st) M) : V N k P pc ls st M := by
  intro x p l e s m args below meth c H locs lsA hA hP hS hR hl hv
  exact lv_lconst hA.1 hA.2.1 hd rfl (kk x p l e s m args below meth c H locs lsA hA hP hS hR hl (ok_c (v := .inr (.inr (q.val : Int))) (show r64 _ by have := q.isLt; unfold r64; omega) hv))
theorem V_lshl {a b : Int} (hd : decode (mC k) pc = .ok (.lshl, 1)) (h0 : 0 ≤ b) (h1 : b < 64) (hz : r64 (a * 2 ^ b.toNat)) (kk : V N k P (pc + 1) ls (.inr (.inr (a * 2 ^ b.toNat)) :: st) M) : V N k P pc ls (.inl b :: .inr (.inr a) :: st) M := by
  intro x p l e s m args below meth c H locs lsA hA hP hS hR hl hv
  exact lv_lshl hA.1 hA.2.1 hd (l_shl h0 h1) (kk x p l e s m args below meth c H locs lsA hA hP hS hR hl (ok_c (v := .inr (.inr (a * 2 ^ b.toNat))) hz (ok_t (ok_t hv))))
theorem V_lor {a b : Int} (hd : decode (mC k) pc = .ok (.lor, 1)) (h0 : 0 ≤ a) (h1 : 0 ≤ b) (kk : V N k P (pc + 1) ls (.inr (.inr ((a.toNat ||| b.toNat : Nat) : Int)) :: st) M) : V N k P pc ls (.inr (.inr b) :: .inr (.inr a) :: st) M := by
  intro x p l e s m args below meth c H locs lsA hA hP hS hR hl hv
  have hz : r64 ((a.toNat ||| b.toNat : Nat) : Int) := by
    have h2 : r64 b := ok_h hv
    have h3 : r64 a := ok_h (ok_t hv)
    unfold r64 at h2 h3
    have h4 := Nat.or_lt_two_pow (show a.toNat < 2 ^ 63 by omega) (show b.toNat < 2 ^ 63 by omega)
    unfold r64
    omega
  have h := kk x p l e s m args below meth c H locs lsA hA hP hS hR hl (ok_c (v := .inr (.inr ((a.toNat ||| b.toNat : Nat) : Int))) hz (ok_t (ok_t hv)))
  refine lv_lor hA.1 hA.2.1 hd ?_
  rw [l_or h0 h1]; exact h
def lcv (a b : Int) : Int := if b < a then 1 else if a = b then 0 else -1
theorem lg_cv {a b : Int} (ha : r64 a) (hb : r64 b) : lg_cmp (Int64.ofInt a) (Int64.ofInt b) = Int32.ofInt (lcv a b) := by
  have h2 := l_lt hb ha
  have h3 := l_eq ha hb
  unfold lg_cmp lcv
  by_cases h : b < a
  · rw [if_pos h, if_pos (h2.mpr h)]; rfl
  · rw [if_neg h, if_neg (fun q => h (h2.mp q))]
    by_cases h' : a = b
    · rw [if_pos h', if_pos (h3.mpr h')]; rfl
    · rw [if_neg h', if_neg (fun q => h' (h3.mp q))]; rfl
theorem lcv_r (a b : Int) : r32 (lcv a b) := by
  unfold lcv r32
  split
  · omega
  · split <;> omega
theorem V_lcmp {a b : Int} (hd : decode (mC k) pc = .ok (.lcmp, 1)) (kk : V N k P (pc + 1) ls (.inl (lcv a b) :: st) M) : V N k P pc ls (.inr (.inr b) :: .inr (.inr a) :: st) M := by
  intro x p l e s m args below meth c H locs lsA hA hP hS hR hl hv
  have hz := lcv_r a b
  have h := kk x p l e s m args below meth c H locs lsA hA hP hS hR hl (ok_c (v := .inl (lcv a b)) hz (ok_t (ok_t hv)))
  refine W.lcmp hA.1 hA.2.1 hd ?_
  rw [lg_cv (ok_h (ok_t hv)) (ok_h hv)]; exact h
end VF
