/-! Int32 and Int64 as Ints in range -/
theorem i_toInt {z : Int} (h : r32 z) : (Int32.ofInt z).toInt = z := Int32.toInt_ofInt_of_le (by have := h.1; simpa using this) (by have := h.2; omega)
theorem i_eq {x y : Int} (hx : r32 x) (hy : r32 y) : Int32.ofInt x = Int32.ofInt y ↔ x = y :=
  ⟨fun h => by rw [← i_toInt hx, ← i_toInt hy, h], fun h => by rw [h]⟩
theorem i_lt {x y : Int} (hx : r32 x) (hy : r32 y) : Int32.ofInt x < Int32.ofInt y ↔ x < y := by
  rw [Int32.lt_iff_toInt_lt, i_toInt hx, i_toInt hy]
theorem i_le {x y : Int} (hx : r32 x) (hy : r32 y) : Int32.ofInt x ≤ Int32.ofInt y ↔ x ≤ y := by
  rw [Int32.le_iff_toInt_le, i_toInt hx, i_toInt hy]
theorem i_0 : (0 : Int32) = Int32.ofInt 0 := rfl
theorem r32_0 : r32 0 := by unfold r32; omega
theorem i_clamp {z : Int} (h : r32 z) : (Int32.ofInt z).toNatClampNeg = z.toNat := by
  rw [Int32.toNatClampNeg, i_toInt h]
theorem i_in {z : Int} {n : Nat} (h : r32 z) (h0 : 0 ≤ z) (h1 : z < n) : vp_in (Int32.ofInt z) n := by
  rw [vp_in_iff, i_toInt h]
  exact ⟨h0, h1⟩
theorem i_add (x y : Int) : Int32.ofInt x + Int32.ofInt y = Int32.ofInt (x + y) := (Int32.ofInt_add x y).symm
theorem i_sub (x y : Int) : Int32.ofInt x - Int32.ofInt y = Int32.ofInt (x - y) := (Int32.ofInt_sub x y).symm
theorem i_mul (x y : Int) : Int32.ofInt x * Int32.ofInt y = Int32.ofInt (x * y) := (Int32.ofInt_mul x y).symm
theorem i_neg (x : Int) : -Int32.ofInt x = Int32.ofInt (-x) := (Int32.ofInt_neg x).symm
theorem i_ext {x y : Int32} (h : x.toInt = y.toInt) : x = y := Int32.toInt_inj.mp h
theorem i_div {x y : Int} (hx : r32 x) (hy : r32 y) (h0 : 0 ≤ x) (h1 : 0 < y) : Int32.ofInt x / Int32.ofInt y = Int32.ofInt (x / y) := by
  have hq : r32 (x / y) := by
    unfold r32 at *
    have h2 := Int.ediv_le_self y h0
    have h3 := Int.ediv_nonneg h0 (Int.le_of_lt h1)
    omega
  apply i_ext
  rw [Int32.toInt_div, i_toInt hx, i_toInt hy, i_toInt hq, Int.tdiv_eq_ediv_of_nonneg h0]
  exact Int.bmod_eq_of_le (by have := hq.1; omega) (by have := hq.2; omega)
theorem i_rem {x y : Int} (hx : r32 x) (hy : r32 y) (h0 : 0 ≤ x) (h1 : 0 < y) : Int32.ofInt x - Int32.ofInt x / Int32.ofInt y * Int32.ofInt y = Int32.ofInt (x % y) := by
  rw [i_div hx hy h0 h1, i_mul, i_sub, Int.emod_def, Int.mul_comm]
theorem i_bip {z : Int} (h1 : -128 ≤ z) (h2 : z ≤ 127) : (Int8.ofInt z).toInt32 = Int32.ofInt z := by
  apply i_ext
  rw [Int8.toInt_toInt32, i_toInt (by unfold r32; omega)]
  exact Int8.toInt_ofInt_of_le (by simpa using h1) (by omega)
theorem i_sip {z : Int} (h1 : -32768 ≤ z) (h2 : z ≤ 32767) : (Int16.ofInt z).toInt32 = Int32.ofInt z := by
  apply i_ext
  rw [Int16.toInt_toInt32, i_toInt (by unfold r32; omega)]
  exact Int16.toInt_ofInt_of_le (by simpa using h1) (by omega)
theorem i_tbv (z : Int) : (Int32.ofInt z).toBitVec = BitVec.ofInt 32 z := rfl
theorem i_nat (n : Nat) : Int32.ofInt (n : Int) = nI n := rfl
theorem i_tn (z : Int) : (Int32.ofInt z).toBitVec.toNat = (z % 4294967296).toNat := by
  rw [i_tbv, BitVec.toNat_ofInt]
  rfl
theorem i_bext {x y : Int32} (h : x.toBitVec.toNat = y.toBitVec.toNat) : x = y := Int32.toBitVec_inj.mp (BitVec.eq_of_toNat_eq h)
theorem i_and {x : Int} {k : Nat} (hk : k < 31) : Int32.ofInt x &&& Int32.ofInt (2 ^ k - 1) = Int32.ofInt (x % 2 ^ k) := by
  have hp : (0 : Int) < 2 ^ k := Int.pow_pos (by decide)
  have hle : (2 : Nat) ^ k ≤ 2 ^ 30 := Nat.pow_le_pow_right (by decide) (by omega)
  have hp1 : 0 < 2 ^ k := Nat.pow_pos (by decide)
  have hcast : ((2 : Int) ^ k) = ((2 ^ k : Nat) : Int) := by simp
  have hm : (Int32.ofInt (2 ^ k - 1)).toBitVec.toNat = 2 ^ k - 1 := by
    rw [i_tn, hcast, show (((2 ^ k : Nat) : Int) - 1) = ((2 ^ k - 1 : Nat) : Int) by omega, Int.emod_eq_of_lt (by omega) (by omega)]
    rfl
  rw [pk_and _ k hm, i_tn, ← i_nat]
  congr 1
  have h1 := Int.emod_nonneg x (show (4294967296 : Int) ≠ 0 by decide)
  have hdvd : ((2 : Int) ^ k) ∣ 4294967296 := ⟨2 ^ (32 - k), by rw [← Int.pow_add, show k + (32 - k) = 32 by omega]; rfl⟩
  rw [Int.natCast_emod, Int.toNat_of_nonneg h1, ← hcast, Int.emod_emod_of_dvd x hdvd]
theorem i_sh : ∀ n : Fin 32, ((Int32.ofInt (n.val : Int) &&& 31).toBitVec.smod 32).toNat = n.val := by decide +kernel
theorem i_shr {x y : Int} (hx : r32 x) (h0 : 0 ≤ y) (h1 : y < 32) : Int32.ofInt x >>> (Int32.ofInt y &&& 31) = Int32.ofInt (x / 2 ^ y.toNat) := by
  obtain ⟨n, rfl⟩ := Int.eq_ofNat_of_zero_le h0
  have hn : n < 32 := by omega
  have hp : (0 : Int) < 2 ^ n := Int.pow_pos (by decide)
  apply i_ext
  rw [pk_shr _ _ n (i_sh ⟨n, hn⟩), i_toInt hx, Int.shiftRight_eq_div_pow, i_toInt]
  · simp
  · simp only [Int.toNat_natCast]
    unfold r32 at *
    have a1 := Int.le_ediv_of_mul_le hp (show -2147483648 * 2 ^ n ≤ x by
      have : (1 : Int) ≤ 2 ^ n := by omega
      have := Int.mul_le_mul_of_nonneg_left this (show (0 : Int) ≤ 2147483648 by decide)
      omega)
    have a2 := Int.ediv_le_of_le_mul hp (show x ≤ 2147483647 * 2 ^ n by
      have : (1 : Int) ≤ 2 ^ n := by omega
      have := Int.mul_le_mul_of_nonneg_left this (show (0 : Int) ≤ 2147483647 by decide)
      omega)
    exact ⟨a1, a2⟩
theorem i_shl {x y : Int} (h0 : 0 ≤ y) (h1 : y < 32) : Int32.ofInt x <<< (Int32.ofInt y &&& 31) = Int32.ofInt (x * 2 ^ y.toNat) := by
  obtain ⟨n, rfl⟩ := Int.eq_ofNat_of_zero_le h0
  have hn : n < 32 := by omega
  apply i_bext
  rw [pk_shl _ _ n (i_sh ⟨n, hn⟩), i_tn, i_tn]
  simp only [Int.toNat_natCast]
  have e1 := Int.emod_nonneg x (show (4294967296 : Int) ≠ 0 by decide)
  have e2 := Int.emod_nonneg (x * 2 ^ n) (show (4294967296 : Int) ≠ 0 by decide)
  apply Int.ofNat_inj.mp
  rw [Int.toNat_of_nonneg e2, Int.natCast_emod, Int.natCast_mul, Int.natCast_pow, Int.toNat_of_nonneg e1]
  show x % 4294967296 * 2 ^ n % 4294967296 = _
  rw [Int.mul_emod, Int.emod_emod_of_dvd _ (Int.dvd_refl _), ← Int.mul_emod]
theorem i_or {x y : Int} (hx : 0 ≤ x) (hy : 0 ≤ y) : Int32.ofInt x ||| Int32.ofInt y = Int32.ofInt ((x.toNat ||| y.toNat : Nat) : Int) := by
  obtain ⟨a, rfl⟩ := Int.eq_ofNat_of_zero_le hx
  obtain ⟨b, rfl⟩ := Int.eq_ofNat_of_zero_le hy
  rw [i_nat, i_nat, i_nat]
  apply Int32.toBitVec_inj.mp
  show BitVec.ofNat 32 a ||| BitVec.ofNat 32 b = BitVec.ofNat 32 _
  simp only [Int.toNat_natCast]
  apply BitVec.eq_of_getLsbD_eq
  intro i hi
  simp [hi]
theorem i_xor {x y : Int} (hx : 0 ≤ x) (hy : 0 ≤ y) : Int32.ofInt x ^^^ Int32.ofInt y = Int32.ofInt ((x.toNat ^^^ y.toNat : Nat) : Int) := by
  obtain ⟨a, rfl⟩ := Int.eq_ofNat_of_zero_le hx
  obtain ⟨b, rfl⟩ := Int.eq_ofNat_of_zero_le hy
  rw [i_nat, i_nat, i_nat]
  apply Int32.toBitVec_inj.mp
  show BitVec.ofNat 32 a ^^^ BitVec.ofNat 32 b = BitVec.ofNat 32 _
  simp only [Int.toNat_natCast]
  apply BitVec.eq_of_getLsbD_eq
  intro i hi
  simp [hi]
theorem l_toInt {z : Int} (h : r64 z) : (Int64.ofInt z).toInt = z := Int64.toInt_ofInt_of_le (by have := h.1; simpa using this) (by have := h.2; omega)
theorem l_eq {x y : Int} (hx : r64 x) (hy : r64 y) : Int64.ofInt x = Int64.ofInt y ↔ x = y :=
  ⟨fun h => by rw [← l_toInt hx, ← l_toInt hy, h], fun h => by rw [h]⟩
theorem l_lt {x y : Int} (hx : r64 x) (hy : r64 y) : Int64.ofInt x < Int64.ofInt y ↔ x < y := by
  rw [Int64.lt_iff_toInt_lt, l_toInt hx, l_toInt hy]
theorem r64_32 {z : Int} (h : r32 z) : r64 z := by unfold r32 at h; unfold r64; omega
theorem l_i2l {z : Int} (h : r32 z) : (Int32.ofInt z).toInt64 = Int64.ofInt z := by
  apply Int64.toInt_inj.mp
  rw [Int32.toInt_toInt64, i_toInt h, l_toInt (r64_32 h)]
theorem l_nat (n : Nat) : Int64.ofInt (n : Int) = lN n := rfl
theorem l_sh : ∀ n : Fin 64, (((Int32.ofInt (n.val : Int)).toInt64 &&& 63).toBitVec.smod 64).toNat = n.val := by decide +kernel
theorem l_tn (z : Int) : (Int64.ofInt z).toBitVec.toNat = (z % 18446744073709551616).toNat := by
  show (BitVec.ofInt 64 z).toNat = _
  rw [BitVec.toNat_ofInt]
  rfl
theorem l_shl {x y : Int} (h0 : 0 ≤ y) (h1 : y < 64) : Int64.ofInt x <<< ((Int32.ofInt y).toInt64 &&& 63) = Int64.ofInt (x * 2 ^ y.toNat) := by
  obtain ⟨n, rfl⟩ := Int.eq_ofNat_of_zero_le h0
  have hn : n < 64 := by omega
  apply Int64.toBitVec_inj.mp
  apply BitVec.eq_of_toNat_eq
  have hs := l_sh ⟨n, hn⟩
  have e0 : (Int64.ofInt x <<< ((Int32.ofInt (n : Int)).toInt64 &&& 63)).toBitVec.toNat = (Int64.ofInt x).toBitVec.toNat * 2 ^ n % 18446744073709551616 := by
    show ((Int64.ofInt x).toBitVec <<< (((Int32.ofInt (n : Int)).toInt64 &&& 63).toBitVec.smod 64)).toNat = _
    rw [BitVec.shiftLeft_eq', BitVec.toNat_shiftLeft, hs, Nat.shiftLeft_eq]
  rw [e0, l_tn, l_tn]
  simp only [Int.toNat_natCast]
  have e1 := Int.emod_nonneg x (show (18446744073709551616 : Int) ≠ 0 by decide)
  have e2 := Int.emod_nonneg (x * 2 ^ n) (show (18446744073709551616 : Int) ≠ 0 by decide)
  apply Int.ofNat_inj.mp
  rw [Int.toNat_of_nonneg e2, Int.natCast_emod, Int.natCast_mul, Int.natCast_pow, Int.toNat_of_nonneg e1]
  show x % 18446744073709551616 * 2 ^ n % 18446744073709551616 = _
  rw [Int.mul_emod, Int.emod_emod_of_dvd _ (Int.dvd_refl _), ← Int.mul_emod]
theorem l_or {x y : Int} (hx : 0 ≤ x) (hy : 0 ≤ y) : Int64.ofInt x ||| Int64.ofInt y = Int64.ofInt ((x.toNat ||| y.toNat : Nat) : Int) := by
  obtain ⟨a, rfl⟩ := Int.eq_ofNat_of_zero_le hx
  obtain ⟨b, rfl⟩ := Int.eq_ofNat_of_zero_le hy
  rw [l_nat, l_nat, l_nat]
  apply Int64.toBitVec_inj.mp
  show BitVec.ofNat 64 a ||| BitVec.ofNat 64 b = BitVec.ofNat 64 _
  simp only [Int.toNat_natCast]
  apply BitVec.eq_of_getLsbD_eq
  intro i hi
  simp [hi]
