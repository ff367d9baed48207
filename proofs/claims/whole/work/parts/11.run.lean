/-! the rows put together: what a stretch of code asks, as one proposition, by computation -/
abbrev rw4 : Type := Instr × Nat × Nat × Nat
def nl : av → Bool
  | .inr (.inr _) => false
  | _ => true
def ldi (K : List al → List av → am → Prop) (ls : List al) (st : List av) (M : am) (i : Nat) : Prop := match ls[i]? with
  | some (some (.inl z)) => K ls (.inl z :: st) M
  | _ => False
def lda (K : List al → List av → am → Prop) (ls : List al) (st : List av) (M : am) (i : Nat) : Prop := match ls[i]? with
  | some (some (.inr a)) => K ls (.inr (.inl a) :: st) M
  | _ => False
def sti (K : List al → List av → am → Prop) (ls : List al) (st : List av) (M : am) (i : Nat) : Prop := match st with
  | .inl z :: st => K (ls.set i (some (.inl z))) st M
  | _ => False
def inc (K : List al → List av → am → Prop) (ls : List al) (st : List av) (M : am) (i : Nat) (n : Int) : Prop := match ls[i]? with
  | some (some (.inl z)) => r32 (z + n) ∧ K (ls.set i (some (.inl (z + n)))) st M
  | _ => False
def ar2 (K : List al → List av → am → Prop) (ls : List al) (st : List av) (M : am) (C : Int → Int → Prop) (f : Int → Int → Int) : Prop := match st with
  | .inl b :: .inl a :: st => C a b ∧ K ls (.inl (f a b) :: st) M
  | _ => False
def gfm (K : List al → List av → am → Prop) (ls : List al) (st : List av) (M : am) (a f : Nat) : Option (Nat ⊕ Nat) → Prop
  | some (.inl t) => K ls (.inr (.inl t) :: st) M
  | some (.inr _) => K ls (.inl (M a f) :: st) M
  | none => False
def gtf (N : Nat) (K : List al → List av → am → Prop) (ls : List al) (st : List av) (M : am) (ci f : Nat) : Prop := match st with
  | .inr (.inl a) :: st => a < N ∧ (sh a).1 = 3 ∧ (sh a).2.1 = ci ∧ gfm K ls st M a f ((sh a).2.2[f]?)
  | _ => False
def pfm (K : List al → List av → am → Prop) (ls : List al) (st : List av) (M : am) (a f : Nat) (v : Int) : Option (Nat ⊕ Nat) → Prop
  | some (.inr 0) => K ls st (up2 M a f v)
  | some (.inr _) => (v = 0 ∨ v = 1) ∧ K ls st (up2 M a f v)
  | _ => False
def ptf (N : Nat) (K : List al → List av → am → Prop) (ls : List al) (st : List av) (M : am) (ci f : Nat) : Prop := match st with
  | .inl v :: .inr (.inl a) :: st => a < N ∧ (sh a).1 = 3 ∧ (sh a).2.1 = ci ∧ pfm K ls st M a f v ((sh a).2.2[f]?)
  | _ => False
def ald (N : Nat) (K : List al → List av → am → Prop) (ls : List al) (st : List av) (M : am) : Prop := match st with
  | .inl i :: .inr (.inl a) :: st => if 100 ≤ a then a < 106 ∧ 0 ≤ i ∧ i < (stL a).length ∧ K ls (.inl (stv a i.toNat) :: st) M
    else a < N ∧ (sh a).1 = 0 ∧ 0 ≤ i ∧ i < (sh a).2.1 ∧ K ls (.inl (M a i.toNat) :: st) M
  | _ => False
def zld (N : Nat) (K : List al → List av → am → Prop) (ls : List al) (st : List av) (M : am) : Prop := match st with
  | .inl i :: .inr (.inl a) :: st => a < N ∧ (sh a).1 = 1 ∧ 0 ≤ i ∧ i < (sh a).2.1 ∧ K ls (.inl (M a i.toNat) :: st) M
  | _ => False
def lld (N : Nat) (K : List al → List av → am → Prop) (ls : List al) (st : List av) (M : am) : Prop := match st with
  | .inl i :: .inr (.inl a) :: st => a < N ∧ (sh a).1 = 2 ∧ 0 ≤ i ∧ i < (sh a).2.1 ∧ K ls (.inr (.inr (M a i.toNat)) :: st) M
  | _ => False
def ast (N : Nat) (K : List al → List av → am → Prop) (ls : List al) (st : List av) (M : am) : Prop := match st with
  | .inl v :: .inl i :: .inr (.inl a) :: st => a < N ∧ (sh a).1 = 0 ∧ 0 ≤ i ∧ i < (sh a).2.1 ∧ K ls st (up2 M a i.toNat v)
  | _ => False
def zst (N : Nat) (K : List al → List av → am → Prop) (ls : List al) (st : List av) (M : am) : Prop := match st with
  | .inl v :: .inl i :: .inr (.inl a) :: st => a < N ∧ (sh a).1 = 1 ∧ 0 ≤ i ∧ i < (sh a).2.1 ∧ (v = 0 ∨ v = 1) ∧ K ls st (up2 M a i.toNat v)
  | _ => False
def lst (N : Nat) (K : List al → List av → am → Prop) (ls : List al) (st : List av) (M : am) : Prop := match st with
  | .inr (.inr v) :: .inl i :: .inr (.inl a) :: st => a < N ∧ (sh a).1 = 2 ∧ 0 ≤ i ∧ i < (sh a).2.1 ∧ K ls st (up2 M a i.toNat v)
  | _ => False
def aln (N : Nat) (K : List al → List av → am → Prop) (ls : List al) (st : List av) (M : am) : Prop := match st with
  | .inr (.inl a) :: st => a < N ∧ (sh a).1 = 0 ∧ (sh a).2.1 < 100000 ∧ K ls (.inl ((sh a).2.1 : Int) :: st) M
  | _ => False
def clsm (N : Nat) (K : List al → List av → am → Prop) (ls : List al) (M : am) (kc : Nat) : Option (List (Int ⊕ Nat) × List av) → Prop
  | some (as, rest) => wt rest ≤ 8 ∧ ∃ P', Runs N kc as M P' ∧ ∀ r M', P' r M' → K ls (r.toList ++ rest) M'
  | none => False
def cls (N : Nat) (K : List al → List av → am → Prop) (ls : List al) (st : List av) (M : am) (kc np : Nat) : Prop := clsm N K ls M kc (popn np st [])
def clvm (N : Nat) (K : List al → List av → am → Prop) (ls : List al) (M : am) (kc : Nat) : Option (List (Int ⊕ Nat) × List av) → Prop
  | some (as, .inr (.inl a) :: rest) => a < N ∧ (sh a).1 = 3 ∧ (sh a).2.1 = mN kc ∧ wt rest ≤ 8 ∧ ∃ P', Runs N kc (.inr a :: as) M P' ∧ ∀ r M', P' r M' → K ls (r.toList ++ rest) M'
  | _ => False
def clv (N : Nat) (K : List al → List av → am → Prop) (ls : List al) (st : List av) (M : am) (kc np : Nat) : Prop := clvm N K ls M kc (popn np st [])
/-- an instruction that goes on to the next -/
def stpS (N : Nat) (K : List al → List av → am → Prop) (r : rw4) (ls : List al) (st : List av) (M : am) : Prop := match r.1 with
  | .iconst z => K ls (.inl z :: st) M
  | .bipush z => K ls (.inl z :: st) M
  | .sipush z => K ls (.inl z :: st) M
  | .ldc _ => K ls (.inl (r.2.2.1 : Int) :: st) M
  | .ldc_w _ => K ls (.inl (r.2.2.1 : Int) :: st) M
  | .iload i => ldi K ls st M i
  | .iload_n i => ldi K ls st M i.val
  | .aload i => lda K ls st M i
  | .aload_n i => lda K ls st M i.val
  | .istore i => sti K ls st M i
  | .istore_n i => sti K ls st M i.val
  | .iinc i n => inc K ls st M i n
  | .iadd => ar2 K ls st M (fun a b => r32 (a + b)) (fun a b => a + b)
  | .isub => ar2 K ls st M (fun a b => r32 (a - b)) (fun a b => a - b)
  | .imul => ar2 K ls st M (fun a b => r32 (a * b)) (fun a b => a * b)
  | .idiv => ar2 K ls st M (fun a b => 0 ≤ a ∧ 0 < b) (fun a b => a / b)
  | .irem => ar2 K ls st M (fun a b => 0 ≤ a ∧ 0 < b) (fun a b => a % b)
  | .iand => if r.2.2.1 = 1 then ar2 K ls st M (fun _ b => b = 2 ^ r.2.2.2 - 1) (fun a _ => a % 2 ^ r.2.2.2) else ar2 K ls st M (fun a b => 0 ≤ a ∧ 0 ≤ b) (fun a b => ((a.toNat &&& b.toNat : Nat) : Int))
  | .ior => ar2 K ls st M (fun a b => 0 ≤ a ∧ 0 ≤ b) (fun a b => ((a.toNat ||| b.toNat : Nat) : Int))
  | .ixor => ar2 K ls st M (fun a b => 0 ≤ a ∧ 0 ≤ b) (fun a b => ((a.toNat ^^^ b.toNat : Nat) : Int))
  | .ishr => ar2 K ls st M (fun _ b => 0 ≤ b ∧ b < 32) (fun a b => a / 2 ^ b.toNat)
  | .iushr => ar2 K ls st M (fun a b => 0 ≤ a ∧ 0 ≤ b ∧ b < 32) (fun a b => a / 2 ^ b.toNat)
  | .ishl => ar2 K ls st M (fun a b => 0 ≤ b ∧ b < 32 ∧ r32 (a * 2 ^ b.toNat)) (fun a b => a * 2 ^ b.toNat)
  | .ineg => match st with
    | .inl a :: st => r32 (-a) ∧ K ls (.inl (-a) :: st) M
    | _ => False
  | .dup => match st with
    | v :: st => nl v = true ∧ K ls (v :: v :: st) M
    | _ => False
  | .pop => match st with
    | v :: st => nl v = true ∧ K ls st M
    | _ => False
  | .dup2 => match st with
    | v :: w :: st => nl v = true ∧ nl w = true ∧ K ls (v :: w :: v :: w :: st) M
    | _ => False
  | .getfield _ => gtf N K ls st M r.2.2.1 r.2.2.2
  | .putfield _ => ptf N K ls st M r.2.2.1 r.2.2.2
  | .getstatic _ => K ls (.inr (.inl r.2.2.1) :: st) M
  | .iaload => ald N K ls st M
  | .baload => zld N K ls st M
  | .laload => lld N K ls st M
  | .iastore => ast N K ls st M
  | .bastore => zst N K ls st M
  | .lastore => lst N K ls st M
  | .arraylength => aln N K ls st M
  | .i2l => match st with
    | .inl z :: st => K ls (.inr (.inr z) :: st) M
    | _ => False
  | .lconst q => K ls (.inr (.inr (q.val : Int)) :: st) M
  | .lshl => match st with
    | .inl b :: .inr (.inr a) :: st => 0 ≤ b ∧ b < 64 ∧ r64 (a * 2 ^ b.toNat) ∧ K ls (.inr (.inr (a * 2 ^ b.toNat)) :: st) M
    | _ => False
  | .lor => match st with
    | .inr (.inr b) :: .inr (.inr a) :: st => 0 ≤ a ∧ 0 ≤ b ∧ K ls (.inr (.inr ((a.toNat ||| b.toNat : Nat) : Int)) :: st) M
    | _ => False
  | .lcmp => match st with
    | .inr (.inr b) :: .inr (.inr a) :: st => K ls (.inl (lcv a b) :: st) M
    | _ => False
  | .invokestatic _ => cls N K ls st M r.2.2.1 r.2.2.2
  | .invokevirtual _ => clv N K ls st M r.2.2.1 r.2.2.2
  | _ => False
def br1 (ls : List al) (st : List av) (M : am) (kt kf : List al → List av → am → Prop) (C D : Int → Prop) : Prop := match st with
  | .inl z :: st => (C z → kt ls st M) ∧ (D z → kf ls st M)
  | _ => False
def br2 (ls : List al) (st : List av) (M : am) (kt kf : List al → List av → am → Prop) (C D : Int → Int → Prop) : Prop := match st with
  | .inl y :: .inl z :: st => (C z y → kt ls st M) ∧ (D z y → kf ls st M)
  | _ => False
def tsw (K : Nat → List al → List av → am → Prop) (pc : Nat) (ls : List al) (st : List av) (M : am) (x : Int) : List Int → Int → Prop
  | [], _ => True
  | o :: os, v => (x = v → K (pc + o).toNat ls st M) ∧ tsw K pc ls st M x os (v + 1)
/-- an instruction that ends a stretch -/
def stpB (P : Option av → am → Prop) (K : Nat → List al → List av → am → Prop) (pc : Nat) (r : rw4) (ls : List al) (st : List av) (M : am) : Prop := match r.1 with
  | .goto _ => K r.2.2.1 ls st M
  | .ifCond .eq _ => br1 ls st M (K r.2.2.1) (K (pc + 3)) (fun z => z = 0) (fun z => ¬ z = 0)
  | .ifCond .ne _ => br1 ls st M (K r.2.2.1) (K (pc + 3)) (fun z => ¬ z = 0) (fun z => z = 0)
  | .ifCond .lt _ => br1 ls st M (K r.2.2.1) (K (pc + 3)) (fun z => z < 0) (fun z => 0 ≤ z)
  | .ifCond .ge _ => br1 ls st M (K r.2.2.1) (K (pc + 3)) (fun z => 0 ≤ z) (fun z => z < 0)
  | .ifCond .gt _ => br1 ls st M (K r.2.2.1) (K (pc + 3)) (fun z => 0 < z) (fun z => z ≤ 0)
  | .ifCond .le _ => br1 ls st M (K r.2.2.1) (K (pc + 3)) (fun z => z ≤ 0) (fun z => 0 < z)
  | .if_icmp .eq _ => br2 ls st M (K r.2.2.1) (K (pc + 3)) (fun z y => z = y) (fun z y => ¬ z = y)
  | .if_icmp .ne _ => br2 ls st M (K r.2.2.1) (K (pc + 3)) (fun z y => ¬ z = y) (fun z y => z = y)
  | .if_icmp .lt _ => br2 ls st M (K r.2.2.1) (K (pc + 3)) (fun z y => z < y) (fun z y => y ≤ z)
  | .if_icmp .ge _ => br2 ls st M (K r.2.2.1) (K (pc + 3)) (fun z y => y ≤ z) (fun z y => z < y)
  | .if_icmp .gt _ => br2 ls st M (K r.2.2.1) (K (pc + 3)) (fun z y => y < z) (fun z y => z ≤ y)
  | .if_icmp .le _ => br2 ls st M (K r.2.2.1) (K (pc + 3)) (fun z y => z ≤ y) (fun z y => y < z)
  | .tableswitch d lo hi offs => match st with
    | .inl x :: st => (x < lo ∨ hi < x → K (pc + d).toNat ls st M) ∧ tsw K pc ls st M x offs.toList lo
    | _ => False
  | .ireturn => match st with
    | [.inl z] => (r.2.2.1 = 1 → z = 0 ∨ z = 1) ∧ P (some (.inl z)) M
    | _ => False
  | .return_ => match st with
    | [] => P none M
    | _ => False
  | _ => False
def isB : Instr → Bool
  | .goto _ => true
  | .ifCond _ _ => true
  | .if_icmp _ _ => true
  | .tableswitch _ _ _ _ => true
  | .ireturn => true
  | .return_ => true
  | _ => false
def run (N : Nat) (P : Option av → am → Prop) (K : Nat → List al → List av → am → Prop) : List rw4 → Nat → List al → List av → am → Prop
  | [], pc, ls, st, M => K pc ls st M
  | r :: rs, pc, ls, st, M => if isB r.1 = true then stpB P K pc r ls st M else stpS N (run N P K rs (pc + r.2.1)) r ls st M
/-- the row is the instruction at that place, and what it says of links, targets and locals is so -/
def rOk (k pc : Nat) (r : rw4) : Bool := decide (decode (mC k) pc = .ok (r.1, r.2.1)) && (match r.1 with
  | .iconst z => decide (-1 ≤ z) && decide (z ≤ 5) && decide (r.2.1 = 1)
  | .bipush z => decide (-128 ≤ z) && decide (z ≤ 127) && decide (r.2.1 = 2)
  | .sipush z => decide (-32768 ≤ z) && decide (z ≤ 32767) && decide (r.2.1 = 3)
  | .ldc ix => decide ((mN k, ix, r.2.2.1) ∈ KLT) && decide (r.2.2.1 ≤ 2147483647) && decide (r.2.1 = 2)
  | .ldc_w ix => decide ((mN k, ix, r.2.2.1) ∈ KLT) && decide (r.2.2.1 ≤ 2147483647) && decide (r.2.1 = 3)
  | .istore i => decide (i < mL k) && decide (r.2.1 = 2)
  | .istore_n i => decide (i.val < mL k) && decide (r.2.1 = 1)
  | .iinc i _ => decide (i < mL k) && decide (r.2.1 = 3)
  | .iload _ => decide (r.2.1 = 2)
  | .aload _ => decide (r.2.1 = 2)
  | .iand => decide (r.2.2.2 < 31) && decide (r.2.1 = 1)
  | .getfield ix => decide ((mN k, ix, r.2.2.1, r.2.2.2) ∈ FLT) && decide (r.2.2.2 < ((vcl[r.2.2.1]?).map (fun q => q.2.2)).getD 0) && decide (r.2.1 = 3)
  | .putfield ix => decide ((mN k, ix, r.2.2.1, r.2.2.2) ∈ FLT) && decide (r.2.2.2 < ((vcl[r.2.2.1]?).map (fun q => q.2.2)).getD 0) && decide (((vcl[r.2.2.1]?).map (fun q => (q.2.1 r.2.2.2).2.2.2)).getD true = false) && decide (r.2.1 = 3)
  | .getstatic ix => decide ((mN k, ix, r.2.2.1) ∈ SLT) && decide (100 ≤ r.2.2.1) && decide (r.2.2.1 < 106) && decide (r.2.1 = 3)
  | .invokestatic ix => decide ((mN k, ix, r.2.2.1, r.2.2.2) ∈ MLS) && decide (mF r.2.2.1 + 1 ≤ mF k) && decide (8 + (mL r.2.2.1 + 11) + mO r.2.2.1 ≤ mO k) && decide (r.2.1 = 3)
  | .invokevirtual ix => decide ((mN k, ix, r.2.2.1, r.2.2.2) ∈ MLV) && decide (mF r.2.2.1 + 1 ≤ mF k) && decide (8 + (mL r.2.2.1 + 11) + mO r.2.2.1 ≤ mO k) && decide (r.2.1 = 3)
  | .goto o => decide ((pc : Int) + o = (r.2.2.1 : Int)) && decide (r.2.1 = 3)
  | .ifCond _ o => decide ((pc : Int) + o = (r.2.2.1 : Int)) && decide (r.2.1 = 3)
  | .if_icmp _ o => decide ((pc : Int) + o = (r.2.2.1 : Int)) && decide (r.2.1 = 3)
  | .tableswitch d lo hi offs => decide (0 ≤ (pc : Int) + d) && offs.toList.all (fun o => decide (0 ≤ (pc : Int) + o)) && decide (lo + offs.toList.length = hi + 1)
  | .ireturn => (if r.2.2.1 = 1 then decide (mR k = some .boolean) else decide (mR k = some .int)) && decide (r.2.1 = 1)
  | .return_ => decide (mR k = none) && decide (r.2.1 = 1)
  | _ => decide (r.2.1 = 1))
def rsOk (k : Nat) : Nat → List rw4 → Bool
  | _, [] => true
  | pc, r :: rs => rOk k pc r && rsOk k (pc + r.2.1) rs
