/-! the constructors (by program: wip/whole/gen/ctors.py) -/
abbrev yG : MethodName := ⟨"DroppedPieces$Guard", "<init>", "(LDroppedPieces$Board;)V"⟩
abbrev yR : MethodName := ⟨"DroppedPieces$MoveRow", "<init>", "(I)V"⟩
abbrev yU : MethodName := ⟨"DroppedPieces$Rules", "<init>", "(LDroppedPieces$Board;)V"⟩
abbrev yD : MethodName := ⟨"DroppedPieces", "<init>", "()V"⟩
abbrev yM : MethodName := ⟨"DroppedPiecesModel", "<init>", "()V"⟩
abbrev aI (x : cx) (n : Nat) : va_E := .inl (x.cA 0, n, .inl (fun _ => 0))
abbrev aZ (x : cx) (n : Nat) : va_E := .inl (x.cA 1, n, .inl (fun _ => 0))
abbrev aJ (x : cx) (n : Nat) : va_E := .inl (x.cA 2, n, .inr (.inl (fun _ => 0)))
theorem df_0 : ∀ j, j < 3 → defaultValue (vty 0 j) = vp_V [.null, .null, .null] j := by decide +kernel
theorem df_1 : ∀ j, j < 4 → defaultValue (vty 1 j) = vp_V [.null, .null, .null, .int 0] j := by decide +kernel
theorem df_2 : ∀ j, j < 6 → defaultValue (vty 2 j) = vp_V [.null, .null, .null, .null, .int 0, .int 0] j := by decide +kernel
theorem df_3 : ∀ j, j < 2 → defaultValue (vty 3 j) = vp_V [.null, .int 0] j := by decide +kernel
theorem df_4 : ∀ j, j < 6 → defaultValue (vty 4 j) = vp_V [.null, .null, .null, .null, .null, .int 0] j := by decide +kernel
theorem df_5 : ∀ j, j < 6 → defaultValue (vty 5 j) = vp_V [.null, .null, .null, .null, .null, .int 0] j := by decide +kernel
theorem df_6 : ∀ j, j < 12 → defaultValue (vty 6 j) = vp_V [.int 0, .null, .null, .null, .int 0, .int 0, .int 0, .null, .null, .null, .null, .null] j := by decide +kernel
theorem wB : cW yB prog_2_method_1_code 1 0 = true := by decide +kernel
theorem cB (x : cx) (pre : List va_E) {nb : Nat} (hn : pre.length = nb) (l : Launch) : Met l yB [.code yB prog_2_method_1_code 1 none] { frames := 1, cells := 3, slots := 99, locals := 12 } (PN x [rf x (nb + 0)] (pre ++ [.inr (0, [.null, .null, .null])])) (QN x (fun E => E = pre ++ [.inr (0, [rf x (nb + 1), rf x (nb + 2), rf x (nb + 3)]), aI x 81, aI x 16, aI x 2])) 3 99 x.A := by
  refine n_of (ci := 0) (lsA := #[Slot.val (rf x (nb + 0))]) (by decide +kernel) rfl rfl rfl ?_ l
  intro p l e s m args below meth c H hA hin hrt hlk hsz hZ
  refine n_al (k := 0) (a := nb + 0) hA (by decide +kernel) rfl ?_
  refine n_obj (idx := 1) (a := nb + 0) hA (by decide +kernel) rfl (by decide +kernel) (Nat.le_of_ble_eq_true rfl) (Nat.le_of_ble_eq_true rfl) ?_
  refine n_al (k := 0) (a := nb + 0) hA (by decide +kernel) rfl ?_
  refine lv_bipush hA.1 hA.2.1 (n := 81) (v := 81) (by decide +kernel) (by decide +kernel) ?_
  refine n_newa (atype := .int) (nb := nb) (i := 0) (ty := .int) (N' := 81) (a0 := (81, .inl (fun _ => 0))) hA hZ hn rfl rfl (fun _ _ => rfl) (by decide +kernel) (fun _ => rfl) (by decide +kernel) (by decide +kernel) (by decide +kernel) (by decide +kernel) (by decide +kernel) (by decide +kernel) (fun H hZ => ?_)
  have hZ : ZN x pre [.inr (0, [.null, .null, .null]), aI x 81] s _ _ := hZ
  refine n_put (index := 9) (nb := nb) (i := 0) (k := 0) (v := rf x (nb + 1)) hA hin hZ hn rfl rfl rfl (by decide +kernel) (Nat.le_of_ble_eq_true rfl) (by decide +kernel) rfl rfl (by decide +kernel) (fun H locs hZ => ?_)
  have hZ : ZN x pre [.inr (0, [rf x (nb + 1), .null, .null]), aI x 81] s _ _ := hZ
  refine n_al (k := 0) (a := nb + 0) hA (by decide +kernel) rfl ?_
  refine lv_bipush hA.1 hA.2.1 (n := 16) (v := 16) (by decide +kernel) (by decide +kernel) ?_
  refine n_newa (atype := .int) (nb := nb) (i := 0) (ty := .int) (N' := 16) (a0 := (16, .inl (fun _ => 0))) hA hZ hn rfl rfl (fun _ _ => rfl) (by decide +kernel) (fun _ => rfl) (by decide +kernel) (by decide +kernel) (by decide +kernel) (by decide +kernel) (by decide +kernel) (by decide +kernel) (fun H hZ => ?_)
  have hZ : ZN x pre [.inr (0, [rf x (nb + 1), .null, .null]), aI x 81, aI x 16] s _ _ := hZ
  refine n_put (index := 15) (nb := nb) (i := 0) (k := 1) (v := rf x (nb + 2)) hA hin hZ hn rfl rfl rfl (by decide +kernel) (Nat.le_of_ble_eq_true rfl) (by decide +kernel) rfl rfl (by decide +kernel) (fun H locs hZ => ?_)
  have hZ : ZN x pre [.inr (0, [rf x (nb + 1), rf x (nb + 2), .null]), aI x 81, aI x 16] s _ _ := hZ
  refine n_al (k := 0) (a := nb + 0) hA (by decide +kernel) rfl ?_
  refine lv_iconst hA.1 hA.2.1 (n := 2) (v := 2) (by decide +kernel) (by decide +kernel) ?_
  refine n_newa (atype := .int) (nb := nb) (i := 0) (ty := .int) (N' := 2) (a0 := (2, .inl (fun _ => 0))) hA hZ hn rfl rfl (fun _ _ => rfl) (by decide +kernel) (fun _ => rfl) (by decide +kernel) (by decide +kernel) (by decide +kernel) (by decide +kernel) (by decide +kernel) (by decide +kernel) (fun H hZ => ?_)
  have hZ : ZN x pre [.inr (0, [rf x (nb + 1), rf x (nb + 2), .null]), aI x 81, aI x 16, aI x 2] s _ _ := hZ
  refine n_put (index := 18) (nb := nb) (i := 0) (k := 2) (v := rf x (nb + 3)) hA hin hZ hn rfl rfl rfl (by decide +kernel) (Nat.le_of_ble_eq_true rfl) (by decide +kernel) rfl rfl (by decide +kernel) (fun H locs hZ => ?_)
  have hZ : ZN x pre [.inr (0, [rf x (nb + 1), rf x (nb + 2), rf x (nb + 3)]), aI x 81, aI x 16, aI x 2] s _ _ := hZ
  exact n_ret hA hrt hlk hZ rfl (by decide +kernel)
theorem wG : cW yG prog_3_method_1_code 2 1 = true := by decide +kernel
theorem cG {bb : Nat} (x : cx) (pre : List va_E) {nb : Nat} (hn : pre.length = nb) (l : Launch) : Met l yG [.code yG prog_3_method_1_code 2 none] { frames := 1, cells := 2, slots := 162, locals := 12 } (PN x [rf x (nb + 0), rf x bb] (pre ++ [.inr (1, [.null, .null, .null, .int 0])])) (QN x (fun E => E = pre ++ [.inr (1, [rf x bb, rf x (nb + 1), rf x (nb + 2), .int 0]), aI x 81, aI x 81])) 2 162 x.A := by
  refine n_of (ci := 1) (lsA := #[Slot.val (rf x (nb + 0)), Slot.val (rf x bb)]) (by decide +kernel) rfl rfl rfl ?_ l
  intro p l e s m args below meth c H hA hin hrt hlk hsz hZ
  refine n_al (k := 0) (a := nb + 0) hA (by decide +kernel) rfl ?_
  refine n_obj (idx := 1) (a := nb + 0) hA (by decide +kernel) rfl (by decide +kernel) (Nat.le_of_ble_eq_true rfl) (Nat.le_of_ble_eq_true rfl) ?_
  refine n_al (k := 0) (a := nb + 0) hA (by decide +kernel) rfl ?_
  refine lv_bipush hA.1 hA.2.1 (n := 81) (v := 81) (by decide +kernel) (by decide +kernel) ?_
  refine n_newa (atype := .int) (nb := nb) (i := 0) (ty := .int) (N' := 81) (a0 := (81, .inl (fun _ => 0))) hA hZ hn rfl rfl (fun _ _ => rfl) (by decide +kernel) (fun _ => rfl) (by decide +kernel) (by decide +kernel) (by decide +kernel) (by decide +kernel) (by decide +kernel) (by decide +kernel) (fun H hZ => ?_)
  have hZ : ZN x pre [.inr (1, [.null, .null, .null, .int 0]), aI x 81] s _ _ := hZ
  refine n_put (index := 9) (nb := nb) (i := 0) (k := 1) (v := rf x (nb + 1)) hA hin hZ hn rfl rfl rfl (by decide +kernel) (Nat.le_of_ble_eq_true rfl) (by decide +kernel) rfl rfl (by decide +kernel) (fun H locs hZ => ?_)
  have hZ : ZN x pre [.inr (1, [.null, rf x (nb + 1), .null, .int 0]), aI x 81] s _ _ := hZ
  refine n_al (k := 0) (a := nb + 0) hA (by decide +kernel) rfl ?_
  refine lv_bipush hA.1 hA.2.1 (n := 81) (v := 81) (by decide +kernel) (by decide +kernel) ?_
  refine n_newa (atype := .int) (nb := nb) (i := 0) (ty := .int) (N' := 81) (a0 := (81, .inl (fun _ => 0))) hA hZ hn rfl rfl (fun _ _ => rfl) (by decide +kernel) (fun _ => rfl) (by decide +kernel) (by decide +kernel) (by decide +kernel) (by decide +kernel) (by decide +kernel) (by decide +kernel) (fun H hZ => ?_)
  have hZ : ZN x pre [.inr (1, [.null, rf x (nb + 1), .null, .int 0]), aI x 81, aI x 81] s _ _ := hZ
  refine n_put (index := 15) (nb := nb) (i := 0) (k := 2) (v := rf x (nb + 2)) hA hin hZ hn rfl rfl rfl (by decide +kernel) (Nat.le_of_ble_eq_true rfl) (by decide +kernel) rfl rfl (by decide +kernel) (fun H locs hZ => ?_)
  have hZ : ZN x pre [.inr (1, [.null, rf x (nb + 1), rf x (nb + 2), .int 0]), aI x 81, aI x 81] s _ _ := hZ
  refine n_al (k := 0) (a := nb + 0) hA (by decide +kernel) rfl ?_
  refine n_al (k := 1) (a := bb) hA (by decide +kernel) rfl ?_
  refine n_put (index := 18) (nb := nb) (i := 0) (k := 0) (v := rf x bb) hA hin hZ hn rfl rfl rfl (by decide +kernel) (Nat.le_of_ble_eq_true rfl) (by decide +kernel) rfl rfl (by decide +kernel) (fun H locs hZ => ?_)
  have hZ : ZN x pre [.inr (1, [rf x bb, rf x (nb + 1), rf x (nb + 2), .int 0]), aI x 81, aI x 81] s _ _ := hZ
  exact n_ret hA hrt hlk hZ rfl (by decide +kernel)
theorem wR : cW yR prog_5_method_1_code 2 1 = true := by decide +kernel
theorem cR {z : Int32} {n : Nat} (x : cx) (pre : List va_E) {nb : Nat} (hn : pre.length = nb) (hz1 : ¬ z < 0) (hz2 : z.toNatClampNeg = n) (hz3 : n * componentBytes .int ≤ 536870912) (l : Launch) : Met l yR [.code yR prog_5_method_1_code 2 none] { frames := 1, cells := 1, slots := n, locals := 12 } (PN x [rf x (nb + 0), .int z] (pre ++ [.inr (3, [.null, .int 0])])) (QN x (fun E => E = pre ++ [.inr (3, [rf x (nb + 1), .int 0]), aI x n])) 1 n x.A := by
  refine n_of (ci := 3) (lsA := #[Slot.val (rf x (nb + 0)), Slot.val (.int z)]) (by decide +kernel) rfl rfl rfl ?_ l
  intro p l e s m args below meth c H hA hin hrt hlk hsz hZ
  refine n_al (k := 0) (a := nb + 0) hA (by decide +kernel) rfl ?_
  refine n_obj (idx := 1) (a := nb + 0) hA (by decide +kernel) rfl (by decide +kernel) (Nat.le_of_ble_eq_true rfl) (Nat.le_of_ble_eq_true rfl) ?_
  refine n_al (k := 0) (a := nb + 0) hA (by decide +kernel) rfl ?_
  refine n_il (k := 1) (z := z) hA (by decide +kernel) rfl ?_
  refine n_newa (atype := .int) (nb := nb) (i := 0) (ty := .int) (N' := n) (a0 := (n, .inl (fun _ => 0))) hA hZ hn rfl rfl (fun _ _ => rfl) (by decide +kernel) (fun _ => rfl) hz1 hz2 hz3 (Nat.le_of_ble_eq_true rfl) (by show 0 + n ≤ n; omega) (by decide +kernel) (fun H hZ => ?_)
  have hZ : ZN x pre [.inr (3, [.null, .int 0]), aI x n] s _ _ := hZ
  refine n_put (index := 7) (nb := nb) (i := 0) (k := 0) (v := rf x (nb + 1)) hA hin hZ hn rfl rfl rfl (by decide +kernel) (Nat.le_of_ble_eq_true rfl) (by decide +kernel) rfl rfl (by decide +kernel) (fun H locs hZ => ?_)
  have hZ : ZN x pre [.inr (3, [rf x (nb + 1), .int 0]), aI x n] s _ _ := hZ
  rw [Nat.zero_add n]
  exact n_ret hA hrt hlk hZ rfl (by decide +kernel)
theorem wU : cW yU prog_7_method_1_code 2 1 = true := by decide +kernel
theorem cU {bb : Nat} (x : cx) (pre : List va_E) {nb : Nat} (hn : pre.length = nb) (l : Launch) : Met l yU [.code yU prog_7_method_1_code 2 none] { frames := 2, cells := 9, slots := 354, locals := 41 } (PN x [rf x (nb + 0), rf x bb] (pre ++ [.inr (4, [.null, .null, .null, .null, .null, .int 0])])) (QN x (fun E => E = pre ++ [.inr (4, [rf x bb, rf x (nb + 2), rf x (nb + 5), rf x (nb + 8), rf x (nb + 1), .int 0]), aI x 20, .inr (1, [rf x bb, rf x (nb + 3), rf x (nb + 4), .int 0]), aI x 81, aI x 81, .inr (1, [rf x bb, rf x (nb + 6), rf x (nb + 7), .int 0]), aI x 81, aI x 81, .inr (3, [rf x (nb + 9), .int 0]), aI x 0])) 9 354 x.A := by
  refine n_of (ci := 4) (lsA := #[Slot.val (rf x (nb + 0)), Slot.val (rf x bb)]) (by decide +kernel) rfl rfl rfl ?_ l
  intro p l e s m args below meth c H hA hin hrt hlk hsz hZ
  refine n_al (k := 0) (a := nb + 0) hA (by decide +kernel) rfl ?_
  refine n_obj (idx := 1) (a := nb + 0) hA (by decide +kernel) rfl (by decide +kernel) (Nat.le_of_ble_eq_true rfl) (Nat.le_of_ble_eq_true rfl) ?_
  refine n_al (k := 0) (a := nb + 0) hA (by decide +kernel) rfl ?_
  refine lv_bipush hA.1 hA.2.1 (n := 20) (v := 20) (by decide +kernel) (by decide +kernel) ?_
  refine n_newa (atype := .int) (nb := nb) (i := 0) (ty := .int) (N' := 20) (a0 := (20, .inl (fun _ => 0))) hA hZ hn rfl rfl (fun _ _ => rfl) (by decide +kernel) (fun _ => rfl) (by decide +kernel) (by decide +kernel) (by decide +kernel) (by decide +kernel) (by decide +kernel) (by decide +kernel) (fun H hZ => ?_)
  have hZ : ZN x pre [.inr (4, [.null, .null, .null, .null, .null, .int 0]), aI x 20] s _ _ := hZ
  refine n_put (index := 9) (nb := nb) (i := 0) (k := 4) (v := rf x (nb + 1)) hA hin hZ hn rfl rfl rfl (by decide +kernel) (Nat.le_of_ble_eq_true rfl) (by decide +kernel) rfl rfl (by decide +kernel) (fun H locs hZ => ?_)
  have hZ : ZN x pre [.inr (4, [.null, .null, .null, .null, rf x (nb + 1), .int 0]), aI x 20] s _ _ := hZ
  refine n_al (k := 0) (a := nb + 0) hA (by decide +kernel) rfl ?_
  refine n_al (k := 1) (a := bb) hA (by decide +kernel) rfl ?_
  refine n_put (index := 13) (nb := nb) (i := 0) (k := 0) (v := rf x bb) hA hin hZ hn rfl rfl rfl (by decide +kernel) (Nat.le_of_ble_eq_true rfl) (by decide +kernel) rfl rfl (by decide +kernel) (fun H locs hZ => ?_)
  have hZ : ZN x pre [.inr (4, [rf x bb, .null, .null, .null, rf x (nb + 1), .int 0]), aI x 20] s _ _ := hZ
  refine n_al (k := 0) (a := nb + 0) hA (by decide +kernel) rfl ?_
  refine n_new (index := 17) (nb := nb) (cj := 1) (fs := [.null, .null, .null, .int 0]) hA hZ hn rfl (by decide +kernel) (by decide +kernel) (by decide +kernel) df_1 (by decide +kernel) (by decide +kernel) (by decide +kernel) (fun H hZ => ?_)
  have hZ : ZN x pre [.inr (4, [rf x bb, .null, .null, .null, rf x (nb + 1), .int 0]), aI x 20, .inr (1, [.null, .null, .null, .int 0])] s _ _ := hZ
  refine n_dup (a := nb + 2) hA (by decide +kernel) ?_
  refine n_al (k := 1) (a := bb) hA (by decide +kernel) rfl ?_
  have hM := cG (bb := bb) x (pre ++ [.inr (4, [rf x bb, .null, .null, .null, rf x (nb + 1), .int 0]), aI x 20]) (nb := (nb + 2)) (by rw [List.length_append, hn]; rfl) l
  rw [List.append_assoc] at hM
  refine n_call (index := 19) (a := nb + 2) (As := [rf x bb]) (tl := [.inr (4, [rf x bb, .null, .null, .null, rf x (nb + 1), .int 0]), aI x 20, .inr (1, [.null, .null, .null, .int 0])]) hA hZ hM wG (by decide +kernel) ⟨rfl, rfl, by decide +kernel, by decide +kernel⟩ rfl rfl rfl (Nat.le_of_ble_eq_true rfl) (by decide +kernel) ⟨by decide +kernel, by decide +kernel⟩ ?_
  rintro _ H locs rfl hZ
  have hZ : ZN x pre [.inr (4, [rf x bb, .null, .null, .null, rf x (nb + 1), .int 0]), aI x 20, .inr (1, [rf x bb, rf x (nb + 3), rf x (nb + 4), .int 0]), aI x 81, aI x 81] s _ _ := hZ.mv (by rw [List.append_nil, List.append_assoc]; rfl)
  refine n_put (index := 22) (nb := nb) (i := 0) (k := 1) (v := rf x (nb + 2)) hA hin hZ hn rfl rfl rfl (by decide +kernel) (Nat.le_of_ble_eq_true rfl) (by decide +kernel) rfl rfl (by decide +kernel) (fun H locs hZ => ?_)
  have hZ : ZN x pre [.inr (4, [rf x bb, rf x (nb + 2), .null, .null, rf x (nb + 1), .int 0]), aI x 20, .inr (1, [rf x bb, rf x (nb + 3), rf x (nb + 4), .int 0]), aI x 81, aI x 81] s _ _ := hZ
  refine n_al (k := 0) (a := nb + 0) hA (by decide +kernel) rfl ?_
  refine n_new (index := 17) (nb := nb) (cj := 1) (fs := [.null, .null, .null, .int 0]) hA hZ hn rfl (by decide +kernel) (by decide +kernel) (by decide +kernel) df_1 (by decide +kernel) (by decide +kernel) (by decide +kernel) (fun H hZ => ?_)
  have hZ : ZN x pre [.inr (4, [rf x bb, rf x (nb + 2), .null, .null, rf x (nb + 1), .int 0]), aI x 20, .inr (1, [rf x bb, rf x (nb + 3), rf x (nb + 4), .int 0]), aI x 81, aI x 81, .inr (1, [.null, .null, .null, .int 0])] s _ _ := hZ
  refine n_dup (a := nb + 5) hA (by decide +kernel) ?_
  refine n_al (k := 1) (a := bb) hA (by decide +kernel) rfl ?_
  have hM := cG (bb := bb) x (pre ++ [.inr (4, [rf x bb, rf x (nb + 2), .null, .null, rf x (nb + 1), .int 0]), aI x 20, .inr (1, [rf x bb, rf x (nb + 3), rf x (nb + 4), .int 0]), aI x 81, aI x 81]) (nb := (nb + 5)) (by rw [List.length_append, hn]; rfl) l
  rw [List.append_assoc] at hM
  refine n_call (index := 19) (a := nb + 5) (As := [rf x bb]) (tl := [.inr (4, [rf x bb, rf x (nb + 2), .null, .null, rf x (nb + 1), .int 0]), aI x 20, .inr (1, [rf x bb, rf x (nb + 3), rf x (nb + 4), .int 0]), aI x 81, aI x 81, .inr (1, [.null, .null, .null, .int 0])]) hA hZ hM wG (by decide +kernel) ⟨rfl, rfl, by decide +kernel, by decide +kernel⟩ rfl rfl rfl (Nat.le_of_ble_eq_true rfl) (by decide +kernel) ⟨by decide +kernel, by decide +kernel⟩ ?_
  rintro _ H locs rfl hZ
  have hZ : ZN x pre [.inr (4, [rf x bb, rf x (nb + 2), .null, .null, rf x (nb + 1), .int 0]), aI x 20, .inr (1, [rf x bb, rf x (nb + 3), rf x (nb + 4), .int 0]), aI x 81, aI x 81, .inr (1, [rf x bb, rf x (nb + 6), rf x (nb + 7), .int 0]), aI x 81, aI x 81] s _ _ := hZ.mv (by rw [List.append_nil, List.append_assoc]; rfl)
  refine n_put (index := 26) (nb := nb) (i := 0) (k := 2) (v := rf x (nb + 5)) hA hin hZ hn rfl rfl rfl (by decide +kernel) (Nat.le_of_ble_eq_true rfl) (by decide +kernel) rfl rfl (by decide +kernel) (fun H locs hZ => ?_)
  have hZ : ZN x pre [.inr (4, [rf x bb, rf x (nb + 2), rf x (nb + 5), .null, rf x (nb + 1), .int 0]), aI x 20, .inr (1, [rf x bb, rf x (nb + 3), rf x (nb + 4), .int 0]), aI x 81, aI x 81, .inr (1, [rf x bb, rf x (nb + 6), rf x (nb + 7), .int 0]), aI x 81, aI x 81] s _ _ := hZ
  refine n_al (k := 0) (a := nb + 0) hA (by decide +kernel) rfl ?_
  refine n_new (index := 29) (nb := nb) (cj := 3) (fs := [.null, .int 0]) hA hZ hn rfl (by decide +kernel) (by decide +kernel) (by decide +kernel) df_3 (by decide +kernel) (by decide +kernel) (by decide +kernel) (fun H hZ => ?_)
  have hZ : ZN x pre [.inr (4, [rf x bb, rf x (nb + 2), rf x (nb + 5), .null, rf x (nb + 1), .int 0]), aI x 20, .inr (1, [rf x bb, rf x (nb + 3), rf x (nb + 4), .int 0]), aI x 81, aI x 81, .inr (1, [rf x bb, rf x (nb + 6), rf x (nb + 7), .int 0]), aI x 81, aI x 81, .inr (3, [.null, .int 0])] s _ _ := hZ
  refine n_dup (a := nb + 8) hA (by decide +kernel) ?_
  refine lv_iconst hA.1 hA.2.1 (n := 0) (v := 0) (by decide +kernel) (by decide +kernel) ?_
  have hM := cR (z := 0) (n := 0) x (pre ++ [.inr (4, [rf x bb, rf x (nb + 2), rf x (nb + 5), .null, rf x (nb + 1), .int 0]), aI x 20, .inr (1, [rf x bb, rf x (nb + 3), rf x (nb + 4), .int 0]), aI x 81, aI x 81, .inr (1, [rf x bb, rf x (nb + 6), rf x (nb + 7), .int 0]), aI x 81, aI x 81]) (nb := (nb + 8)) (by rw [List.length_append, hn]; rfl) (by decide +kernel) (by decide +kernel) (by decide +kernel) l
  rw [List.append_assoc] at hM
  refine n_call (index := 31) (a := nb + 8) (As := [.int 0]) (tl := [.inr (4, [rf x bb, rf x (nb + 2), rf x (nb + 5), .null, rf x (nb + 1), .int 0]), aI x 20, .inr (1, [rf x bb, rf x (nb + 3), rf x (nb + 4), .int 0]), aI x 81, aI x 81, .inr (1, [rf x bb, rf x (nb + 6), rf x (nb + 7), .int 0]), aI x 81, aI x 81, .inr (3, [.null, .int 0])]) hA hZ hM wR (by decide +kernel) ⟨rfl, rfl, by decide +kernel, by decide +kernel⟩ rfl rfl rfl (Nat.le_of_ble_eq_true rfl) (by decide +kernel) ⟨by decide +kernel, by decide +kernel⟩ ?_
  rintro _ H locs rfl hZ
  have hZ : ZN x pre [.inr (4, [rf x bb, rf x (nb + 2), rf x (nb + 5), .null, rf x (nb + 1), .int 0]), aI x 20, .inr (1, [rf x bb, rf x (nb + 3), rf x (nb + 4), .int 0]), aI x 81, aI x 81, .inr (1, [rf x bb, rf x (nb + 6), rf x (nb + 7), .int 0]), aI x 81, aI x 81, .inr (3, [rf x (nb + 9), .int 0]), aI x 0] s _ _ := hZ.mv (by rw [List.append_nil, List.append_assoc]; rfl)
  refine n_put (index := 34) (nb := nb) (i := 0) (k := 3) (v := rf x (nb + 8)) hA hin hZ hn rfl rfl rfl (by decide +kernel) (Nat.le_of_ble_eq_true rfl) (by decide +kernel) rfl rfl (by decide +kernel) (fun H locs hZ => ?_)
  have hZ : ZN x pre [.inr (4, [rf x bb, rf x (nb + 2), rf x (nb + 5), rf x (nb + 8), rf x (nb + 1), .int 0]), aI x 20, .inr (1, [rf x bb, rf x (nb + 3), rf x (nb + 4), .int 0]), aI x 81, aI x 81, .inr (1, [rf x bb, rf x (nb + 6), rf x (nb + 7), .int 0]), aI x 81, aI x 81, .inr (3, [rf x (nb + 9), .int 0]), aI x 0] s _ _ := hZ
  exact n_ret hA hrt hlk hZ rfl (by decide +kernel)
theorem wH : cW yH prog_4_method_1_code 1 0 = true := by decide +kernel
theorem cH (x : cx) (pre : List va_E) {nb : Nat} (hn : pre.length = nb) (l : Launch) : Met l yH [.code yH prog_4_method_1_code 1 none] { frames := 2, cells := 7, slots := 552, locals := 40 } (PN x [rf x (nb + 0)] (pre ++ [.inr (2, [.null, .null, .null, .null, .int 0, .int 0])])) (QN x (fun E => E = pre ++ [.inr (2, [rf x (nb + 1), rf x (nb + 2), rf x (nb + 3), rf x (nb + 4), .int 0, .int 0]), aI x 150, aI x 150, aZ x 150, .inr (0, [rf x (nb + 5), rf x (nb + 6), rf x (nb + 7)]), aI x 81, aI x 16, aI x 2])) 7 552 x.A := by
  refine n_of (ci := 2) (lsA := #[Slot.val (rf x (nb + 0))]) (by decide +kernel) rfl rfl rfl ?_ l
  intro p l e s m args below meth c H hA hin hrt hlk hsz hZ
  refine n_al (k := 0) (a := nb + 0) hA (by decide +kernel) rfl ?_
  refine n_obj (idx := 3) (a := nb + 0) hA (by decide +kernel) rfl (by decide +kernel) (Nat.le_of_ble_eq_true rfl) (Nat.le_of_ble_eq_true rfl) ?_
  refine n_al (k := 0) (a := nb + 0) hA (by decide +kernel) rfl ?_
  refine lv_sipush hA.1 hA.2.1 (n := 150) (v := 150) (by decide +kernel) (by decide +kernel) ?_
  refine n_newa (atype := .int) (nb := nb) (i := 0) (ty := .int) (N' := 150) (a0 := (150, .inl (fun _ => 0))) hA hZ hn rfl rfl (fun _ _ => rfl) (by decide +kernel) (fun _ => rfl) (by decide +kernel) (by decide +kernel) (by decide +kernel) (by decide +kernel) (by decide +kernel) (by decide +kernel) (fun H hZ => ?_)
  have hZ : ZN x pre [.inr (2, [.null, .null, .null, .null, .int 0, .int 0]), aI x 150] s _ _ := hZ
  refine n_put (index := 11) (nb := nb) (i := 0) (k := 0) (v := rf x (nb + 1)) hA hin hZ hn rfl rfl rfl (by decide +kernel) (Nat.le_of_ble_eq_true rfl) (by decide +kernel) rfl rfl (by decide +kernel) (fun H locs hZ => ?_)
  have hZ : ZN x pre [.inr (2, [rf x (nb + 1), .null, .null, .null, .int 0, .int 0]), aI x 150] s _ _ := hZ
  refine n_al (k := 0) (a := nb + 0) hA (by decide +kernel) rfl ?_
  refine lv_sipush hA.1 hA.2.1 (n := 150) (v := 150) (by decide +kernel) (by decide +kernel) ?_
  refine n_newa (atype := .int) (nb := nb) (i := 0) (ty := .int) (N' := 150) (a0 := (150, .inl (fun _ => 0))) hA hZ hn rfl rfl (fun _ _ => rfl) (by decide +kernel) (fun _ => rfl) (by decide +kernel) (by decide +kernel) (by decide +kernel) (by decide +kernel) (by decide +kernel) (by decide +kernel) (fun H hZ => ?_)
  have hZ : ZN x pre [.inr (2, [rf x (nb + 1), .null, .null, .null, .int 0, .int 0]), aI x 150, aI x 150] s _ _ := hZ
  refine n_put (index := 15) (nb := nb) (i := 0) (k := 1) (v := rf x (nb + 2)) hA hin hZ hn rfl rfl rfl (by decide +kernel) (Nat.le_of_ble_eq_true rfl) (by decide +kernel) rfl rfl (by decide +kernel) (fun H locs hZ => ?_)
  have hZ : ZN x pre [.inr (2, [rf x (nb + 1), rf x (nb + 2), .null, .null, .int 0, .int 0]), aI x 150, aI x 150] s _ _ := hZ
  refine n_al (k := 0) (a := nb + 0) hA (by decide +kernel) rfl ?_
  refine lv_sipush hA.1 hA.2.1 (n := 150) (v := 150) (by decide +kernel) (by decide +kernel) ?_
  refine n_newa (atype := .boolean) (nb := nb) (i := 1) (ty := .boolean) (N' := 150) (a0 := (150, .inl (fun _ => 0))) hA hZ hn rfl rfl (fun _ _ => rfl) (by decide +kernel) (fun _ => rfl) (by decide +kernel) (by decide +kernel) (by decide +kernel) (by decide +kernel) (by decide +kernel) (by decide +kernel) (fun H hZ => ?_)
  have hZ : ZN x pre [.inr (2, [rf x (nb + 1), rf x (nb + 2), .null, .null, .int 0, .int 0]), aI x 150, aI x 150, aZ x 150] s _ _ := hZ
  refine n_put (index := 18) (nb := nb) (i := 0) (k := 2) (v := rf x (nb + 3)) hA hin hZ hn rfl rfl rfl (by decide +kernel) (Nat.le_of_ble_eq_true rfl) (by decide +kernel) rfl rfl (by decide +kernel) (fun H locs hZ => ?_)
  have hZ : ZN x pre [.inr (2, [rf x (nb + 1), rf x (nb + 2), rf x (nb + 3), .null, .int 0, .int 0]), aI x 150, aI x 150, aZ x 150] s _ _ := hZ
  refine n_al (k := 0) (a := nb + 0) hA (by decide +kernel) rfl ?_
  refine n_new (index := 22) (nb := nb) (cj := 0) (fs := [.null, .null, .null]) hA hZ hn rfl (by decide +kernel) (by decide +kernel) (by decide +kernel) df_0 (by decide +kernel) (by decide +kernel) (by decide +kernel) (fun H hZ => ?_)
  have hZ : ZN x pre [.inr (2, [rf x (nb + 1), rf x (nb + 2), rf x (nb + 3), .null, .int 0, .int 0]), aI x 150, aI x 150, aZ x 150, .inr (0, [.null, .null, .null])] s _ _ := hZ
  refine n_dup (a := nb + 4) hA (by decide +kernel) ?_
  have hM := cB x (pre ++ [.inr (2, [rf x (nb + 1), rf x (nb + 2), rf x (nb + 3), .null, .int 0, .int 0]), aI x 150, aI x 150, aZ x 150]) (nb := (nb + 4)) (by rw [List.length_append, hn]; rfl) l
  rw [List.append_assoc] at hM
  refine n_callN (index := 24) (a := nb + 4) (As := []) (tl := [.inr (2, [rf x (nb + 1), rf x (nb + 2), rf x (nb + 3), .null, .int 0, .int 0]), aI x 150, aI x 150, aZ x 150, .inr (0, [.null, .null, .null])]) hA hZ hM wB hA.2.2.2.2.2.2.2 ⟨rfl, rfl, by decide +kernel, by decide +kernel⟩ rfl rfl rfl (Nat.le_of_ble_eq_true rfl) (by decide +kernel) ⟨by decide +kernel, by decide +kernel⟩ ?_
  rintro _ H locs rfl hZ
  have hZ : ZN x pre [.inr (2, [rf x (nb + 1), rf x (nb + 2), rf x (nb + 3), .null, .int 0, .int 0]), aI x 150, aI x 150, aZ x 150, .inr (0, [rf x (nb + 5), rf x (nb + 6), rf x (nb + 7)]), aI x 81, aI x 16, aI x 2] s _ _ := hZ.mv (by rw [List.append_nil, List.append_assoc]; rfl)
  refine n_put (index := 25) (nb := nb) (i := 0) (k := 3) (v := rf x (nb + 4)) hA hin hZ hn rfl rfl rfl (by decide +kernel) (Nat.le_of_ble_eq_true rfl) (by decide +kernel) rfl rfl (by decide +kernel) (fun H locs hZ => ?_)
  have hZ : ZN x pre [.inr (2, [rf x (nb + 1), rf x (nb + 2), rf x (nb + 3), rf x (nb + 4), .int 0, .int 0]), aI x 150, aI x 150, aZ x 150, .inr (0, [rf x (nb + 5), rf x (nb + 6), rf x (nb + 7)]), aI x 81, aI x 16, aI x 2] s _ _ := hZ
  exact n_ret hA hrt hlk hZ rfl (by decide +kernel)
