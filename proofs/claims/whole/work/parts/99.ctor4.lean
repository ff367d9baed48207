/-! the two objects of the law (by program: wip/whole/gen/ctors.py) -/
abbrev M0 : am := fun _ _ => 0
theorem en_0 {x : cx} (hlc : lcB x 37) : ent x M0 0 = .inr (5, [rf x 1, rf x 5, rf x 15, rf x 23, rf x 25, .int 0]) := by
  rw [show ent x M0 0 = .inr (5, [.ref (x.loc 1), .ref (x.loc 5), .ref (x.loc 15), .ref (x.loc 23), .ref (x.loc 25), .int 0]) from rfl, hlc 1 (by decide), hlc 5 (by decide), hlc 15 (by decide), hlc 23 (by decide), hlc 25 (by decide)]
  rfl
theorem en_1 {x : cx} (hlc : lcB x 37) : ent x M0 1 = .inr (0, [rf x 2, rf x 3, rf x 4]) := by
  rw [show ent x M0 1 = .inr (0, [.ref (x.loc 2), .ref (x.loc 3), .ref (x.loc 4)]) from rfl, hlc 2 (by decide), hlc 3 (by decide), hlc 4 (by decide)]
  rfl
theorem en_2 {x : cx} (hlc : lcB x 37) : ent x M0 2 = aI x 81 := rfl
theorem en_3 {x : cx} (hlc : lcB x 37) : ent x M0 3 = aI x 16 := rfl
theorem en_4 {x : cx} (hlc : lcB x 37) : ent x M0 4 = aI x 2 := rfl
theorem en_5 {x : cx} (hlc : lcB x 37) : ent x M0 5 = .inr (4, [rf x 1, rf x 7, rf x 10, rf x 13, rf x 6, .int 0]) := by
  rw [show ent x M0 5 = .inr (4, [.ref (x.loc 1), .ref (x.loc 7), .ref (x.loc 10), .ref (x.loc 13), .ref (x.loc 6), .int 0]) from rfl, hlc 1 (by decide), hlc 7 (by decide), hlc 10 (by decide), hlc 13 (by decide), hlc 6 (by decide)]
  rfl
theorem en_6 {x : cx} (hlc : lcB x 37) : ent x M0 6 = aI x 20 := rfl
theorem en_7 {x : cx} (hlc : lcB x 37) : ent x M0 7 = .inr (1, [rf x 1, rf x 8, rf x 9, .int 0]) := by
  rw [show ent x M0 7 = .inr (1, [.ref (x.loc 1), .ref (x.loc 8), .ref (x.loc 9), .int 0]) from rfl, hlc 1 (by decide), hlc 8 (by decide), hlc 9 (by decide)]
  rfl
theorem en_8 {x : cx} (hlc : lcB x 37) : ent x M0 8 = aI x 81 := rfl
theorem en_9 {x : cx} (hlc : lcB x 37) : ent x M0 9 = aI x 81 := rfl
theorem en_10 {x : cx} (hlc : lcB x 37) : ent x M0 10 = .inr (1, [rf x 1, rf x 11, rf x 12, .int 0]) := by
  rw [show ent x M0 10 = .inr (1, [.ref (x.loc 1), .ref (x.loc 11), .ref (x.loc 12), .int 0]) from rfl, hlc 1 (by decide), hlc 11 (by decide), hlc 12 (by decide)]
  rfl
theorem en_11 {x : cx} (hlc : lcB x 37) : ent x M0 11 = aI x 81 := rfl
theorem en_12 {x : cx} (hlc : lcB x 37) : ent x M0 12 = aI x 81 := rfl
theorem en_13 {x : cx} (hlc : lcB x 37) : ent x M0 13 = .inr (3, [rf x 14, .int 0]) := by
  rw [show ent x M0 13 = .inr (3, [.ref (x.loc 14), .int 0]) from rfl, hlc 14 (by decide)]
  rfl
theorem en_14 {x : cx} (hlc : lcB x 37) : ent x M0 14 = aI x 0 := rfl
theorem en_15 {x : cx} (hlc : lcB x 37) : ent x M0 15 = .inr (2, [rf x 16, rf x 17, rf x 18, rf x 19, .int 0, .int 0]) := by
  rw [show ent x M0 15 = .inr (2, [.ref (x.loc 16), .ref (x.loc 17), .ref (x.loc 18), .ref (x.loc 19), .int 0, .int 0]) from rfl, hlc 16 (by decide), hlc 17 (by decide), hlc 18 (by decide), hlc 19 (by decide)]
  rfl
theorem en_16 {x : cx} (hlc : lcB x 37) : ent x M0 16 = aI x 150 := rfl
theorem en_17 {x : cx} (hlc : lcB x 37) : ent x M0 17 = aI x 150 := rfl
theorem en_18 {x : cx} (hlc : lcB x 37) : ent x M0 18 = aZ x 150 := rfl
theorem en_19 {x : cx} (hlc : lcB x 37) : ent x M0 19 = .inr (0, [rf x 20, rf x 21, rf x 22]) := by
  rw [show ent x M0 19 = .inr (0, [.ref (x.loc 20), .ref (x.loc 21), .ref (x.loc 22)]) from rfl, hlc 20 (by decide), hlc 21 (by decide), hlc 22 (by decide)]
  rfl
theorem en_20 {x : cx} (hlc : lcB x 37) : ent x M0 20 = aI x 81 := rfl
theorem en_21 {x : cx} (hlc : lcB x 37) : ent x M0 21 = aI x 16 := rfl
theorem en_22 {x : cx} (hlc : lcB x 37) : ent x M0 22 = aI x 2 := rfl
theorem en_23 {x : cx} (hlc : lcB x 37) : ent x M0 23 = .inr (3, [rf x 24, .int 0]) := by
  rw [show ent x M0 23 = .inr (3, [.ref (x.loc 24), .int 0]) from rfl, hlc 24 (by decide)]
  rfl
theorem en_24 {x : cx} (hlc : lcB x 37) : ent x M0 24 = aI x 3113 := rfl
theorem en_25 {x : cx} (hlc : lcB x 37) : ent x M0 25 = .inr (3, [rf x 26, .int 0]) := by
  rw [show ent x M0 25 = .inr (3, [.ref (x.loc 26), .int 0]) from rfl, hlc 26 (by decide)]
  rfl
theorem en_26 {x : cx} (hlc : lcB x 37) : ent x M0 26 = aI x 0 := rfl
theorem en_27 {x : cx} (hlc : lcB x 37) : ent x M0 27 = .inr (6, [.int 0, rf x 28, rf x 29, rf x 30, .int 0, .int 0, .int 0, rf x 31, rf x 32, rf x 33, rf x 34, rf x 35]) := by
  rw [show ent x M0 27 = .inr (6, [.int 0, .ref (x.loc 28), .ref (x.loc 29), .ref (x.loc 30), .int 0, .int 0, .int 0, .ref (x.loc 31), .ref (x.loc 32), .ref (x.loc 33), .ref (x.loc 34), .ref (x.loc 35)]) from rfl, hlc 28 (by decide), hlc 29 (by decide), hlc 30 (by decide), hlc 31 (by decide), hlc 32 (by decide), hlc 33 (by decide), hlc 34 (by decide), hlc 35 (by decide)]
  rfl
theorem en_28 {x : cx} (hlc : lcB x 37) : ent x M0 28 = aI x 81 := rfl
theorem en_29 {x : cx} (hlc : lcB x 37) : ent x M0 29 = aI x 16 := rfl
theorem en_30 {x : cx} (hlc : lcB x 37) : ent x M0 30 = aI x 2 := rfl
theorem en_31 {x : cx} (hlc : lcB x 37) : ent x M0 31 = aI x 150 := rfl
theorem en_32 {x : cx} (hlc : lcB x 37) : ent x M0 32 = aI x 150 := rfl
theorem en_33 {x : cx} (hlc : lcB x 37) : ent x M0 33 = aJ x 1359 := rfl
theorem en_34 {x : cx} (hlc : lcB x 37) : ent x M0 34 = aZ x 151 := rfl
theorem en_35 {x : cx} (hlc : lcB x 37) : ent x M0 35 = aI x 4 := rfl
theorem en_36 {x : cx} (hlc : lcB x 37) : ent x M0 36 = aJ x 1 := rfl
theorem eM_27 {x : cx} (hlc : lcB x 37) : eM x 27 M0 = [.inr (5, [rf x 1, rf x 5, rf x 15, rf x 23, rf x 25, .int 0]), .inr (0, [rf x 2, rf x 3, rf x 4]), aI x 81, aI x 16, aI x 2, .inr (4, [rf x 1, rf x 7, rf x 10, rf x 13, rf x 6, .int 0]), aI x 20, .inr (1, [rf x 1, rf x 8, rf x 9, .int 0]), aI x 81, aI x 81, .inr (1, [rf x 1, rf x 11, rf x 12, .int 0]), aI x 81, aI x 81, .inr (3, [rf x 14, .int 0]), aI x 0, .inr (2, [rf x 16, rf x 17, rf x 18, rf x 19, .int 0, .int 0]), aI x 150, aI x 150, aZ x 150, .inr (0, [rf x 20, rf x 21, rf x 22]), aI x 81, aI x 16, aI x 2, .inr (3, [rf x 24, .int 0]), aI x 3113, .inr (3, [rf x 26, .int 0]), aI x 0] := by
  show [ent x M0 0, ent x M0 1, ent x M0 2, ent x M0 3, ent x M0 4, ent x M0 5, ent x M0 6, ent x M0 7, ent x M0 8, ent x M0 9, ent x M0 10, ent x M0 11, ent x M0 12, ent x M0 13, ent x M0 14, ent x M0 15, ent x M0 16, ent x M0 17, ent x M0 18, ent x M0 19, ent x M0 20, ent x M0 21, ent x M0 22, ent x M0 23, ent x M0 24, ent x M0 25, ent x M0 26] = _
  rw [en_0 hlc, en_1 hlc, en_2 hlc, en_3 hlc, en_4 hlc, en_5 hlc, en_6 hlc, en_7 hlc, en_8 hlc, en_9 hlc, en_10 hlc, en_11 hlc, en_12 hlc, en_13 hlc, en_14 hlc, en_15 hlc, en_16 hlc, en_17 hlc, en_18 hlc, en_19 hlc, en_20 hlc, en_21 hlc, en_22 hlc, en_23 hlc, en_24 hlc, en_25 hlc, en_26 hlc]
theorem ent_cg {x : cx} {M M' : am} {a : Nat} (h : M a = M' a) : ent x M a = ent x M' a := by
  have e2 : fv x M a = fv x M' a := by
    funext j f
    cases f <;> simp [fv, h]
  simp only [ent, h, e2]
theorem eM_36 {x : cx} (hlc : lcB x 37) {M1 : am} (h0 : ∀ a, 27 ≤ a → M1 a = M0 a) : eM x 36 M1 = eM x 27 M1 ++ [.inr (6, [.int 0, rf x 28, rf x 29, rf x 30, .int 0, .int 0, .int 0, rf x 31, rf x 32, rf x 33, rf x 34, rf x 35]), aI x 81, aI x 16, aI x 2, aI x 150, aI x 150, aJ x 1359, aZ x 151, aI x 4] := by
  have e : List.range 36 = List.range 27 ++ [27, 28, 29, 30, 31, 32, 33, 34, 35] := rfl
  rw [eM, e, List.map_append]
  congr 1
  show [ent x M1 27, ent x M1 28, ent x M1 29, ent x M1 30, ent x M1 31, ent x M1 32, ent x M1 33, ent x M1 34, ent x M1 35] = _
  rw [ent_cg (h0 27 (by decide)), en_27 hlc, ent_cg (h0 28 (by decide)), en_28 hlc, ent_cg (h0 29 (by decide)), en_29 hlc, ent_cg (h0 30 (by decide)), en_30 hlc, ent_cg (h0 31 (by decide)), en_31 hlc, ent_cg (h0 32 (by decide)), en_32 hlc, ent_cg (h0 33 (by decide)), en_33 hlc, ent_cg (h0 34 (by decide)), en_34 hlc, ent_cg (h0 35 (by decide)), en_35 hlc]
theorem eM_37 {x : cx} (hlc : lcB x 37) {M1 : am} (h0 : M1 36 = M0 36) : eM x 37 M1 = eM x 36 M1 ++ [aJ x 1] := by
  have e : List.range 37 = List.range 36 ++ [36] := rfl
  rw [eM, e, List.map_append]
  congr 1
  show [ent x M1 36] = _
  rw [ent_cg h0, en_36 hlc]
theorem lcB.le {x : cx} {n k : Nat} (h : lcB x n) (hk : k ≤ n) : lcB x k := fun a ha => h a (Nat.lt_of_lt_of_le ha hk)
theorem Rg_0 : Rg M0 := fun a k => ⟨fun _ => (by decide : (-2147483648 : Int) ≤ 0 ∧ (0 : Int) ≤ 2147483647), fun _ => (by decide : (-9223372036854775808 : Int) ≤ 0 ∧ (0 : Int) ≤ 9223372036854775807)⟩
theorem wD : cW yD prog_1_method_1_code 1 0 = true := by decide +kernel
def pD (x : cx) : List va_E → Prop := fun E => ∃ M', sbP M0 none M' ∧ Rg M' ∧ E = eM x 27 M'
theorem cD (x : cx) (hlc : lcB x 37) (l : Launch) : Met l yD [.code yD prog_1_method_1_code 1 none] { frames := 4, cells := 26, slots := 4137, locals := 90 } (PN x [rf x (0 + 0)] ([] ++ [.inr (5, [.null, .null, .null, .null, .null, .int 0])])) (QN x (pD x)) 26 4137 x.A := by
  have hn : ([] : List va_E).length = 0 := rfl
  refine n_of (ci := 5) (lsA := #[Slot.val (rf x (0 + 0))]) (by decide +kernel) rfl rfl rfl ?_ l
  intro p l e s m args below meth c H hA hin hrt hlk hsz hZ
  refine n_al (k := 0) (a := 0 + 0) hA (by decide +kernel) rfl ?_
  refine n_obj (idx := 1) (a := 0 + 0) hA (by decide +kernel) rfl (by decide +kernel) (Nat.le_of_ble_eq_true rfl) (Nat.le_of_ble_eq_true rfl) ?_
  refine n_al (k := 0) (a := 0 + 0) hA (by decide +kernel) rfl ?_
  refine n_new (index := 7) (nb := 0) (cj := 0) (fs := [.null, .null, .null]) hA hZ hn rfl (by decide +kernel) (by decide +kernel) (by decide +kernel) df_0 (by decide +kernel) (by decide +kernel) (by decide +kernel) (fun H hZ => ?_)
  have hZ : ZN x [] [.inr (5, [.null, .null, .null, .null, .null, .int 0]), .inr (0, [.null, .null, .null])] s _ _ := hZ
  refine n_dup (a := 0 + 1) hA (by decide +kernel) ?_
  have hM := cB x ([] ++ [.inr (5, [.null, .null, .null, .null, .null, .int 0])]) (nb := (0 + 1)) (by rw [List.length_append, hn]; rfl) l
  rw [List.append_assoc] at hM
  refine n_callN (index := 9) (a := 0 + 1) (As := []) (tl := [.inr (5, [.null, .null, .null, .null, .null, .int 0]), .inr (0, [.null, .null, .null])]) hA hZ hM wB hA.2.2.2.2.2.1 ⟨rfl, rfl, by decide +kernel, by decide +kernel⟩ rfl rfl rfl (Nat.le_of_ble_eq_true rfl) (by decide +kernel) ⟨by decide +kernel, by decide +kernel⟩ ?_
  rintro _ H locs rfl hZ
  have hZ : ZN x [] [.inr (5, [.null, .null, .null, .null, .null, .int 0]), .inr (0, [rf x (0 + 2), rf x (0 + 3), rf x (0 + 4)]), aI x 81, aI x 16, aI x 2] s _ _ := hZ.mv (by rw [List.append_nil, List.append_assoc]; rfl)
  refine n_put (index := 10) (nb := 0) (i := 0) (k := 0) (v := rf x (0 + 1)) hA hin hZ hn rfl rfl rfl (by decide +kernel) (Nat.le_of_ble_eq_true rfl) (by decide +kernel) rfl rfl (by decide +kernel) (fun H locs hZ => ?_)
  have hZ : ZN x [] [.inr (5, [rf x (0 + 1), .null, .null, .null, .null, .int 0]), .inr (0, [rf x (0 + 2), rf x (0 + 3), rf x (0 + 4)]), aI x 81, aI x 16, aI x 2] s _ _ := hZ
  refine n_al (k := 0) (a := 0 + 0) hA (by decide +kernel) rfl ?_
  refine n_new (index := 16) (nb := 0) (cj := 4) (fs := [.null, .null, .null, .null, .null, .int 0]) hA hZ hn rfl (by decide +kernel) (by decide +kernel) (by decide +kernel) df_4 (by decide +kernel) (by decide +kernel) (by decide +kernel) (fun H hZ => ?_)
  have hZ : ZN x [] [.inr (5, [rf x (0 + 1), .null, .null, .null, .null, .int 0]), .inr (0, [rf x (0 + 2), rf x (0 + 3), rf x (0 + 4)]), aI x 81, aI x 16, aI x 2, .inr (4, [.null, .null, .null, .null, .null, .int 0])] s _ _ := hZ
  refine n_dup (a := 0 + 5) hA (by decide +kernel) ?_
  refine n_al (k := 0) (a := 0 + 0) hA (by decide +kernel) rfl ?_
  refine n_get (index := 10) (nb := 0) (i := 0) (k := 0) hA hZ hn rfl rfl (by decide +kernel) (by decide +kernel) rfl (by decide +kernel) ?_
  have hM := cU (bb := (0 + 1)) x ([] ++ [.inr (5, [rf x (0 + 1), .null, .null, .null, .null, .int 0]), .inr (0, [rf x (0 + 2), rf x (0 + 3), rf x (0 + 4)]), aI x 81, aI x 16, aI x 2]) (nb := (0 + 5)) (by rw [List.length_append, hn]; rfl) l
  rw [List.append_assoc] at hM
  refine n_call (index := 18) (a := 0 + 5) (As := [rf x (0 + 1)]) (tl := [.inr (5, [rf x (0 + 1), .null, .null, .null, .null, .int 0]), .inr (0, [rf x (0 + 2), rf x (0 + 3), rf x (0 + 4)]), aI x 81, aI x 16, aI x 2, .inr (4, [.null, .null, .null, .null, .null, .int 0])]) hA hZ hM wU (by decide +kernel) ⟨rfl, rfl, by decide +kernel, by decide +kernel⟩ rfl rfl rfl (Nat.le_of_ble_eq_true rfl) (by decide +kernel) ⟨by decide +kernel, by decide +kernel⟩ ?_
  rintro _ H locs rfl hZ
  have hZ : ZN x [] [.inr (5, [rf x (0 + 1), .null, .null, .null, .null, .int 0]), .inr (0, [rf x (0 + 2), rf x (0 + 3), rf x (0 + 4)]), aI x 81, aI x 16, aI x 2, .inr (4, [rf x (0 + 1), rf x (0 + 7), rf x (0 + 10), rf x (0 + 13), rf x (0 + 6), .int 0]), aI x 20, .inr (1, [rf x (0 + 1), rf x (0 + 8), rf x (0 + 9), .int 0]), aI x 81, aI x 81, .inr (1, [rf x (0 + 1), rf x (0 + 11), rf x (0 + 12), .int 0]), aI x 81, aI x 81, .inr (3, [rf x (0 + 14), .int 0]), aI x 0] s _ _ := hZ.mv (by rw [List.append_nil, List.append_assoc]; rfl)
  refine n_put (index := 21) (nb := 0) (i := 0) (k := 1) (v := rf x (0 + 5)) hA hin hZ hn rfl rfl rfl (by decide +kernel) (Nat.le_of_ble_eq_true rfl) (by decide +kernel) rfl rfl (by decide +kernel) (fun H locs hZ => ?_)
  have hZ : ZN x [] [.inr (5, [rf x (0 + 1), rf x (0 + 5), .null, .null, .null, .int 0]), .inr (0, [rf x (0 + 2), rf x (0 + 3), rf x (0 + 4)]), aI x 81, aI x 16, aI x 2, .inr (4, [rf x (0 + 1), rf x (0 + 7), rf x (0 + 10), rf x (0 + 13), rf x (0 + 6), .int 0]), aI x 20, .inr (1, [rf x (0 + 1), rf x (0 + 8), rf x (0 + 9), .int 0]), aI x 81, aI x 81, .inr (1, [rf x (0 + 1), rf x (0 + 11), rf x (0 + 12), .int 0]), aI x 81, aI x 81, .inr (3, [rf x (0 + 14), .int 0]), aI x 0] s _ _ := hZ
  refine n_al (k := 0) (a := 0 + 0) hA (by decide +kernel) rfl ?_
  refine n_new (index := 25) (nb := 0) (cj := 2) (fs := [.null, .null, .null, .null, .int 0, .int 0]) hA hZ hn rfl (by decide +kernel) (by decide +kernel) (by decide +kernel) df_2 (by decide +kernel) (by decide +kernel) (by decide +kernel) (fun H hZ => ?_)
  have hZ : ZN x [] [.inr (5, [rf x (0 + 1), rf x (0 + 5), .null, .null, .null, .int 0]), .inr (0, [rf x (0 + 2), rf x (0 + 3), rf x (0 + 4)]), aI x 81, aI x 16, aI x 2, .inr (4, [rf x (0 + 1), rf x (0 + 7), rf x (0 + 10), rf x (0 + 13), rf x (0 + 6), .int 0]), aI x 20, .inr (1, [rf x (0 + 1), rf x (0 + 8), rf x (0 + 9), .int 0]), aI x 81, aI x 81, .inr (1, [rf x (0 + 1), rf x (0 + 11), rf x (0 + 12), .int 0]), aI x 81, aI x 81, .inr (3, [rf x (0 + 14), .int 0]), aI x 0, .inr (2, [.null, .null, .null, .null, .int 0, .int 0])] s _ _ := hZ
  refine n_dup (a := 0 + 15) hA (by decide +kernel) ?_
  have hM := cH x ([] ++ [.inr (5, [rf x (0 + 1), rf x (0 + 5), .null, .null, .null, .int 0]), .inr (0, [rf x (0 + 2), rf x (0 + 3), rf x (0 + 4)]), aI x 81, aI x 16, aI x 2, .inr (4, [rf x (0 + 1), rf x (0 + 7), rf x (0 + 10), rf x (0 + 13), rf x (0 + 6), .int 0]), aI x 20, .inr (1, [rf x (0 + 1), rf x (0 + 8), rf x (0 + 9), .int 0]), aI x 81, aI x 81, .inr (1, [rf x (0 + 1), rf x (0 + 11), rf x (0 + 12), .int 0]), aI x 81, aI x 81, .inr (3, [rf x (0 + 14), .int 0]), aI x 0]) (nb := (0 + 15)) (by rw [List.length_append, hn]; rfl) l
  rw [List.append_assoc] at hM
  refine n_callN (index := 27) (a := 0 + 15) (As := []) (tl := [.inr (5, [rf x (0 + 1), rf x (0 + 5), .null, .null, .null, .int 0]), .inr (0, [rf x (0 + 2), rf x (0 + 3), rf x (0 + 4)]), aI x 81, aI x 16, aI x 2, .inr (4, [rf x (0 + 1), rf x (0 + 7), rf x (0 + 10), rf x (0 + 13), rf x (0 + 6), .int 0]), aI x 20, .inr (1, [rf x (0 + 1), rf x (0 + 8), rf x (0 + 9), .int 0]), aI x 81, aI x 81, .inr (1, [rf x (0 + 1), rf x (0 + 11), rf x (0 + 12), .int 0]), aI x 81, aI x 81, .inr (3, [rf x (0 + 14), .int 0]), aI x 0, .inr (2, [.null, .null, .null, .null, .int 0, .int 0])]) hA hZ hM wH hA.2.2.2.2.2.2.1 ⟨rfl, rfl, by decide +kernel, by decide +kernel⟩ rfl rfl rfl (Nat.le_of_ble_eq_true rfl) (by decide +kernel) ⟨by decide +kernel, by decide +kernel⟩ ?_
  rintro _ H locs rfl hZ
  have hZ : ZN x [] [.inr (5, [rf x (0 + 1), rf x (0 + 5), .null, .null, .null, .int 0]), .inr (0, [rf x (0 + 2), rf x (0 + 3), rf x (0 + 4)]), aI x 81, aI x 16, aI x 2, .inr (4, [rf x (0 + 1), rf x (0 + 7), rf x (0 + 10), rf x (0 + 13), rf x (0 + 6), .int 0]), aI x 20, .inr (1, [rf x (0 + 1), rf x (0 + 8), rf x (0 + 9), .int 0]), aI x 81, aI x 81, .inr (1, [rf x (0 + 1), rf x (0 + 11), rf x (0 + 12), .int 0]), aI x 81, aI x 81, .inr (3, [rf x (0 + 14), .int 0]), aI x 0, .inr (2, [rf x (0 + 16), rf x (0 + 17), rf x (0 + 18), rf x (0 + 19), .int 0, .int 0]), aI x 150, aI x 150, aZ x 150, .inr (0, [rf x (0 + 20), rf x (0 + 21), rf x (0 + 22)]), aI x 81, aI x 16, aI x 2] s _ _ := hZ.mv (by rw [List.append_nil, List.append_assoc]; rfl)
  refine n_put (index := 28) (nb := 0) (i := 0) (k := 2) (v := rf x (0 + 15)) hA hin hZ hn rfl rfl rfl (by decide +kernel) (Nat.le_of_ble_eq_true rfl) (by decide +kernel) rfl rfl (by decide +kernel) (fun H locs hZ => ?_)
  have hZ : ZN x [] [.inr (5, [rf x (0 + 1), rf x (0 + 5), rf x (0 + 15), .null, .null, .int 0]), .inr (0, [rf x (0 + 2), rf x (0 + 3), rf x (0 + 4)]), aI x 81, aI x 16, aI x 2, .inr (4, [rf x (0 + 1), rf x (0 + 7), rf x (0 + 10), rf x (0 + 13), rf x (0 + 6), .int 0]), aI x 20, .inr (1, [rf x (0 + 1), rf x (0 + 8), rf x (0 + 9), .int 0]), aI x 81, aI x 81, .inr (1, [rf x (0 + 1), rf x (0 + 11), rf x (0 + 12), .int 0]), aI x 81, aI x 81, .inr (3, [rf x (0 + 14), .int 0]), aI x 0, .inr (2, [rf x (0 + 16), rf x (0 + 17), rf x (0 + 18), rf x (0 + 19), .int 0, .int 0]), aI x 150, aI x 150, aZ x 150, .inr (0, [rf x (0 + 20), rf x (0 + 21), rf x (0 + 22)]), aI x 81, aI x 16, aI x 2] s _ _ := hZ
  refine n_al (k := 0) (a := 0 + 0) hA (by decide +kernel) rfl ?_
  refine n_new (index := 32) (nb := 0) (cj := 3) (fs := [.null, .int 0]) hA hZ hn rfl (by decide +kernel) (by decide +kernel) (by decide +kernel) df_3 (by decide +kernel) (by decide +kernel) (by decide +kernel) (fun H hZ => ?_)
  have hZ : ZN x [] [.inr (5, [rf x (0 + 1), rf x (0 + 5), rf x (0 + 15), .null, .null, .int 0]), .inr (0, [rf x (0 + 2), rf x (0 + 3), rf x (0 + 4)]), aI x 81, aI x 16, aI x 2, .inr (4, [rf x (0 + 1), rf x (0 + 7), rf x (0 + 10), rf x (0 + 13), rf x (0 + 6), .int 0]), aI x 20, .inr (1, [rf x (0 + 1), rf x (0 + 8), rf x (0 + 9), .int 0]), aI x 81, aI x 81, .inr (1, [rf x (0 + 1), rf x (0 + 11), rf x (0 + 12), .int 0]), aI x 81, aI x 81, .inr (3, [rf x (0 + 14), .int 0]), aI x 0, .inr (2, [rf x (0 + 16), rf x (0 + 17), rf x (0 + 18), rf x (0 + 19), .int 0, .int 0]), aI x 150, aI x 150, aZ x 150, .inr (0, [rf x (0 + 20), rf x (0 + 21), rf x (0 + 22)]), aI x 81, aI x 16, aI x 2, .inr (3, [.null, .int 0])] s _ _ := hZ
  refine n_dup (a := 0 + 23) hA (by decide +kernel) ?_
  refine lv_sipush hA.1 hA.2.1 (n := 3113) (v := 3113) (by decide +kernel) (by decide +kernel) ?_
  have hM := cR (z := 3113) (n := 3113) x ([] ++ [.inr (5, [rf x (0 + 1), rf x (0 + 5), rf x (0 + 15), .null, .null, .int 0]), .inr (0, [rf x (0 + 2), rf x (0 + 3), rf x (0 + 4)]), aI x 81, aI x 16, aI x 2, .inr (4, [rf x (0 + 1), rf x (0 + 7), rf x (0 + 10), rf x (0 + 13), rf x (0 + 6), .int 0]), aI x 20, .inr (1, [rf x (0 + 1), rf x (0 + 8), rf x (0 + 9), .int 0]), aI x 81, aI x 81, .inr (1, [rf x (0 + 1), rf x (0 + 11), rf x (0 + 12), .int 0]), aI x 81, aI x 81, .inr (3, [rf x (0 + 14), .int 0]), aI x 0, .inr (2, [rf x (0 + 16), rf x (0 + 17), rf x (0 + 18), rf x (0 + 19), .int 0, .int 0]), aI x 150, aI x 150, aZ x 150, .inr (0, [rf x (0 + 20), rf x (0 + 21), rf x (0 + 22)]), aI x 81, aI x 16, aI x 2]) (nb := (0 + 23)) (by rw [List.length_append, hn]; rfl) (by decide +kernel) (by decide +kernel) (by decide +kernel) l
  rw [List.append_assoc] at hM
  refine n_call (index := 34) (a := 0 + 23) (As := [.int 3113]) (tl := [.inr (5, [rf x (0 + 1), rf x (0 + 5), rf x (0 + 15), .null, .null, .int 0]), .inr (0, [rf x (0 + 2), rf x (0 + 3), rf x (0 + 4)]), aI x 81, aI x 16, aI x 2, .inr (4, [rf x (0 + 1), rf x (0 + 7), rf x (0 + 10), rf x (0 + 13), rf x (0 + 6), .int 0]), aI x 20, .inr (1, [rf x (0 + 1), rf x (0 + 8), rf x (0 + 9), .int 0]), aI x 81, aI x 81, .inr (1, [rf x (0 + 1), rf x (0 + 11), rf x (0 + 12), .int 0]), aI x 81, aI x 81, .inr (3, [rf x (0 + 14), .int 0]), aI x 0, .inr (2, [rf x (0 + 16), rf x (0 + 17), rf x (0 + 18), rf x (0 + 19), .int 0, .int 0]), aI x 150, aI x 150, aZ x 150, .inr (0, [rf x (0 + 20), rf x (0 + 21), rf x (0 + 22)]), aI x 81, aI x 16, aI x 2, .inr (3, [.null, .int 0])]) hA hZ hM wR (by decide +kernel) ⟨rfl, rfl, by decide +kernel, by decide +kernel⟩ rfl rfl rfl (Nat.le_of_ble_eq_true rfl) (by decide +kernel) ⟨by decide +kernel, by decide +kernel⟩ ?_
  rintro _ H locs rfl hZ
  have hZ : ZN x [] [.inr (5, [rf x (0 + 1), rf x (0 + 5), rf x (0 + 15), .null, .null, .int 0]), .inr (0, [rf x (0 + 2), rf x (0 + 3), rf x (0 + 4)]), aI x 81, aI x 16, aI x 2, .inr (4, [rf x (0 + 1), rf x (0 + 7), rf x (0 + 10), rf x (0 + 13), rf x (0 + 6), .int 0]), aI x 20, .inr (1, [rf x (0 + 1), rf x (0 + 8), rf x (0 + 9), .int 0]), aI x 81, aI x 81, .inr (1, [rf x (0 + 1), rf x (0 + 11), rf x (0 + 12), .int 0]), aI x 81, aI x 81, .inr (3, [rf x (0 + 14), .int 0]), aI x 0, .inr (2, [rf x (0 + 16), rf x (0 + 17), rf x (0 + 18), rf x (0 + 19), .int 0, .int 0]), aI x 150, aI x 150, aZ x 150, .inr (0, [rf x (0 + 20), rf x (0 + 21), rf x (0 + 22)]), aI x 81, aI x 16, aI x 2, .inr (3, [rf x (0 + 24), .int 0]), aI x 3113] s _ _ := hZ.mv (by rw [List.append_nil, List.append_assoc]; rfl)
  refine n_put (index := 37) (nb := 0) (i := 0) (k := 3) (v := rf x (0 + 23)) hA hin hZ hn rfl rfl rfl (by decide +kernel) (Nat.le_of_ble_eq_true rfl) (by decide +kernel) rfl rfl (by decide +kernel) (fun H locs hZ => ?_)
  have hZ : ZN x [] [.inr (5, [rf x (0 + 1), rf x (0 + 5), rf x (0 + 15), rf x (0 + 23), .null, .int 0]), .inr (0, [rf x (0 + 2), rf x (0 + 3), rf x (0 + 4)]), aI x 81, aI x 16, aI x 2, .inr (4, [rf x (0 + 1), rf x (0 + 7), rf x (0 + 10), rf x (0 + 13), rf x (0 + 6), .int 0]), aI x 20, .inr (1, [rf x (0 + 1), rf x (0 + 8), rf x (0 + 9), .int 0]), aI x 81, aI x 81, .inr (1, [rf x (0 + 1), rf x (0 + 11), rf x (0 + 12), .int 0]), aI x 81, aI x 81, .inr (3, [rf x (0 + 14), .int 0]), aI x 0, .inr (2, [rf x (0 + 16), rf x (0 + 17), rf x (0 + 18), rf x (0 + 19), .int 0, .int 0]), aI x 150, aI x 150, aZ x 150, .inr (0, [rf x (0 + 20), rf x (0 + 21), rf x (0 + 22)]), aI x 81, aI x 16, aI x 2, .inr (3, [rf x (0 + 24), .int 0]), aI x 3113] s _ _ := hZ
  refine n_al (k := 0) (a := 0 + 0) hA (by decide +kernel) rfl ?_
  refine n_new (index := 32) (nb := 0) (cj := 3) (fs := [.null, .int 0]) hA hZ hn rfl (by decide +kernel) (by decide +kernel) (by decide +kernel) df_3 (by decide +kernel) (by decide +kernel) (by decide +kernel) (fun H hZ => ?_)
  have hZ : ZN x [] [.inr (5, [rf x (0 + 1), rf x (0 + 5), rf x (0 + 15), rf x (0 + 23), .null, .int 0]), .inr (0, [rf x (0 + 2), rf x (0 + 3), rf x (0 + 4)]), aI x 81, aI x 16, aI x 2, .inr (4, [rf x (0 + 1), rf x (0 + 7), rf x (0 + 10), rf x (0 + 13), rf x (0 + 6), .int 0]), aI x 20, .inr (1, [rf x (0 + 1), rf x (0 + 8), rf x (0 + 9), .int 0]), aI x 81, aI x 81, .inr (1, [rf x (0 + 1), rf x (0 + 11), rf x (0 + 12), .int 0]), aI x 81, aI x 81, .inr (3, [rf x (0 + 14), .int 0]), aI x 0, .inr (2, [rf x (0 + 16), rf x (0 + 17), rf x (0 + 18), rf x (0 + 19), .int 0, .int 0]), aI x 150, aI x 150, aZ x 150, .inr (0, [rf x (0 + 20), rf x (0 + 21), rf x (0 + 22)]), aI x 81, aI x 16, aI x 2, .inr (3, [rf x (0 + 24), .int 0]), aI x 3113, .inr (3, [.null, .int 0])] s _ _ := hZ
  refine n_dup (a := 0 + 25) hA (by decide +kernel) ?_
  refine lv_iconst hA.1 hA.2.1 (n := 0) (v := 0) (by decide +kernel) (by decide +kernel) ?_
  have hM := cR (z := 0) (n := 0) x ([] ++ [.inr (5, [rf x (0 + 1), rf x (0 + 5), rf x (0 + 15), rf x (0 + 23), .null, .int 0]), .inr (0, [rf x (0 + 2), rf x (0 + 3), rf x (0 + 4)]), aI x 81, aI x 16, aI x 2, .inr (4, [rf x (0 + 1), rf x (0 + 7), rf x (0 + 10), rf x (0 + 13), rf x (0 + 6), .int 0]), aI x 20, .inr (1, [rf x (0 + 1), rf x (0 + 8), rf x (0 + 9), .int 0]), aI x 81, aI x 81, .inr (1, [rf x (0 + 1), rf x (0 + 11), rf x (0 + 12), .int 0]), aI x 81, aI x 81, .inr (3, [rf x (0 + 14), .int 0]), aI x 0, .inr (2, [rf x (0 + 16), rf x (0 + 17), rf x (0 + 18), rf x (0 + 19), .int 0, .int 0]), aI x 150, aI x 150, aZ x 150, .inr (0, [rf x (0 + 20), rf x (0 + 21), rf x (0 + 22)]), aI x 81, aI x 16, aI x 2, .inr (3, [rf x (0 + 24), .int 0]), aI x 3113]) (nb := (0 + 25)) (by rw [List.length_append, hn]; rfl) (by decide +kernel) (by decide +kernel) (by decide +kernel) l
  rw [List.append_assoc] at hM
  refine n_call (index := 34) (a := 0 + 25) (As := [.int 0]) (tl := [.inr (5, [rf x (0 + 1), rf x (0 + 5), rf x (0 + 15), rf x (0 + 23), .null, .int 0]), .inr (0, [rf x (0 + 2), rf x (0 + 3), rf x (0 + 4)]), aI x 81, aI x 16, aI x 2, .inr (4, [rf x (0 + 1), rf x (0 + 7), rf x (0 + 10), rf x (0 + 13), rf x (0 + 6), .int 0]), aI x 20, .inr (1, [rf x (0 + 1), rf x (0 + 8), rf x (0 + 9), .int 0]), aI x 81, aI x 81, .inr (1, [rf x (0 + 1), rf x (0 + 11), rf x (0 + 12), .int 0]), aI x 81, aI x 81, .inr (3, [rf x (0 + 14), .int 0]), aI x 0, .inr (2, [rf x (0 + 16), rf x (0 + 17), rf x (0 + 18), rf x (0 + 19), .int 0, .int 0]), aI x 150, aI x 150, aZ x 150, .inr (0, [rf x (0 + 20), rf x (0 + 21), rf x (0 + 22)]), aI x 81, aI x 16, aI x 2, .inr (3, [rf x (0 + 24), .int 0]), aI x 3113, .inr (3, [.null, .int 0])]) hA hZ hM wR (by decide +kernel) ⟨rfl, rfl, by decide +kernel, by decide +kernel⟩ rfl rfl rfl (Nat.le_of_ble_eq_true rfl) (by decide +kernel) ⟨by decide +kernel, by decide +kernel⟩ ?_
  rintro _ H locs rfl hZ
  have hZ : ZN x [] [.inr (5, [rf x (0 + 1), rf x (0 + 5), rf x (0 + 15), rf x (0 + 23), .null, .int 0]), .inr (0, [rf x (0 + 2), rf x (0 + 3), rf x (0 + 4)]), aI x 81, aI x 16, aI x 2, .inr (4, [rf x (0 + 1), rf x (0 + 7), rf x (0 + 10), rf x (0 + 13), rf x (0 + 6), .int 0]), aI x 20, .inr (1, [rf x (0 + 1), rf x (0 + 8), rf x (0 + 9), .int 0]), aI x 81, aI x 81, .inr (1, [rf x (0 + 1), rf x (0 + 11), rf x (0 + 12), .int 0]), aI x 81, aI x 81, .inr (3, [rf x (0 + 14), .int 0]), aI x 0, .inr (2, [rf x (0 + 16), rf x (0 + 17), rf x (0 + 18), rf x (0 + 19), .int 0, .int 0]), aI x 150, aI x 150, aZ x 150, .inr (0, [rf x (0 + 20), rf x (0 + 21), rf x (0 + 22)]), aI x 81, aI x 16, aI x 2, .inr (3, [rf x (0 + 24), .int 0]), aI x 3113, .inr (3, [rf x (0 + 26), .int 0]), aI x 0] s _ _ := hZ.mv (by rw [List.append_nil, List.append_assoc]; rfl)
  refine n_put (index := 41) (nb := 0) (i := 0) (k := 4) (v := rf x (0 + 25)) hA hin hZ hn rfl rfl rfl (by decide +kernel) (Nat.le_of_ble_eq_true rfl) (by decide +kernel) rfl rfl (by decide +kernel) (fun H locs hZ => ?_)
  have hZ : ZN x [] [.inr (5, [rf x (0 + 1), rf x (0 + 5), rf x (0 + 15), rf x (0 + 23), rf x (0 + 25), .int 0]), .inr (0, [rf x (0 + 2), rf x (0 + 3), rf x (0 + 4)]), aI x 81, aI x 16, aI x 2, .inr (4, [rf x (0 + 1), rf x (0 + 7), rf x (0 + 10), rf x (0 + 13), rf x (0 + 6), .int 0]), aI x 20, .inr (1, [rf x (0 + 1), rf x (0 + 8), rf x (0 + 9), .int 0]), aI x 81, aI x 81, .inr (1, [rf x (0 + 1), rf x (0 + 11), rf x (0 + 12), .int 0]), aI x 81, aI x 81, .inr (3, [rf x (0 + 14), .int 0]), aI x 0, .inr (2, [rf x (0 + 16), rf x (0 + 17), rf x (0 + 18), rf x (0 + 19), .int 0, .int 0]), aI x 150, aI x 150, aZ x 150, .inr (0, [rf x (0 + 20), rf x (0 + 21), rf x (0 + 22)]), aI x 81, aI x 16, aI x 2, .inr (3, [rf x (0 + 24), .int 0]), aI x 3113, .inr (3, [rf x (0 + 26), .int 0]), aI x 0] s _ _ := hZ
  refine n_al (k := 0) (a := 0 + 0) hA (by decide +kernel) rfl ?_
  refine n_callv (ix := 44) (kc := k_DP_setBeginning) (N := 27) (a := 0) (M := M0) (P' := sbP M0) hA (by rw [hZ.1, hsz]; rfl) hZ (eM_27 hlc).symm (hlc.le (by decide)) Rg_0 (by decide +kernel) vLk_sb ⟨by decide +kernel, by decide +kernel⟩ ⟨by decide +kernel, by decide +kernel⟩ (by decide) rfl rfl rfl (Nat.le_of_ble_eq_true rfl) (c_DPsetBeginning M0) (fun r M' h => h.1) (fun M' H locs hs hr hZ => ?_)
  exact n_ret hA hrt hlk hZ ⟨M', hs, hr, List.append_nil _⟩ (by decide +kernel)
theorem wM : cW yM prog_9_method_1_code 1 0 = true := by decide +kernel
def pM (x : cx) (M1 : am) : List va_E → Prop := fun E => ∃ M', bgP2 M1 none M' ∧ Rg M' ∧ E = eM x 36 M'
theorem cM (x : cx) (hlc : lcB x 37) (M1 : am) (hR : Rg M1) (h0 : ∀ a, 27 ≤ a → M1 a = M0 a) (l : Launch) : Met l yM [.code yM prog_9_method_1_code 1 none] { frames := 6, cells := 8, slots := 1913, locals := 150 } (PN x [rf x (27 + 0)] (eM x 27 M1 ++ [.inr (6, [.int 0, .null, .null, .null, .int 0, .int 0, .int 0, .null, .null, .null, .null, .null])])) (QN x (pM x M1)) 8 1913 x.A := by
  have hn : (eM x 27 M1).length = 27 := eM_len x 27 M1
  refine n_of (ci := 6) (lsA := #[Slot.val (rf x (27 + 0))]) (by decide +kernel) rfl rfl rfl ?_ l
  intro p l e s m args below meth c H hA hin hrt hlk hsz hZ
  refine n_al (k := 0) (a := 27 + 0) hA (by decide +kernel) rfl ?_
  refine n_obj (idx := 1) (a := 27 + 0) hA (by decide +kernel) rfl (by decide +kernel) (Nat.le_of_ble_eq_true rfl) (Nat.le_of_ble_eq_true rfl) ?_
  refine n_al (k := 0) (a := 27 + 0) hA (by decide +kernel) rfl ?_
  refine lv_bipush hA.1 hA.2.1 (n := 81) (v := 81) (by decide +kernel) (by decide +kernel) ?_
  refine n_newa (atype := .int) (nb := 27) (i := 0) (ty := .int) (N' := 81) (a0 := (81, .inl (fun _ => 0))) hA hZ hn rfl rfl (fun _ _ => rfl) (by decide +kernel) (fun _ => rfl) (by decide +kernel) (by decide +kernel) (by decide +kernel) (by decide +kernel) (by decide +kernel) (by decide +kernel) (fun H hZ => ?_)
  have hZ : ZN x (eM x 27 M1) [.inr (6, [.int 0, .null, .null, .null, .int 0, .int 0, .int 0, .null, .null, .null, .null, .null]), aI x 81] s _ _ := hZ
  refine n_put (index := 7) (nb := 27) (i := 0) (k := 1) (v := rf x (27 + 1)) hA hin hZ hn rfl rfl rfl (by decide +kernel) (Nat.le_of_ble_eq_true rfl) (by decide +kernel) rfl rfl (by decide +kernel) (fun H locs hZ => ?_)
  have hZ : ZN x (eM x 27 M1) [.inr (6, [.int 0, rf x (27 + 1), .null, .null, .int 0, .int 0, .int 0, .null, .null, .null, .null, .null]), aI x 81] s _ _ := hZ
  refine n_al (k := 0) (a := 27 + 0) hA (by decide +kernel) rfl ?_
  refine lv_bipush hA.1 hA.2.1 (n := 16) (v := 16) (by decide +kernel) (by decide +kernel) ?_
  refine n_newa (atype := .int) (nb := 27) (i := 0) (ty := .int) (N' := 16) (a0 := (16, .inl (fun _ => 0))) hA hZ hn rfl rfl (fun _ _ => rfl) (by decide +kernel) (fun _ => rfl) (by decide +kernel) (by decide +kernel) (by decide +kernel) (by decide +kernel) (by decide +kernel) (by decide +kernel) (fun H hZ => ?_)
  have hZ : ZN x (eM x 27 M1) [.inr (6, [.int 0, rf x (27 + 1), .null, .null, .int 0, .int 0, .int 0, .null, .null, .null, .null, .null]), aI x 81, aI x 16] s _ _ := hZ
  refine n_put (index := 13) (nb := 27) (i := 0) (k := 2) (v := rf x (27 + 2)) hA hin hZ hn rfl rfl rfl (by decide +kernel) (Nat.le_of_ble_eq_true rfl) (by decide +kernel) rfl rfl (by decide +kernel) (fun H locs hZ => ?_)
  have hZ : ZN x (eM x 27 M1) [.inr (6, [.int 0, rf x (27 + 1), rf x (27 + 2), .null, .int 0, .int 0, .int 0, .null, .null, .null, .null, .null]), aI x 81, aI x 16] s _ _ := hZ
  refine n_al (k := 0) (a := 27 + 0) hA (by decide +kernel) rfl ?_
  refine lv_iconst hA.1 hA.2.1 (n := 2) (v := 2) (by decide +kernel) (by decide +kernel) ?_
  refine n_newa (atype := .int) (nb := 27) (i := 0) (ty := .int) (N' := 2) (a0 := (2, .inl (fun _ => 0))) hA hZ hn rfl rfl (fun _ _ => rfl) (by decide +kernel) (fun _ => rfl) (by decide +kernel) (by decide +kernel) (by decide +kernel) (by decide +kernel) (by decide +kernel) (by decide +kernel) (fun H hZ => ?_)
  have hZ : ZN x (eM x 27 M1) [.inr (6, [.int 0, rf x (27 + 1), rf x (27 + 2), .null, .int 0, .int 0, .int 0, .null, .null, .null, .null, .null]), aI x 81, aI x 16, aI x 2] s _ _ := hZ
  refine n_put (index := 16) (nb := 27) (i := 0) (k := 3) (v := rf x (27 + 3)) hA hin hZ hn rfl rfl rfl (by decide +kernel) (Nat.le_of_ble_eq_true rfl) (by decide +kernel) rfl rfl (by decide +kernel) (fun H locs hZ => ?_)
  have hZ : ZN x (eM x 27 M1) [.inr (6, [.int 0, rf x (27 + 1), rf x (27 + 2), rf x (27 + 3), .int 0, .int 0, .int 0, .null, .null, .null, .null, .null]), aI x 81, aI x 16, aI x 2] s _ _ := hZ
  refine n_al (k := 0) (a := 27 + 0) hA (by decide +kernel) rfl ?_
  refine lv_sipush hA.1 hA.2.1 (n := 150) (v := 150) (by decide +kernel) (by decide +kernel) ?_
  refine n_newa (atype := .int) (nb := 27) (i := 0) (ty := .int) (N' := 150) (a0 := (150, .inl (fun _ => 0))) hA hZ hn rfl rfl (fun _ _ => rfl) (by decide +kernel) (fun _ => rfl) (by decide +kernel) (by decide +kernel) (by decide +kernel) (by decide +kernel) (by decide +kernel) (by decide +kernel) (fun H hZ => ?_)
  have hZ : ZN x (eM x 27 M1) [.inr (6, [.int 0, rf x (27 + 1), rf x (27 + 2), rf x (27 + 3), .int 0, .int 0, .int 0, .null, .null, .null, .null, .null]), aI x 81, aI x 16, aI x 2, aI x 150] s _ _ := hZ
  refine n_put (index := 19) (nb := 27) (i := 0) (k := 7) (v := rf x (27 + 4)) hA hin hZ hn rfl rfl rfl (by decide +kernel) (Nat.le_of_ble_eq_true rfl) (by decide +kernel) rfl rfl (by decide +kernel) (fun H locs hZ => ?_)
  have hZ : ZN x (eM x 27 M1) [.inr (6, [.int 0, rf x (27 + 1), rf x (27 + 2), rf x (27 + 3), .int 0, .int 0, .int 0, rf x (27 + 4), .null, .null, .null, .null]), aI x 81, aI x 16, aI x 2, aI x 150] s _ _ := hZ
  refine n_al (k := 0) (a := 27 + 0) hA (by decide +kernel) rfl ?_
  refine lv_sipush hA.1 hA.2.1 (n := 150) (v := 150) (by decide +kernel) (by decide +kernel) ?_
  refine n_newa (atype := .int) (nb := 27) (i := 0) (ty := .int) (N' := 150) (a0 := (150, .inl (fun _ => 0))) hA hZ hn rfl rfl (fun _ _ => rfl) (by decide +kernel) (fun _ => rfl) (by decide +kernel) (by decide +kernel) (by decide +kernel) (by decide +kernel) (by decide +kernel) (by decide +kernel) (fun H hZ => ?_)
  have hZ : ZN x (eM x 27 M1) [.inr (6, [.int 0, rf x (27 + 1), rf x (27 + 2), rf x (27 + 3), .int 0, .int 0, .int 0, rf x (27 + 4), .null, .null, .null, .null]), aI x 81, aI x 16, aI x 2, aI x 150, aI x 150] s _ _ := hZ
  refine n_put (index := 22) (nb := 27) (i := 0) (k := 8) (v := rf x (27 + 5)) hA hin hZ hn rfl rfl rfl (by decide +kernel) (Nat.le_of_ble_eq_true rfl) (by decide +kernel) rfl rfl (by decide +kernel) (fun H locs hZ => ?_)
  have hZ : ZN x (eM x 27 M1) [.inr (6, [.int 0, rf x (27 + 1), rf x (27 + 2), rf x (27 + 3), .int 0, .int 0, .int 0, rf x (27 + 4), rf x (27 + 5), .null, .null, .null]), aI x 81, aI x 16, aI x 2, aI x 150, aI x 150] s _ _ := hZ
  refine n_al (k := 0) (a := 27 + 0) hA (by decide +kernel) rfl ?_
  refine lv_sipush hA.1 hA.2.1 (n := 1359) (v := 1359) (by decide +kernel) (by decide +kernel) ?_
  refine n_newa (atype := .long) (nb := 27) (i := 2) (ty := .long) (N' := 1359) (a0 := (1359, .inr (.inl (fun _ => 0)))) hA hZ hn rfl rfl (fun _ _ => rfl) (by decide +kernel) (fun _ => rfl) (by decide +kernel) (by decide +kernel) (by decide +kernel) (by decide +kernel) (by decide +kernel) (by decide +kernel) (fun H hZ => ?_)
  have hZ : ZN x (eM x 27 M1) [.inr (6, [.int 0, rf x (27 + 1), rf x (27 + 2), rf x (27 + 3), .int 0, .int 0, .int 0, rf x (27 + 4), rf x (27 + 5), .null, .null, .null]), aI x 81, aI x 16, aI x 2, aI x 150, aI x 150, aJ x 1359] s _ _ := hZ
  refine n_put (index := 25) (nb := 27) (i := 0) (k := 9) (v := rf x (27 + 6)) hA hin hZ hn rfl rfl rfl (by decide +kernel) (Nat.le_of_ble_eq_true rfl) (by decide +kernel) rfl rfl (by decide +kernel) (fun H locs hZ => ?_)
  have hZ : ZN x (eM x 27 M1) [.inr (6, [.int 0, rf x (27 + 1), rf x (27 + 2), rf x (27 + 3), .int 0, .int 0, .int 0, rf x (27 + 4), rf x (27 + 5), rf x (27 + 6), .null, .null]), aI x 81, aI x 16, aI x 2, aI x 150, aI x 150, aJ x 1359] s _ _ := hZ
  refine n_al (k := 0) (a := 27 + 0) hA (by decide +kernel) rfl ?_
  refine lv_sipush hA.1 hA.2.1 (n := 151) (v := 151) (by decide +kernel) (by decide +kernel) ?_
  refine n_newa (atype := .boolean) (nb := 27) (i := 1) (ty := .boolean) (N' := 151) (a0 := (151, .inl (fun _ => 0))) hA hZ hn rfl rfl (fun _ _ => rfl) (by decide +kernel) (fun _ => rfl) (by decide +kernel) (by decide +kernel) (by decide +kernel) (by decide +kernel) (by decide +kernel) (by decide +kernel) (fun H hZ => ?_)
  have hZ : ZN x (eM x 27 M1) [.inr (6, [.int 0, rf x (27 + 1), rf x (27 + 2), rf x (27 + 3), .int 0, .int 0, .int 0, rf x (27 + 4), rf x (27 + 5), rf x (27 + 6), .null, .null]), aI x 81, aI x 16, aI x 2, aI x 150, aI x 150, aJ x 1359, aZ x 151] s _ _ := hZ
  refine n_put (index := 29) (nb := 27) (i := 0) (k := 10) (v := rf x (27 + 7)) hA hin hZ hn rfl rfl rfl (by decide +kernel) (Nat.le_of_ble_eq_true rfl) (by decide +kernel) rfl rfl (by decide +kernel) (fun H locs hZ => ?_)
  have hZ : ZN x (eM x 27 M1) [.inr (6, [.int 0, rf x (27 + 1), rf x (27 + 2), rf x (27 + 3), .int 0, .int 0, .int 0, rf x (27 + 4), rf x (27 + 5), rf x (27 + 6), rf x (27 + 7), .null]), aI x 81, aI x 16, aI x 2, aI x 150, aI x 150, aJ x 1359, aZ x 151] s _ _ := hZ
  refine n_al (k := 0) (a := 27 + 0) hA (by decide +kernel) rfl ?_
  refine lv_iconst hA.1 hA.2.1 (n := 4) (v := 4) (by decide +kernel) (by decide +kernel) ?_
  refine n_newa (atype := .int) (nb := 27) (i := 0) (ty := .int) (N' := 4) (a0 := (4, .inl (fun _ => 0))) hA hZ hn rfl rfl (fun _ _ => rfl) (by decide +kernel) (fun _ => rfl) (by decide +kernel) (by decide +kernel) (by decide +kernel) (by decide +kernel) (by decide +kernel) (by decide +kernel) (fun H hZ => ?_)
  have hZ : ZN x (eM x 27 M1) [.inr (6, [.int 0, rf x (27 + 1), rf x (27 + 2), rf x (27 + 3), .int 0, .int 0, .int 0, rf x (27 + 4), rf x (27 + 5), rf x (27 + 6), rf x (27 + 7), .null]), aI x 81, aI x 16, aI x 2, aI x 150, aI x 150, aJ x 1359, aZ x 151, aI x 4] s _ _ := hZ
  refine n_put (index := 33) (nb := 27) (i := 0) (k := 11) (v := rf x (27 + 8)) hA hin hZ hn rfl rfl rfl (by decide +kernel) (Nat.le_of_ble_eq_true rfl) (by decide +kernel) rfl rfl (by decide +kernel) (fun H locs hZ => ?_)
  have hZ : ZN x (eM x 27 M1) [.inr (6, [.int 0, rf x (27 + 1), rf x (27 + 2), rf x (27 + 3), .int 0, .int 0, .int 0, rf x (27 + 4), rf x (27 + 5), rf x (27 + 6), rf x (27 + 7), rf x (27 + 8)]), aI x 81, aI x 16, aI x 2, aI x 150, aI x 150, aJ x 1359, aZ x 151, aI x 4] s _ _ := hZ
  refine n_al (k := 0) (a := 27 + 0) hA (by decide +kernel) rfl ?_
  refine n_callv (ix := 36) (kc := k_Model_begin) (N := 36) (a := 27) (M := M1) (P' := bgP2 M1) hA (by rw [hZ.1, hsz, List.length_append, List.length_append, hn]; rfl) hZ (eM_36 hlc h0).symm (hlc.le (by decide)) hR (by decide +kernel) vLk_bg ⟨by decide +kernel, by decide +kernel⟩ ⟨by decide +kernel, by decide +kernel⟩ (by decide) rfl rfl rfl (Nat.le_of_ble_eq_true rfl) (d_begin M1) (fun r M' h => h.1) (fun M' H locs hs hr hZ => ?_)
  exact n_ret hA hrt hlk hZ ⟨M', hs, hr, List.append_nil _⟩ (by decide +kernel)
