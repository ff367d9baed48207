/-! rows that read or write memory, branches, ends, longs -/
section VH
variable {N k pc : Nat} {P : Option av → am → Prop} {ls : List al} {st : List av} {M : am}
theorem ent_0 {x : cx} {M : am} {a : Nat} (h : (sh a).1 = 0) : ent x M a = .inl (x.cA 0, (sh a).2.1, .inl (fun j => Int32.ofInt (M a j))) := by simp [ent, h]
theorem ent_1 {x : cx} {M : am} {a : Nat} (h : (sh a).1 = 1) : ent x M a = .inl (x.cA 1, (sh a).2.1, .inl (fun j => Int32.ofInt (M a j))) := by simp [ent, h]
theorem ent_2 {x : cx} {M : am} {a : Nat} (h : (sh a).1 = 2) : ent x M a = .inl (x.cA 2, (sh a).2.1, .inr (.inl (fun j => Int64.ofInt (M a j)))) := by simp [ent, h]
theorem ent_3 {x : cx} {M : am} {a : Nat} (h : (sh a).1 = 3) : ent x M a = .inr ((sh a).2.1, (sh a).2.2.mapIdx (fv x M a)) := by simp [ent, h]
/-- a field link of FLT, used -/
theorem FLT.use {q : Nat × Nat × Nat × Nat} (hq : q ∈ FLT) : gw (fW q) = true := List.all_eq_true.mp FLT_ok q hq
theorem cl_use {c : Nat} {r : vw_C} (hr : vcl[c]? = some r) : (∀ w ∈ u_ws r.1 r.2.1 r.2.2, gw w = true) ∧ (∀ k, k < r.2.2 → parseFieldDescriptor (r.2.1 k).2.2.1 = some (vty c k)) ∧ (∀ a, a < r.2.2 → ∀ b, b < r.2.2 → a ≠ b → (r.2.1 a).2.1 ≠ (r.2.1 b).2.1) ∧ ∀ k, k < r.2.2 → (r.2.1 k).1 = r.1 := by
  have hc : c < 7 := (List.getElem?_eq_some_iff.mp hr).1
  have h := List.all_eq_true.mp clOk_ok c (List.mem_range.mpr hc)
  simp only [clOk, hr, Bool.and_eq_true, decide_eq_true_eq, List.all_eq_true] at h
  exact ⟨h.1.1.1, h.1.1.2, h.1.2, h.2⟩
theorem gw_mem {w : Cond} (h : gw w = true) : w ∈ lw_tbl ∧ goodWord w = true := by
  simpa [gw] using h
/-- the good words of the tables, as one list -/
def gtb : List Cond := lw_tbl.filter goodWord
theorem gw_gtb {w : Cond} (h : gw w = true) : w ∈ gtb := List.mem_filter.mpr (gw_mem h)
theorem TB.hts {U : State} (h : TB U) (args : Array Value) : ∀ w ∈ gtb, w.before args U = true := fun w hw => by
  obtain ⟨h1, h2⟩ := List.mem_filter.mp hw
  exact word_at (State.WarmedH.refl U) (good_of_word h2) (h w h1 h2)
theorem V_getfI {ix ci f a j : Nat} (hd : decode (mC k) pc = .ok (.getfield ix, 3)) (hq : (mN k, ix, ci, f) ∈ FLT) (ha : a < N) (hs : (sh a).1 = 3) (hc : (sh a).2.1 = ci) (hf : (sh a).2.2[f]? = some (.inr j)) (hN : f < ((vcl[ci]?).map (fun r => r.2.2)).getD 0) (kk : V N k P (pc + 3) ls (.inl (M a f) :: st) M) : V N k P pc ls (.inr (.inl a) :: st) M := by
  intro x p l e s m args below meth c H locs lsA hA hP hS hR hl hv
  have hA0 := hA
  obtain ⟨hx, hb, hml, hr, hown, hlk, hDx, hNx, hTB, hK, hSt⟩ := hA
  cases hcl : vcl[ci]? with
  | none => rw [hcl] at hN; exact absurd hN (Nat.not_lt_zero _)
  | some r =>
    have hN : f < r.2.2 := by rw [hcl] at hN; exact hN
    obtain ⟨g1, g2, g3, g4⟩ := cl_use hcl
    have hw := FLT.use hq
    simp only [fW, hcl] at hw
    refine va_get (D := x.D) (ci := ci) (v := .int (Int32.ofInt (M a f))) (C := r.1) (T := r.2.1) (N := r.2.2) hx hb (hTB.hts args) (fun w h => gw_gtb (g1 w h)) hown hK hP a ((wld_at (Nat.lt_of_lt_of_le ha hNx)).trans (by rw [ent_3 hs, hc])) hcl f hN (hTB.use hw args) (fun _ h => h) (by rw [List.getElem?_mapIdx, hf]; rfl) hd ?_
    exact kk x p l e s m args below meth c H locs lsA hA0 hP hS hR hl (ok_c (v := .inl (M a f)) ((hR a f).1 (by omega)) (ok_t hv))
theorem V_getfR {ix ci f a t : Nat} (hd : decode (mC k) pc = .ok (.getfield ix, 3)) (hq : (mN k, ix, ci, f) ∈ FLT) (ha : a < N) (hs : (sh a).1 = 3) (hc : (sh a).2.1 = ci) (hf : (sh a).2.2[f]? = some (.inl t)) (hN : f < ((vcl[ci]?).map (fun r => r.2.2)).getD 0) (kk : V N k P (pc + 3) ls (.inr (.inl t) :: st) M) : V N k P pc ls (.inr (.inl a) :: st) M := by
  intro x p l e s m args below meth c H locs lsA hA hP hS hR hl hv
  have hA0 := hA
  obtain ⟨hx, hb, hml, hr, hown, hlk, hDx, hNx, hTB, hK, hSt⟩ := hA
  cases hcl : vcl[ci]? with
  | none => rw [hcl] at hN; exact absurd hN (Nat.not_lt_zero _)
  | some r =>
    have hN : f < r.2.2 := by rw [hcl] at hN; exact hN
    obtain ⟨g1, g2, g3, g4⟩ := cl_use hcl
    have hw := FLT.use hq
    simp only [fW, hcl] at hw
    refine va_get (D := x.D) (ci := ci) (v := .ref (x.loc t)) (C := r.1) (T := r.2.1) (N := r.2.2) hx hb (hTB.hts args) (fun w h => gw_gtb (g1 w h)) hown hK hP a ((wld_at (Nat.lt_of_lt_of_le ha hNx)).trans (by rw [ent_3 hs, hc])) hcl f hN (hTB.use hw args) (fun _ h => h) (by rw [List.getElem?_mapIdx, hf]; rfl) hd ?_
    exact kk x p l e s m args below meth c H locs lsA hA0 hP hS hR hl (ok_c (v := .inr (.inl t)) trivial (ok_t hv))
theorem ent_set3 {x : cx} {M : am} {a f j : Nat} {v : Int} (hs : (sh a).1 = 3) (hf : (sh a).2.2[f]? = some (.inr j)) : (Sum.inr ((sh a).2.1, ((sh a).2.2.mapIdx (fv x M a)).set f (.int (Int32.ofInt v))) : va_E) = ent x (up2 M a f v) a := by
  rw [ent_3 hs]
  congr 2
  apply List.ext_getElem?
  intro i
  by_cases h : i = f
  · subst h
    rw [List.getElem?_set_self (by simp; exact (List.getElem?_eq_some_iff.mp hf).1), List.getElem?_mapIdx, hf]
    simp [fv, up2]
  · rw [List.getElem?_set_ne (Ne.symm h), List.getElem?_mapIdx, List.getElem?_mapIdx]
    congr 1
    funext q
    cases q <;> simp [fv, up2, h]
theorem V_putf {ix ci f a j : Nat} {v : Int} (hd : decode (mC k) pc = .ok (.putfield ix, 3)) (hq : (mN k, ix, ci, f) ∈ FLT) (ha : a < N) (hs : (sh a).1 = 3) (hc : (sh a).2.1 = ci) (hf : (sh a).2.2[f]? = some (.inr j)) (hN : f < ((vcl[ci]?).map (fun r => r.2.2)).getD 0) (hfin : ((vcl[ci]?).map (fun r => (r.2.1 f).2.2.2)).getD true = false) (hty : vty ci f = .int ∨ (vty ci f = .boolean ∧ (v = 0 ∨ v = 1)))
    (kk : V N k P (pc + 3) ls st (up2 M a f v)) : V N k P pc ls (.inl v :: .inr (.inl a) :: st) M := by
  intro x p l e s m args below meth c H locs lsA hA hP hS hR hl hv
  have hA0 := hA
  obtain ⟨hx, hb, hml, hr, hown, hlk, hDx, hNx, hTB, hK, hSt⟩ := hA
  cases hcl : vcl[ci]? with
  | none => rw [hcl] at hN; exact absurd hN (Nat.not_lt_zero _)
  | some r =>
    have hN : f < r.2.2 := by rw [hcl] at hN; exact hN
    have hfin : (r.2.1 f).2.2.2 = false := by rw [hcl] at hfin; exact hfin
    obtain ⟨g1, g2, g3, g4⟩ := cl_use hcl
    have hw := FLT.use hq
    simp only [fW, hcl] at hw
    have hn : narrow (vty ci f) (.int (Int32.ofInt v)) = .int (Int32.ofInt v) := by
      rcases hty with h | ⟨h, rfl | rfl⟩ <;> rw [h] <;> rfl
    have hfit : fits (vty ci f) (.int (Int32.ofInt v)) = true := by
      rcases hty with h | ⟨h, rfl | rfl⟩ <;> rw [h] <;> first | rfl | decide
    refine va_put (D := x.D) (ci := ci) (v := .int (Int32.ofInt v)) (ty := vty ci f) (C := r.1) (T := r.2.1) (N := r.2.2) hx hb (hTB.hts args) (fun w h => gw_gtb (g1 w h)) (vty ci) g2 g3 hown hK hP (hDx.D M) hS a ((wld_at (Nat.lt_of_lt_of_le ha hNx)).trans (by rw [ent_3 hs, hc])) hcl f hN (hTB.use hw args) (fun _ h => h) hfin (g2 f hN) hn hfit (by simp; exact (List.getElem?_eq_some_iff.mp hf).1) hd (fun H1 locs1 hP1 hD1 hS1 => ?_)
    rw [← hc, wld_set (Nat.lt_of_lt_of_le ha hNx) (ent_set3 hs hf)] at hP1
    exact kk x p l e s m args below meth c H1 locs1 lsA hA0 hP1 hS1 (hR.up ⟨fun _ => ok_h hv, fun h => by omega⟩) hl (ok_t (ok_t hv))
theorem V_gets {ix t : Nat} (hd : decode (mC k) pc = .ok (.getstatic ix, 3)) (hq : (mN k, ix, t) ∈ SLT) (ht : 100 ≤ t) (ht2 : t < 106) (kk : V N k P (pc + 3) ls (.inr (.inl t) :: st) M) : V N k P pc ls st M := by
  intro x p l e s m args below meth c H locs lsA hA hP hS hR hl hv
  have hA0 := hA
  obtain ⟨hx, hb, hml, hr, hown, hlk, hDx, hNx, hTB, hK, hSt⟩ := hA
  have hw := List.all_eq_true.mp SLT_ok _ hq
  have hlt : t - 100 < sts.length := by show t - 100 < 6; omega
  have h1 := (hSt (t - 100) sts[t - 100] (List.getElem?_eq_getElem hlt)).1
  rw [show 100 + (t - 100) = t by omega] at h1
  simp only [sW, List.getD_eq_getElem?_getD, List.getElem?_eq_getElem hlt, Option.getD_some] at hw
  exact va_gets hx hb h1 hS hown (hTB.use hw args) (fun _ h => h) hd (kk x p l e s m args below meth c H locs lsA hA0 hP hS hR hl (ok_c (v := .inr (.inl t)) trivial hv))
theorem stv_r : ∀ a, a < 6 → ∀ j, j < 16 → -2147483648 ≤ stv (100 + a) j ∧ stv (100 + a) j ≤ 2147483647 := by decide +kernel
theorem stL_len : ∀ a, a < 6 → (stL (100 + a)).length ≤ 16 := by decide +kernel
theorem V_sald {t : Nat} {i : Int} (hd : decode (mC k) pc = .ok (.iaload, 1)) (ht : 100 ≤ t) (ht2 : t < 106) (h0 : 0 ≤ i) (h1 : i < (stL t).length) (kk : V N k P (pc + 1) ls (.inl (stv t i.toNat) :: st) M) : V N k P pc ls (.inl i :: .inr (.inl t) :: st) M := by
  intro x p l e s m args below meth c H locs lsA hA hP hS hR hl hv
  have hA0 := hA
  obtain ⟨hx, hb, hml, hr, hown, hlk, hDx, hNx, hTB, hK, hSt⟩ := hA
  have hlt : t - 100 < sts.length := by show t - 100 < 6; omega
  have h2 := (hSt (t - 100) sts[t - 100] (List.getElem?_eq_getElem hlt)).2
  rw [show 100 + (t - 100) = t by omega] at h2
  have e0 : (sts[t - 100]).2.2 = stL t := by simp only [stL, List.getD_eq_getElem?_getD, List.getElem?_eq_getElem hlt, Option.getD_some]
  rw [e0] at h2
  have hi : r32 i := ok_h hv
  have hz : r32 (stv t i.toNat) := by
    have a1 := stL_len (t - 100) (by omega)
    rw [show 100 + (t - 100) = t by omega] at a1
    have a2 := stv_r (t - 100) (by omega) i.toNat (by omega)
    rw [show 100 + (t - 100) = t by omega] at a2
    exact a2
  exact va_ti hx hb h2 hS (i_in hi h0 h1) (v := .int (Int32.ofInt (stv t i.toNat))) (by rw [i_clamp hi]; rfl) hd (kk x p l e s m args below meth c H locs lsA hA0 hP hS hR hl (ok_c (v := .inl (stv t i.toNat)) hz (ok_t (ok_t hv))))
theorem V_iald {a : Nat} {i : Int} (hd : decode (mC k) pc = .ok (.iaload, 1)) (ha : a < N) (hs : (sh a).1 = 0) (h0 : 0 ≤ i) (h1 : i < (sh a).2.1) (kk : V N k P (pc + 1) ls (.inl (M a i.toNat) :: st) M) : V N k P pc ls (.inl i :: .inr (.inl a) :: st) M := by
  intro x p l e s m args below meth c H locs lsA hA hP hS hR hl hv
  have hA0 := hA
  obtain ⟨hx, hb, hml, hr, hown, hlk, hDx, hNx, hTB, hK, hSt⟩ := hA
  have hi : r32 i := ok_h hv
  refine va_iald hx hb hK hP a 0 ((wld_at (Nat.lt_of_lt_of_le ha hNx)).trans (by rw [ent_0 hs])) rfl (i_in hi h0 h1) hd ?_
  rw [i_clamp hi]
  exact kk x p l e s m args below meth c H locs lsA hA0 hP hS hR hl (ok_c (v := .inl (M a i.toNat)) ((hR a _).1 (by omega)) (ok_t (ok_t hv)))
theorem V_zald {a : Nat} {i : Int} (hd : decode (mC k) pc = .ok (.baload, 1)) (ha : a < N) (hs : (sh a).1 = 1) (h0 : 0 ≤ i) (h1 : i < (sh a).2.1) (kk : V N k P (pc + 1) ls (.inl (M a i.toNat) :: st) M) : V N k P pc ls (.inl i :: .inr (.inl a) :: st) M := by
  intro x p l e s m args below meth c H locs lsA hA hP hS hR hl hv
  have hA0 := hA
  obtain ⟨hx, hb, hml, hr, hown, hlk, hDx, hNx, hTB, hK, hSt⟩ := hA
  have hi : r32 i := ok_h hv
  refine va_zald hx hb hK hP a 1 ((wld_at (Nat.lt_of_lt_of_le ha hNx)).trans (by rw [ent_1 hs])) rfl (i_in hi h0 h1) hd ?_
  rw [i_clamp hi]
  exact kk x p l e s m args below meth c H locs lsA hA0 hP hS hR hl (ok_c (v := .inl (M a i.toNat)) ((hR a _).1 (by omega)) (ok_t (ok_t hv)))
theorem V_lald {a : Nat} {i : Int} (hd : decode (mC k) pc = .ok (.laload, 1)) (ha : a < N) (hs : (sh a).1 = 2) (h0 : 0 ≤ i) (h1 : i < (sh a).2.1) (kk : V N k P (pc + 1) ls (.inr (.inr (M a i.toNat)) :: st) M) : V N k P pc ls (.inl i :: .inr (.inl a) :: st) M := by
  intro x p l e s m args below meth c H locs lsA hA hP hS hR hl hv
  have hA0 := hA
  obtain ⟨hx, hb, hml, hr, hown, hlk, hDx, hNx, hTB, hK, hSt⟩ := hA
  have hi : r32 i := ok_h hv
  refine va_lald hx hb hK hP a 2 ((wld_at (Nat.lt_of_lt_of_le ha hNx)).trans (by rw [ent_2 hs])) rfl (i_in hi h0 h1) hd ?_
  rw [i_clamp hi]
  exact kk x p l e s m args below meth c H locs lsA hA0 hP hS hR hl (ok_c (v := .inr (.inr (M a i.toNat))) ((hR a _).2 hs) (ok_t (ok_t hv)))
theorem upd_up2 {M : am} {a q : Nat} {v : Int} : upd (fun j => Int32.ofInt (M a j)) q (Int32.ofInt v) = fun j => Int32.ofInt (up2 M a q v a j) := by
  funext j
  by_cases h : j = q <;> simp [upd, up2, h]
theorem updL_up2 {M : am} {a q : Nat} {v : Int} : vp_updL (fun j => Int64.ofInt (M a j)) q (Int64.ofInt v) = fun j => Int64.ofInt (up2 M a q v a j) := by
  funext j
  by_cases h : j = q <;> simp [vp_updL, up2, h]
theorem V_iast {a : Nat} {i v : Int} (hd : decode (mC k) pc = .ok (.iastore, 1)) (ha : a < N) (hs : (sh a).1 = 0) (h0 : 0 ≤ i) (h1 : i < (sh a).2.1) (kk : V N k P (pc + 1) ls st (up2 M a i.toNat v)) : V N k P pc ls (.inl v :: .inl i :: .inr (.inl a) :: st) M := by
  intro x p l e s m args below meth c H locs lsA hA hP hS hR hl hv
  have hA0 := hA
  obtain ⟨hx, hb, hml, hr, hown, hlk, hDx, hNx, hTB, hK, hSt⟩ := hA
  have hi : r32 i := ok_h (ok_t hv)
  refine va_iast hx hb hK hP (hDx.D M) hS a 0 ((wld_at (Nat.lt_of_lt_of_le ha hNx)).trans (by rw [ent_0 hs])) rfl (i_in hi h0 h1) hd (fun H1 locs1 hP1 hD1 hS1 => ?_)
  rw [i_clamp hi, upd_up2, wld_set (k := i.toNat) (v := v) (Nat.lt_of_lt_of_le ha hNx) (ent_0 hs).symm] at hP1
  exact kk x p l e s m args below meth c H1 locs1 lsA hA0 hP1 hS1 (hR.up ⟨fun _ => ok_h hv, fun h => by omega⟩) hl (ok_t (ok_t (ok_t hv)))
theorem V_zast {a : Nat} {i v : Int} (hd : decode (mC k) pc = .ok (.bastore, 1)) (ha : a < N) (hs : (sh a).1 = 1) (h0 : 0 ≤ i) (h1 : i < (sh a).2.1) (hv01 : v = 0 ∨ v = 1) (kk : V N k P (pc + 1) ls st (up2 M a i.toNat v)) : V N k P pc ls (.inl v :: .inl i :: .inr (.inl a) :: st) M := by
  intro x p l e s m args below meth c H locs lsA hA hP hS hR hl hv
  have hA0 := hA
  obtain ⟨hx, hb, hml, hr, hown, hlk, hDx, hNx, hTB, hK, hSt⟩ := hA
  have hi : r32 i := ok_h (ok_t hv)
  have hnar : vp_nar .boolean (Int32.ofInt v) = Int32.ofInt v := by rcases hv01 with rfl | rfl <;> rfl
  refine va_zast hx hb hK hP (hDx.D M) hS a 1 ((wld_at (Nat.lt_of_lt_of_le ha hNx)).trans (by rw [ent_1 hs])) rfl (i_in hi h0 h1) hd (fun H1 locs1 hP1 hD1 hS1 => ?_)
  rw [hnar, i_clamp hi, upd_up2, wld_set (k := i.toNat) (v := v) (Nat.lt_of_lt_of_le ha hNx) (ent_1 hs).symm] at hP1
  exact kk x p l e s m args below meth c H1 locs1 lsA hA0 hP1 hS1 (hR.up ⟨fun _ => ok_h hv, fun h => by omega⟩) hl (ok_t (ok_t (ok_t hv)))
theorem V_last {a : Nat} {i v : Int} (hd : decode (mC k) pc = .ok (.lastore, 1)) (ha : a < N) (hs : (sh a).1 = 2) (h0 : 0 ≤ i) (h1 : i < (sh a).2.1) (kk : V N k P (pc + 1) ls st (up2 M a i.toNat v)) : V N k P pc ls (.inr (.inr v) :: .inl i :: .inr (.inl a) :: st) M := by
  intro x p l e s m args below meth c H locs lsA hA hP hS hR hl hv
  have hA0 := hA
  obtain ⟨hx, hb, hml, hr, hown, hlk, hDx, hNx, hTB, hK, hSt⟩ := hA
  have hi : r32 i := ok_h (ok_t hv)
  refine va_last hx hb hK hP (hDx.D M) hS a 2 ((wld_at (Nat.lt_of_lt_of_le ha hNx)).trans (by rw [ent_2 hs])) rfl (i_in hi h0 h1) hd (fun H1 locs1 hP1 hD1 hS1 => ?_)
  rw [i_clamp hi, updL_up2, wld_set (k := i.toNat) (v := v) (Nat.lt_of_lt_of_le ha hNx) (ent_2 hs).symm] at hP1
  exact kk x p l e s m args below meth c H1 locs1 lsA hA0 hP1 hS1 (hR.up ⟨fun h => absurd hs h, fun _ => ok_h hv⟩) hl (ok_t (ok_t (ok_t hv)))
theorem V_alen {a : Nat} (hd : decode (mC k) pc = .ok (.arraylength, 1)) (ha : a < N) (hs : (sh a).1 = 0) (hn : (sh a).2.1 < 100000) (kk : V N k P (pc + 1) ls (.inl ((sh a).2.1 : Int) :: st) M) : V N k P pc ls (.inr (.inl a) :: st) M := by
  intro x p l e s m args below meth c H locs lsA hA hP hS hR hl hv
  have hA0 := hA
  obtain ⟨hx, hb, hml, hr, hown, hlk, hDx, hNx, hTB, hK, hSt⟩ := hA
  exact va_alen hx hb hK hP a 0 ((wld_at (Nat.lt_of_lt_of_le ha hNx)).trans (by rw [ent_0 hs])) rfl (v := Int32.ofInt ((sh a).2.1 : Int)) rfl hd (kk x p l e s m args below meth c H locs lsA hA0 hP hS hR hl (ok_c (v := .inl ((sh a).2.1 : Int)) (show r32 _ by unfold r32; omega) (ok_t hv)))
end VH
