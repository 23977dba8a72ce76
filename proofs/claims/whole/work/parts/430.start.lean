/-- the contents at the start -/
def s0C (x : Int32) : SS := fun k => if k = 24 then fun _ => 1 else if k = 26 then fun _ => dOf x else fun _ => 0
def s0M (x : Int32) : SS := fun k => if k = 20 then fun _ => dOf x else fun _ => 0
theorem st_start {s : State} {b : Nat} (hts : ∀ w ∈ lw_tbl, w.before #[Value.ref b] s = true) (hgv : (Jvm.Cond.and given_1 narrow_1).before #[Value.ref b] s = true) : ∃ t : Nat → Nat, stC t (fun q : Nat => s.heap.size ≤ q) s s.heap := by
  have hs := flat_of_before _ hgv
  have he0 : ∀ j, j < 12 → Cond.eq (.elem (.static "StackCoder$RegisterCode" "D_KINDS" "[I") (.int (Int32.ofNat j))) (.int (tbC0 j)) ∈ flatC (Jvm.Cond.and given_1 narrow_1) := by decide +kernel
  obtain ⟨t0, ht0, hT0⟩ := va_Tof (tm := (.static "StackCoder$RegisterCode" "D_KINDS" "[I")) (ty := .int) (f := fun j => .int (tbC0 j)) (N := 12) (A := (fun q : Nat => s.heap.size ≤ q)) (by decide) (hs (.arrayOf (.static "StackCoder$RegisterCode" "D_KINDS" "[I") .int) (by decide +kernel)) (va_eqt (hs (.eq (.length (.static "StackCoder$RegisterCode" "D_KINDS" "[I")) (.int 12)) (by decide +kernel))) (fun j hj => va_eqt (hs _ (he0 j hj))) (fun a h9 => Nat.not_le.mpr h9)
  have hZ0 := va_Zref (A := (fun q : Nat => s.heap.size ≤ q)) (hts (.laysStatic "StackCoder$RegisterCode" "D_KINDS" "[I") (List.mem_of_getElem? (i := 257) (by decide +kernel))) (hts _ (gt_in gw_2)) ht0 (fun a h9 => Nat.not_le.mpr h9)
  have he1 : ∀ j, j < 12 → Cond.eq (.elem (.static "StackCoder$RegisterCode" "A_KINDS" "[I") (.int (Int32.ofNat j))) (.int (tbC1 j)) ∈ flatC (Jvm.Cond.and given_1 narrow_1) := by decide +kernel
  obtain ⟨t1, ht1, hT1⟩ := va_Tof (tm := (.static "StackCoder$RegisterCode" "A_KINDS" "[I")) (ty := .int) (f := fun j => .int (tbC1 j)) (N := 12) (A := (fun q : Nat => s.heap.size ≤ q)) (by decide) (hs (.arrayOf (.static "StackCoder$RegisterCode" "A_KINDS" "[I") .int) (by decide +kernel)) (va_eqt (hs (.eq (.length (.static "StackCoder$RegisterCode" "A_KINDS" "[I")) (.int 12)) (by decide +kernel))) (fun j hj => va_eqt (hs _ (he1 j hj))) (fun a h9 => Nat.not_le.mpr h9)
  have hZ1 := va_Zref (A := (fun q : Nat => s.heap.size ≤ q)) (hts (.laysStatic "StackCoder$RegisterCode" "A_KINDS" "[I") (List.mem_of_getElem? (i := 262) (by decide +kernel))) (hts _ (gt_in gw_2)) ht1 (fun a h9 => Nat.not_le.mpr h9)
  have he2 : ∀ j, j < 12 → Cond.eq (.elem (.static "StackCoder$RegisterCode" "B_KINDS" "[I") (.int (Int32.ofNat j))) (.int (tbC2 j)) ∈ flatC (Jvm.Cond.and given_1 narrow_1) := by decide +kernel
  obtain ⟨t2, ht2, hT2⟩ := va_Tof (tm := (.static "StackCoder$RegisterCode" "B_KINDS" "[I")) (ty := .int) (f := fun j => .int (tbC2 j)) (N := 12) (A := (fun q : Nat => s.heap.size ≤ q)) (by decide) (hs (.arrayOf (.static "StackCoder$RegisterCode" "B_KINDS" "[I") .int) (by decide +kernel)) (va_eqt (hs (.eq (.length (.static "StackCoder$RegisterCode" "B_KINDS" "[I")) (.int 12)) (by decide +kernel))) (fun j hj => va_eqt (hs _ (he2 j hj))) (fun a h9 => Nat.not_le.mpr h9)
  have hZ2 := va_Zref (A := (fun q : Nat => s.heap.size ≤ q)) (hts (.laysStatic "StackCoder$RegisterCode" "B_KINDS" "[I") (List.mem_of_getElem? (i := 264) (by decide +kernel))) (hts _ (gt_in gw_2)) ht2 (fun a h9 => Nat.not_le.mpr h9)
  have he3 : ∀ j, j < 12 → Cond.eq (.elem (.static "StackCoder$StackCode" "OWN" "[I") (.int (Int32.ofNat j))) (.int (tbC3 j)) ∈ flatC (Jvm.Cond.and given_1 narrow_1) := by decide +kernel
  obtain ⟨t3, ht3, hT3⟩ := va_Tof (tm := (.static "StackCoder$StackCode" "OWN" "[I")) (ty := .int) (f := fun j => .int (tbC3 j)) (N := 12) (A := (fun q : Nat => s.heap.size ≤ q)) (by decide) (hs (.arrayOf (.static "StackCoder$StackCode" "OWN" "[I") .int) (by decide +kernel)) (va_eqt (hs (.eq (.length (.static "StackCoder$StackCode" "OWN" "[I")) (.int 12)) (by decide +kernel))) (fun j hj => va_eqt (hs _ (he3 j hj))) (fun a h9 => Nat.not_le.mpr h9)
  have hZ3 := va_Zref (A := (fun q : Nat => s.heap.size ≤ q)) (hts (.laysStatic "StackCoder$StackCode" "OWN" "[I") (List.mem_of_getElem? (i := 452) (by decide +kernel))) (hts _ (gt_in gw_5)) ht3 (fun a h9 => Nat.not_le.mpr h9)
  exact ⟨fun k => ([t0, t1, t2, t3] : List Nat).getD k 0, hZ0, hT0, hZ1, hT1, hZ2, hT2, hZ3, hT3⟩
theorem stC_nar {t : Nat → Nat} {A B : Nat → Prop} {U : State} {H : Heap} (h : stC t A U H) (hAB : ∀ q, B q → A q) : stC t B U H := by
  obtain ⟨h0, h1, h2, h3, h4, h5, h6, h7⟩ := h
  exact ⟨h0.narrow hAB, h1.narrow hAB, h2.narrow hAB, h3.narrow hAB, h4.narrow hAB, h5.narrow hAB, h6.narrow hAB, h7.narrow hAB⟩
theorem kn_start {s : State} {args : Array Value} (hg : ∀ w ∈ gt, w.before args s = true) : ∃ (D : va_G) (cI cZ : ClassId), va_K D vwCl [(cI, .int), (cZ, .boolean)] s := by
  obtain ⟨c0, iS0, hKn0⟩ := u_known (C := R_SC) (T := T_SC) (N := 6) (n := 6) hg in_SC (hg _ gw_10)
  obtain ⟨c1, iS1, hKn1⟩ := u_known (C := R_RC) (T := T_RC) (N := 8) (n := 8) hg in_RC (hg _ gw_18)
  obtain ⟨c2, iS2, hKn2⟩ := u_known (C := R_FL) (T := T_FL) (N := 4) (n := 4) hg in_FL (hg _ gw_50)
  obtain ⟨c3, iS3, hKn3⟩ := u_known (C := R_CA) (T := T_CA) (N := 9) (n := 9) hg in_CA (hg _ gw_70)
  obtain ⟨c4, iS4, hKn4⟩ := u_known (C := R_ST) (T := T_ST) (N := 9) (n := 9) hg in_ST (hg _ gw_104)
  obtain ⟨c5, iS5, hKn5⟩ := u_known (C := R_MA) (T := T_MA) (N := 7) (n := 7) hg in_MA (hg _ gw_138)
  obtain ⟨c6, iS6, hKn6⟩ := u_known (C := R_MO) (T := T_MO) (N := 26) (n := 26) hg in_MO (hg _ gw_578)
  obtain ⟨cI, hI1, hI2⟩ := arr_cI (hg _ gw_48)
  obtain ⟨cZ, hZ1, hZ2⟩ := arr_cZ (hg _ gw_68)
  refine ⟨(fun k => ([c0, c1, c2, c3, c4, c5, c6] : List ClassId).getD k 0, fun k => ([iS0, iS1, iS2, iS3, iS4, iS5, iS6] : List (Nat → Nat)).getD k (fun _ => 0)), cI, cZ, ?_, ?_⟩
  · intro k q hq
    match k, hq with
    | 0, hq => cases hq; exact hKn0
    | 1, hq => cases hq; exact hKn1
    | 2, hq => cases hq; exact hKn2
    | 3, hq => cases hq; exact hKn3
    | 4, hq => cases hq; exact hKn4
    | 5, hq => cases hq; exact hKn5
    | 6, hq => cases hq; exact hKn6
    | k + 7, hq => simp [vwCl] at hq
  · intro k q hq
    match k, hq with
    | 0, hq => cases hq; exact ⟨hI1, hI2⟩
    | 1, hq => cases hq; exact ⟨hZ1, hZ2⟩
    | k + 2, hq => simp at hq
set_option maxHeartbeats 8000000 in
set_option maxRecDepth 100000 in
theorem whole_open {RR : SS → SS → Prop} (hR : RS RR) (hR0 : ∀ x : Int32, RR (s0C x) (s0M x)) {p : Program} {e : Env} {s : State} {m : MethodId} {below : List Frame} {meth : Method} {c : Code} (l : Launch) {bs L : Nat} {xs : Nat → Int32} (hL : L ≤ 3073) (C0 : lw_At p s m meth c bs L xs) : W p l e room_1 s m #[Value.ref bs] below meth c s.heap [] 0 0 (lw_Z below #[Value.ref bs] s) (entryFrame m ([Value.ref bs] : List Value).toArray 4) := by
  obtain ⟨hx, hb, hr, hml, hown, hts, hX, hbl, hlocks, hgv⟩ := id C0
  have hg : ∀ w ∈ gt, w.before #[Value.ref bs] s = true := fun w h => hts w (gt_in h)
  have F : CallFix p m c code 4 s #[Value.ref bs] gt R_LA := ⟨hx, hb, hml, hown, hg⟩
  have hA : ∀ q : Nat, s.heap.size ≤ q → (fun q : Nat => s.heap.size ≤ q) q := fun _ h => h
  obtain ⟨t, hT⟩ := st_start hts hgv
  obtain ⟨D, cI, cZ, hK⟩ := kn_start hg
  obtain ⟨x0, hx0⟩ : ∃ x0 : Int32, x0 = if 0 < L then xs 0 else 0 := ⟨_, rfl⟩
  have hS : va_S (fun q : Nat => s.heap.size ≤ q) s.heap s.heap [] := va_S.rf
  have hP : va_P D vwCl [] s.heap := fun k q h => by simp at h
  have hD : va_D (fun q : Nat => s.heap.size ≤ q) [] := ⟨fun i j p q h => by simp at h, fun k q h => by simp at h⟩
  have hl := lv_entry ([.ref bs]) (n := 4) (Nat.le_of_ble_eq_true rfl)
  rw [lg_entry_eq]
  generalize (lg_sl ([.ref bs]) ++ List.replicate (4 - (lg_sl ([.ref bs])).length) Slot.unset).toArray = ls at hl ⊢
  have hl : lv_has ls 4 [(0, .ref bs)] := hl
  refine va_new (ci := 0) (fs := [.null, .null, .null, .null, .null, .int 0]) (C := R_SC) (T := T_SC) (N := 6) hx hb hg in_SC t_SC t_SC_ok hown (hg _ gw_9) (hg _ gw_10) (hg _ gw_1) hK hP hD hS hA rfl (fun j hj => by rcases (show j = 0 ∨ j = 1 ∨ j = 2 ∨ j = 3 ∨ j = 4 ∨ j = 5 by omega) with rfl | rfl | rfl | rfl | rfl | rfl <;> rfl) (Nat.le_of_ble_eq_true rfl) (Nat.le_of_ble_eq_true rfl) d_LA_law_0 (fun qx H hP hD hS => ?_)
  have hP : va_P D vwCl [(qx, .inr (0, [.null, .null, .null, .null, .null, .int 0]))] H := hP
  have hD : va_D (fun q : Nat => s.heap.size ≤ q) [(qx, .inr (0, [.null, .null, .null, .null, .null, .int 0]))] := hD
  refine W.widen (k := 1) (n := 6) (Nat.le_of_ble_eq_true rfl) (Nat.le_of_ble_eq_true rfl) ?_
  refine lv_dup hx hb d_LA_law_3 rfl ?_
  refine lv_aload_n hx hb d_LA_law_4 rfl (lv_at hl 0 rfl) ?_
  refine lv_iconst (v := (0 : Int32)) hx hb d_LA_law_5 (by decide) ?_
  refine va_calli (va_runS (As := [.ref bs, .int 0]) (rest := [.ref qx, .ref qx]) F (c_LA_cell l bs L xs hL) (cwS 2 hg gc_LA_9 rfl rfl rfl hs_LA_cell ⟨Nat.le_of_ble_eq_true rfl, Nat.le_of_ble_eq_true rfl⟩) ⟨fun a U g mk q => by obtain ⟨q0, q1, q2⟩ := q; exact ⟨q0, va_X.moved (u := U) (U := U.calling g mk a) (Vm.Alike.refl U.vm) q1, q2⟩, fun U hU hW => ⟨rfl, by rw [hU]; exact (hX.kept (hS.2.1 bs hbl (Nat.not_le.mpr hbl))).moved hW.alike, by rw [hU]; exact Nat.lt_of_lt_of_le hbl hS.1⟩⟩ rfl rfl hl.1 rfl (lv_room (Nat.le_of_ble_eq_true rfl)) d_LA_law_6 ⟨Nat.le_of_ble_eq_true rfl, Nat.le_of_ble_eq_true rfl⟩) hS (fun q _ h => h.elim) (fun q h => h.elim) (fun r u tt H1 locs ht hvm hw hB hz1 hk1 hS => ?_)
  obtain rfl : x0 = r := hx0.trans hw.symm
  have hP : va_P D vwCl [(qx, .inr (0, [.null, .null, .null, .null, .null, .int 0]))] H1 := hP.kept (fun k q hq => hk1 q.1 (hP k q hq).lt (fun h => h))
  generalize H1 = H at hP hS ⊢
  have hFc := va_free (wc := [(qx, .inr (0, [.null, .null, .null, .null, .null, .int 0]))]) hD hS hA [0] rfl
  refine va_callv (va_runI (As := [.int x0]) (rest := [.ref qx]) F (c_SC_init l qx x0 H.size) (cwI 1 hg (gt_all (gt_c gw_13)) rfl rfl rfl (hg _ gw_1) (hg _ gw_11) (hg _ gw_12) rfl ht_SC_init ⟨Nat.le_of_ble_eq_true rfl, Nat.le_of_ble_eq_true rfl⟩) ⟨fun a U g mk q => by obtain ⟨q0, q1, qP, qK, qD, z0, z1⟩ := q; exact ⟨q0, q1, qP, va_K.moved (u := U) (U := U.calling g mk a) (Vm.Alike.refl U.vm) qK, qD, va_Nw.same rfl rfl z0, va_Nw.same rfl rfl z1⟩, fun U hU hW => ⟨rfl, by rw [hU], by rw [hU]; exact hP, va_K.moved hW.alike hK, hD.weaken (fun _ _ _ _ => trivial), va_Nw.warmM hW (va_Nw.of rfl (hts (.methodLinkNest "StackCoder" 11 ⟨"StackCoder$RegisterCode", "<init>", "()V"⟩ "StackCoder") (List.mem_of_getElem? (i := 80) (by decide +kernel)))), va_Nw.warmM hW (va_Nw.of rfl (hts (.methodLinkNest "StackCoder" 45 ⟨"StackCoder$Machine", "<init>", "()V"⟩ "StackCoder") (List.mem_of_getElem? (i := 200) (by decide +kernel))))⟩⟩ rfl rfl hl.1 rfl (lv_room (Nat.le_of_ble_eq_true rfl)) d_LA_law_9 ⟨Nat.le_of_ble_eq_true rfl, Nat.le_of_ble_eq_true rfl⟩) hS (fun q _ h => hFc q h) hFc (fun u tt H1 locs ht hvm hw hB hz1 hk1 hS => ?_)
  obtain ⟨hP1, hK1, hD1⟩ := hB
  rw [ht] at hP1
  obtain ⟨a, hae⟩ : ∃ a : Nat → Nat, a = fun k => ([qx, (u 0), (u 8), (u 12), (u 19), (u 24), (u 1), (u 2), (u 3), (u 4), (u 5), (u 6), (u 7), (u 9), (u 10), (u 11), (u 13), (u 14), (u 15), (u 16), (u 17), (u 18), (u 20), (u 21), (u 22), (u 23), (u 25), (u 26), (u 27), (u 28)] : List Nat).getD k 0 := ⟨_, rfl⟩
  have hPa : va_P D vwCl (wC a cI cZ (s0C x0)) H1 := by
    subst hae
    exact hP1.sub [0, 1, 9, 13, 20, 25, 2, 3, 4, 5, 6, 7, 8, 10, 11, 12, 14, 15, 16, 17, 18, 19, 21, 22, 23, 24, 26, 27, 28, 29] rfl
  have hDa : va_D (fun q : Nat => s.heap.size ≤ q) (wC a cI cZ (s0C x0)) := by
    subst hae
    exact (hD1.weaken (fun k q _ h => hFc q.1 h)).sub [0, 1, 9, 13, 20, 25, 2, 3, 4, 5, 6, 7, 8, 10, 11, 12, 14, 15, 16, 17, 18, 19, 21, 22, 23, 24, 26, 27, 28, 29] (by decide) rfl
  have ha0 : a 0 = qx := by rw [hae]; rfl
  obtain ⟨haC, haA⟩ := ap_of (wC_at a cI cZ (s0C x0)) hDa
  have hAC : ∀ q, aC a q → s.heap.size ≤ q := by
    rintro q ⟨k, hk, rfl⟩
    exact haA k hk
  clear hP hD hP1 hD1 hk1 hFc
  generalize H1 = H at hPa hS ⊢
  refine W.widen (k := 30) (n := 1239) (Nat.le_of_ble_eq_true rfl) (Nat.le_of_ble_eq_true rfl) ?_
  refine lv_astore_n (lv' := [(1, .ref qx), (0, .ref bs)]) hx hb d_LA_law_12 rfl hl (by decide) rfl (fun ls hl => ?_)
  have hP := hPa
  have hD := hDa
  refine va_new (ci := 6) (fs := [.int 0, .int 0, .null, .null, .null, .null, .int 0, .null, .null, .null, .null, .null, .null, .null, .null, .int 0, .null, .null, .null, .null, .int 0, .null, .int 0, .null, .null, .null]) (C := R_MO) (T := T_MO) (N := 26) hx hb hg in_MO t_MO t_MO_ok hown (hg _ gw_577) (hg _ gw_578) (hg _ gw_7) hK hP hD hS hA rfl (fun j hj => by rcases (show j = 0 ∨ j = 1 ∨ j = 2 ∨ j = 3 ∨ j = 4 ∨ j = 5 ∨ j = 6 ∨ j = 7 ∨ j = 8 ∨ j = 9 ∨ j = 10 ∨ j = 11 ∨ j = 12 ∨ j = 13 ∨ j = 14 ∨ j = 15 ∨ j = 16 ∨ j = 17 ∨ j = 18 ∨ j = 19 ∨ j = 20 ∨ j = 21 ∨ j = 22 ∨ j = 23 ∨ j = 24 ∨ j = 25 by omega) with rfl | rfl | rfl | rfl | rfl | rfl | rfl | rfl | rfl | rfl | rfl | rfl | rfl | rfl | rfl | rfl | rfl | rfl | rfl | rfl | rfl | rfl | rfl | rfl | rfl | rfl <;> rfl) (Nat.le_of_ble_eq_true rfl) (Nat.le_of_ble_eq_true rfl) d_LA_law_13 (fun qm H hP hD hS => ?_)
  refine W.widen (k := 31) (n := 1265) (Nat.le_of_ble_eq_true rfl) (Nat.le_of_ble_eq_true rfl) ?_
  refine lv_dup hx hb d_LA_law_16 rfl ?_
  refine lv_aload_n hx hb d_LA_law_17 rfl (lv_at hl 1 rfl) ?_
  refine lv_iconst (v := (0 : Int32)) hx hb d_LA_law_18 (by decide) ?_
  refine va_calli (va_runS (As := [.ref bs, .int 0]) (rest := [.ref qm, .ref qm]) F (c_LA_cell l bs L xs hL) (cwS 2 hg gc_LA_9 rfl rfl rfl hs_LA_cell ⟨Nat.le_of_ble_eq_true rfl, Nat.le_of_ble_eq_true rfl⟩) ⟨fun a U g mk q => by obtain ⟨q0, q1, q2⟩ := q; exact ⟨q0, va_X.moved (u := U) (U := U.calling g mk a) (Vm.Alike.refl U.vm) q1, q2⟩, fun U hU hW => ⟨rfl, by rw [hU]; exact (hX.kept (hS.2.1 bs hbl (Nat.not_le.mpr hbl))).moved hW.alike, by rw [hU]; exact Nat.lt_of_lt_of_le hbl hS.1⟩⟩ rfl rfl hl.1 rfl (lv_room (Nat.le_of_ble_eq_true rfl)) d_LA_law_19 ⟨Nat.le_of_ble_eq_true rfl, Nat.le_of_ble_eq_true rfl⟩) hS (fun q _ h => h.elim) (fun q h => h.elim) (fun r u tt H1 locs ht hvm hw hB hz1 hk1 hS => ?_)
  obtain rfl : x0 = r := hx0.trans hw.symm
  replace hP := hP.kept (H1 := H1) (fun k q hq => hk1 q.1 (hP k q hq).lt (fun h => h))
  generalize H1 = H at hP hS ⊢
  have hPc := P_right hP
  have hDc := D_right hD
  have hFc := va_free (wc := [(qm, .inr (6, [.int 0, .int 0, .null, .null, .null, .null, .int 0, .null, .null, .null, .null, .null, .null, .null, .null, .int 0, .null, .null, .null, .null, .int 0, .null, .int 0, .null, .null, .null]))]) hD hS hA [30] rfl
  refine va_callv (va_runI (As := [.int x0]) (rest := [.ref qm]) F (c_MO_init l qm x0 H.size) (cwI 1 hg (gt_all (gt_c gw_581)) rfl rfl rfl (hg _ gw_7) (hg _ gw_579) (hg _ gw_580) rfl ht_MO_init ⟨Nat.le_of_ble_eq_true rfl, Nat.le_of_ble_eq_true rfl⟩) ⟨fun a U g mk q => by obtain ⟨q0, q1, qP, qK, qD⟩ := q; exact ⟨q0, q1, qP, va_K.moved (u := U) (U := U.calling g mk a) (Vm.Alike.refl U.vm) qK, qD⟩, fun U hU hW => ⟨rfl, by rw [hU], by rw [hU]; exact hPc, va_K.moved hW.alike hK, hDc.weaken (fun _ _ _ _ => trivial)⟩⟩ rfl rfl hl.1 rfl (lv_room (Nat.le_of_ble_eq_true rfl)) d_LA_law_22 ⟨Nat.le_of_ble_eq_true rfl, Nat.le_of_ble_eq_true rfl⟩) hS (fun q _ h => hFc q h) hFc (fun w tt H1 locs ht hvm hw hB hz1 hk1 hS => ?_)
  obtain ⟨hP1, hK1, hD1⟩ := hB
  rw [ht] at hP1
  obtain ⟨b, hbe⟩ : ∃ b : Nat → Nat, b = fun k => ([qm, (w 0), (w 1), (w 2), (w 3), (w 4), (w 5), (w 6), (w 7), (w 8), (w 9), (w 10), (w 11), (w 12), (w 13), (w 14), (w 15), (w 16), (w 17), (w 18), (w 19)] : List Nat).getD k 0 := ⟨_, rfl⟩
  have hP1 : va_P D vwCl (wM b cI cZ (s0M x0)) H1 := by
    subst hbe
    exact hP1
  have hD1 : va_D (va_A [(qm, .inr (6, [.int 0, .int 0, .null, .null, .null, .null, .int 0, .null, .null, .null, .null, .null, .null, .null, .null, .int 0, .null, .null, .null, .null, .int 0, .null, .int 0, .null, .null, .null]))] H.size) (wM b cI cZ (s0M x0)) := by
    subst hbe
    exact hD1
  obtain ⟨hPJ, hDJ⟩ := va_join (wr := wC a cI cZ (s0C x0)) (w1 := wM b cI cZ (s0M x0)) hP hD [30] [0, 1, 2, 3, 4, 5, 6, 7, 8, 9, 10, 11, 12, 13, 14, 15, 16, 17, 18, 19, 20, 21, 22, 23, 24, 25, 26, 27, 28, 29] rfl rfl (by decide) (by decide) hk1 hFc hP1 hD1
  have hb0 : b 0 = qm := by rw [hbe]; rfl
  obtain ⟨haM, hbA⟩ := ap_of (wM_at b cI cZ (s0M x0)) (D_right hDJ)
  have hAM : ∀ q, aM b q → s.heap.size ≤ q := by
    rintro q ⟨k, hk, rfl⟩
    exact hbA k hk
  have hap := ap_two (wC_at a cI cZ (s0C x0)) (wM_at b cI cZ (s0M x0)) hDJ
  refine W.widen (k := 51) (n := 3456) (Nat.le_of_ble_eq_true rfl) (Nat.le_of_ble_eq_true rfl) ?_
  refine lv_astore_n (lv' := [(2, .ref qm), (1, .ref qx), (0, .ref bs)]) hx hb d_LA_law_25 rfl hl (by decide) rfl (fun ls hl => ?_)
  refine lv_iconst (v := (1 : Int32)) hx hb d_LA_law_26 (by decide) ?_
  refine lv_istore_n (lv' := [(3, .int (nI 1)), (2, .ref qm), (1, .ref qx), (0, .ref bs)]) hx hb d_LA_law_27 rfl hl (by decide) rfl (fun ls hl => ?_)
  subst ha0
  subst hb0
  exact law_loop hL C0 haC haM hAC hAM hap hK (stC_nar hT hAC) trivial hR (L + 1) 1 (by omega) (by omega) (s0C x0) (s0M x0) (hR0 x0) _ _ (P_left hPJ) (P_right hPJ) hS ls (lv_sub hl [3, 2, 1, 0] rfl)
