theorem d_ST_leavesValue_0 : decode b_ST_leavesValue 0 = .ok (.aload_n 0, 1) := by decide +kernel
theorem d_ST_leavesValue_1 : decode b_ST_leavesValue 1 = .ok (.getfield 24, 3) := by decide +kernel
theorem d_ST_leavesValue_4 : decode b_ST_leavesValue 4 = .ok (.iload_n 1, 1) := by decide +kernel
theorem d_ST_leavesValue_5 : decode b_ST_leavesValue 5 = .ok (.invokevirtual 98, 3) := by decide +kernel
theorem d_ST_leavesValue_8 : decode b_ST_leavesValue 8 = .ok (.iconst (-1), 1) := by decide +kernel
theorem d_ST_leavesValue_9 : decode b_ST_leavesValue 9 = .ok (.if_icmp .eq 18, 3) := by decide +kernel
theorem d_ST_leavesValue_12 : decode b_ST_leavesValue 12 = .ok (.aload_n 0, 1) := by decide +kernel
theorem d_ST_leavesValue_13 : decode b_ST_leavesValue 13 = .ok (.getfield 32, 3) := by decide +kernel
theorem d_ST_leavesValue_16 : decode b_ST_leavesValue 16 = .ok (.iload_n 1, 1) := by decide +kernel
theorem d_ST_leavesValue_17 : decode b_ST_leavesValue 17 = .ok (.invokevirtual 53, 3) := by decide +kernel
theorem d_ST_leavesValue_20 : decode b_ST_leavesValue 20 = .ok (.ifCond .ne 7, 3) := by decide +kernel
theorem d_ST_leavesValue_23 : decode b_ST_leavesValue 23 = .ok (.iconst 1, 1) := by decide +kernel
theorem d_ST_leavesValue_24 : decode b_ST_leavesValue 24 = .ok (.goto 4, 3) := by decide +kernel
theorem d_ST_leavesValue_27 : decode b_ST_leavesValue 27 = .ok (.iconst 0, 1) := by decide +kernel
theorem d_ST_leavesValue_28 : decode b_ST_leavesValue 28 = .ok (.ireturn, 1) := by decide +kernel
theorem gc_ST_98 : GoodIn gt (wsV R_ST 98 R_RC y_RC_writtenBy ws_RC_writtenBy) := gd_V gw_396 gw_286 gw_287 gw_2 gw_288
theorem gc_ST_53 : GoodIn gt (wsV R_ST 53 R_CA y_CA_isCarried ws_CA_isCarried) := gd_V gw_397 gw_398 gw_399 gw_4 gw_400
def f_ST_leavesValue (x1 : Int32) (σ : SS) : Option (Int32 × SS) :=
  (f_RC_writtenBy x1 σ).bind fun q1 => (if q1.1 = (-1 : Int32) then some ((0 : Int32), q1.2) else (f_CA_isCarried x1 q1.2).bind fun q4 => (if q4.1 = 0 then some ((1 : Int32), q4.2) else some ((0 : Int32), q4.2)))
set_option maxHeartbeats 4000000 in
set_option maxRecDepth 100000 in
theorem e_ST_leavesValue {p : Program} {l : Launch} {e : Env} {s : State} {m : MethodId} {args : Array Value} {below : List Frame} {meth : Method} {c : Code} {D : va_G} {a t : Nat → Nat} {cI cZ : ClassId} (ha : aCC a) (F : CallFix p m c b_ST_leavesValue 2 s args gt R_ST) (hr : meth.sig.returnType = some .boolean) (hlk : meth.locks = false) (hK : va_K D vwCl [(cI, .int), (cZ, .boolean)] s) (hT : stC t (aC a) s s.heap) :
    ∀ (x1 : Int32) (σ : SS) (q : Int32 × SS), f_ST_leavesValue x1 σ = some q → ∀ (H : Heap) (locs : List Loc), va_P D vwCl ((wC a cI cZ) σ) H → va_S (aC a) s.heap H locs → ∀ (ls : Array Slot), lv_has ls 2 [(0, .ref (a 4)), (1, .int x1)] → W p l e { frames := 1, cells := 0, slots := 0, locals := 21 } s m args below meth c H locs 0 0 (MQ below (va_Qi (fun r u => r = q.1 ∧ u = q.2) (pW D (wC a cI cZ) [(cI, .int), (cZ, .boolean)] (stC t) (aC a)) (aC a)) args s 0 0 (aC a)) (F0 m 0 ls []) := by
  obtain ⟨hx, hb, hml, hown, hg⟩ := id F
  intro x1 σ q hf H locs hP hS ls hl
  unfold f_ST_leavesValue at hf
  refine lv_aload_n hx hb d_ST_leavesValue_0 rfl (lv_at hl 0 rfl) ?_
  refine va_get (D := D) (ci := 4) (v := .ref (a 1)) (C := R_ST) (T := T_ST) (N := 9) hx hb hg in_ST hown hK hP 4 rfl rfl 0 (by decide) (hg _ gw_109) (fun _ h9 => h9) rfl d_ST_leavesValue_1 ?_
  refine lv_iload_n hx hb d_ST_leavesValue_4 rfl (lv_at hl 1 rfl) ?_
  refine bdK hf (fun q1 h2 hf => ?_)
  refine rc_Vi (As := [.int x1]) (rest := []) (b := a 1) (stC_g t) F (c_RC_writtenBy l ha x1 σ q1 h2) (cwV 1 hg gc_ST_98 rfl rfl rfl hs_RC_writtenBy ⟨Nat.le_of_ble_eq_true rfl, Nat.le_of_ble_eq_true rfl⟩) hK hT hP hS (va_recv hK hP (ci := 1) (q0 := 1) rfl rfl) rfl hl.1 rfl (Nat.le_of_ble_eq_true rfl) d_ST_leavesValue_5 ⟨Nat.zero_le _, Nat.zero_le _⟩ (fun H locs hP hS => ?_)
  refine lv_iconst (v := (-1 : Int32)) hx hb d_ST_leavesValue_8 (by decide) ?_
  refine lv_icmp_eq (tgt := 27) hx hb d_ST_leavesValue_9 (by decide) (fun c3 => ?_) (fun c3 => ?_)
  · replace hf := (if_pos c3).symm.trans hf
    refine lv_iconst (v := (0 : Int32)) hx hb d_ST_leavesValue_27 (by decide) ?_
    exact rr_z hx hb hr hlk (stC_g t) hK hT hP hS (Or.inl rfl) hf d_ST_leavesValue_28
  · replace hf := (if_neg c3).symm.trans hf
    refine lv_aload_n hx hb d_ST_leavesValue_12 rfl (lv_at hl 0 rfl) ?_
    refine va_get (D := D) (ci := 4) (v := .ref (a 3)) (C := R_ST) (T := T_ST) (N := 9) hx hb hg in_ST hown hK hP 4 rfl rfl 2 (by decide) (hg _ gw_111) (fun _ h9 => h9) rfl d_ST_leavesValue_13 ?_
    refine lv_iload_n hx hb d_ST_leavesValue_16 rfl (lv_at hl 1 rfl) ?_
    refine bdK hf (fun q4 h5 hf => ?_)
    refine rc_Vi (As := [.int x1]) (rest := []) (b := a 3) (stC_g t) F (c_CA_isCarried l ha x1 q1.2 q4 h5) (cwV 1 hg gc_ST_53 rfl rfl rfl hs_CA_isCarried ⟨Nat.le_of_ble_eq_true rfl, Nat.le_of_ble_eq_true rfl⟩) hK hT hP hS (va_recv hK hP (ci := 3) (q0 := 3) rfl rfl) rfl hl.1 rfl (Nat.le_of_ble_eq_true rfl) d_ST_leavesValue_17 ⟨Nat.zero_le _, Nat.zero_le _⟩ (fun H locs hP hS => ?_)
    refine lv_if_ne (tgt := 27) hx hb d_ST_leavesValue_20 (by decide) (fun c6 => ?_) (fun c6 => ?_)
    · replace hf := (if_neg c6).symm.trans hf
      refine lv_iconst (v := (0 : Int32)) hx hb d_ST_leavesValue_27 (by decide) ?_
      exact rr_z hx hb hr hlk (stC_g t) hK hT hP hS (Or.inl rfl) hf d_ST_leavesValue_28
    · replace hf := (if_pos c6).symm.trans hf
      refine lv_iconst (v := (1 : Int32)) hx hb d_ST_leavesValue_23 (by decide) ?_
      refine lv_goto (tgt := 28) hx hb d_ST_leavesValue_24 (by decide) ?_
      exact rr_z hx hb hr hlk (stC_g t) hK hT hP hS (Or.inr rfl) hf d_ST_leavesValue_28
set_option maxHeartbeats 4000000 in
set_option maxRecDepth 100000 in
theorem c_ST_leavesValue (l : Launch) {D : va_G} {a t : Nat → Nat} {cI cZ : ClassId} (ha : aCC a) (x1 : Int32) (σ : SS) (q : Int32 × SS) (hf : f_ST_leavesValue x1 σ = some q) : Met l y_ST_leavesValue ws_ST_leavesValue { frames := 1, cells := 0, slots := 0, locals := 21 } (va_Pc [.ref (a 4), .int x1] (pW D (wC a cI cZ) [(cI, .int), (cZ, .boolean)] (stC t) (aC a) σ)) (va_Qi (fun r u => r = q.1 ∧ u = q.2) (pW D (wC a cI cZ) [(cI, .int), (cZ, .boolean)] (stC t) (aC a)) (aC a)) 0 0 (aC a) := by
  refine Met.ofW (cc := b_ST_leavesValue) (maxL := 2) (ret := some .boolean) (by decide) rfl ?_
  intro p e s m args below meth c s₁ B hml hv
  obtain ⟨rfl, hP, hK, hT⟩ := hv
  have hl := lv_entry ([.ref (a 4), .int x1]) (n := 2) (Nat.le_of_ble_eq_true rfl)
  rw [lg_entry_eq]
  generalize (lg_sl ([.ref (a 4), .int x1]) ++ List.replicate (2 - (lg_sl ([.ref (a 4), .int x1])).length) Slot.unset).toArray = ls at hl ⊢
  exact e_ST_leavesValue ha ⟨B.exec, B.bytes, hml, findClass_of_methodNamed B.named, fun w h => atoms_spec (ws := ws_ST_leavesValue) B.pre w (List.mem_cons_of_mem _ h)⟩ B.returns B.notSynchronized hK hT x1 σ q hf s.heap [] hP va_S.rf ls hl
theorem d_ST_widthOf_0 : decode b_ST_widthOf 0 = .ok (.aload_n 0, 1) := by decide +kernel
theorem d_ST_widthOf_1 : decode b_ST_widthOf 1 = .ok (.aload_n 0, 1) := by decide +kernel
theorem d_ST_widthOf_2 : decode b_ST_widthOf 2 = .ok (.getfield 24, 3) := by decide +kernel
theorem d_ST_widthOf_5 : decode b_ST_widthOf 5 = .ok (.iload_n 1, 1) := by decide +kernel
theorem d_ST_widthOf_6 : decode b_ST_widthOf 6 = .ok (.invokevirtual 67, 3) := by decide +kernel
theorem d_ST_widthOf_9 : decode b_ST_widthOf 9 = .ok (.aload_n 0, 1) := by decide +kernel
theorem d_ST_widthOf_10 : decode b_ST_widthOf 10 = .ok (.getfield 32, 3) := by decide +kernel
theorem d_ST_widthOf_13 : decode b_ST_widthOf 13 = .ok (.iload_n 1, 1) := by decide +kernel
theorem d_ST_widthOf_14 : decode b_ST_widthOf 14 = .ok (.invokevirtual 70, 3) := by decide +kernel
theorem d_ST_widthOf_17 : decode b_ST_widthOf 17 = .ok (.invokevirtual 73, 3) := by decide +kernel
theorem d_ST_widthOf_20 : decode b_ST_widthOf 20 = .ok (.aload_n 0, 1) := by decide +kernel
theorem d_ST_widthOf_21 : decode b_ST_widthOf 21 = .ok (.aload_n 0, 1) := by decide +kernel
theorem d_ST_widthOf_22 : decode b_ST_widthOf 22 = .ok (.getfield 24, 3) := by decide +kernel
theorem d_ST_widthOf_25 : decode b_ST_widthOf 25 = .ok (.iload_n 1, 1) := by decide +kernel
theorem d_ST_widthOf_26 : decode b_ST_widthOf 26 = .ok (.invokevirtual 77, 3) := by decide +kernel
theorem d_ST_widthOf_29 : decode b_ST_widthOf 29 = .ok (.aload_n 0, 1) := by decide +kernel
theorem d_ST_widthOf_30 : decode b_ST_widthOf 30 = .ok (.getfield 32, 3) := by decide +kernel
theorem d_ST_widthOf_33 : decode b_ST_widthOf 33 = .ok (.iload_n 1, 1) := by decide +kernel
theorem d_ST_widthOf_34 : decode b_ST_widthOf 34 = .ok (.invokevirtual 80, 3) := by decide +kernel
theorem d_ST_widthOf_37 : decode b_ST_widthOf 37 = .ok (.invokevirtual 73, 3) := by decide +kernel
theorem d_ST_widthOf_40 : decode b_ST_widthOf 40 = .ok (.iadd, 1) := by decide +kernel
theorem d_ST_widthOf_41 : decode b_ST_widthOf 41 = .ok (.istore_n 2, 1) := by decide +kernel
theorem d_ST_widthOf_42 : decode b_ST_widthOf 42 = .ok (.aload_n 0, 1) := by decide +kernel
theorem d_ST_widthOf_43 : decode b_ST_widthOf 43 = .ok (.iload_n 1, 1) := by decide +kernel
theorem d_ST_widthOf_44 : decode b_ST_widthOf 44 = .ok (.invokevirtual 83, 3) := by decide +kernel
theorem d_ST_widthOf_47 : decode b_ST_widthOf 47 = .ok (.ifCond .eq 6, 3) := by decide +kernel
theorem d_ST_widthOf_50 : decode b_ST_widthOf 50 = .ok (.iinc 2 1, 3) := by decide +kernel
theorem d_ST_widthOf_53 : decode b_ST_widthOf 53 = .ok (.getstatic 86, 3) := by decide +kernel
theorem d_ST_widthOf_56 : decode b_ST_widthOf 56 = .ok (.aload_n 0, 1) := by decide +kernel
theorem d_ST_widthOf_57 : decode b_ST_widthOf 57 = .ok (.getfield 24, 3) := by decide +kernel
theorem d_ST_widthOf_60 : decode b_ST_widthOf 60 = .ok (.iload_n 1, 1) := by decide +kernel
theorem d_ST_widthOf_61 : decode b_ST_widthOf 61 = .ok (.invokevirtual 89, 3) := by decide +kernel
theorem d_ST_widthOf_64 : decode b_ST_widthOf 64 = .ok (.iaload, 1) := by decide +kernel
theorem d_ST_widthOf_65 : decode b_ST_widthOf 65 = .ok (.iconst (-1), 1) := by decide +kernel
theorem d_ST_widthOf_66 : decode b_ST_widthOf 66 = .ok (.if_icmp .eq 6, 3) := by decide +kernel
theorem d_ST_widthOf_69 : decode b_ST_widthOf 69 = .ok (.iinc 2 1, 3) := by decide +kernel
theorem d_ST_widthOf_72 : decode b_ST_widthOf 72 = .ok (.aload_n 0, 1) := by decide +kernel
theorem d_ST_widthOf_73 : decode b_ST_widthOf 73 = .ok (.iload_n 1, 1) := by decide +kernel
theorem d_ST_widthOf_74 : decode b_ST_widthOf 74 = .ok (.invokevirtual 92, 3) := by decide +kernel
theorem d_ST_widthOf_77 : decode b_ST_widthOf 77 = .ok (.ifCond .eq 9, 3) := by decide +kernel
theorem d_ST_widthOf_80 : decode b_ST_widthOf 80 = .ok (.iload_n 2, 1) := by decide +kernel
theorem d_ST_widthOf_81 : decode b_ST_widthOf 81 = .ok (.iconst 1, 1) := by decide +kernel
theorem d_ST_widthOf_82 : decode b_ST_widthOf 82 = .ok (.iadd, 1) := by decide +kernel
theorem d_ST_widthOf_83 : decode b_ST_widthOf 83 = .ok (.goto 4, 3) := by decide +kernel
theorem d_ST_widthOf_86 : decode b_ST_widthOf 86 = .ok (.iload_n 2, 1) := by decide +kernel
theorem d_ST_widthOf_87 : decode b_ST_widthOf 87 = .ok (.ireturn, 1) := by decide +kernel
theorem gc_ST_92 : GoodIn gt (wsV R_ST 92 R_ST y_ST_leavesValue ws_ST_leavesValue) := gd_V gw_392 gw_394 gs_18 gw_5 gw_395
theorem gc_ST_67 : GoodIn gt (wsV R_ST 67 R_RC y_RC_readAsA ws_RC_readAsA) := gd_V gw_367 gw_275 gw_276 gw_2 gw_277
theorem gc_ST_70 : GoodIn gt (wsV R_ST 70 R_CA y_CA_inForA ws_CA_inForA) := gd_V gw_368 gw_369 gw_370 gw_4 gw_371
theorem gc_ST_73 : GoodIn gt (wsV R_ST 73 R_ST y_ST_thingWidth ws_ST_thingWidth) := gd_V gw_372 gw_374 gs_16 gw_5 gw_375
theorem gc_ST_77 : GoodIn gt (wsV R_ST 77 R_RC y_RC_readAsB ws_RC_readAsB) := gd_V gw_376 gw_282 gw_283 gw_2 gw_284
theorem gc_ST_80 : GoodIn gt (wsV R_ST 80 R_CA y_CA_inForB ws_CA_inForB) := gd_V gw_377 gw_378 gw_379 gw_4 gw_380
theorem gc_ST_83 : GoodIn gt (wsV R_ST 83 R_ST y_ST_needsSwap ws_ST_needsSwap) := gd_V gw_381 gw_383 gs_17 gw_5 gw_384
def b_ST_widthOf_72 (x1 x2 : Int32) (σ : SS) : Option (Int32 × SS) :=
  (f_ST_leavesValue x1 σ).bind fun q1 => (if q1.1 = 0 then some (x2, q1.2) else some ((x2 + (1 : Int32)), q1.2))
set_option maxHeartbeats 4000000 in
set_option maxRecDepth 100000 in
theorem k_ST_widthOf_72 {p : Program} {l : Launch} {e : Env} {s : State} {m : MethodId} {args : Array Value} {below : List Frame} {meth : Method} {c : Code} {D : va_G} {a t : Nat → Nat} {cI cZ : ClassId} (ha : aCC a) (F : CallFix p m c b_ST_widthOf 3 s args gt R_ST) (hr : meth.sig.returnType = some .int) (hlk : meth.locks = false) (hK : va_K D vwCl [(cI, .int), (cZ, .boolean)] s) (hT : stC t (aC a) s s.heap) :
    ∀ (x1 x2 : Int32) (σ : SS) (q : Int32 × SS), b_ST_widthOf_72 x1 x2 σ = some q → ∀ (H : Heap) (locs : List Loc), va_P D vwCl ((wC a cI cZ) σ) H → va_S (aC a) s.heap H locs → ∀ (ls : Array Slot), lv_has ls 3 [(0, .ref (a 4)), (1, .int x1), (2, .int x2)] → W p l e { frames := 3, cells := 0, slots := 0, locals := 64 } s m args below meth c H locs 0 0 (MQ below (va_Qi (fun r u => r = q.1 ∧ u = q.2) (pW D (wC a cI cZ) [(cI, .int), (cZ, .boolean)] (stC t) (aC a)) (aC a)) args s 0 0 (aC a)) (F0 m 72 ls []) := by
  obtain ⟨hx, hb, hml, hown, hg⟩ := id F
  intro x1 x2 σ q hf H locs hP hS ls hl
  unfold b_ST_widthOf_72 at hf
  refine lv_aload_n hx hb d_ST_widthOf_72 rfl (lv_at hl 0 rfl) ?_
  refine lv_iload_n hx hb d_ST_widthOf_73 rfl (lv_at hl 1 rfl) ?_
  refine bdK hf (fun q1 h2 hf => ?_)
  refine rc_Vi (As := [.int x1]) (rest := []) (b := a 4) (stC_g t) F (c_ST_leavesValue l ha x1 σ q1 h2) (cwV 1 hg gc_ST_92 rfl rfl rfl hs_ST_leavesValue ⟨Nat.le_of_ble_eq_true rfl, Nat.le_of_ble_eq_true rfl⟩) hK hT hP hS (va_recv hK hP (ci := 4) (q0 := 4) rfl rfl) rfl hl.1 rfl (Nat.le_of_ble_eq_true rfl) d_ST_widthOf_74 ⟨Nat.zero_le _, Nat.zero_le _⟩ (fun H locs hP hS => ?_)
  refine lv_if_eq (tgt := 86) hx hb d_ST_widthOf_77 (by decide) (fun c3 => ?_) (fun c3 => ?_)
  · replace hf := (if_pos c3).symm.trans hf
    refine lv_iload_n hx hb d_ST_widthOf_86 rfl (lv_at hl 2 rfl) ?_
    exact rr_i hx hb hr hlk (stC_g t) hK hT hP hS hf d_ST_widthOf_87
  · replace hf := (if_neg c3).symm.trans hf
    refine lv_iload_n hx hb d_ST_widthOf_80 rfl (lv_at hl 2 rfl) ?_
    refine lv_iconst (v := (1 : Int32)) hx hb d_ST_widthOf_81 (by decide) ?_
    refine lv_iadd hx hb d_ST_widthOf_82 ?_
    refine lv_goto (tgt := 87) hx hb d_ST_widthOf_83 (by decide) ?_
    exact rr_i hx hb hr hlk (stC_g t) hK hT hP hS hf d_ST_widthOf_87
def f_ST_widthOf (x1 : Int32) (σ : SS) : Option (Int32 × SS) :=
  (f_RC_readAsA x1 σ).bind fun q1 => (f_CA_inForA x1 q1.2).bind fun q3 => (f_ST_thingWidth q1.1 q3.1 q3.2).bind fun q5 => (f_RC_readAsB x1 q5.2).bind fun q7 => (f_CA_inForB x1 q7.2).bind fun q9 => (f_ST_thingWidth q7.1 q9.1 q9.2).bind fun q11 => (f_ST_needsSwap x1 q11.2).bind fun q13 => (if q13.1 = 0 then (f_RC_operationOf x1 q13.2).bind fun q16 => (ld tbC3 12 q16.1).bind fun v18 => (if v18 = (-1 : Int32) then b_ST_widthOf_72 x1 (q5.1 + q11.1) q16.2 else b_ST_widthOf_72 x1 ((q5.1 + q11.1) + (1 : Int32)) q16.2) else (f_RC_operationOf x1 q13.2).bind fun q21 => (ld tbC3 12 q21.1).bind fun v23 => (if v23 = (-1 : Int32) then b_ST_widthOf_72 x1 ((q5.1 + q11.1) + (1 : Int32)) q21.2 else b_ST_widthOf_72 x1 (((q5.1 + q11.1) + (1 : Int32)) + (1 : Int32)) q21.2))
set_option maxHeartbeats 4000000 in
set_option maxRecDepth 100000 in
theorem e_ST_widthOf {p : Program} {l : Launch} {e : Env} {s : State} {m : MethodId} {args : Array Value} {below : List Frame} {meth : Method} {c : Code} {D : va_G} {a t : Nat → Nat} {cI cZ : ClassId} (ha : aCC a) (F : CallFix p m c b_ST_widthOf 3 s args gt R_ST) (hr : meth.sig.returnType = some .int) (hlk : meth.locks = false) (hK : va_K D vwCl [(cI, .int), (cZ, .boolean)] s) (hT : stC t (aC a) s s.heap) :
    ∀ (x1 : Int32) (σ : SS) (q : Int32 × SS), f_ST_widthOf x1 σ = some q → ∀ (H : Heap) (locs : List Loc), va_P D vwCl ((wC a cI cZ) σ) H → va_S (aC a) s.heap H locs → ∀ (ls : Array Slot), lv_has ls 3 [(0, .ref (a 4)), (1, .int x1)] → W p l e { frames := 3, cells := 0, slots := 0, locals := 64 } s m args below meth c H locs 0 0 (MQ below (va_Qi (fun r u => r = q.1 ∧ u = q.2) (pW D (wC a cI cZ) [(cI, .int), (cZ, .boolean)] (stC t) (aC a)) (aC a)) args s 0 0 (aC a)) (F0 m 0 ls []) := by
  obtain ⟨hx, hb, hml, hown, hg⟩ := id F
  intro x1 σ q hf H locs hP hS ls hl
  unfold f_ST_widthOf at hf
  refine lv_aload_n hx hb d_ST_widthOf_0 rfl (lv_at hl 0 rfl) ?_
  refine lv_aload_n hx hb d_ST_widthOf_1 rfl (lv_at hl 0 rfl) ?_
  refine va_get (D := D) (ci := 4) (v := .ref (a 1)) (C := R_ST) (T := T_ST) (N := 9) hx hb hg in_ST hown hK hP 4 rfl rfl 0 (by decide) (hg _ gw_109) (fun _ h9 => h9) rfl d_ST_widthOf_2 ?_
  refine lv_iload_n hx hb d_ST_widthOf_5 rfl (lv_at hl 1 rfl) ?_
  refine bdK hf (fun q1 h2 hf => ?_)
  refine rc_Vi (As := [.int x1]) (rest := [.ref (a 4)]) (b := a 1) (stC_g t) F (c_RC_readAsA l ha x1 σ q1 h2) (cwV 1 hg gc_ST_67 rfl rfl rfl hs_RC_readAsA ⟨Nat.le_of_ble_eq_true rfl, Nat.le_of_ble_eq_true rfl⟩) hK hT hP hS (va_recv hK hP (ci := 1) (q0 := 1) rfl rfl) rfl hl.1 rfl (Nat.le_of_ble_eq_true rfl) d_ST_widthOf_6 ⟨Nat.zero_le _, Nat.zero_le _⟩ (fun H locs hP hS => ?_)
  refine lv_aload_n hx hb d_ST_widthOf_9 rfl (lv_at hl 0 rfl) ?_
  refine va_get (D := D) (ci := 4) (v := .ref (a 3)) (C := R_ST) (T := T_ST) (N := 9) hx hb hg in_ST hown hK hP 4 rfl rfl 2 (by decide) (hg _ gw_111) (fun _ h9 => h9) rfl d_ST_widthOf_10 ?_
  refine lv_iload_n hx hb d_ST_widthOf_13 rfl (lv_at hl 1 rfl) ?_
  refine bdK hf (fun q3 h4 hf => ?_)
  refine rc_Vi (As := [.int x1]) (rest := [.int q1.1, .ref (a 4)]) (b := a 3) (stC_g t) F (c_CA_inForA l ha x1 q1.2 q3 h4) (cwV 1 hg gc_ST_70 rfl rfl rfl hs_CA_inForA ⟨Nat.le_of_ble_eq_true rfl, Nat.le_of_ble_eq_true rfl⟩) hK hT hP hS (va_recv hK hP (ci := 3) (q0 := 3) rfl rfl) rfl hl.1 rfl (Nat.le_of_ble_eq_true rfl) d_ST_widthOf_14 ⟨Nat.zero_le _, Nat.zero_le _⟩ (fun H locs hP hS => ?_)
  refine bdK hf (fun q5 h6 hf => ?_)
  refine rc_Vi (As := [.int q1.1, .int q3.1]) (rest := []) (b := a 4) (stC_g t) F (c_ST_thingWidth l ha q1.1 q3.1 q3.2 q5 h6) (cwV 2 hg gc_ST_73 rfl rfl rfl hs_ST_thingWidth ⟨Nat.le_of_ble_eq_true rfl, Nat.le_of_ble_eq_true rfl⟩) hK hT hP hS (va_recv hK hP (ci := 4) (q0 := 4) rfl rfl) rfl hl.1 rfl (Nat.le_of_ble_eq_true rfl) d_ST_widthOf_17 ⟨Nat.zero_le _, Nat.zero_le _⟩ (fun H locs hP hS => ?_)
  refine lv_aload_n hx hb d_ST_widthOf_20 rfl (lv_at hl 0 rfl) ?_
  refine lv_aload_n hx hb d_ST_widthOf_21 rfl (lv_at hl 0 rfl) ?_
  refine va_get (D := D) (ci := 4) (v := .ref (a 1)) (C := R_ST) (T := T_ST) (N := 9) hx hb hg in_ST hown hK hP 4 rfl rfl 0 (by decide) (hg _ gw_109) (fun _ h9 => h9) rfl d_ST_widthOf_22 ?_
  refine lv_iload_n hx hb d_ST_widthOf_25 rfl (lv_at hl 1 rfl) ?_
  refine bdK hf (fun q7 h8 hf => ?_)
  refine rc_Vi (As := [.int x1]) (rest := [.ref (a 4), .int q5.1]) (b := a 1) (stC_g t) F (c_RC_readAsB l ha x1 q5.2 q7 h8) (cwV 1 hg gc_ST_77 rfl rfl rfl hs_RC_readAsB ⟨Nat.le_of_ble_eq_true rfl, Nat.le_of_ble_eq_true rfl⟩) hK hT hP hS (va_recv hK hP (ci := 1) (q0 := 1) rfl rfl) rfl hl.1 rfl (Nat.le_of_ble_eq_true rfl) d_ST_widthOf_26 ⟨Nat.zero_le _, Nat.zero_le _⟩ (fun H locs hP hS => ?_)
  refine lv_aload_n hx hb d_ST_widthOf_29 rfl (lv_at hl 0 rfl) ?_
  refine va_get (D := D) (ci := 4) (v := .ref (a 3)) (C := R_ST) (T := T_ST) (N := 9) hx hb hg in_ST hown hK hP 4 rfl rfl 2 (by decide) (hg _ gw_111) (fun _ h9 => h9) rfl d_ST_widthOf_30 ?_
  refine lv_iload_n hx hb d_ST_widthOf_33 rfl (lv_at hl 1 rfl) ?_
  refine bdK hf (fun q9 h10 hf => ?_)
  refine rc_Vi (As := [.int x1]) (rest := [.int q7.1, .ref (a 4), .int q5.1]) (b := a 3) (stC_g t) F (c_CA_inForB l ha x1 q7.2 q9 h10) (cwV 1 hg gc_ST_80 rfl rfl rfl hs_CA_inForB ⟨Nat.le_of_ble_eq_true rfl, Nat.le_of_ble_eq_true rfl⟩) hK hT hP hS (va_recv hK hP (ci := 3) (q0 := 3) rfl rfl) rfl hl.1 rfl (Nat.le_of_ble_eq_true rfl) d_ST_widthOf_34 ⟨Nat.zero_le _, Nat.zero_le _⟩ (fun H locs hP hS => ?_)
  refine bdK hf (fun q11 h12 hf => ?_)
  refine rc_Vi (As := [.int q7.1, .int q9.1]) (rest := [.int q5.1]) (b := a 4) (stC_g t) F (c_ST_thingWidth l ha q7.1 q9.1 q9.2 q11 h12) (cwV 2 hg gc_ST_73 rfl rfl rfl hs_ST_thingWidth ⟨Nat.le_of_ble_eq_true rfl, Nat.le_of_ble_eq_true rfl⟩) hK hT hP hS (va_recv hK hP (ci := 4) (q0 := 4) rfl rfl) rfl hl.1 rfl (Nat.le_of_ble_eq_true rfl) d_ST_widthOf_37 ⟨Nat.zero_le _, Nat.zero_le _⟩ (fun H locs hP hS => ?_)
  refine lv_iadd hx hb d_ST_widthOf_40 ?_
  refine lv_istore_n (lv' := [(2, .int (q5.1 + q11.1)), (0, .ref (a 4)), (1, .int x1)]) hx hb d_ST_widthOf_41 rfl hl (by decide) rfl (fun ls hl => ?_)
  refine lv_aload_n hx hb d_ST_widthOf_42 rfl (lv_at hl 1 rfl) ?_
  refine lv_iload_n hx hb d_ST_widthOf_43 rfl (lv_at hl 2 rfl) ?_
  refine bdK hf (fun q13 h14 hf => ?_)
  refine rc_Vi (As := [.int x1]) (rest := []) (b := a 4) (stC_g t) F (c_ST_needsSwap l ha x1 q11.2 q13 h14) (cwV 1 hg gc_ST_83 rfl rfl rfl hs_ST_needsSwap ⟨Nat.le_of_ble_eq_true rfl, Nat.le_of_ble_eq_true rfl⟩) hK hT hP hS (va_recv hK hP (ci := 4) (q0 := 4) rfl rfl) rfl hl.1 rfl (Nat.le_of_ble_eq_true rfl) d_ST_widthOf_44 ⟨Nat.zero_le _, Nat.zero_le _⟩ (fun H locs hP hS => ?_)
  refine lv_if_eq (tgt := 53) hx hb d_ST_widthOf_47 (by decide) (fun c15 => ?_) (fun c15 => ?_)
  · replace hf := (if_pos c15).symm.trans hf
    refine va_gets hx hb hT.2.2.2.2.2.2.1 hS hown (hg _ gw_390) (fun _ h9 => h9) d_ST_widthOf_53 ?_
    refine lv_aload_n hx hb d_ST_widthOf_56 rfl (lv_at hl 1 rfl) ?_
    refine va_get (D := D) (ci := 4) (v := .ref (a 1)) (C := R_ST) (T := T_ST) (N := 9) hx hb hg in_ST hown hK hP 4 rfl rfl 0 (by decide) (hg _ gw_109) (fun _ h9 => h9) rfl d_ST_widthOf_57 ?_
    refine lv_iload_n hx hb d_ST_widthOf_60 rfl (lv_at hl 2 rfl) ?_
    refine bdK hf (fun q16 h17 hf => ?_)
    refine rc_Vi (As := [.int x1]) (rest := [.ref (t 3)]) (b := a 1) (stC_g t) F (c_RC_operationOf l ha x1 q13.2 q16 h17) (cwV 1 hg gc_ST_89 rfl rfl rfl hs_RC_operationOf ⟨Nat.le_of_ble_eq_true rfl, Nat.le_of_ble_eq_true rfl⟩) hK hT hP hS (va_recv hK hP (ci := 1) (q0 := 1) rfl rfl) rfl hl.1 rfl (Nat.le_of_ble_eq_true rfl) d_ST_widthOf_61 ⟨Nat.zero_le _, Nat.zero_le _⟩ (fun H locs hP hS => ?_)
    refine bdK hf (fun v18 h19 hf => ?_)
    refine r_ti hx hb hT.2.2.2.2.2.2.2 hS h19 d_ST_widthOf_64 ?_
    refine lv_iconst (v := (-1 : Int32)) hx hb d_ST_widthOf_65 (by decide) ?_
    refine lv_icmp_eq (tgt := 72) hx hb d_ST_widthOf_66 (by decide) (fun c20 => ?_) (fun c20 => ?_)
    · replace hf := (if_pos c20).symm.trans hf
      exact k_ST_widthOf_72 ha F hr hlk hK hT x1 (q5.1 + q11.1) q16.2 q hf _ _ hP hS ls (lv_sub hl [1, 2, 0] rfl)
    · replace hf := (if_neg c20).symm.trans hf
      refine lv_iinc (v := ((q5.1 + q11.1) + (1 : Int32))) (lv' := [(2, .int ((q5.1 + q11.1) + (1 : Int32))), (0, .ref (a 4)), (1, .int x1)]) hx hb d_ST_widthOf_69 hl (k := 0) rfl (by rfl) (by decide) rfl (fun ls hl => ?_)
      exact k_ST_widthOf_72 ha F hr hlk hK hT x1 ((q5.1 + q11.1) + (1 : Int32)) q16.2 q hf _ _ hP hS ls (lv_sub hl [1, 2, 0] rfl)
  · replace hf := (if_neg c15).symm.trans hf
    refine lv_iinc (v := ((q5.1 + q11.1) + (1 : Int32))) (lv' := [(2, .int ((q5.1 + q11.1) + (1 : Int32))), (0, .ref (a 4)), (1, .int x1)]) hx hb d_ST_widthOf_50 hl (k := 0) rfl (by rfl) (by decide) rfl (fun ls hl => ?_)
    refine va_gets hx hb hT.2.2.2.2.2.2.1 hS hown (hg _ gw_390) (fun _ h9 => h9) d_ST_widthOf_53 ?_
    refine lv_aload_n hx hb d_ST_widthOf_56 rfl (lv_at hl 1 rfl) ?_
    refine va_get (D := D) (ci := 4) (v := .ref (a 1)) (C := R_ST) (T := T_ST) (N := 9) hx hb hg in_ST hown hK hP 4 rfl rfl 0 (by decide) (hg _ gw_109) (fun _ h9 => h9) rfl d_ST_widthOf_57 ?_
    refine lv_iload_n hx hb d_ST_widthOf_60 rfl (lv_at hl 2 rfl) ?_
    refine bdK hf (fun q21 h22 hf => ?_)
    refine rc_Vi (As := [.int x1]) (rest := [.ref (t 3)]) (b := a 1) (stC_g t) F (c_RC_operationOf l ha x1 q13.2 q21 h22) (cwV 1 hg gc_ST_89 rfl rfl rfl hs_RC_operationOf ⟨Nat.le_of_ble_eq_true rfl, Nat.le_of_ble_eq_true rfl⟩) hK hT hP hS (va_recv hK hP (ci := 1) (q0 := 1) rfl rfl) rfl hl.1 rfl (Nat.le_of_ble_eq_true rfl) d_ST_widthOf_61 ⟨Nat.zero_le _, Nat.zero_le _⟩ (fun H locs hP hS => ?_)
    refine bdK hf (fun v23 h24 hf => ?_)
    refine r_ti hx hb hT.2.2.2.2.2.2.2 hS h24 d_ST_widthOf_64 ?_
    refine lv_iconst (v := (-1 : Int32)) hx hb d_ST_widthOf_65 (by decide) ?_
    refine lv_icmp_eq (tgt := 72) hx hb d_ST_widthOf_66 (by decide) (fun c25 => ?_) (fun c25 => ?_)
    · replace hf := (if_pos c25).symm.trans hf
      exact k_ST_widthOf_72 ha F hr hlk hK hT x1 ((q5.1 + q11.1) + (1 : Int32)) q21.2 q hf _ _ hP hS ls (lv_sub hl [1, 2, 0] rfl)
    · replace hf := (if_neg c25).symm.trans hf
      refine lv_iinc (v := (((q5.1 + q11.1) + (1 : Int32)) + (1 : Int32))) (lv' := [(2, .int (((q5.1 + q11.1) + (1 : Int32)) + (1 : Int32))), (0, .ref (a 4)), (1, .int x1)]) hx hb d_ST_widthOf_69 hl (k := 0) rfl (by rfl) (by decide) rfl (fun ls hl => ?_)
      exact k_ST_widthOf_72 ha F hr hlk hK hT x1 (((q5.1 + q11.1) + (1 : Int32)) + (1 : Int32)) q21.2 q hf _ _ hP hS ls (lv_sub hl [1, 2, 0] rfl)
set_option maxHeartbeats 4000000 in
set_option maxRecDepth 100000 in
theorem c_ST_widthOf (l : Launch) {D : va_G} {a t : Nat → Nat} {cI cZ : ClassId} (ha : aCC a) (x1 : Int32) (σ : SS) (q : Int32 × SS) (hf : f_ST_widthOf x1 σ = some q) : Met l y_ST_widthOf ws_ST_widthOf { frames := 3, cells := 0, slots := 0, locals := 64 } (va_Pc [.ref (a 4), .int x1] (pW D (wC a cI cZ) [(cI, .int), (cZ, .boolean)] (stC t) (aC a) σ)) (va_Qi (fun r u => r = q.1 ∧ u = q.2) (pW D (wC a cI cZ) [(cI, .int), (cZ, .boolean)] (stC t) (aC a)) (aC a)) 0 0 (aC a) := by
  refine Met.ofW (cc := b_ST_widthOf) (maxL := 3) (ret := some .int) (by decide) rfl ?_
  intro p e s m args below meth c s₁ B hml hv
  obtain ⟨rfl, hP, hK, hT⟩ := hv
  have hl := lv_entry ([.ref (a 4), .int x1]) (n := 3) (Nat.le_of_ble_eq_true rfl)
  rw [lg_entry_eq]
  generalize (lg_sl ([.ref (a 4), .int x1]) ++ List.replicate (3 - (lg_sl ([.ref (a 4), .int x1])).length) Slot.unset).toArray = ls at hl ⊢
  exact e_ST_widthOf ha ⟨B.exec, B.bytes, hml, findClass_of_methodNamed B.named, fun w h => atoms_spec (ws := ws_ST_widthOf) B.pre w (List.mem_cons_of_mem _ h)⟩ B.returns B.notSynchronized hK hT x1 σ q hf s.heap [] hP va_S.rf ls hl
theorem d_ST_write_0 : decode b_ST_write 0 = .ok (.iload_n 1, 1) := by decide +kernel
theorem d_ST_write_1 : decode b_ST_write 1 = .ok (.ifCond .lt 24, 3) := by decide +kernel
theorem d_ST_write_4 : decode b_ST_write 4 = .ok (.iload_n 1, 1) := by decide +kernel
theorem d_ST_write_5 : decode b_ST_write 5 = .ok (.sipush 201, 3) := by decide +kernel
theorem d_ST_write_8 : decode b_ST_write 8 = .ok (.if_icmp .ge 17, 3) := by decide +kernel
theorem d_ST_write_11 : decode b_ST_write 11 = .ok (.aload_n 0, 1) := by decide +kernel
theorem d_ST_write_12 : decode b_ST_write 12 = .ok (.getfield 11, 3) := by decide +kernel
theorem d_ST_write_15 : decode b_ST_write 15 = .ok (.iload_n 1, 1) := by decide +kernel
theorem d_ST_write_16 : decode b_ST_write 16 = .ok (.iload_n 2, 1) := by decide +kernel
theorem d_ST_write_17 : decode b_ST_write 17 = .ok (.iastore, 1) := by decide +kernel
theorem d_ST_write_18 : decode b_ST_write 18 = .ok (.aload_n 0, 1) := by decide +kernel
theorem d_ST_write_19 : decode b_ST_write 19 = .ok (.getfield 15, 3) := by decide +kernel
theorem d_ST_write_22 : decode b_ST_write 22 = .ok (.iload_n 1, 1) := by decide +kernel
theorem d_ST_write_23 : decode b_ST_write 23 = .ok (.iload_n 3, 1) := by decide +kernel
theorem d_ST_write_24 : decode b_ST_write 24 = .ok (.iastore, 1) := by decide +kernel
theorem d_ST_write_25 : decode b_ST_write 25 = .ok (.iload_n 1, 1) := by decide +kernel
theorem d_ST_write_26 : decode b_ST_write 26 = .ok (.iconst 1, 1) := by decide +kernel
theorem d_ST_write_27 : decode b_ST_write 27 = .ok (.iadd, 1) := by decide +kernel
theorem d_ST_write_28 : decode b_ST_write 28 = .ok (.ireturn, 1) := by decide +kernel
def f_ST_write (x1 x2 x3 : Int32) (σ : SS) : Option (Int32 × SS) :=
  (if x1 < 0 then some ((x1 + (1 : Int32)), σ) else (if (201 : Int32) ≤ x1 then some ((x1 + (1 : Int32)), σ) else (sto σ 16 201 x1 x2).bind fun σ3 => (sto σ3 17 201 x1 x3).bind fun σ5 => some ((x1 + (1 : Int32)), σ5)))
set_option maxHeartbeats 4000000 in
set_option maxRecDepth 100000 in
theorem e_ST_write {p : Program} {l : Launch} {e : Env} {s : State} {m : MethodId} {args : Array Value} {below : List Frame} {meth : Method} {c : Code} {D : va_G} {a t : Nat → Nat} {cI cZ : ClassId} (ha : aCC a) (F : CallFix p m c b_ST_write 4 s args gt R_ST) (hr : meth.sig.returnType = some .int) (hlk : meth.locks = false) (hK : va_K D vwCl [(cI, .int), (cZ, .boolean)] s) (hT : stC t (aC a) s s.heap) :
    ∀ (x1 x2 x3 : Int32) (σ : SS) (q : Int32 × SS), f_ST_write x1 x2 x3 σ = some q → ∀ (H : Heap) (locs : List Loc), va_P D vwCl ((wC a cI cZ) σ) H → va_S (aC a) s.heap H locs → ∀ (ls : Array Slot), lv_has ls 4 [(0, .ref (a 4)), (1, .int x1), (2, .int x2), (3, .int x3)] → W p l e { frames := 0, cells := 0, slots := 0, locals := 0 } s m args below meth c H locs 0 0 (MQ below (va_Qi (fun r u => r = q.1 ∧ u = q.2) (pW D (wC a cI cZ) [(cI, .int), (cZ, .boolean)] (stC t) (aC a)) (aC a)) args s 0 0 (aC a)) (F0 m 0 ls []) := by
  obtain ⟨hx, hb, hml, hown, hg⟩ := id F
  intro x1 x2 x3 σ q hf H locs hP hS ls hl
  unfold f_ST_write at hf
  refine lv_iload_n hx hb d_ST_write_0 rfl (lv_at hl 1 rfl) ?_
  refine lv_if_lt (tgt := 25) hx hb d_ST_write_1 (by decide) (fun c1 => ?_) (fun c1 => ?_)
  · replace hf := (if_pos c1).symm.trans hf
    refine lv_iload_n hx hb d_ST_write_25 rfl (lv_at hl 1 rfl) ?_
    refine lv_iconst (v := (1 : Int32)) hx hb d_ST_write_26 (by decide) ?_
    refine lv_iadd hx hb d_ST_write_27 ?_
    exact rr_i hx hb hr hlk (stC_g t) hK hT hP hS hf d_ST_write_28
  · replace hf := (if_neg c1).symm.trans hf
    refine lv_iload_n hx hb d_ST_write_4 rfl (lv_at hl 1 rfl) ?_
    refine lv_sipush (v := (201 : Int32)) hx hb d_ST_write_5 (by decide) ?_
    refine lv_icmp_ge (tgt := 25) hx hb d_ST_write_8 (by decide) (fun c2 => ?_) (fun c2 => ?_)
    · replace hf := (if_pos c2).symm.trans hf
      refine lv_iload_n hx hb d_ST_write_25 rfl (lv_at hl 1 rfl) ?_
      refine lv_iconst (v := (1 : Int32)) hx hb d_ST_write_26 (by decide) ?_
      refine lv_iadd hx hb d_ST_write_27 ?_
      exact rr_i hx hb hr hlk (stC_g t) hK hT hP hS hf d_ST_write_28
    · replace hf := (if_neg c2).symm.trans hf
      refine lv_aload_n hx hb d_ST_write_11 rfl (lv_at hl 0 rfl) ?_
      refine va_get (D := D) (ci := 4) (v := .ref (a 22)) (C := R_ST) (T := T_ST) (N := 9) hx hb hg in_ST hown hK hP 4 rfl rfl 3 (by decide) (hg _ gw_112) (fun _ h9 => h9) rfl d_ST_write_12 ?_
      refine lv_iload_n hx hb d_ST_write_15 rfl (lv_at hl 1 rfl) ?_
      refine lv_iload_n hx hb d_ST_write_16 rfl (lv_at hl 2 rfl) ?_
      refine bdK hf (fun σ3 h4 hf => ?_)
      refine r_iast (wf := (wC a cI cZ)) hx hb hK hP (dC ha σ) hS 22 0 rfl rfl (fun _ _ => rfl) h4 d_ST_write_17 (fun H locs hP hS => ?_)
      refine lv_aload_n hx hb d_ST_write_18 rfl (lv_at hl 0 rfl) ?_
      refine va_get (D := D) (ci := 4) (v := .ref (a 23)) (C := R_ST) (T := T_ST) (N := 9) hx hb hg in_ST hown hK hP 4 rfl rfl 4 (by decide) (hg _ gw_113) (fun _ h9 => h9) rfl d_ST_write_19 ?_
      refine lv_iload_n hx hb d_ST_write_22 rfl (lv_at hl 1 rfl) ?_
      refine lv_iload_n hx hb d_ST_write_23 rfl (lv_at hl 3 rfl) ?_
      refine bdK hf (fun σ5 h6 hf => ?_)
      refine r_iast (wf := (wC a cI cZ)) hx hb hK hP (dC ha σ3) hS 23 0 rfl rfl (fun _ _ => rfl) h6 d_ST_write_24 (fun H locs hP hS => ?_)
      refine lv_iload_n hx hb d_ST_write_25 rfl (lv_at hl 1 rfl) ?_
      refine lv_iconst (v := (1 : Int32)) hx hb d_ST_write_26 (by decide) ?_
      refine lv_iadd hx hb d_ST_write_27 ?_
      exact rr_i hx hb hr hlk (stC_g t) hK hT hP hS hf d_ST_write_28
set_option maxHeartbeats 4000000 in
set_option maxRecDepth 100000 in
theorem c_ST_write (l : Launch) {D : va_G} {a t : Nat → Nat} {cI cZ : ClassId} (ha : aCC a) (x1 x2 x3 : Int32) (σ : SS) (q : Int32 × SS) (hf : f_ST_write x1 x2 x3 σ = some q) : Met l y_ST_write ws_ST_write { frames := 0, cells := 0, slots := 0, locals := 0 } (va_Pc [.ref (a 4), .int x1, .int x2, .int x3] (pW D (wC a cI cZ) [(cI, .int), (cZ, .boolean)] (stC t) (aC a) σ)) (va_Qi (fun r u => r = q.1 ∧ u = q.2) (pW D (wC a cI cZ) [(cI, .int), (cZ, .boolean)] (stC t) (aC a)) (aC a)) 0 0 (aC a) := by
  refine Met.ofW (cc := b_ST_write) (maxL := 4) (ret := some .int) (by decide) rfl ?_
  intro p e s m args below meth c s₁ B hml hv
  obtain ⟨rfl, hP, hK, hT⟩ := hv
  have hl := lv_entry ([.ref (a 4), .int x1, .int x2, .int x3]) (n := 4) (Nat.le_of_ble_eq_true rfl)
  rw [lg_entry_eq]
  generalize (lg_sl ([.ref (a 4), .int x1, .int x2, .int x3]) ++ List.replicate (4 - (lg_sl ([.ref (a 4), .int x1, .int x2, .int x3])).length) Slot.unset).toArray = ls at hl ⊢
  exact e_ST_write ha ⟨B.exec, B.bytes, hml, findClass_of_methodNamed B.named, fun w h => atoms_spec (ws := ws_ST_write) B.pre w (List.mem_cons_of_mem _ h)⟩ B.returns B.notSynchronized hK hT x1 x2 x3 σ q hf s.heap [] hP va_S.rf ls hl
theorem d_ST_writeThing_0 : decode b_ST_writeThing 0 = .ok (.iload_n 2, 1) := by decide +kernel
theorem d_ST_writeThing_1 : decode b_ST_writeThing 1 = .ok (.iconst (-1), 1) := by decide +kernel
theorem d_ST_writeThing_2 : decode b_ST_writeThing 2 = .ok (.if_icmp .ne 5, 3) := by decide +kernel
theorem d_ST_writeThing_5 : decode b_ST_writeThing 5 = .ok (.iload_n 1, 1) := by decide +kernel
theorem d_ST_writeThing_6 : decode b_ST_writeThing 6 = .ok (.ireturn, 1) := by decide +kernel
theorem d_ST_writeThing_7 : decode b_ST_writeThing 7 = .ok (.iload_n 3, 1) := by decide +kernel
theorem d_ST_writeThing_8 : decode b_ST_writeThing 8 = .ok (.iconst (-1), 1) := by decide +kernel
theorem d_ST_writeThing_9 : decode b_ST_writeThing 9 = .ok (.if_icmp .ne 11, 3) := by decide +kernel
theorem d_ST_writeThing_12 : decode b_ST_writeThing 12 = .ok (.aload_n 0, 1) := by decide +kernel
theorem d_ST_writeThing_13 : decode b_ST_writeThing 13 = .ok (.iload_n 1, 1) := by decide +kernel
theorem d_ST_writeThing_14 : decode b_ST_writeThing 14 = .ok (.iconst 1, 1) := by decide +kernel
theorem d_ST_writeThing_15 : decode b_ST_writeThing 15 = .ok (.iload_n 2, 1) := by decide +kernel
theorem d_ST_writeThing_16 : decode b_ST_writeThing 16 = .ok (.invokevirtual 63, 3) := by decide +kernel
theorem d_ST_writeThing_19 : decode b_ST_writeThing 19 = .ok (.ireturn, 1) := by decide +kernel
theorem d_ST_writeThing_20 : decode b_ST_writeThing 20 = .ok (.aload_n 0, 1) := by decide +kernel
theorem d_ST_writeThing_21 : decode b_ST_writeThing 21 = .ok (.getfield 21, 3) := by decide +kernel
theorem d_ST_writeThing_24 : decode b_ST_writeThing 24 = .ok (.iload_n 3, 1) := by decide +kernel
theorem d_ST_writeThing_25 : decode b_ST_writeThing 25 = .ok (.iload_n 1, 1) := by decide +kernel
theorem d_ST_writeThing_26 : decode b_ST_writeThing 26 = .ok (.iastore, 1) := by decide +kernel
theorem d_ST_writeThing_27 : decode b_ST_writeThing 27 = .ok (.iload_n 1, 1) := by decide +kernel
theorem d_ST_writeThing_28 : decode b_ST_writeThing 28 = .ok (.aload_n 0, 1) := by decide +kernel
theorem d_ST_writeThing_29 : decode b_ST_writeThing 29 = .ok (.getfield 18, 3) := by decide +kernel
theorem d_ST_writeThing_32 : decode b_ST_writeThing 32 = .ok (.iload_n 3, 1) := by decide +kernel
theorem d_ST_writeThing_33 : decode b_ST_writeThing 33 = .ok (.iaload, 1) := by decide +kernel
theorem d_ST_writeThing_34 : decode b_ST_writeThing 34 = .ok (.iadd, 1) := by decide +kernel
theorem d_ST_writeThing_35 : decode b_ST_writeThing 35 = .ok (.ireturn, 1) := by decide +kernel
theorem gc_ST_63 : GoodIn gt (wsV R_ST 63 R_ST y_ST_write ws_ST_write) := gd_V gw_413 gw_415 gs_22 gw_5 gw_416
def f_ST_writeThing (x1 x2 x3 : Int32) (σ : SS) : Option (Int32 × SS) :=
  (if x2 = (-1 : Int32) then some (x1, σ) else (if x3 = (-1 : Int32) then (f_ST_write x1 (1 : Int32) x2 σ).bind fun q7 => some (q7.1, q7.2) else (sto σ 19 40 x3 x1).bind fun σ3 => (ld (σ3 18) 40 x3).bind fun v5 => some ((x1 + v5), σ3)))
set_option maxHeartbeats 4000000 in
set_option maxRecDepth 100000 in
theorem e_ST_writeThing {p : Program} {l : Launch} {e : Env} {s : State} {m : MethodId} {args : Array Value} {below : List Frame} {meth : Method} {c : Code} {D : va_G} {a t : Nat → Nat} {cI cZ : ClassId} (ha : aCC a) (F : CallFix p m c b_ST_writeThing 4 s args gt R_ST) (hr : meth.sig.returnType = some .int) (hlk : meth.locks = false) (hK : va_K D vwCl [(cI, .int), (cZ, .boolean)] s) (hT : stC t (aC a) s s.heap) :
    ∀ (x1 x2 x3 : Int32) (σ : SS) (q : Int32 × SS), f_ST_writeThing x1 x2 x3 σ = some q → ∀ (H : Heap) (locs : List Loc), va_P D vwCl ((wC a cI cZ) σ) H → va_S (aC a) s.heap H locs → ∀ (ls : Array Slot), lv_has ls 4 [(0, .ref (a 4)), (1, .int x1), (2, .int x2), (3, .int x3)] → W p l e { frames := 1, cells := 0, slots := 0, locals := 23 } s m args below meth c H locs 0 0 (MQ below (va_Qi (fun r u => r = q.1 ∧ u = q.2) (pW D (wC a cI cZ) [(cI, .int), (cZ, .boolean)] (stC t) (aC a)) (aC a)) args s 0 0 (aC a)) (F0 m 0 ls []) := by
  obtain ⟨hx, hb, hml, hown, hg⟩ := id F
  intro x1 x2 x3 σ q hf H locs hP hS ls hl
  unfold f_ST_writeThing at hf
  refine lv_iload_n hx hb d_ST_writeThing_0 rfl (lv_at hl 2 rfl) ?_
  refine lv_iconst (v := (-1 : Int32)) hx hb d_ST_writeThing_1 (by decide) ?_
  refine lv_icmp_ne (tgt := 7) hx hb d_ST_writeThing_2 (by decide) (fun c1 => ?_) (fun c1 => ?_)
  · replace hf := (if_neg c1).symm.trans hf
    refine lv_iload_n hx hb d_ST_writeThing_7 rfl (lv_at hl 3 rfl) ?_
    refine lv_iconst (v := (-1 : Int32)) hx hb d_ST_writeThing_8 (by decide) ?_
    refine lv_icmp_ne (tgt := 20) hx hb d_ST_writeThing_9 (by decide) (fun c2 => ?_) (fun c2 => ?_)
    · replace hf := (if_neg c2).symm.trans hf
      refine lv_aload_n hx hb d_ST_writeThing_20 rfl (lv_at hl 0 rfl) ?_
      refine va_get (D := D) (ci := 4) (v := .ref (a 25)) (C := R_ST) (T := T_ST) (N := 9) hx hb hg in_ST hown hK hP 4 rfl rfl 6 (by decide) (hg _ gw_115) (fun _ h9 => h9) rfl d_ST_writeThing_21 ?_
      refine lv_iload_n hx hb d_ST_writeThing_24 rfl (lv_at hl 3 rfl) ?_
      refine lv_iload_n hx hb d_ST_writeThing_25 rfl (lv_at hl 1 rfl) ?_
      refine bdK hf (fun σ3 h4 hf => ?_)
      refine r_iast (wf := (wC a cI cZ)) hx hb hK hP (dC ha σ) hS 25 0 rfl rfl (fun _ _ => rfl) h4 d_ST_writeThing_26 (fun H locs hP hS => ?_)
      refine lv_iload_n hx hb d_ST_writeThing_27 rfl (lv_at hl 1 rfl) ?_
      refine lv_aload_n hx hb d_ST_writeThing_28 rfl (lv_at hl 0 rfl) ?_
      refine va_get (D := D) (ci := 4) (v := .ref (a 24)) (C := R_ST) (T := T_ST) (N := 9) hx hb hg in_ST hown hK hP 4 rfl rfl 5 (by decide) (hg _ gw_114) (fun _ h9 => h9) rfl d_ST_writeThing_29 ?_
      refine lv_iload_n hx hb d_ST_writeThing_32 rfl (lv_at hl 3 rfl) ?_
      refine bdK hf (fun v5 h6 hf => ?_)
      refine r_iald hx hb hK hP 24 0 rfl rfl h6 d_ST_writeThing_33 ?_
      refine lv_iadd hx hb d_ST_writeThing_34 ?_
      exact rr_i hx hb hr hlk (stC_g t) hK hT hP hS hf d_ST_writeThing_35
    · replace hf := (if_pos c2).symm.trans hf
      refine lv_aload_n hx hb d_ST_writeThing_12 rfl (lv_at hl 0 rfl) ?_
      refine lv_iload_n hx hb d_ST_writeThing_13 rfl (lv_at hl 1 rfl) ?_
      refine lv_iconst (v := (1 : Int32)) hx hb d_ST_writeThing_14 (by decide) ?_
      refine lv_iload_n hx hb d_ST_writeThing_15 rfl (lv_at hl 2 rfl) ?_
      refine bdK hf (fun q7 h8 hf => ?_)
      refine rc_Vi (As := [.int x1, .int (1 : Int32), .int x2]) (rest := []) (b := a 4) (stC_g t) F (c_ST_write l ha x1 (1 : Int32) x2 σ q7 h8) (cwV 3 hg gc_ST_63 rfl rfl rfl hs_ST_write ⟨Nat.le_of_ble_eq_true rfl, Nat.le_of_ble_eq_true rfl⟩) hK hT hP hS (va_recv hK hP (ci := 4) (q0 := 4) rfl rfl) rfl hl.1 rfl (Nat.le_of_ble_eq_true rfl) d_ST_writeThing_16 ⟨Nat.zero_le _, Nat.zero_le _⟩ (fun H locs hP hS => ?_)
      exact rr_i hx hb hr hlk (stC_g t) hK hT hP hS hf d_ST_writeThing_19
  · replace hf := (if_pos c1).symm.trans hf
    refine lv_iload_n hx hb d_ST_writeThing_5 rfl (lv_at hl 1 rfl) ?_
    exact rr_i hx hb hr hlk (stC_g t) hK hT hP hS hf d_ST_writeThing_6
set_option maxHeartbeats 4000000 in
set_option maxRecDepth 100000 in
theorem c_ST_writeThing (l : Launch) {D : va_G} {a t : Nat → Nat} {cI cZ : ClassId} (ha : aCC a) (x1 x2 x3 : Int32) (σ : SS) (q : Int32 × SS) (hf : f_ST_writeThing x1 x2 x3 σ = some q) : Met l y_ST_writeThing ws_ST_writeThing { frames := 1, cells := 0, slots := 0, locals := 23 } (va_Pc [.ref (a 4), .int x1, .int x2, .int x3] (pW D (wC a cI cZ) [(cI, .int), (cZ, .boolean)] (stC t) (aC a) σ)) (va_Qi (fun r u => r = q.1 ∧ u = q.2) (pW D (wC a cI cZ) [(cI, .int), (cZ, .boolean)] (stC t) (aC a)) (aC a)) 0 0 (aC a) := by
  refine Met.ofW (cc := b_ST_writeThing) (maxL := 4) (ret := some .int) (by decide) rfl ?_
  intro p e s m args below meth c s₁ B hml hv
  obtain ⟨rfl, hP, hK, hT⟩ := hv
  have hl := lv_entry ([.ref (a 4), .int x1, .int x2, .int x3]) (n := 4) (Nat.le_of_ble_eq_true rfl)
  rw [lg_entry_eq]
  generalize (lg_sl ([.ref (a 4), .int x1, .int x2, .int x3]) ++ List.replicate (4 - (lg_sl ([.ref (a 4), .int x1, .int x2, .int x3])).length) Slot.unset).toArray = ls at hl ⊢
  exact e_ST_writeThing ha ⟨B.exec, B.bytes, hml, findClass_of_methodNamed B.named, fun w h => atoms_spec (ws := ws_ST_writeThing) B.pre w (List.mem_cons_of_mem _ h)⟩ B.returns B.notSynchronized hK hT x1 x2 x3 σ q hf s.heap [] hP va_S.rf ls hl
theorem d_ST_writeThings_0 : decode b_ST_writeThings 0 = .ok (.aload_n 0, 1) := by decide +kernel
theorem d_ST_writeThings_1 : decode b_ST_writeThings 1 = .ok (.getfield 24, 3) := by decide +kernel
theorem d_ST_writeThings_4 : decode b_ST_writeThings 4 = .ok (.iload_n 2, 1) := by decide +kernel
theorem d_ST_writeThings_5 : decode b_ST_writeThings 5 = .ok (.invokevirtual 67, 3) := by decide +kernel
theorem d_ST_writeThings_8 : decode b_ST_writeThings 8 = .ok (.istore_n 3, 1) := by decide +kernel
theorem d_ST_writeThings_9 : decode b_ST_writeThings 9 = .ok (.aload_n 0, 1) := by decide +kernel
theorem d_ST_writeThings_10 : decode b_ST_writeThings 10 = .ok (.getfield 24, 3) := by decide +kernel
theorem d_ST_writeThings_13 : decode b_ST_writeThings 13 = .ok (.iload_n 2, 1) := by decide +kernel
theorem d_ST_writeThings_14 : decode b_ST_writeThings 14 = .ok (.invokevirtual 77, 3) := by decide +kernel
theorem d_ST_writeThings_17 : decode b_ST_writeThings 17 = .ok (.istore 4, 2) := by decide +kernel
theorem d_ST_writeThings_19 : decode b_ST_writeThings 19 = .ok (.aload_n 0, 1) := by decide +kernel
theorem d_ST_writeThings_20 : decode b_ST_writeThings 20 = .ok (.getfield 32, 3) := by decide +kernel
theorem d_ST_writeThings_23 : decode b_ST_writeThings 23 = .ok (.iload_n 2, 1) := by decide +kernel
theorem d_ST_writeThings_24 : decode b_ST_writeThings 24 = .ok (.invokevirtual 70, 3) := by decide +kernel
theorem d_ST_writeThings_27 : decode b_ST_writeThings 27 = .ok (.istore 5, 2) := by decide +kernel
theorem d_ST_writeThings_29 : decode b_ST_writeThings 29 = .ok (.aload_n 0, 1) := by decide +kernel
theorem d_ST_writeThings_30 : decode b_ST_writeThings 30 = .ok (.getfield 32, 3) := by decide +kernel
theorem d_ST_writeThings_33 : decode b_ST_writeThings 33 = .ok (.iload_n 2, 1) := by decide +kernel
theorem d_ST_writeThings_34 : decode b_ST_writeThings 34 = .ok (.invokevirtual 80, 3) := by decide +kernel
theorem d_ST_writeThings_37 : decode b_ST_writeThings 37 = .ok (.istore 6, 2) := by decide +kernel
theorem d_ST_writeThings_39 : decode b_ST_writeThings 39 = .ok (.aload_n 0, 1) := by decide +kernel
theorem d_ST_writeThings_40 : decode b_ST_writeThings 40 = .ok (.getfield 32, 3) := by decide +kernel
theorem d_ST_writeThings_43 : decode b_ST_writeThings 43 = .ok (.iload_n 2, 1) := by decide +kernel
theorem d_ST_writeThings_44 : decode b_ST_writeThings 44 = .ok (.invokevirtual 95, 3) := by decide +kernel
theorem d_ST_writeThings_47 : decode b_ST_writeThings 47 = .ok (.ifCond .eq 20, 3) := by decide +kernel
theorem d_ST_writeThings_50 : decode b_ST_writeThings 50 = .ok (.aload_n 0, 1) := by decide +kernel
theorem d_ST_writeThings_51 : decode b_ST_writeThings 51 = .ok (.aload_n 0, 1) := by decide +kernel
theorem d_ST_writeThings_52 : decode b_ST_writeThings 52 = .ok (.iload_n 1, 1) := by decide +kernel
theorem d_ST_writeThings_53 : decode b_ST_writeThings 53 = .ok (.iload 4, 2) := by decide +kernel
theorem d_ST_writeThings_55 : decode b_ST_writeThings 55 = .ok (.iload 6, 2) := by decide +kernel
theorem d_ST_writeThings_57 : decode b_ST_writeThings 57 = .ok (.invokevirtual 111, 3) := by decide +kernel
theorem d_ST_writeThings_60 : decode b_ST_writeThings 60 = .ok (.iload_n 3, 1) := by decide +kernel
theorem d_ST_writeThings_61 : decode b_ST_writeThings 61 = .ok (.iload 5, 2) := by decide +kernel
theorem d_ST_writeThings_63 : decode b_ST_writeThings 63 = .ok (.invokevirtual 111, 3) := by decide +kernel
theorem d_ST_writeThings_66 : decode b_ST_writeThings 66 = .ok (.ireturn, 1) := by decide +kernel
theorem d_ST_writeThings_67 : decode b_ST_writeThings 67 = .ok (.aload_n 0, 1) := by decide +kernel
theorem d_ST_writeThings_68 : decode b_ST_writeThings 68 = .ok (.aload_n 0, 1) := by decide +kernel
theorem d_ST_writeThings_69 : decode b_ST_writeThings 69 = .ok (.iload_n 1, 1) := by decide +kernel
theorem d_ST_writeThings_70 : decode b_ST_writeThings 70 = .ok (.iload_n 3, 1) := by decide +kernel
theorem d_ST_writeThings_71 : decode b_ST_writeThings 71 = .ok (.iload 5, 2) := by decide +kernel
theorem d_ST_writeThings_73 : decode b_ST_writeThings 73 = .ok (.invokevirtual 111, 3) := by decide +kernel
theorem d_ST_writeThings_76 : decode b_ST_writeThings 76 = .ok (.iload 4, 2) := by decide +kernel
theorem d_ST_writeThings_78 : decode b_ST_writeThings 78 = .ok (.iload 6, 2) := by decide +kernel
theorem d_ST_writeThings_80 : decode b_ST_writeThings 80 = .ok (.invokevirtual 111, 3) := by decide +kernel
theorem d_ST_writeThings_83 : decode b_ST_writeThings 83 = .ok (.ireturn, 1) := by decide +kernel
theorem gc_ST_111 : GoodIn gt (wsV R_ST 111 R_ST y_ST_writeThing ws_ST_writeThing) := gd_V gw_409 gw_411 gs_21 gw_5 gw_412
def f_ST_writeThings (x1 x2 : Int32) (σ : SS) : Option (Int32 × SS) :=
  (f_RC_readAsA x2 σ).bind fun q1 => (f_RC_readAsB x2 q1.2).bind fun q3 => (f_CA_inForA x2 q3.2).bind fun q5 => (f_CA_inForB x2 q5.2).bind fun q7 => (f_CA_takesBFirst x2 q7.2).bind fun q9 => (if q9.1 = 0 then (f_ST_writeThing x1 q1.1 q5.1 q9.2).bind fun q12 => (f_ST_writeThing q12.1 q3.1 q7.1 q12.2).bind fun q14 => some (q14.1, q14.2) else (f_ST_writeThing x1 q3.1 q7.1 q9.2).bind fun q16 => (f_ST_writeThing q16.1 q1.1 q5.1 q16.2).bind fun q18 => some (q18.1, q18.2))
set_option maxHeartbeats 4000000 in
set_option maxRecDepth 100000 in
theorem e_ST_writeThings {p : Program} {l : Launch} {e : Env} {s : State} {m : MethodId} {args : Array Value} {below : List Frame} {meth : Method} {c : Code} {D : va_G} {a t : Nat → Nat} {cI cZ : ClassId} (ha : aCC a) (F : CallFix p m c b_ST_writeThings 7 s args gt R_ST) (hr : meth.sig.returnType = some .int) (hlk : meth.locks = false) (hK : va_K D vwCl [(cI, .int), (cZ, .boolean)] s) (hT : stC t (aC a) s s.heap) :
    ∀ (x1 x2 : Int32) (σ : SS) (q : Int32 × SS), f_ST_writeThings x1 x2 σ = some q → ∀ (H : Heap) (locs : List Loc), va_P D vwCl ((wC a cI cZ) σ) H → va_S (aC a) s.heap H locs → ∀ (ls : Array Slot), lv_has ls 7 [(0, .ref (a 4)), (1, .int x1), (2, .int x2)] → W p l e { frames := 2, cells := 0, slots := 0, locals := 46 } s m args below meth c H locs 0 0 (MQ below (va_Qi (fun r u => r = q.1 ∧ u = q.2) (pW D (wC a cI cZ) [(cI, .int), (cZ, .boolean)] (stC t) (aC a)) (aC a)) args s 0 0 (aC a)) (F0 m 0 ls []) := by
  obtain ⟨hx, hb, hml, hown, hg⟩ := id F
  intro x1 x2 σ q hf H locs hP hS ls hl
  unfold f_ST_writeThings at hf
  refine lv_aload_n hx hb d_ST_writeThings_0 rfl (lv_at hl 0 rfl) ?_
  refine va_get (D := D) (ci := 4) (v := .ref (a 1)) (C := R_ST) (T := T_ST) (N := 9) hx hb hg in_ST hown hK hP 4 rfl rfl 0 (by decide) (hg _ gw_109) (fun _ h9 => h9) rfl d_ST_writeThings_1 ?_
  refine lv_iload_n hx hb d_ST_writeThings_4 rfl (lv_at hl 2 rfl) ?_
  refine bdK hf (fun q1 h2 hf => ?_)
  refine rc_Vi (As := [.int x2]) (rest := []) (b := a 1) (stC_g t) F (c_RC_readAsA l ha x2 σ q1 h2) (cwV 1 hg gc_ST_67 rfl rfl rfl hs_RC_readAsA ⟨Nat.le_of_ble_eq_true rfl, Nat.le_of_ble_eq_true rfl⟩) hK hT hP hS (va_recv hK hP (ci := 1) (q0 := 1) rfl rfl) rfl hl.1 rfl (Nat.le_of_ble_eq_true rfl) d_ST_writeThings_5 ⟨Nat.zero_le _, Nat.zero_le _⟩ (fun H locs hP hS => ?_)
  refine lv_istore_n (lv' := [(3, .int q1.1), (0, .ref (a 4)), (1, .int x1), (2, .int x2)]) hx hb d_ST_writeThings_8 rfl hl (by decide) rfl (fun ls hl => ?_)
  refine lv_aload_n hx hb d_ST_writeThings_9 rfl (lv_at hl 1 rfl) ?_
  refine va_get (D := D) (ci := 4) (v := .ref (a 1)) (C := R_ST) (T := T_ST) (N := 9) hx hb hg in_ST hown hK hP 4 rfl rfl 0 (by decide) (hg _ gw_109) (fun _ h9 => h9) rfl d_ST_writeThings_10 ?_
  refine lv_iload_n hx hb d_ST_writeThings_13 rfl (lv_at hl 3 rfl) ?_
  refine bdK hf (fun q3 h4 hf => ?_)
  refine rc_Vi (As := [.int x2]) (rest := []) (b := a 1) (stC_g t) F (c_RC_readAsB l ha x2 q1.2 q3 h4) (cwV 1 hg gc_ST_77 rfl rfl rfl hs_RC_readAsB ⟨Nat.le_of_ble_eq_true rfl, Nat.le_of_ble_eq_true rfl⟩) hK hT hP hS (va_recv hK hP (ci := 1) (q0 := 1) rfl rfl) rfl hl.1 rfl (Nat.le_of_ble_eq_true rfl) d_ST_writeThings_14 ⟨Nat.zero_le _, Nat.zero_le _⟩ (fun H locs hP hS => ?_)
  refine lv_istore (lv' := [(4, .int q3.1), (3, .int q1.1), (0, .ref (a 4)), (1, .int x1), (2, .int x2)]) hx hb d_ST_writeThings_17 hl (by decide) rfl (fun ls hl => ?_)
  refine lv_aload_n hx hb d_ST_writeThings_19 rfl (lv_at hl 2 rfl) ?_
  refine va_get (D := D) (ci := 4) (v := .ref (a 3)) (C := R_ST) (T := T_ST) (N := 9) hx hb hg in_ST hown hK hP 4 rfl rfl 2 (by decide) (hg _ gw_111) (fun _ h9 => h9) rfl d_ST_writeThings_20 ?_
  refine lv_iload_n hx hb d_ST_writeThings_23 rfl (lv_at hl 4 rfl) ?_
  refine bdK hf (fun q5 h6 hf => ?_)
  refine rc_Vi (As := [.int x2]) (rest := []) (b := a 3) (stC_g t) F (c_CA_inForA l ha x2 q3.2 q5 h6) (cwV 1 hg gc_ST_70 rfl rfl rfl hs_CA_inForA ⟨Nat.le_of_ble_eq_true rfl, Nat.le_of_ble_eq_true rfl⟩) hK hT hP hS (va_recv hK hP (ci := 3) (q0 := 3) rfl rfl) rfl hl.1 rfl (Nat.le_of_ble_eq_true rfl) d_ST_writeThings_24 ⟨Nat.zero_le _, Nat.zero_le _⟩ (fun H locs hP hS => ?_)
  refine lv_istore (lv' := [(5, .int q5.1), (4, .int q3.1), (3, .int q1.1), (0, .ref (a 4)), (1, .int x1), (2, .int x2)]) hx hb d_ST_writeThings_27 hl (by decide) rfl (fun ls hl => ?_)
  refine lv_aload_n hx hb d_ST_writeThings_29 rfl (lv_at hl 3 rfl) ?_
  refine va_get (D := D) (ci := 4) (v := .ref (a 3)) (C := R_ST) (T := T_ST) (N := 9) hx hb hg in_ST hown hK hP 4 rfl rfl 2 (by decide) (hg _ gw_111) (fun _ h9 => h9) rfl d_ST_writeThings_30 ?_
  refine lv_iload_n hx hb d_ST_writeThings_33 rfl (lv_at hl 5 rfl) ?_
  refine bdK hf (fun q7 h8 hf => ?_)
  refine rc_Vi (As := [.int x2]) (rest := []) (b := a 3) (stC_g t) F (c_CA_inForB l ha x2 q5.2 q7 h8) (cwV 1 hg gc_ST_80 rfl rfl rfl hs_CA_inForB ⟨Nat.le_of_ble_eq_true rfl, Nat.le_of_ble_eq_true rfl⟩) hK hT hP hS (va_recv hK hP (ci := 3) (q0 := 3) rfl rfl) rfl hl.1 rfl (Nat.le_of_ble_eq_true rfl) d_ST_writeThings_34 ⟨Nat.zero_le _, Nat.zero_le _⟩ (fun H locs hP hS => ?_)
  refine lv_istore (lv' := [(6, .int q7.1), (5, .int q5.1), (4, .int q3.1), (3, .int q1.1), (0, .ref (a 4)), (1, .int x1), (2, .int x2)]) hx hb d_ST_writeThings_37 hl (by decide) rfl (fun ls hl => ?_)
  refine lv_aload_n hx hb d_ST_writeThings_39 rfl (lv_at hl 4 rfl) ?_
  refine va_get (D := D) (ci := 4) (v := .ref (a 3)) (C := R_ST) (T := T_ST) (N := 9) hx hb hg in_ST hown hK hP 4 rfl rfl 2 (by decide) (hg _ gw_111) (fun _ h9 => h9) rfl d_ST_writeThings_40 ?_
  refine lv_iload_n hx hb d_ST_writeThings_43 rfl (lv_at hl 6 rfl) ?_
  refine bdK hf (fun q9 h10 hf => ?_)
  refine rc_Vi (As := [.int x2]) (rest := []) (b := a 3) (stC_g t) F (c_CA_takesBFirst l ha x2 q7.2 q9 h10) (cwV 1 hg gc_ST_95 rfl rfl rfl hs_CA_takesBFirst ⟨Nat.le_of_ble_eq_true rfl, Nat.le_of_ble_eq_true rfl⟩) hK hT hP hS (va_recv hK hP (ci := 3) (q0 := 3) rfl rfl) rfl hl.1 rfl (Nat.le_of_ble_eq_true rfl) d_ST_writeThings_44 ⟨Nat.zero_le _, Nat.zero_le _⟩ (fun H locs hP hS => ?_)
  refine lv_if_eq (tgt := 67) hx hb d_ST_writeThings_47 (by decide) (fun c11 => ?_) (fun c11 => ?_)
  · replace hf := (if_pos c11).symm.trans hf
    refine lv_aload_n hx hb d_ST_writeThings_67 rfl (lv_at hl 4 rfl) ?_
    refine lv_aload_n hx hb d_ST_writeThings_68 rfl (lv_at hl 4 rfl) ?_
    refine lv_iload_n hx hb d_ST_writeThings_69 rfl (lv_at hl 5 rfl) ?_
    refine lv_iload_n hx hb d_ST_writeThings_70 rfl (lv_at hl 3 rfl) ?_
    refine lv_iload hx hb d_ST_writeThings_71 (lv_at hl 1 rfl) ?_
    refine bdK hf (fun q12 h13 hf => ?_)
    refine rc_Vi (As := [.int x1, .int q1.1, .int q5.1]) (rest := [.ref (a 4)]) (b := a 4) (stC_g t) F (c_ST_writeThing l ha x1 q1.1 q5.1 q9.2 q12 h13) (cwV 3 hg gc_ST_111 rfl rfl rfl hs_ST_writeThing ⟨Nat.le_of_ble_eq_true rfl, Nat.le_of_ble_eq_true rfl⟩) hK hT hP hS (va_recv hK hP (ci := 4) (q0 := 4) rfl rfl) rfl hl.1 rfl (Nat.le_of_ble_eq_true rfl) d_ST_writeThings_73 ⟨Nat.zero_le _, Nat.zero_le _⟩ (fun H locs hP hS => ?_)
    refine lv_iload hx hb d_ST_writeThings_76 (lv_at hl 2 rfl) ?_
    refine lv_iload hx hb d_ST_writeThings_78 (lv_at hl 0 rfl) ?_
    refine bdK hf (fun q14 h15 hf => ?_)
    refine rc_Vi (As := [.int q12.1, .int q3.1, .int q7.1]) (rest := []) (b := a 4) (stC_g t) F (c_ST_writeThing l ha q12.1 q3.1 q7.1 q12.2 q14 h15) (cwV 3 hg gc_ST_111 rfl rfl rfl hs_ST_writeThing ⟨Nat.le_of_ble_eq_true rfl, Nat.le_of_ble_eq_true rfl⟩) hK hT hP hS (va_recv hK hP (ci := 4) (q0 := 4) rfl rfl) rfl hl.1 rfl (Nat.le_of_ble_eq_true rfl) d_ST_writeThings_80 ⟨Nat.zero_le _, Nat.zero_le _⟩ (fun H locs hP hS => ?_)
    exact rr_i hx hb hr hlk (stC_g t) hK hT hP hS hf d_ST_writeThings_83
  · replace hf := (if_neg c11).symm.trans hf
    refine lv_aload_n hx hb d_ST_writeThings_50 rfl (lv_at hl 4 rfl) ?_
    refine lv_aload_n hx hb d_ST_writeThings_51 rfl (lv_at hl 4 rfl) ?_
    refine lv_iload_n hx hb d_ST_writeThings_52 rfl (lv_at hl 5 rfl) ?_
    refine lv_iload hx hb d_ST_writeThings_53 (lv_at hl 2 rfl) ?_
    refine lv_iload hx hb d_ST_writeThings_55 (lv_at hl 0 rfl) ?_
    refine bdK hf (fun q16 h17 hf => ?_)
    refine rc_Vi (As := [.int x1, .int q3.1, .int q7.1]) (rest := [.ref (a 4)]) (b := a 4) (stC_g t) F (c_ST_writeThing l ha x1 q3.1 q7.1 q9.2 q16 h17) (cwV 3 hg gc_ST_111 rfl rfl rfl hs_ST_writeThing ⟨Nat.le_of_ble_eq_true rfl, Nat.le_of_ble_eq_true rfl⟩) hK hT hP hS (va_recv hK hP (ci := 4) (q0 := 4) rfl rfl) rfl hl.1 rfl (Nat.le_of_ble_eq_true rfl) d_ST_writeThings_57 ⟨Nat.zero_le _, Nat.zero_le _⟩ (fun H locs hP hS => ?_)
    refine lv_iload_n hx hb d_ST_writeThings_60 rfl (lv_at hl 3 rfl) ?_
    refine lv_iload hx hb d_ST_writeThings_61 (lv_at hl 1 rfl) ?_
    refine bdK hf (fun q18 h19 hf => ?_)
    refine rc_Vi (As := [.int q16.1, .int q1.1, .int q5.1]) (rest := []) (b := a 4) (stC_g t) F (c_ST_writeThing l ha q16.1 q1.1 q5.1 q16.2 q18 h19) (cwV 3 hg gc_ST_111 rfl rfl rfl hs_ST_writeThing ⟨Nat.le_of_ble_eq_true rfl, Nat.le_of_ble_eq_true rfl⟩) hK hT hP hS (va_recv hK hP (ci := 4) (q0 := 4) rfl rfl) rfl hl.1 rfl (Nat.le_of_ble_eq_true rfl) d_ST_writeThings_63 ⟨Nat.zero_le _, Nat.zero_le _⟩ (fun H locs hP hS => ?_)
    exact rr_i hx hb hr hlk (stC_g t) hK hT hP hS hf d_ST_writeThings_66
set_option maxHeartbeats 4000000 in
set_option maxRecDepth 100000 in
theorem c_ST_writeThings (l : Launch) {D : va_G} {a t : Nat → Nat} {cI cZ : ClassId} (ha : aCC a) (x1 x2 : Int32) (σ : SS) (q : Int32 × SS) (hf : f_ST_writeThings x1 x2 σ = some q) : Met l y_ST_writeThings ws_ST_writeThings { frames := 2, cells := 0, slots := 0, locals := 46 } (va_Pc [.ref (a 4), .int x1, .int x2] (pW D (wC a cI cZ) [(cI, .int), (cZ, .boolean)] (stC t) (aC a) σ)) (va_Qi (fun r u => r = q.1 ∧ u = q.2) (pW D (wC a cI cZ) [(cI, .int), (cZ, .boolean)] (stC t) (aC a)) (aC a)) 0 0 (aC a) := by
  refine Met.ofW (cc := b_ST_writeThings) (maxL := 7) (ret := some .int) (by decide) rfl ?_
  intro p e s m args below meth c s₁ B hml hv
  obtain ⟨rfl, hP, hK, hT⟩ := hv
  have hl := lv_entry ([.ref (a 4), .int x1, .int x2]) (n := 7) (Nat.le_of_ble_eq_true rfl)
  rw [lg_entry_eq]
  generalize (lg_sl ([.ref (a 4), .int x1, .int x2]) ++ List.replicate (7 - (lg_sl ([.ref (a 4), .int x1, .int x2])).length) Slot.unset).toArray = ls at hl ⊢
  exact e_ST_writeThings ha ⟨B.exec, B.bytes, hml, findClass_of_methodNamed B.named, fun w h => atoms_spec (ws := ws_ST_writeThings) B.pre w (List.mem_cons_of_mem _ h)⟩ B.returns B.notSynchronized hK hT x1 x2 σ q hf s.heap [] hP va_S.rf ls hl
theorem d_ST_startFrom_0 : decode b_ST_startFrom 0 = .ok (.iload_n 1, 1) := by decide +kernel
theorem d_ST_startFrom_1 : decode b_ST_startFrom 1 = .ok (.istore_n 2, 1) := by decide +kernel
theorem d_ST_startFrom_2 : decode b_ST_startFrom 2 = .ok (.iload_n 2, 1) := by decide +kernel
theorem d_ST_startFrom_3 : decode b_ST_startFrom 3 = .ok (.aload_n 0, 1) := by decide +kernel
theorem d_ST_startFrom_4 : decode b_ST_startFrom 4 = .ok (.getfield 24, 3) := by decide +kernel
theorem d_ST_startFrom_7 : decode b_ST_startFrom 7 = .ok (.invokevirtual 43, 3) := by decide +kernel
theorem d_ST_startFrom_10 : decode b_ST_startFrom 10 = .ok (.if_icmp .ge 27, 3) := by decide +kernel
theorem d_ST_startFrom_13 : decode b_ST_startFrom 13 = .ok (.aload_n 0, 1) := by decide +kernel
theorem d_ST_startFrom_14 : decode b_ST_startFrom 14 = .ok (.getfield 32, 3) := by decide +kernel
theorem d_ST_startFrom_17 : decode b_ST_startFrom 17 = .ok (.iload_n 2, 1) := by decide +kernel
theorem d_ST_startFrom_18 : decode b_ST_startFrom 18 = .ok (.invokevirtual 53, 3) := by decide +kernel
theorem d_ST_startFrom_21 : decode b_ST_startFrom 21 = .ok (.ifCond .ne 10, 3) := by decide +kernel
theorem d_ST_startFrom_24 : decode b_ST_startFrom 24 = .ok (.aload_n 0, 1) := by decide +kernel
theorem d_ST_startFrom_25 : decode b_ST_startFrom 25 = .ok (.getfield 21, 3) := by decide +kernel
theorem d_ST_startFrom_28 : decode b_ST_startFrom 28 = .ok (.iload_n 2, 1) := by decide +kernel
theorem d_ST_startFrom_29 : decode b_ST_startFrom 29 = .ok (.iaload, 1) := by decide +kernel
theorem d_ST_startFrom_30 : decode b_ST_startFrom 30 = .ok (.ireturn, 1) := by decide +kernel
theorem d_ST_startFrom_31 : decode b_ST_startFrom 31 = .ok (.iinc 2 1, 3) := by decide +kernel
theorem d_ST_startFrom_34 : decode b_ST_startFrom 34 = .ok (.goto (-32), 3) := by decide +kernel
theorem d_ST_startFrom_37 : decode b_ST_startFrom 37 = .ok (.aload_n 0, 1) := by decide +kernel
theorem d_ST_startFrom_38 : decode b_ST_startFrom 38 = .ok (.getfield 36, 3) := by decide +kernel
theorem d_ST_startFrom_41 : decode b_ST_startFrom 41 = .ok (.ireturn, 1) := by decide +kernel
theorem gc_ST_43 : GoodIn gt (wsV R_ST 43 R_RC y_RC_count ws_RC_count) := gd_V gw_362 gw_189 gw_190 gw_2 gw_191
def b_ST_startFrom_2 : Nat → Int32 → SS → Option (Int32 × SS)
  | 0, _, _ => none
  | n + 1, x2, σ =>
    (f_RC_count σ).bind fun q1 => (if q1.1 ≤ x2 then some ((q1.2 27 0), q1.2) else (f_CA_isCarried x2 q1.2).bind fun q4 => (if q4.1 = 0 then (ld (q4.2 19) 40 x2).bind fun v7 => some (v7, q4.2) else b_ST_startFrom_2 n (x2 + (1 : Int32)) q4.2))
set_option maxHeartbeats 4000000 in
set_option maxRecDepth 100000 in
theorem k_ST_startFrom_2 {p : Program} {l : Launch} {e : Env} {s : State} {m : MethodId} {args : Array Value} {below : List Frame} {meth : Method} {c : Code} {D : va_G} {a t : Nat → Nat} {cI cZ : ClassId} (ha : aCC a) (F : CallFix p m c b_ST_startFrom 3 s args gt R_ST) (hr : meth.sig.returnType = some .int) (hlk : meth.locks = false) (hK : va_K D vwCl [(cI, .int), (cZ, .boolean)] s) (hT : stC t (aC a) s s.heap) :
    ∀ (n : Nat) (x2 : Int32) (σ : SS) (q : Int32 × SS), b_ST_startFrom_2 n x2 σ = some q → ∀ (H : Heap) (locs : List Loc), va_P D vwCl ((wC a cI cZ) σ) H → va_S (aC a) s.heap H locs → ∀ (ls : Array Slot), lv_has ls 3 [(0, .ref (a 4)), (2, .int x2)] → W p l e { frames := 1, cells := 0, slots := 0, locals := 21 } s m args below meth c H locs 0 0 (MQ below (va_Qi (fun r u => r = q.1 ∧ u = q.2) (pW D (wC a cI cZ) [(cI, .int), (cZ, .boolean)] (stC t) (aC a)) (aC a)) args s 0 0 (aC a)) (F0 m 2 ls []) := by
  obtain ⟨hx, hb, hml, hown, hg⟩ := id F
  intro n
  induction n with
  | zero =>
    intro x2 σ q hf
    rw [b_ST_startFrom_2] at hf
    cases hf
  | succ n ih =>
    intro x2 σ q hf H locs hP hS ls hl
    rw [b_ST_startFrom_2] at hf
    refine lv_iload_n hx hb d_ST_startFrom_2 rfl (lv_at hl 1 rfl) ?_
    refine lv_aload_n hx hb d_ST_startFrom_3 rfl (lv_at hl 0 rfl) ?_
    refine va_get (D := D) (ci := 4) (v := .ref (a 1)) (C := R_ST) (T := T_ST) (N := 9) hx hb hg in_ST hown hK hP 4 rfl rfl 0 (by decide) (hg _ gw_109) (fun _ h9 => h9) rfl d_ST_startFrom_4 ?_
    refine bdK hf (fun q1 h2 hf => ?_)
    refine rc_Vi (As := []) (rest := [.int x2]) (b := a 1) (stC_g t) F (c_RC_count l ha σ q1 h2) (cwV 0 hg gc_ST_43 rfl rfl rfl hs_RC_count ⟨Nat.le_of_ble_eq_true rfl, Nat.le_of_ble_eq_true rfl⟩) hK hT hP hS (va_recv hK hP (ci := 1) (q0 := 1) rfl rfl) rfl hl.1 rfl (Nat.le_of_ble_eq_true rfl) d_ST_startFrom_7 ⟨Nat.zero_le _, Nat.zero_le _⟩ (fun H locs hP hS => ?_)
    refine lv_icmp_ge (tgt := 37) hx hb d_ST_startFrom_10 (by decide) (fun c3 => ?_) (fun c3 => ?_)
    · replace hf := (if_pos c3).symm.trans hf
      refine lv_aload_n hx hb d_ST_startFrom_37 rfl (lv_at hl 0 rfl) ?_
      refine va_get (D := D) (ci := 4) (v := .int (q1.2 27 0)) (C := R_ST) (T := T_ST) (N := 9) hx hb hg in_ST hown hK hP 4 rfl rfl 7 (by decide) (hg _ gw_116) (fun _ h9 => h9) rfl d_ST_startFrom_38 ?_
      exact rr_i hx hb hr hlk (stC_g t) hK hT hP hS hf d_ST_startFrom_41
    · replace hf := (if_neg c3).symm.trans hf
      refine lv_aload_n hx hb d_ST_startFrom_13 rfl (lv_at hl 0 rfl) ?_
      refine va_get (D := D) (ci := 4) (v := .ref (a 3)) (C := R_ST) (T := T_ST) (N := 9) hx hb hg in_ST hown hK hP 4 rfl rfl 2 (by decide) (hg _ gw_111) (fun _ h9 => h9) rfl d_ST_startFrom_14 ?_
      refine lv_iload_n hx hb d_ST_startFrom_17 rfl (lv_at hl 1 rfl) ?_
      refine bdK hf (fun q4 h5 hf => ?_)
      refine rc_Vi (As := [.int x2]) (rest := []) (b := a 3) (stC_g t) F (c_CA_isCarried l ha x2 q1.2 q4 h5) (cwV 1 hg gc_ST_53 rfl rfl rfl hs_CA_isCarried ⟨Nat.le_of_ble_eq_true rfl, Nat.le_of_ble_eq_true rfl⟩) hK hT hP hS (va_recv hK hP (ci := 3) (q0 := 3) rfl rfl) rfl hl.1 rfl (Nat.le_of_ble_eq_true rfl) d_ST_startFrom_18 ⟨Nat.zero_le _, Nat.zero_le _⟩ (fun H locs hP hS => ?_)
      refine lv_if_ne (tgt := 31) hx hb d_ST_startFrom_21 (by decide) (fun c6 => ?_) (fun c6 => ?_)
      · replace hf := (if_neg c6).symm.trans hf
        refine lv_iinc (v := (x2 + (1 : Int32))) (lv' := [(2, .int (x2 + (1 : Int32))), (0, .ref (a 4))]) hx hb d_ST_startFrom_31 hl (k := 1) rfl (by rfl) (by decide) rfl (fun ls hl => ?_)
        refine lv_goto (tgt := 2) hx hb d_ST_startFrom_34 (by decide) ?_
        exact ih (x2 + (1 : Int32)) q4.2 q hf _ _ hP hS ls (lv_sub hl [1, 0] rfl)
      · replace hf := (if_pos c6).symm.trans hf
        refine lv_aload_n hx hb d_ST_startFrom_24 rfl (lv_at hl 0 rfl) ?_
        refine va_get (D := D) (ci := 4) (v := .ref (a 25)) (C := R_ST) (T := T_ST) (N := 9) hx hb hg in_ST hown hK hP 4 rfl rfl 6 (by decide) (hg _ gw_115) (fun _ h9 => h9) rfl d_ST_startFrom_25 ?_
        refine lv_iload_n hx hb d_ST_startFrom_28 rfl (lv_at hl 1 rfl) ?_
        refine bdK hf (fun v7 h8 hf => ?_)
        refine r_iald hx hb hK hP 25 0 rfl rfl h8 d_ST_startFrom_29 ?_
        exact rr_i hx hb hr hlk (stC_g t) hK hT hP hS hf d_ST_startFrom_30
def f_ST_startFrom (x1 : Int32) (σ : SS) : Option (Int32 × SS) :=
  b_ST_startFrom_2 FU x1 σ
set_option maxHeartbeats 4000000 in
set_option maxRecDepth 100000 in
theorem e_ST_startFrom {p : Program} {l : Launch} {e : Env} {s : State} {m : MethodId} {args : Array Value} {below : List Frame} {meth : Method} {c : Code} {D : va_G} {a t : Nat → Nat} {cI cZ : ClassId} (ha : aCC a) (F : CallFix p m c b_ST_startFrom 3 s args gt R_ST) (hr : meth.sig.returnType = some .int) (hlk : meth.locks = false) (hK : va_K D vwCl [(cI, .int), (cZ, .boolean)] s) (hT : stC t (aC a) s s.heap) :
    ∀ (x1 : Int32) (σ : SS) (q : Int32 × SS), f_ST_startFrom x1 σ = some q → ∀ (H : Heap) (locs : List Loc), va_P D vwCl ((wC a cI cZ) σ) H → va_S (aC a) s.heap H locs → ∀ (ls : Array Slot), lv_has ls 3 [(0, .ref (a 4)), (1, .int x1)] → W p l e { frames := 1, cells := 0, slots := 0, locals := 21 } s m args below meth c H locs 0 0 (MQ below (va_Qi (fun r u => r = q.1 ∧ u = q.2) (pW D (wC a cI cZ) [(cI, .int), (cZ, .boolean)] (stC t) (aC a)) (aC a)) args s 0 0 (aC a)) (F0 m 0 ls []) := by
  obtain ⟨hx, hb, hml, hown, hg⟩ := id F
  intro x1 σ q hf H locs hP hS ls hl
  unfold f_ST_startFrom at hf
  refine lv_iload_n hx hb d_ST_startFrom_0 rfl (lv_at hl 1 rfl) ?_
  refine lv_istore_n (lv' := [(2, .int x1), (0, .ref (a 4)), (1, .int x1)]) hx hb d_ST_startFrom_1 rfl hl (by decide) rfl (fun ls hl => ?_)
  exact k_ST_startFrom_2 ha F hr hlk hK hT FU x1 σ q hf _ _ hP hS ls (lv_sub hl [1, 0] rfl)
set_option maxHeartbeats 4000000 in
set_option maxRecDepth 100000 in
theorem c_ST_startFrom (l : Launch) {D : va_G} {a t : Nat → Nat} {cI cZ : ClassId} (ha : aCC a) (x1 : Int32) (σ : SS) (q : Int32 × SS) (hf : f_ST_startFrom x1 σ = some q) : Met l y_ST_startFrom ws_ST_startFrom { frames := 1, cells := 0, slots := 0, locals := 21 } (va_Pc [.ref (a 4), .int x1] (pW D (wC a cI cZ) [(cI, .int), (cZ, .boolean)] (stC t) (aC a) σ)) (va_Qi (fun r u => r = q.1 ∧ u = q.2) (pW D (wC a cI cZ) [(cI, .int), (cZ, .boolean)] (stC t) (aC a)) (aC a)) 0 0 (aC a) := by
  refine Met.ofW (cc := b_ST_startFrom) (maxL := 3) (ret := some .int) (by decide) rfl ?_
  intro p e s m args below meth c s₁ B hml hv
  obtain ⟨rfl, hP, hK, hT⟩ := hv
  have hl := lv_entry ([.ref (a 4), .int x1]) (n := 3) (Nat.le_of_ble_eq_true rfl)
  rw [lg_entry_eq]
  generalize (lg_sl ([.ref (a 4), .int x1]) ++ List.replicate (3 - (lg_sl ([.ref (a 4), .int x1])).length) Slot.unset).toArray = ls at hl ⊢
  exact e_ST_startFrom ha ⟨B.exec, B.bytes, hml, findClass_of_methodNamed B.named, fun w h => atoms_spec (ws := ws_ST_startFrom) B.pre w (List.mem_cons_of_mem _ h)⟩ B.returns B.notSynchronized hK hT x1 σ q hf s.heap [] hP va_S.rf ls hl
theorem d_ST_ownNumber_0 : decode b_ST_ownNumber 0 = .ok (.aload_n 0, 1) := by decide +kernel
theorem d_ST_ownNumber_1 : decode b_ST_ownNumber 1 = .ok (.getfield 24, 3) := by decide +kernel
theorem d_ST_ownNumber_4 : decode b_ST_ownNumber 4 = .ok (.iload_n 1, 1) := by decide +kernel
theorem d_ST_ownNumber_5 : decode b_ST_ownNumber 5 = .ok (.invokevirtual 89, 3) := by decide +kernel
theorem d_ST_ownNumber_8 : decode b_ST_ownNumber 8 = .ok (.lookupswitch 71 #[(0, 36), (9, 45), (10, 58)], 36) := by decide +kernel
theorem d_ST_ownNumber_44 : decode b_ST_ownNumber 44 = .ok (.aload_n 0, 1) := by decide +kernel
theorem d_ST_ownNumber_45 : decode b_ST_ownNumber 45 = .ok (.getfield 24, 3) := by decide +kernel
theorem d_ST_ownNumber_48 : decode b_ST_ownNumber 48 = .ok (.iload_n 1, 1) := by decide +kernel
theorem d_ST_ownNumber_49 : decode b_ST_ownNumber 49 = .ok (.invokevirtual 114, 3) := by decide +kernel
theorem d_ST_ownNumber_52 : decode b_ST_ownNumber 52 = .ok (.ireturn, 1) := by decide +kernel
theorem d_ST_ownNumber_53 : decode b_ST_ownNumber 53 = .ok (.aload_n 0, 1) := by decide +kernel
theorem d_ST_ownNumber_54 : decode b_ST_ownNumber 54 = .ok (.aload_n 0, 1) := by decide +kernel
theorem d_ST_ownNumber_55 : decode b_ST_ownNumber 55 = .ok (.getfield 24, 3) := by decide +kernel
theorem d_ST_ownNumber_58 : decode b_ST_ownNumber 58 = .ok (.iload_n 1, 1) := by decide +kernel
theorem d_ST_ownNumber_59 : decode b_ST_ownNumber 59 = .ok (.invokevirtual 114, 3) := by decide +kernel
theorem d_ST_ownNumber_62 : decode b_ST_ownNumber 62 = .ok (.invokevirtual 117, 3) := by decide +kernel
theorem d_ST_ownNumber_65 : decode b_ST_ownNumber 65 = .ok (.ireturn, 1) := by decide +kernel
theorem d_ST_ownNumber_66 : decode b_ST_ownNumber 66 = .ok (.aload_n 0, 1) := by decide +kernel
theorem d_ST_ownNumber_67 : decode b_ST_ownNumber 67 = .ok (.aload_n 0, 1) := by decide +kernel
theorem d_ST_ownNumber_68 : decode b_ST_ownNumber 68 = .ok (.getfield 24, 3) := by decide +kernel
theorem d_ST_ownNumber_71 : decode b_ST_ownNumber 71 = .ok (.iload_n 1, 1) := by decide +kernel
theorem d_ST_ownNumber_72 : decode b_ST_ownNumber 72 = .ok (.invokevirtual 120, 3) := by decide +kernel
theorem d_ST_ownNumber_75 : decode b_ST_ownNumber 75 = .ok (.invokevirtual 117, 3) := by decide +kernel
theorem d_ST_ownNumber_78 : decode b_ST_ownNumber 78 = .ok (.ireturn, 1) := by decide +kernel
theorem d_ST_ownNumber_79 : decode b_ST_ownNumber 79 = .ok (.iconst 0, 1) := by decide +kernel
theorem d_ST_ownNumber_80 : decode b_ST_ownNumber 80 = .ok (.ireturn, 1) := by decide +kernel
theorem gc_ST_114 : GoodIn gt (wsV R_ST 114 R_RC y_RC_aOf ws_RC_aOf) := gd_V gw_421 gw_250 gw_251 gw_2 gw_252
theorem gc_ST_117 : GoodIn gt (wsV R_ST 117 R_ST y_ST_startFrom ws_ST_startFrom) := gd_V gw_422 gw_424 gs_24 gw_5 gw_425
theorem gc_ST_120 : GoodIn gt (wsV R_ST 120 R_RC y_RC_bOf ws_RC_bOf) := gd_V gw_426 gw_259 gw_260 gw_2 gw_261
def f_ST_ownNumber (x1 : Int32) (σ : SS) : Option (Int32 × SS) :=
  (f_RC_operationOf x1 σ).bind fun q1 => (if q1.1 = (0 : Int32) then (f_RC_aOf x1 q1.2).bind fun q6 => some (q6.1, q6.2) else (if q1.1 = (9 : Int32) then (f_RC_aOf x1 q1.2).bind fun q8 => (f_ST_startFrom q8.1 q8.2).bind fun q10 => some (q10.1, q10.2) else (if q1.1 = (10 : Int32) then (f_RC_bOf x1 q1.2).bind fun q12 => (f_ST_startFrom q12.1 q12.2).bind fun q14 => some (q14.1, q14.2) else some ((0 : Int32), q1.2))))
set_option maxHeartbeats 4000000 in
set_option maxRecDepth 100000 in
theorem e_ST_ownNumber {p : Program} {l : Launch} {e : Env} {s : State} {m : MethodId} {args : Array Value} {below : List Frame} {meth : Method} {c : Code} {D : va_G} {a t : Nat → Nat} {cI cZ : ClassId} (ha : aCC a) (F : CallFix p m c b_ST_ownNumber 2 s args gt R_ST) (hr : meth.sig.returnType = some .int) (hlk : meth.locks = false) (hK : va_K D vwCl [(cI, .int), (cZ, .boolean)] s) (hT : stC t (aC a) s s.heap) :
    ∀ (x1 : Int32) (σ : SS) (q : Int32 × SS), f_ST_ownNumber x1 σ = some q → ∀ (H : Heap) (locs : List Loc), va_P D vwCl ((wC a cI cZ) σ) H → va_S (aC a) s.heap H locs → ∀ (ls : Array Slot), lv_has ls 2 [(0, .ref (a 4)), (1, .int x1)] → W p l e { frames := 2, cells := 0, slots := 0, locals := 43 } s m args below meth c H locs 0 0 (MQ below (va_Qi (fun r u => r = q.1 ∧ u = q.2) (pW D (wC a cI cZ) [(cI, .int), (cZ, .boolean)] (stC t) (aC a)) (aC a)) args s 0 0 (aC a)) (F0 m 0 ls []) := by
  obtain ⟨hx, hb, hml, hown, hg⟩ := id F
  intro x1 σ q hf H locs hP hS ls hl
  unfold f_ST_ownNumber at hf
  refine lv_aload_n hx hb d_ST_ownNumber_0 rfl (lv_at hl 0 rfl) ?_
  refine va_get (D := D) (ci := 4) (v := .ref (a 1)) (C := R_ST) (T := T_ST) (N := 9) hx hb hg in_ST hown hK hP 4 rfl rfl 0 (by decide) (hg _ gw_109) (fun _ h9 => h9) rfl d_ST_ownNumber_1 ?_
  refine lv_iload_n hx hb d_ST_ownNumber_4 rfl (lv_at hl 1 rfl) ?_
  refine bdK hf (fun q1 h2 hf => ?_)
  refine rc_Vi (As := [.int x1]) (rest := []) (b := a 1) (stC_g t) F (c_RC_operationOf l ha x1 σ q1 h2) (cwV 1 hg gc_ST_89 rfl rfl rfl hs_RC_operationOf ⟨Nat.le_of_ble_eq_true rfl, Nat.le_of_ble_eq_true rfl⟩) hK hT hP hS (va_recv hK hP (ci := 1) (q0 := 1) rfl rfl) rfl hl.1 rfl (Nat.le_of_ble_eq_true rfl) d_ST_ownNumber_5 ⟨Nat.zero_le _, Nat.zero_le _⟩ (fun H locs hP hS => ?_)
  by_cases c3 : q1.1 = (0 : Int32)
  · replace hf := (if_pos c3).symm.trans hf
    refine lv_lookup (off := 36) (tgt := 44) hx hb d_ST_ownNumber_8 (by decide) (by rw [c3]; decide) (by decide) ?_
    refine lv_aload_n hx hb d_ST_ownNumber_44 rfl (lv_at hl 0 rfl) ?_
    refine va_get (D := D) (ci := 4) (v := .ref (a 1)) (C := R_ST) (T := T_ST) (N := 9) hx hb hg in_ST hown hK hP 4 rfl rfl 0 (by decide) (hg _ gw_109) (fun _ h9 => h9) rfl d_ST_ownNumber_45 ?_
    refine lv_iload_n hx hb d_ST_ownNumber_48 rfl (lv_at hl 1 rfl) ?_
    refine bdK hf (fun q6 h7 hf => ?_)
    refine rc_Vi (As := [.int x1]) (rest := []) (b := a 1) (stC_g t) F (c_RC_aOf l ha x1 q1.2 q6 h7) (cwV 1 hg gc_ST_114 rfl rfl rfl hs_RC_aOf ⟨Nat.le_of_ble_eq_true rfl, Nat.le_of_ble_eq_true rfl⟩) hK hT hP hS (va_recv hK hP (ci := 1) (q0 := 1) rfl rfl) rfl hl.1 rfl (Nat.le_of_ble_eq_true rfl) d_ST_ownNumber_49 ⟨Nat.zero_le _, Nat.zero_le _⟩ (fun H locs hP hS => ?_)
    exact rr_i hx hb hr hlk (stC_g t) hK hT hP hS hf d_ST_ownNumber_52
  · replace hf := (if_neg c3).symm.trans hf
    by_cases c4 : q1.1 = (9 : Int32)
    · replace hf := (if_pos c4).symm.trans hf
      refine lv_lookup (off := 45) (tgt := 53) hx hb d_ST_ownNumber_8 (by decide) (by rw [c4]; decide) (by decide) ?_
      refine lv_aload_n hx hb d_ST_ownNumber_53 rfl (lv_at hl 0 rfl) ?_
      refine lv_aload_n hx hb d_ST_ownNumber_54 rfl (lv_at hl 0 rfl) ?_
      refine va_get (D := D) (ci := 4) (v := .ref (a 1)) (C := R_ST) (T := T_ST) (N := 9) hx hb hg in_ST hown hK hP 4 rfl rfl 0 (by decide) (hg _ gw_109) (fun _ h9 => h9) rfl d_ST_ownNumber_55 ?_
      refine lv_iload_n hx hb d_ST_ownNumber_58 rfl (lv_at hl 1 rfl) ?_
      refine bdK hf (fun q8 h9 hf => ?_)
      refine rc_Vi (As := [.int x1]) (rest := [.ref (a 4)]) (b := a 1) (stC_g t) F (c_RC_aOf l ha x1 q1.2 q8 h9) (cwV 1 hg gc_ST_114 rfl rfl rfl hs_RC_aOf ⟨Nat.le_of_ble_eq_true rfl, Nat.le_of_ble_eq_true rfl⟩) hK hT hP hS (va_recv hK hP (ci := 1) (q0 := 1) rfl rfl) rfl hl.1 rfl (Nat.le_of_ble_eq_true rfl) d_ST_ownNumber_59 ⟨Nat.zero_le _, Nat.zero_le _⟩ (fun H locs hP hS => ?_)
      refine bdK hf (fun q10 h11 hf => ?_)
      refine rc_Vi (As := [.int q8.1]) (rest := []) (b := a 4) (stC_g t) F (c_ST_startFrom l ha q8.1 q8.2 q10 h11) (cwV 1 hg gc_ST_117 rfl rfl rfl hs_ST_startFrom ⟨Nat.le_of_ble_eq_true rfl, Nat.le_of_ble_eq_true rfl⟩) hK hT hP hS (va_recv hK hP (ci := 4) (q0 := 4) rfl rfl) rfl hl.1 rfl (Nat.le_of_ble_eq_true rfl) d_ST_ownNumber_62 ⟨Nat.zero_le _, Nat.zero_le _⟩ (fun H locs hP hS => ?_)
      exact rr_i hx hb hr hlk (stC_g t) hK hT hP hS hf d_ST_ownNumber_65
    · replace hf := (if_neg c4).symm.trans hf
      by_cases c5 : q1.1 = (10 : Int32)
      · replace hf := (if_pos c5).symm.trans hf
        refine lv_lookup (off := 58) (tgt := 66) hx hb d_ST_ownNumber_8 (by decide) (by rw [c5]; decide) (by decide) ?_
        refine lv_aload_n hx hb d_ST_ownNumber_66 rfl (lv_at hl 0 rfl) ?_
        refine lv_aload_n hx hb d_ST_ownNumber_67 rfl (lv_at hl 0 rfl) ?_
        refine va_get (D := D) (ci := 4) (v := .ref (a 1)) (C := R_ST) (T := T_ST) (N := 9) hx hb hg in_ST hown hK hP 4 rfl rfl 0 (by decide) (hg _ gw_109) (fun _ h9 => h9) rfl d_ST_ownNumber_68 ?_
        refine lv_iload_n hx hb d_ST_ownNumber_71 rfl (lv_at hl 1 rfl) ?_
        refine bdK hf (fun q12 h13 hf => ?_)
        refine rc_Vi (As := [.int x1]) (rest := [.ref (a 4)]) (b := a 1) (stC_g t) F (c_RC_bOf l ha x1 q1.2 q12 h13) (cwV 1 hg gc_ST_120 rfl rfl rfl hs_RC_bOf ⟨Nat.le_of_ble_eq_true rfl, Nat.le_of_ble_eq_true rfl⟩) hK hT hP hS (va_recv hK hP (ci := 1) (q0 := 1) rfl rfl) rfl hl.1 rfl (Nat.le_of_ble_eq_true rfl) d_ST_ownNumber_72 ⟨Nat.zero_le _, Nat.zero_le _⟩ (fun H locs hP hS => ?_)
        refine bdK hf (fun q14 h15 hf => ?_)
        refine rc_Vi (As := [.int q12.1]) (rest := []) (b := a 4) (stC_g t) F (c_ST_startFrom l ha q12.1 q12.2 q14 h15) (cwV 1 hg gc_ST_117 rfl rfl rfl hs_ST_startFrom ⟨Nat.le_of_ble_eq_true rfl, Nat.le_of_ble_eq_true rfl⟩) hK hT hP hS (va_recv hK hP (ci := 4) (q0 := 4) rfl rfl) rfl hl.1 rfl (Nat.le_of_ble_eq_true rfl) d_ST_ownNumber_75 ⟨Nat.zero_le _, Nat.zero_le _⟩ (fun H locs hP hS => ?_)
        exact rr_i hx hb hr hlk (stC_g t) hK hT hP hS hf d_ST_ownNumber_78
      · replace hf := (if_neg c5).symm.trans hf
        refine lv_lookup (off := 71) (tgt := 79) hx hb d_ST_ownNumber_8 (by decide) (by show Op.lookupswitch.offset _ _ _ = _; rw [lv_osw c3 (by decide), lv_osw c4 (by decide), lv_osw c5 (by decide)]; rfl) (by decide) ?_
        refine lv_iconst (v := (0 : Int32)) hx hb d_ST_ownNumber_79 (by decide) ?_
        exact rr_i hx hb hr hlk (stC_g t) hK hT hP hS hf d_ST_ownNumber_80
set_option maxHeartbeats 4000000 in
set_option maxRecDepth 100000 in
theorem c_ST_ownNumber (l : Launch) {D : va_G} {a t : Nat → Nat} {cI cZ : ClassId} (ha : aCC a) (x1 : Int32) (σ : SS) (q : Int32 × SS) (hf : f_ST_ownNumber x1 σ = some q) : Met l y_ST_ownNumber ws_ST_ownNumber { frames := 2, cells := 0, slots := 0, locals := 43 } (va_Pc [.ref (a 4), .int x1] (pW D (wC a cI cZ) [(cI, .int), (cZ, .boolean)] (stC t) (aC a) σ)) (va_Qi (fun r u => r = q.1 ∧ u = q.2) (pW D (wC a cI cZ) [(cI, .int), (cZ, .boolean)] (stC t) (aC a)) (aC a)) 0 0 (aC a) := by
  refine Met.ofW (cc := b_ST_ownNumber) (maxL := 2) (ret := some .int) (by decide) rfl ?_
  intro p e s m args below meth c s₁ B hml hv
  obtain ⟨rfl, hP, hK, hT⟩ := hv
  have hl := lv_entry ([.ref (a 4), .int x1]) (n := 2) (Nat.le_of_ble_eq_true rfl)
  rw [lg_entry_eq]
  generalize (lg_sl ([.ref (a 4), .int x1]) ++ List.replicate (2 - (lg_sl ([.ref (a 4), .int x1])).length) Slot.unset).toArray = ls at hl ⊢
  exact e_ST_ownNumber ha ⟨B.exec, B.bytes, hml, findClass_of_methodNamed B.named, fun w h => atoms_spec (ws := ws_ST_ownNumber) B.pre w (List.mem_cons_of_mem _ h)⟩ B.returns B.notSynchronized hK hT x1 σ q hf s.heap [] hP va_S.rf ls hl
theorem d_ST_writeEnd_0 : decode b_ST_writeEnd 0 = .ok (.aload_n 0, 1) := by decide +kernel
theorem d_ST_writeEnd_1 : decode b_ST_writeEnd 1 = .ok (.getfield 24, 3) := by decide +kernel
theorem d_ST_writeEnd_4 : decode b_ST_writeEnd 4 = .ok (.iload_n 2, 1) := by decide +kernel
theorem d_ST_writeEnd_5 : decode b_ST_writeEnd 5 = .ok (.invokevirtual 98, 3) := by decide +kernel
theorem d_ST_writeEnd_8 : decode b_ST_writeEnd 8 = .ok (.istore_n 3, 1) := by decide +kernel
theorem d_ST_writeEnd_9 : decode b_ST_writeEnd 9 = .ok (.aload_n 0, 1) := by decide +kernel
theorem d_ST_writeEnd_10 : decode b_ST_writeEnd 10 = .ok (.getfield 28, 3) := by decide +kernel
theorem d_ST_writeEnd_13 : decode b_ST_writeEnd 13 = .ok (.iload_n 2, 1) := by decide +kernel
theorem d_ST_writeEnd_14 : decode b_ST_writeEnd 14 = .ok (.invokevirtual 123, 3) := by decide +kernel
theorem d_ST_writeEnd_17 : decode b_ST_writeEnd 17 = .ok (.iload_n 3, 1) := by decide +kernel
theorem d_ST_writeEnd_18 : decode b_ST_writeEnd 18 = .ok (.invokestatic 128, 3) := by decide +kernel
theorem d_ST_writeEnd_21 : decode b_ST_writeEnd 21 = .ok (.iand, 1) := by decide +kernel
theorem d_ST_writeEnd_22 : decode b_ST_writeEnd 22 = .ok (.ifCond .eq 24, 3) := by decide +kernel
theorem d_ST_writeEnd_25 : decode b_ST_writeEnd 25 = .ok (.aload_n 0, 1) := by decide +kernel
theorem d_ST_writeEnd_26 : decode b_ST_writeEnd 26 = .ok (.iload_n 1, 1) := by decide +kernel
theorem d_ST_writeEnd_27 : decode b_ST_writeEnd 27 = .ok (.iconst 2, 1) := by decide +kernel
theorem d_ST_writeEnd_28 : decode b_ST_writeEnd 28 = .ok (.iload_n 3, 1) := by decide +kernel
theorem d_ST_writeEnd_29 : decode b_ST_writeEnd 29 = .ok (.invokevirtual 63, 3) := by decide +kernel
theorem d_ST_writeEnd_32 : decode b_ST_writeEnd 32 = .ok (.pop, 1) := by decide +kernel
theorem d_ST_writeEnd_33 : decode b_ST_writeEnd 33 = .ok (.aload_n 0, 1) := by decide +kernel
theorem d_ST_writeEnd_34 : decode b_ST_writeEnd 34 = .ok (.dup, 1) := by decide +kernel
theorem d_ST_writeEnd_35 : decode b_ST_writeEnd 35 = .ok (.getfield 40, 3) := by decide +kernel
theorem d_ST_writeEnd_38 : decode b_ST_writeEnd 38 = .ok (.iconst 1, 1) := by decide +kernel
theorem d_ST_writeEnd_39 : decode b_ST_writeEnd 39 = .ok (.iadd, 1) := by decide +kernel
theorem d_ST_writeEnd_40 : decode b_ST_writeEnd 40 = .ok (.putfield 40, 3) := by decide +kernel
theorem d_ST_writeEnd_43 : decode b_ST_writeEnd 43 = .ok (.goto 11, 3) := by decide +kernel
theorem d_ST_writeEnd_46 : decode b_ST_writeEnd 46 = .ok (.aload_n 0, 1) := by decide +kernel
theorem d_ST_writeEnd_47 : decode b_ST_writeEnd 47 = .ok (.iload_n 1, 1) := by decide +kernel
theorem d_ST_writeEnd_48 : decode b_ST_writeEnd 48 = .ok (.iconst 3, 1) := by decide +kernel
theorem d_ST_writeEnd_49 : decode b_ST_writeEnd 49 = .ok (.iconst 0, 1) := by decide +kernel
theorem d_ST_writeEnd_50 : decode b_ST_writeEnd 50 = .ok (.invokevirtual 63, 3) := by decide +kernel
theorem d_ST_writeEnd_53 : decode b_ST_writeEnd 53 = .ok (.pop, 1) := by decide +kernel
theorem d_ST_writeEnd_54 : decode b_ST_writeEnd 54 = .ok (.return_, 1) := by decide +kernel
theorem gc_ST_123 : GoodIn gt (wsV R_ST 123 R_FL y_FL_liveAfter ws_FL_liveAfter) := gd_V gw_431 gw_325 gw_326 gw_3 gw_327
theorem gc_ST_128 : GoodIn gt (va_wsS R_ST 128 y_FL_setOf ws_FL_setOf) := gd_T gw_432 gw_279 gw_3 gw_280
def f_ST_writeEnd (x1 x2 : Int32) (σ : SS) : Option (SS) :=
  (f_RC_writtenBy x2 σ).bind fun q1 => (f_FL_liveAfter x2 q1.2).bind fun q3 => (f_FL_setOf q1.1 q3.2).bind fun q5 => (if (q3.1 &&& q5.1) = 0 then (f_ST_write x1 (3 : Int32) (0 : Int32) q5.2).bind fun q8 => some q8.2 else (f_ST_write x1 (2 : Int32) q1.1 q5.2).bind fun q10 => (sf q10.2 28 ((q10.2 28 0) + (1 : Int32))).bind fun σ12 => some σ12)
set_option maxHeartbeats 4000000 in
set_option maxRecDepth 100000 in
theorem e_ST_writeEnd {p : Program} {l : Launch} {e : Env} {s : State} {m : MethodId} {args : Array Value} {below : List Frame} {meth : Method} {c : Code} {D : va_G} {a t : Nat → Nat} {cI cZ : ClassId} (ha : aCC a) (F : CallFix p m c b_ST_writeEnd 4 s args gt R_ST) (hr : meth.sig.returnType = none) (hlk : meth.locks = false) (hK : va_K D vwCl [(cI, .int), (cZ, .boolean)] s) (hT : stC t (aC a) s s.heap) :
    ∀ (x1 x2 : Int32) (σ : SS) (q : SS), f_ST_writeEnd x1 x2 σ = some q → ∀ (H : Heap) (locs : List Loc), va_P D vwCl ((wC a cI cZ) σ) H → va_S (aC a) s.heap H locs → ∀ (ls : Array Slot), lv_has ls 4 [(0, .ref (a 4)), (1, .int x1), (2, .int x2)] → W p l e { frames := 1, cells := 0, slots := 0, locals := 23 } s m args below meth c H locs 0 0 (MQ below (va_Qv (fun u => u = q) (pW D (wC a cI cZ) [(cI, .int), (cZ, .boolean)] (stC t) (aC a)) (aC a)) args s 0 0 (aC a)) (F0 m 0 ls []) := by
  obtain ⟨hx, hb, hml, hown, hg⟩ := id F
  intro x1 x2 σ q hf H locs hP hS ls hl
  unfold f_ST_writeEnd at hf
  refine lv_aload_n hx hb d_ST_writeEnd_0 rfl (lv_at hl 0 rfl) ?_
  refine va_get (D := D) (ci := 4) (v := .ref (a 1)) (C := R_ST) (T := T_ST) (N := 9) hx hb hg in_ST hown hK hP 4 rfl rfl 0 (by decide) (hg _ gw_109) (fun _ h9 => h9) rfl d_ST_writeEnd_1 ?_
  refine lv_iload_n hx hb d_ST_writeEnd_4 rfl (lv_at hl 2 rfl) ?_
  refine bdK hf (fun q1 h2 hf => ?_)
  refine rc_Vi (As := [.int x2]) (rest := []) (b := a 1) (stC_g t) F (c_RC_writtenBy l ha x2 σ q1 h2) (cwV 1 hg gc_ST_98 rfl rfl rfl hs_RC_writtenBy ⟨Nat.le_of_ble_eq_true rfl, Nat.le_of_ble_eq_true rfl⟩) hK hT hP hS (va_recv hK hP (ci := 1) (q0 := 1) rfl rfl) rfl hl.1 rfl (Nat.le_of_ble_eq_true rfl) d_ST_writeEnd_5 ⟨Nat.zero_le _, Nat.zero_le _⟩ (fun H locs hP hS => ?_)
  refine lv_istore_n (lv' := [(3, .int q1.1), (0, .ref (a 4)), (1, .int x1), (2, .int x2)]) hx hb d_ST_writeEnd_8 rfl hl (by decide) rfl (fun ls hl => ?_)
  refine lv_aload_n hx hb d_ST_writeEnd_9 rfl (lv_at hl 1 rfl) ?_
  refine va_get (D := D) (ci := 4) (v := .ref (a 2)) (C := R_ST) (T := T_ST) (N := 9) hx hb hg in_ST hown hK hP 4 rfl rfl 1 (by decide) (hg _ gw_110) (fun _ h9 => h9) rfl d_ST_writeEnd_10 ?_
  refine lv_iload_n hx hb d_ST_writeEnd_13 rfl (lv_at hl 3 rfl) ?_
  refine bdK hf (fun q3 h4 hf => ?_)
  refine rc_Vi (As := [.int x2]) (rest := []) (b := a 2) (stC_g t) F (c_FL_liveAfter l ha x2 q1.2 q3 h4) (cwV 1 hg gc_ST_123 rfl rfl rfl hs_FL_liveAfter ⟨Nat.le_of_ble_eq_true rfl, Nat.le_of_ble_eq_true rfl⟩) hK hT hP hS (va_recv hK hP (ci := 2) (q0 := 2) rfl rfl) rfl hl.1 rfl (Nat.le_of_ble_eq_true rfl) d_ST_writeEnd_14 ⟨Nat.zero_le _, Nat.zero_le _⟩ (fun H locs hP hS => ?_)
  refine lv_iload_n hx hb d_ST_writeEnd_17 rfl (lv_at hl 0 rfl) ?_
  refine bdK hf (fun q5 h6 hf => ?_)
  refine rc_Si (As := [.int q1.1]) (rest := [.int q3.1]) (stC_g t) F (c_FL_setOf l ha q1.1 q3.2 q5 h6) (va_cwS 1 hg gc_ST_128 rfl rfl rfl ht_FL_setOf ⟨Nat.le_of_ble_eq_true rfl, Nat.le_of_ble_eq_true rfl⟩) hK hT hP hS rfl hl.1 rfl (Nat.le_of_ble_eq_true rfl) d_ST_writeEnd_18 ⟨Nat.zero_le _, Nat.zero_le _⟩ (fun H locs hP hS => ?_)
  refine lv_iand hx hb d_ST_writeEnd_21 ?_
  refine lv_if_eq (tgt := 46) hx hb d_ST_writeEnd_22 (by decide) (fun c7 => ?_) (fun c7 => ?_)
  · replace hf := (if_pos c7).symm.trans hf
    refine lv_aload_n hx hb d_ST_writeEnd_46 rfl (lv_at hl 1 rfl) ?_
    refine lv_iload_n hx hb d_ST_writeEnd_47 rfl (lv_at hl 2 rfl) ?_
    refine lv_iconst (v := (3 : Int32)) hx hb d_ST_writeEnd_48 (by decide) ?_
    refine lv_iconst (v := (0 : Int32)) hx hb d_ST_writeEnd_49 (by decide) ?_
    refine bdK hf (fun q8 h9 hf => ?_)
    refine rc_Vi (As := [.int x1, .int (3 : Int32), .int (0 : Int32)]) (rest := []) (b := a 4) (stC_g t) F (c_ST_write l ha x1 (3 : Int32) (0 : Int32) q5.2 q8 h9) (cwV 3 hg gc_ST_63 rfl rfl rfl hs_ST_write ⟨Nat.le_of_ble_eq_true rfl, Nat.le_of_ble_eq_true rfl⟩) hK hT hP hS (va_recv hK hP (ci := 4) (q0 := 4) rfl rfl) rfl hl.1 rfl (Nat.le_of_ble_eq_true rfl) d_ST_writeEnd_50 ⟨Nat.zero_le _, Nat.zero_le _⟩ (fun H locs hP hS => ?_)
    refine lv_pop hx hb d_ST_writeEnd_53 rfl ?_
    exact rr_v hx hb hr hlk (stC_g t) hK hT hP hS hf d_ST_writeEnd_54
  · replace hf := (if_neg c7).symm.trans hf
    refine lv_aload_n hx hb d_ST_writeEnd_25 rfl (lv_at hl 1 rfl) ?_
    refine lv_iload_n hx hb d_ST_writeEnd_26 rfl (lv_at hl 2 rfl) ?_
    refine lv_iconst (v := (2 : Int32)) hx hb d_ST_writeEnd_27 (by decide) ?_
    refine lv_iload_n hx hb d_ST_writeEnd_28 rfl (lv_at hl 0 rfl) ?_
    refine bdK hf (fun q10 h11 hf => ?_)
    refine rc_Vi (As := [.int x1, .int (2 : Int32), .int q1.1]) (rest := []) (b := a 4) (stC_g t) F (c_ST_write l ha x1 (2 : Int32) q1.1 q5.2 q10 h11) (cwV 3 hg gc_ST_63 rfl rfl rfl hs_ST_write ⟨Nat.le_of_ble_eq_true rfl, Nat.le_of_ble_eq_true rfl⟩) hK hT hP hS (va_recv hK hP (ci := 4) (q0 := 4) rfl rfl) rfl hl.1 rfl (Nat.le_of_ble_eq_true rfl) d_ST_writeEnd_29 ⟨Nat.zero_le _, Nat.zero_le _⟩ (fun H locs hP hS => ?_)
    refine lv_pop hx hb d_ST_writeEnd_32 rfl ?_
    refine lv_aload_n hx hb d_ST_writeEnd_33 rfl (lv_at hl 1 rfl) ?_
    refine lv_dup hx hb d_ST_writeEnd_34 rfl ?_
    refine va_get (D := D) (ci := 4) (v := .int (q10.2 28 0)) (C := R_ST) (T := T_ST) (N := 9) hx hb hg in_ST hown hK hP 4 rfl rfl 8 (by decide) (hg _ gw_117) (fun _ h9 => h9) rfl d_ST_writeEnd_35 ?_
    refine lv_iconst (v := (1 : Int32)) hx hb d_ST_writeEnd_38 (by decide) ?_
    refine lv_iadd hx hb d_ST_writeEnd_39 ?_
    refine bdK hf (fun σ12 h13 hf => ?_)
    refine va_put (D := D) (ci := 4) (v := .int ((q10.2 28 0) + (1 : Int32))) (ty := .int) (C := R_ST) (T := T_ST) (N := 9) hx hb hg in_ST t_ST t_ST_ok n_ST hown hK hP (dC ha q10.2) hS 4 rfl rfl 8 (by decide) (hg _ gw_117) (fun _ h9 => h9) rfl (by decide +kernel) rfl rfl (Nat.le_of_ble_eq_true rfl) d_ST_writeEnd_40 (fun H locs hP _ hS => ?_)
    replace hP := sf_P (wf := (wC a cI cZ)) h13 hP rfl
    refine lv_goto (tgt := 54) hx hb d_ST_writeEnd_43 (by decide) ?_
    exact rr_v hx hb hr hlk (stC_g t) hK hT hP hS hf d_ST_writeEnd_54
set_option maxHeartbeats 4000000 in
set_option maxRecDepth 100000 in
theorem c_ST_writeEnd (l : Launch) {D : va_G} {a t : Nat → Nat} {cI cZ : ClassId} (ha : aCC a) (x1 x2 : Int32) (σ : SS) (q : SS) (hf : f_ST_writeEnd x1 x2 σ = some q) : Met l y_ST_writeEnd ws_ST_writeEnd { frames := 1, cells := 0, slots := 0, locals := 23 } (va_Pc [.ref (a 4), .int x1, .int x2] (pW D (wC a cI cZ) [(cI, .int), (cZ, .boolean)] (stC t) (aC a) σ)) (va_Qv (fun u => u = q) (pW D (wC a cI cZ) [(cI, .int), (cZ, .boolean)] (stC t) (aC a)) (aC a)) 0 0 (aC a) := by
  refine Met.ofW (cc := b_ST_writeEnd) (maxL := 4) (ret := none) (by decide) rfl ?_
  intro p e s m args below meth c s₁ B hml hv
  obtain ⟨rfl, hP, hK, hT⟩ := hv
  have hl := lv_entry ([.ref (a 4), .int x1, .int x2]) (n := 4) (Nat.le_of_ble_eq_true rfl)
  rw [lg_entry_eq]
  generalize (lg_sl ([.ref (a 4), .int x1, .int x2]) ++ List.replicate (4 - (lg_sl ([.ref (a 4), .int x1, .int x2])).length) Slot.unset).toArray = ls at hl ⊢
  exact e_ST_writeEnd ha ⟨B.exec, B.bytes, hml, findClass_of_methodNamed B.named, fun w h => atoms_spec (ws := ws_ST_writeEnd) B.pre w (List.mem_cons_of_mem _ h)⟩ B.returns B.notSynchronized hK hT x1 x2 σ q hf s.heap [] hP va_S.rf ls hl
