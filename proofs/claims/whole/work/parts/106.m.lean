theorem d_ST_writeInstruction_0 : decode b_ST_writeInstruction 0 = .ok (.aload_n 0, 1) := by decide +kernel
theorem d_ST_writeInstruction_1 : decode b_ST_writeInstruction 1 = .ok (.aload_n 0, 1) := by decide +kernel
theorem d_ST_writeInstruction_2 : decode b_ST_writeInstruction 2 = .ok (.getfield 21, 3) := by decide +kernel
theorem d_ST_writeInstruction_5 : decode b_ST_writeInstruction 5 = .ok (.iload_n 1, 1) := by decide +kernel
theorem d_ST_writeInstruction_6 : decode b_ST_writeInstruction 6 = .ok (.iaload, 1) := by decide +kernel
theorem d_ST_writeInstruction_7 : decode b_ST_writeInstruction 7 = .ok (.iload_n 1, 1) := by decide +kernel
theorem d_ST_writeInstruction_8 : decode b_ST_writeInstruction 8 = .ok (.invokevirtual 101, 3) := by decide +kernel
theorem d_ST_writeInstruction_11 : decode b_ST_writeInstruction 11 = .ok (.istore_n 2, 1) := by decide +kernel
theorem d_ST_writeInstruction_12 : decode b_ST_writeInstruction 12 = .ok (.aload_n 0, 1) := by decide +kernel
theorem d_ST_writeInstruction_13 : decode b_ST_writeInstruction 13 = .ok (.iload_n 1, 1) := by decide +kernel
theorem d_ST_writeInstruction_14 : decode b_ST_writeInstruction 14 = .ok (.invokevirtual 83, 3) := by decide +kernel
theorem d_ST_writeInstruction_17 : decode b_ST_writeInstruction 17 = .ok (.ifCond .eq 11, 3) := by decide +kernel
theorem d_ST_writeInstruction_20 : decode b_ST_writeInstruction 20 = .ok (.aload_n 0, 1) := by decide +kernel
theorem d_ST_writeInstruction_21 : decode b_ST_writeInstruction 21 = .ok (.iload_n 2, 1) := by decide +kernel
theorem d_ST_writeInstruction_22 : decode b_ST_writeInstruction 22 = .ok (.iconst 4, 1) := by decide +kernel
theorem d_ST_writeInstruction_23 : decode b_ST_writeInstruction 23 = .ok (.iconst 0, 1) := by decide +kernel
theorem d_ST_writeInstruction_24 : decode b_ST_writeInstruction 24 = .ok (.invokevirtual 63, 3) := by decide +kernel
theorem d_ST_writeInstruction_27 : decode b_ST_writeInstruction 27 = .ok (.istore_n 2, 1) := by decide +kernel
theorem d_ST_writeInstruction_28 : decode b_ST_writeInstruction 28 = .ok (.getstatic 86, 3) := by decide +kernel
theorem d_ST_writeInstruction_31 : decode b_ST_writeInstruction 31 = .ok (.aload_n 0, 1) := by decide +kernel
theorem d_ST_writeInstruction_32 : decode b_ST_writeInstruction 32 = .ok (.getfield 24, 3) := by decide +kernel
theorem d_ST_writeInstruction_35 : decode b_ST_writeInstruction 35 = .ok (.iload_n 1, 1) := by decide +kernel
theorem d_ST_writeInstruction_36 : decode b_ST_writeInstruction 36 = .ok (.invokevirtual 89, 3) := by decide +kernel
theorem d_ST_writeInstruction_39 : decode b_ST_writeInstruction 39 = .ok (.iaload, 1) := by decide +kernel
theorem d_ST_writeInstruction_40 : decode b_ST_writeInstruction 40 = .ok (.istore_n 3, 1) := by decide +kernel
theorem d_ST_writeInstruction_41 : decode b_ST_writeInstruction 41 = .ok (.iload_n 3, 1) := by decide +kernel
theorem d_ST_writeInstruction_42 : decode b_ST_writeInstruction 42 = .ok (.iconst (-1), 1) := by decide +kernel
theorem d_ST_writeInstruction_43 : decode b_ST_writeInstruction 43 = .ok (.if_icmp .eq 15, 3) := by decide +kernel
theorem d_ST_writeInstruction_46 : decode b_ST_writeInstruction 46 = .ok (.aload_n 0, 1) := by decide +kernel
theorem d_ST_writeInstruction_47 : decode b_ST_writeInstruction 47 = .ok (.iload_n 2, 1) := by decide +kernel
theorem d_ST_writeInstruction_48 : decode b_ST_writeInstruction 48 = .ok (.iload_n 3, 1) := by decide +kernel
theorem d_ST_writeInstruction_49 : decode b_ST_writeInstruction 49 = .ok (.aload_n 0, 1) := by decide +kernel
theorem d_ST_writeInstruction_50 : decode b_ST_writeInstruction 50 = .ok (.iload_n 1, 1) := by decide +kernel
theorem d_ST_writeInstruction_51 : decode b_ST_writeInstruction 51 = .ok (.invokevirtual 104, 3) := by decide +kernel
theorem d_ST_writeInstruction_54 : decode b_ST_writeInstruction 54 = .ok (.invokevirtual 63, 3) := by decide +kernel
theorem d_ST_writeInstruction_57 : decode b_ST_writeInstruction 57 = .ok (.istore_n 2, 1) := by decide +kernel
theorem d_ST_writeInstruction_58 : decode b_ST_writeInstruction 58 = .ok (.aload_n 0, 1) := by decide +kernel
theorem d_ST_writeInstruction_59 : decode b_ST_writeInstruction 59 = .ok (.iload_n 1, 1) := by decide +kernel
theorem d_ST_writeInstruction_60 : decode b_ST_writeInstruction 60 = .ok (.invokevirtual 92, 3) := by decide +kernel
theorem d_ST_writeInstruction_63 : decode b_ST_writeInstruction 63 = .ok (.ifCond .eq 9, 3) := by decide +kernel
theorem d_ST_writeInstruction_66 : decode b_ST_writeInstruction 66 = .ok (.aload_n 0, 1) := by decide +kernel
theorem d_ST_writeInstruction_67 : decode b_ST_writeInstruction 67 = .ok (.iload_n 2, 1) := by decide +kernel
theorem d_ST_writeInstruction_68 : decode b_ST_writeInstruction 68 = .ok (.iload_n 1, 1) := by decide +kernel
theorem d_ST_writeInstruction_69 : decode b_ST_writeInstruction 69 = .ok (.invokevirtual 107, 3) := by decide +kernel
theorem d_ST_writeInstruction_72 : decode b_ST_writeInstruction 72 = .ok (.return_, 1) := by decide +kernel
theorem gc_ST_107 : GoodIn gt (wsV R_ST 107 R_ST y_ST_writeEnd ws_ST_writeEnd) := gd_V gw_427 gw_429 gs_25 gw_5 gw_430
theorem gc_ST_104 : GoodIn gt (wsV R_ST 104 R_ST y_ST_ownNumber ws_ST_ownNumber) := gd_V gw_417 gw_419 gs_23 gw_5 gw_420
theorem gc_ST_101 : GoodIn gt (wsV R_ST 101 R_ST y_ST_writeThings ws_ST_writeThings) := gd_V gw_405 gw_407 gs_20 gw_5 gw_408
def b_ST_writeInstruction_58 (x1 x2 : Int32) (σ : SS) : Option (SS) :=
  (f_ST_leavesValue x1 σ).bind fun q1 => (if q1.1 = 0 then some q1.2 else (f_ST_writeEnd x2 x1 q1.2).bind fun σ4 => some σ4)
set_option maxHeartbeats 4000000 in
set_option maxRecDepth 100000 in
theorem k_ST_writeInstruction_58 {p : Program} {l : Launch} {e : Env} {s : State} {m : MethodId} {args : Array Value} {below : List Frame} {meth : Method} {c : Code} {D : va_G} {a t : Nat → Nat} {cI cZ : ClassId} (ha : aCC a) (F : CallFix p m c b_ST_writeInstruction 4 s args gt R_ST) (hr : meth.sig.returnType = none) (hlk : meth.locks = false) (hK : va_K D vwCl [(cI, .int), (cZ, .boolean)] s) (hT : stC t (aC a) s s.heap) :
    ∀ (x1 x2 : Int32) (σ : SS) (q : SS), b_ST_writeInstruction_58 x1 x2 σ = some q → ∀ (H : Heap) (locs : List Loc), va_P D vwCl ((wC a cI cZ) σ) H → va_S (aC a) s.heap H locs → ∀ (ls : Array Slot), lv_has ls 4 [(0, .ref (a 4)), (1, .int x1), (2, .int x2)] → W p l e { frames := 3, cells := 0, slots := 0, locals := 72 } s m args below meth c H locs 0 0 (MQ below (va_Qv (fun u => u = q) (pW D (wC a cI cZ) [(cI, .int), (cZ, .boolean)] (stC t) (aC a)) (aC a)) args s 0 0 (aC a)) (F0 m 58 ls []) := by
  obtain ⟨hx, hb, hml, hown, hg⟩ := id F
  intro x1 x2 σ q hf H locs hP hS ls hl
  unfold b_ST_writeInstruction_58 at hf
  refine lv_aload_n hx hb d_ST_writeInstruction_58 rfl (lv_at hl 0 rfl) ?_
  refine lv_iload_n hx hb d_ST_writeInstruction_59 rfl (lv_at hl 1 rfl) ?_
  refine bdK hf (fun q1 h2 hf => ?_)
  refine rc_Vi (As := [.int x1]) (rest := []) (b := a 4) (stC_g t) F (c_ST_leavesValue l ha x1 σ q1 h2) (cwV 1 hg gc_ST_92 rfl rfl rfl hs_ST_leavesValue ⟨Nat.le_of_ble_eq_true rfl, Nat.le_of_ble_eq_true rfl⟩) hK hT hP hS (va_recv hK hP (ci := 4) (q0 := 4) rfl rfl) rfl hl.1 rfl (Nat.le_of_ble_eq_true rfl) d_ST_writeInstruction_60 ⟨Nat.zero_le _, Nat.zero_le _⟩ (fun H locs hP hS => ?_)
  refine lv_if_eq (tgt := 72) hx hb d_ST_writeInstruction_63 (by decide) (fun c3 => ?_) (fun c3 => ?_)
  · replace hf := (if_pos c3).symm.trans hf
    exact rr_v hx hb hr hlk (stC_g t) hK hT hP hS hf d_ST_writeInstruction_72
  · replace hf := (if_neg c3).symm.trans hf
    refine lv_aload_n hx hb d_ST_writeInstruction_66 rfl (lv_at hl 0 rfl) ?_
    refine lv_iload_n hx hb d_ST_writeInstruction_67 rfl (lv_at hl 2 rfl) ?_
    refine lv_iload_n hx hb d_ST_writeInstruction_68 rfl (lv_at hl 1 rfl) ?_
    refine bdK hf (fun σ4 h5 hf => ?_)
    refine rc_Vv (As := [.int x2, .int x1]) (rest := []) (b := a 4) (stC_g t) F (c_ST_writeEnd l ha x2 x1 q1.2 σ4 h5) (cwV 2 hg gc_ST_107 rfl rfl rfl hs_ST_writeEnd ⟨Nat.le_of_ble_eq_true rfl, Nat.le_of_ble_eq_true rfl⟩) hK hT hP hS (va_recv hK hP (ci := 4) (q0 := 4) rfl rfl) rfl hl.1 rfl (Nat.le_of_ble_eq_true rfl) d_ST_writeInstruction_69 ⟨Nat.zero_le _, Nat.zero_le _⟩ (fun H locs hP hS => ?_)
    exact rr_v hx hb hr hlk (stC_g t) hK hT hP hS hf d_ST_writeInstruction_72
def b_ST_writeInstruction_28 (x1 x2 : Int32) (σ : SS) : Option (SS) :=
  (f_RC_operationOf x1 σ).bind fun q1 => (ld tbC3 12 q1.1).bind fun v3 => (if v3 = (-1 : Int32) then b_ST_writeInstruction_58 x1 x2 q1.2 else (f_ST_ownNumber x1 q1.2).bind fun q6 => (f_ST_write x2 v3 q6.1 q6.2).bind fun q8 => b_ST_writeInstruction_58 x1 q8.1 q8.2)
set_option maxHeartbeats 4000000 in
set_option maxRecDepth 100000 in
theorem k_ST_writeInstruction_28 {p : Program} {l : Launch} {e : Env} {s : State} {m : MethodId} {args : Array Value} {below : List Frame} {meth : Method} {c : Code} {D : va_G} {a t : Nat → Nat} {cI cZ : ClassId} (ha : aCC a) (F : CallFix p m c b_ST_writeInstruction 4 s args gt R_ST) (hr : meth.sig.returnType = none) (hlk : meth.locks = false) (hK : va_K D vwCl [(cI, .int), (cZ, .boolean)] s) (hT : stC t (aC a) s s.heap) :
    ∀ (x1 x2 : Int32) (σ : SS) (q : SS), b_ST_writeInstruction_28 x1 x2 σ = some q → ∀ (H : Heap) (locs : List Loc), va_P D vwCl ((wC a cI cZ) σ) H → va_S (aC a) s.heap H locs → ∀ (ls : Array Slot), lv_has ls 4 [(0, .ref (a 4)), (1, .int x1), (2, .int x2)] → W p l e { frames := 3, cells := 0, slots := 0, locals := 72 } s m args below meth c H locs 0 0 (MQ below (va_Qv (fun u => u = q) (pW D (wC a cI cZ) [(cI, .int), (cZ, .boolean)] (stC t) (aC a)) (aC a)) args s 0 0 (aC a)) (F0 m 28 ls []) := by
  obtain ⟨hx, hb, hml, hown, hg⟩ := id F
  intro x1 x2 σ q hf H locs hP hS ls hl
  unfold b_ST_writeInstruction_28 at hf
  refine va_gets hx hb hT.2.2.2.2.2.2.1 hS hown (hg _ gw_390) (fun _ h9 => h9) d_ST_writeInstruction_28 ?_
  refine lv_aload_n hx hb d_ST_writeInstruction_31 rfl (lv_at hl 0 rfl) ?_
  refine va_get (D := D) (ci := 4) (v := .ref (a 1)) (C := R_ST) (T := T_ST) (N := 9) hx hb hg in_ST hown hK hP 4 rfl rfl 0 (by decide) (hg _ gw_109) (fun _ h9 => h9) rfl d_ST_writeInstruction_32 ?_
  refine lv_iload_n hx hb d_ST_writeInstruction_35 rfl (lv_at hl 1 rfl) ?_
  refine bdK hf (fun q1 h2 hf => ?_)
  refine rc_Vi (As := [.int x1]) (rest := [.ref (t 3)]) (b := a 1) (stC_g t) F (c_RC_operationOf l ha x1 σ q1 h2) (cwV 1 hg gc_ST_89 rfl rfl rfl hs_RC_operationOf ⟨Nat.le_of_ble_eq_true rfl, Nat.le_of_ble_eq_true rfl⟩) hK hT hP hS (va_recv hK hP (ci := 1) (q0 := 1) rfl rfl) rfl hl.1 rfl (Nat.le_of_ble_eq_true rfl) d_ST_writeInstruction_36 ⟨Nat.zero_le _, Nat.zero_le _⟩ (fun H locs hP hS => ?_)
  refine bdK hf (fun v3 h4 hf => ?_)
  refine r_ti hx hb hT.2.2.2.2.2.2.2 hS h4 d_ST_writeInstruction_39 ?_
  refine lv_istore_n (lv' := [(3, .int v3), (0, .ref (a 4)), (1, .int x1), (2, .int x2)]) hx hb d_ST_writeInstruction_40 rfl hl (by decide) rfl (fun ls hl => ?_)
  refine lv_iload_n hx hb d_ST_writeInstruction_41 rfl (lv_at hl 0 rfl) ?_
  refine lv_iconst (v := (-1 : Int32)) hx hb d_ST_writeInstruction_42 (by decide) ?_
  refine lv_icmp_eq (tgt := 58) hx hb d_ST_writeInstruction_43 (by decide) (fun c5 => ?_) (fun c5 => ?_)
  · replace hf := (if_pos c5).symm.trans hf
    exact k_ST_writeInstruction_58 ha F hr hlk hK hT x1 x2 q1.2 q hf _ _ hP hS ls (lv_sub hl [1, 2, 3] rfl)
  · replace hf := (if_neg c5).symm.trans hf
    refine lv_aload_n hx hb d_ST_writeInstruction_46 rfl (lv_at hl 1 rfl) ?_
    refine lv_iload_n hx hb d_ST_writeInstruction_47 rfl (lv_at hl 3 rfl) ?_
    refine lv_iload_n hx hb d_ST_writeInstruction_48 rfl (lv_at hl 0 rfl) ?_
    refine lv_aload_n hx hb d_ST_writeInstruction_49 rfl (lv_at hl 1 rfl) ?_
    refine lv_iload_n hx hb d_ST_writeInstruction_50 rfl (lv_at hl 2 rfl) ?_
    refine bdK hf (fun q6 h7 hf => ?_)
    refine rc_Vi (As := [.int x1]) (rest := [.int v3, .int x2, .ref (a 4)]) (b := a 4) (stC_g t) F (c_ST_ownNumber l ha x1 q1.2 q6 h7) (cwV 1 hg gc_ST_104 rfl rfl rfl hs_ST_ownNumber ⟨Nat.le_of_ble_eq_true rfl, Nat.le_of_ble_eq_true rfl⟩) hK hT hP hS (va_recv hK hP (ci := 4) (q0 := 4) rfl rfl) rfl hl.1 rfl (Nat.le_of_ble_eq_true rfl) d_ST_writeInstruction_51 ⟨Nat.zero_le _, Nat.zero_le _⟩ (fun H locs hP hS => ?_)
    refine bdK hf (fun q8 h9 hf => ?_)
    refine rc_Vi (As := [.int x2, .int v3, .int q6.1]) (rest := []) (b := a 4) (stC_g t) F (c_ST_write l ha x2 v3 q6.1 q6.2 q8 h9) (cwV 3 hg gc_ST_63 rfl rfl rfl hs_ST_write ⟨Nat.le_of_ble_eq_true rfl, Nat.le_of_ble_eq_true rfl⟩) hK hT hP hS (va_recv hK hP (ci := 4) (q0 := 4) rfl rfl) rfl hl.1 rfl (Nat.le_of_ble_eq_true rfl) d_ST_writeInstruction_54 ⟨Nat.zero_le _, Nat.zero_le _⟩ (fun H locs hP hS => ?_)
    refine lv_istore_n (lv' := [(2, .int q8.1), (3, .int v3), (0, .ref (a 4)), (1, .int x1)]) hx hb d_ST_writeInstruction_57 rfl hl (by decide) rfl (fun ls hl => ?_)
    exact k_ST_writeInstruction_58 ha F hr hlk hK hT x1 q8.1 q8.2 q hf _ _ hP hS ls (lv_sub hl [2, 3, 0] rfl)
def f_ST_writeInstruction (x1 : Int32) (σ : SS) : Option (SS) :=
  (ld (σ 19) 40 x1).bind fun v1 => (f_ST_writeThings v1 x1 σ).bind fun q3 => (f_ST_needsSwap x1 q3.2).bind fun q5 => (if q5.1 = 0 then b_ST_writeInstruction_28 x1 q3.1 q5.2 else (f_ST_write q3.1 (4 : Int32) (0 : Int32) q5.2).bind fun q8 => b_ST_writeInstruction_28 x1 q8.1 q8.2)
set_option maxHeartbeats 4000000 in
set_option maxRecDepth 100000 in
theorem e_ST_writeInstruction {p : Program} {l : Launch} {e : Env} {s : State} {m : MethodId} {args : Array Value} {below : List Frame} {meth : Method} {c : Code} {D : va_G} {a t : Nat → Nat} {cI cZ : ClassId} (ha : aCC a) (F : CallFix p m c b_ST_writeInstruction 4 s args gt R_ST) (hr : meth.sig.returnType = none) (hlk : meth.locks = false) (hK : va_K D vwCl [(cI, .int), (cZ, .boolean)] s) (hT : stC t (aC a) s s.heap) :
    ∀ (x1 : Int32) (σ : SS) (q : SS), f_ST_writeInstruction x1 σ = some q → ∀ (H : Heap) (locs : List Loc), va_P D vwCl ((wC a cI cZ) σ) H → va_S (aC a) s.heap H locs → ∀ (ls : Array Slot), lv_has ls 4 [(0, .ref (a 4)), (1, .int x1)] → W p l e { frames := 3, cells := 0, slots := 0, locals := 72 } s m args below meth c H locs 0 0 (MQ below (va_Qv (fun u => u = q) (pW D (wC a cI cZ) [(cI, .int), (cZ, .boolean)] (stC t) (aC a)) (aC a)) args s 0 0 (aC a)) (F0 m 0 ls []) := by
  obtain ⟨hx, hb, hml, hown, hg⟩ := id F
  intro x1 σ q hf H locs hP hS ls hl
  unfold f_ST_writeInstruction at hf
  refine lv_aload_n hx hb d_ST_writeInstruction_0 rfl (lv_at hl 0 rfl) ?_
  refine lv_aload_n hx hb d_ST_writeInstruction_1 rfl (lv_at hl 0 rfl) ?_
  refine va_get (D := D) (ci := 4) (v := .ref (a 25)) (C := R_ST) (T := T_ST) (N := 9) hx hb hg in_ST hown hK hP 4 rfl rfl 6 (by decide) (hg _ gw_115) (fun _ h9 => h9) rfl d_ST_writeInstruction_2 ?_
  refine lv_iload_n hx hb d_ST_writeInstruction_5 rfl (lv_at hl 1 rfl) ?_
  refine bdK hf (fun v1 h2 hf => ?_)
  refine r_iald hx hb hK hP 25 0 rfl rfl h2 d_ST_writeInstruction_6 ?_
  refine lv_iload_n hx hb d_ST_writeInstruction_7 rfl (lv_at hl 1 rfl) ?_
  refine bdK hf (fun q3 h4 hf => ?_)
  refine rc_Vi (As := [.int v1, .int x1]) (rest := []) (b := a 4) (stC_g t) F (c_ST_writeThings l ha v1 x1 σ q3 h4) (cwV 2 hg gc_ST_101 rfl rfl rfl hs_ST_writeThings ⟨Nat.le_of_ble_eq_true rfl, Nat.le_of_ble_eq_true rfl⟩) hK hT hP hS (va_recv hK hP (ci := 4) (q0 := 4) rfl rfl) rfl hl.1 rfl (Nat.le_of_ble_eq_true rfl) d_ST_writeInstruction_8 ⟨Nat.zero_le _, Nat.zero_le _⟩ (fun H locs hP hS => ?_)
  refine lv_istore_n (lv' := [(2, .int q3.1), (0, .ref (a 4)), (1, .int x1)]) hx hb d_ST_writeInstruction_11 rfl hl (by decide) rfl (fun ls hl => ?_)
  refine lv_aload_n hx hb d_ST_writeInstruction_12 rfl (lv_at hl 1 rfl) ?_
  refine lv_iload_n hx hb d_ST_writeInstruction_13 rfl (lv_at hl 2 rfl) ?_
  refine bdK hf (fun q5 h6 hf => ?_)
  refine rc_Vi (As := [.int x1]) (rest := []) (b := a 4) (stC_g t) F (c_ST_needsSwap l ha x1 q3.2 q5 h6) (cwV 1 hg gc_ST_83 rfl rfl rfl hs_ST_needsSwap ⟨Nat.le_of_ble_eq_true rfl, Nat.le_of_ble_eq_true rfl⟩) hK hT hP hS (va_recv hK hP (ci := 4) (q0 := 4) rfl rfl) rfl hl.1 rfl (Nat.le_of_ble_eq_true rfl) d_ST_writeInstruction_14 ⟨Nat.zero_le _, Nat.zero_le _⟩ (fun H locs hP hS => ?_)
  refine lv_if_eq (tgt := 28) hx hb d_ST_writeInstruction_17 (by decide) (fun c7 => ?_) (fun c7 => ?_)
  · replace hf := (if_pos c7).symm.trans hf
    exact k_ST_writeInstruction_28 ha F hr hlk hK hT x1 q3.1 q5.2 q hf _ _ hP hS ls (lv_sub hl [1, 2, 0] rfl)
  · replace hf := (if_neg c7).symm.trans hf
    refine lv_aload_n hx hb d_ST_writeInstruction_20 rfl (lv_at hl 1 rfl) ?_
    refine lv_iload_n hx hb d_ST_writeInstruction_21 rfl (lv_at hl 0 rfl) ?_
    refine lv_iconst (v := (4 : Int32)) hx hb d_ST_writeInstruction_22 (by decide) ?_
    refine lv_iconst (v := (0 : Int32)) hx hb d_ST_writeInstruction_23 (by decide) ?_
    refine bdK hf (fun q8 h9 hf => ?_)
    refine rc_Vi (As := [.int q3.1, .int (4 : Int32), .int (0 : Int32)]) (rest := []) (b := a 4) (stC_g t) F (c_ST_write l ha q3.1 (4 : Int32) (0 : Int32) q5.2 q8 h9) (cwV 3 hg gc_ST_63 rfl rfl rfl hs_ST_write ⟨Nat.le_of_ble_eq_true rfl, Nat.le_of_ble_eq_true rfl⟩) hK hT hP hS (va_recv hK hP (ci := 4) (q0 := 4) rfl rfl) rfl hl.1 rfl (Nat.le_of_ble_eq_true rfl) d_ST_writeInstruction_24 ⟨Nat.zero_le _, Nat.zero_le _⟩ (fun H locs hP hS => ?_)
    refine lv_istore_n (lv' := [(2, .int q8.1), (0, .ref (a 4)), (1, .int x1)]) hx hb d_ST_writeInstruction_27 rfl hl (by decide) rfl (fun ls hl => ?_)
    exact k_ST_writeInstruction_28 ha F hr hlk hK hT x1 q8.1 q8.2 q hf _ _ hP hS ls (lv_sub hl [1, 2, 0] rfl)
set_option maxHeartbeats 4000000 in
set_option maxRecDepth 100000 in
theorem c_ST_writeInstruction (l : Launch) {D : va_G} {a t : Nat → Nat} {cI cZ : ClassId} (ha : aCC a) (x1 : Int32) (σ : SS) (q : SS) (hf : f_ST_writeInstruction x1 σ = some q) : Met l y_ST_writeInstruction ws_ST_writeInstruction { frames := 3, cells := 0, slots := 0, locals := 72 } (va_Pc [.ref (a 4), .int x1] (pW D (wC a cI cZ) [(cI, .int), (cZ, .boolean)] (stC t) (aC a) σ)) (va_Qv (fun u => u = q) (pW D (wC a cI cZ) [(cI, .int), (cZ, .boolean)] (stC t) (aC a)) (aC a)) 0 0 (aC a) := by
  refine Met.ofW (cc := b_ST_writeInstruction) (maxL := 4) (ret := none) (by decide) rfl ?_
  intro p e s m args below meth c s₁ B hml hv
  obtain ⟨rfl, hP, hK, hT⟩ := hv
  have hl := lv_entry ([.ref (a 4), .int x1]) (n := 4) (Nat.le_of_ble_eq_true rfl)
  rw [lg_entry_eq]
  generalize (lg_sl ([.ref (a 4), .int x1]) ++ List.replicate (4 - (lg_sl ([.ref (a 4), .int x1])).length) Slot.unset).toArray = ls at hl ⊢
  exact e_ST_writeInstruction ha ⟨B.exec, B.bytes, hml, findClass_of_methodNamed B.named, fun w h => atoms_spec (ws := ws_ST_writeInstruction) B.pre w (List.mem_cons_of_mem _ h)⟩ B.returns B.notSynchronized hK hT x1 σ q hf s.heap [] hP va_S.rf ls hl
theorem d_ST_layOut_0 : decode b_ST_layOut 0 = .ok (.aload_n 0, 1) := by decide +kernel
theorem d_ST_layOut_1 : decode b_ST_layOut 1 = .ok (.iconst 0, 1) := by decide +kernel
theorem d_ST_layOut_2 : decode b_ST_layOut 2 = .ok (.putfield 36, 3) := by decide +kernel
theorem d_ST_layOut_5 : decode b_ST_layOut 5 = .ok (.aload_n 0, 1) := by decide +kernel
theorem d_ST_layOut_6 : decode b_ST_layOut 6 = .ok (.iconst 0, 1) := by decide +kernel
theorem d_ST_layOut_7 : decode b_ST_layOut 7 = .ok (.putfield 40, 3) := by decide +kernel
theorem d_ST_layOut_10 : decode b_ST_layOut 10 = .ok (.iconst 0, 1) := by decide +kernel
theorem d_ST_layOut_11 : decode b_ST_layOut 11 = .ok (.istore_n 1, 1) := by decide +kernel
theorem d_ST_layOut_12 : decode b_ST_layOut 12 = .ok (.iload_n 1, 1) := by decide +kernel
theorem d_ST_layOut_13 : decode b_ST_layOut 13 = .ok (.aload_n 0, 1) := by decide +kernel
theorem d_ST_layOut_14 : decode b_ST_layOut 14 = .ok (.getfield 24, 3) := by decide +kernel
theorem d_ST_layOut_17 : decode b_ST_layOut 17 = .ok (.invokevirtual 43, 3) := by decide +kernel
theorem d_ST_layOut_20 : decode b_ST_layOut 20 = .ok (.if_icmp .ge 56, 3) := by decide +kernel
theorem d_ST_layOut_23 : decode b_ST_layOut 23 = .ok (.aload_n 0, 1) := by decide +kernel
theorem d_ST_layOut_24 : decode b_ST_layOut 24 = .ok (.getfield 18, 3) := by decide +kernel
theorem d_ST_layOut_27 : decode b_ST_layOut 27 = .ok (.iload_n 1, 1) := by decide +kernel
theorem d_ST_layOut_28 : decode b_ST_layOut 28 = .ok (.aload_n 0, 1) := by decide +kernel
theorem d_ST_layOut_29 : decode b_ST_layOut 29 = .ok (.iload_n 1, 1) := by decide +kernel
theorem d_ST_layOut_30 : decode b_ST_layOut 30 = .ok (.invokevirtual 49, 3) := by decide +kernel
theorem d_ST_layOut_33 : decode b_ST_layOut 33 = .ok (.iastore, 1) := by decide +kernel
theorem d_ST_layOut_34 : decode b_ST_layOut 34 = .ok (.aload_n 0, 1) := by decide +kernel
theorem d_ST_layOut_35 : decode b_ST_layOut 35 = .ok (.getfield 32, 3) := by decide +kernel
theorem d_ST_layOut_38 : decode b_ST_layOut 38 = .ok (.iload_n 1, 1) := by decide +kernel
theorem d_ST_layOut_39 : decode b_ST_layOut 39 = .ok (.invokevirtual 53, 3) := by decide +kernel
theorem d_ST_layOut_42 : decode b_ST_layOut 42 = .ok (.ifCond .ne 28, 3) := by decide +kernel
theorem d_ST_layOut_45 : decode b_ST_layOut 45 = .ok (.aload_n 0, 1) := by decide +kernel
theorem d_ST_layOut_46 : decode b_ST_layOut 46 = .ok (.getfield 21, 3) := by decide +kernel
theorem d_ST_layOut_49 : decode b_ST_layOut 49 = .ok (.iload_n 1, 1) := by decide +kernel
theorem d_ST_layOut_50 : decode b_ST_layOut 50 = .ok (.aload_n 0, 1) := by decide +kernel
theorem d_ST_layOut_51 : decode b_ST_layOut 51 = .ok (.getfield 36, 3) := by decide +kernel
theorem d_ST_layOut_54 : decode b_ST_layOut 54 = .ok (.iastore, 1) := by decide +kernel
theorem d_ST_layOut_55 : decode b_ST_layOut 55 = .ok (.aload_n 0, 1) := by decide +kernel
theorem d_ST_layOut_56 : decode b_ST_layOut 56 = .ok (.dup, 1) := by decide +kernel
theorem d_ST_layOut_57 : decode b_ST_layOut 57 = .ok (.getfield 36, 3) := by decide +kernel
theorem d_ST_layOut_60 : decode b_ST_layOut 60 = .ok (.aload_n 0, 1) := by decide +kernel
theorem d_ST_layOut_61 : decode b_ST_layOut 61 = .ok (.getfield 18, 3) := by decide +kernel
theorem d_ST_layOut_64 : decode b_ST_layOut 64 = .ok (.iload_n 1, 1) := by decide +kernel
theorem d_ST_layOut_65 : decode b_ST_layOut 65 = .ok (.iaload, 1) := by decide +kernel
theorem d_ST_layOut_66 : decode b_ST_layOut 66 = .ok (.iadd, 1) := by decide +kernel
theorem d_ST_layOut_67 : decode b_ST_layOut 67 = .ok (.putfield 36, 3) := by decide +kernel
theorem d_ST_layOut_70 : decode b_ST_layOut 70 = .ok (.iinc 1 1, 3) := by decide +kernel
theorem d_ST_layOut_73 : decode b_ST_layOut 73 = .ok (.goto (-61), 3) := by decide +kernel
theorem d_ST_layOut_76 : decode b_ST_layOut 76 = .ok (.aload_n 0, 1) := by decide +kernel
theorem d_ST_layOut_77 : decode b_ST_layOut 77 = .ok (.getfield 24, 3) := by decide +kernel
theorem d_ST_layOut_80 : decode b_ST_layOut 80 = .ok (.invokevirtual 43, 3) := by decide +kernel
theorem d_ST_layOut_83 : decode b_ST_layOut 83 = .ok (.iconst 1, 1) := by decide +kernel
theorem d_ST_layOut_84 : decode b_ST_layOut 84 = .ok (.isub, 1) := by decide +kernel
theorem d_ST_layOut_85 : decode b_ST_layOut 85 = .ok (.istore_n 1, 1) := by decide +kernel
theorem d_ST_layOut_86 : decode b_ST_layOut 86 = .ok (.iload_n 1, 1) := by decide +kernel
theorem d_ST_layOut_87 : decode b_ST_layOut 87 = .ok (.ifCond .lt 14, 3) := by decide +kernel
theorem d_ST_layOut_90 : decode b_ST_layOut 90 = .ok (.aload_n 0, 1) := by decide +kernel
theorem d_ST_layOut_91 : decode b_ST_layOut 91 = .ok (.iload_n 1, 1) := by decide +kernel
theorem d_ST_layOut_92 : decode b_ST_layOut 92 = .ok (.invokevirtual 59, 3) := by decide +kernel
theorem d_ST_layOut_95 : decode b_ST_layOut 95 = .ok (.iinc 1 (-1), 3) := by decide +kernel
theorem d_ST_layOut_98 : decode b_ST_layOut 98 = .ok (.goto (-12), 3) := by decide +kernel
theorem d_ST_layOut_101 : decode b_ST_layOut 101 = .ok (.aload_n 0, 1) := by decide +kernel
theorem d_ST_layOut_102 : decode b_ST_layOut 102 = .ok (.aload_n 0, 1) := by decide +kernel
theorem d_ST_layOut_103 : decode b_ST_layOut 103 = .ok (.getfield 36, 3) := by decide +kernel
theorem d_ST_layOut_106 : decode b_ST_layOut 106 = .ok (.bipush 14, 2) := by decide +kernel
theorem d_ST_layOut_108 : decode b_ST_layOut 108 = .ok (.iconst 0, 1) := by decide +kernel
theorem d_ST_layOut_109 : decode b_ST_layOut 109 = .ok (.invokevirtual 63, 3) := by decide +kernel
theorem d_ST_layOut_112 : decode b_ST_layOut 112 = .ok (.pop, 1) := by decide +kernel
theorem d_ST_layOut_113 : decode b_ST_layOut 113 = .ok (.return_, 1) := by decide +kernel
theorem gc_ST_59 : GoodIn gt (wsV R_ST 59 R_ST y_ST_writeInstruction ws_ST_writeInstruction) := gd_V gw_401 gw_403 gs_19 gw_5 gw_404
theorem gc_ST_49 : GoodIn gt (wsV R_ST 49 R_ST y_ST_widthOf ws_ST_widthOf) := gd_V gw_363 gw_365 gs_15 gw_5 gw_366
def b_ST_layOut_86 : Nat → Int32 → SS → Option (SS)
  | 0, _, _ => none
  | n + 1, x1, σ =>
    (if x1 < 0 then (f_ST_write (σ 27 0) (14 : Int32) (0 : Int32) σ).bind fun q2 => some q2.2 else (f_ST_writeInstruction x1 σ).bind fun σ4 => b_ST_layOut_86 n (x1 + (-1 : Int32)) σ4)
set_option maxHeartbeats 4000000 in
set_option maxRecDepth 100000 in
theorem k_ST_layOut_86 {p : Program} {l : Launch} {e : Env} {s : State} {m : MethodId} {args : Array Value} {below : List Frame} {meth : Method} {c : Code} {D : va_G} {a t : Nat → Nat} {cI cZ : ClassId} (ha : aCC a) (F : CallFix p m c b_ST_layOut 2 s args gt R_ST) (hr : meth.sig.returnType = none) (hlk : meth.locks = false) (hK : va_K D vwCl [(cI, .int), (cZ, .boolean)] s) (hT : stC t (aC a) s s.heap) :
    ∀ (n : Nat) (x1 : Int32) (σ : SS) (q : SS), b_ST_layOut_86 n x1 σ = some q → ∀ (H : Heap) (locs : List Loc), va_P D vwCl ((wC a cI cZ) σ) H → va_S (aC a) s.heap H locs → ∀ (ls : Array Slot), lv_has ls 2 [(0, .ref (a 4)), (1, .int x1)] → W p l e { frames := 4, cells := 0, slots := 0, locals := 95 } s m args below meth c H locs 0 0 (MQ below (va_Qv (fun u => u = q) (pW D (wC a cI cZ) [(cI, .int), (cZ, .boolean)] (stC t) (aC a)) (aC a)) args s 0 0 (aC a)) (F0 m 86 ls []) := by
  obtain ⟨hx, hb, hml, hown, hg⟩ := id F
  intro n
  induction n with
  | zero =>
    intro x1 σ q hf
    rw [b_ST_layOut_86] at hf
    cases hf
  | succ n ih =>
    intro x1 σ q hf H locs hP hS ls hl
    rw [b_ST_layOut_86] at hf
    refine lv_iload_n hx hb d_ST_layOut_86 rfl (lv_at hl 1 rfl) ?_
    refine lv_if_lt (tgt := 101) hx hb d_ST_layOut_87 (by decide) (fun c1 => ?_) (fun c1 => ?_)
    · replace hf := (if_pos c1).symm.trans hf
      refine lv_aload_n hx hb d_ST_layOut_101 rfl (lv_at hl 0 rfl) ?_
      refine lv_aload_n hx hb d_ST_layOut_102 rfl (lv_at hl 0 rfl) ?_
      refine va_get (D := D) (ci := 4) (v := .int (σ 27 0)) (C := R_ST) (T := T_ST) (N := 9) hx hb hg in_ST hown hK hP 4 rfl rfl 7 (by decide) (hg _ gw_116) (fun _ h9 => h9) rfl d_ST_layOut_103 ?_
      refine lv_bipush (v := (14 : Int32)) hx hb d_ST_layOut_106 (by decide) ?_
      refine lv_iconst (v := (0 : Int32)) hx hb d_ST_layOut_108 (by decide) ?_
      refine bdK hf (fun q2 h3 hf => ?_)
      refine rc_Vi (As := [.int (σ 27 0), .int (14 : Int32), .int (0 : Int32)]) (rest := []) (b := a 4) (stC_g t) F (c_ST_write l ha (σ 27 0) (14 : Int32) (0 : Int32) σ q2 h3) (cwV 3 hg gc_ST_63 rfl rfl rfl hs_ST_write ⟨Nat.le_of_ble_eq_true rfl, Nat.le_of_ble_eq_true rfl⟩) hK hT hP hS (va_recv hK hP (ci := 4) (q0 := 4) rfl rfl) rfl hl.1 rfl (Nat.le_of_ble_eq_true rfl) d_ST_layOut_109 ⟨Nat.zero_le _, Nat.zero_le _⟩ (fun H locs hP hS => ?_)
      refine lv_pop hx hb d_ST_layOut_112 rfl ?_
      exact rr_v hx hb hr hlk (stC_g t) hK hT hP hS hf d_ST_layOut_113
    · replace hf := (if_neg c1).symm.trans hf
      refine lv_aload_n hx hb d_ST_layOut_90 rfl (lv_at hl 0 rfl) ?_
      refine lv_iload_n hx hb d_ST_layOut_91 rfl (lv_at hl 1 rfl) ?_
      refine bdK hf (fun σ4 h5 hf => ?_)
      refine rc_Vv (As := [.int x1]) (rest := []) (b := a 4) (stC_g t) F (c_ST_writeInstruction l ha x1 σ σ4 h5) (cwV 1 hg gc_ST_59 rfl rfl rfl hs_ST_writeInstruction ⟨Nat.le_of_ble_eq_true rfl, Nat.le_of_ble_eq_true rfl⟩) hK hT hP hS (va_recv hK hP (ci := 4) (q0 := 4) rfl rfl) rfl hl.1 rfl (Nat.le_of_ble_eq_true rfl) d_ST_layOut_92 ⟨Nat.zero_le _, Nat.zero_le _⟩ (fun H locs hP hS => ?_)
      refine lv_iinc (v := (x1 + (-1 : Int32))) (lv' := [(1, .int (x1 + (-1 : Int32))), (0, .ref (a 4))]) hx hb d_ST_layOut_95 hl (k := 1) rfl (by rfl) (by decide) rfl (fun ls hl => ?_)
      refine lv_goto (tgt := 86) hx hb d_ST_layOut_98 (by decide) ?_
      exact ih (x1 + (-1 : Int32)) σ4 q hf _ _ hP hS ls (lv_sub hl [1, 0] rfl)
def b_ST_layOut_12 : Nat → Int32 → SS → Option (SS)
  | 0, _, _ => none
  | n + 1, x1, σ =>
    (f_RC_count σ).bind fun q1 => (if q1.1 ≤ x1 then (f_RC_count q1.2).bind fun q4 => b_ST_layOut_86 FU (q4.1 - (1 : Int32)) q4.2 else (f_ST_widthOf x1 q1.2).bind fun q6 => (sto q6.2 18 40 x1 q6.1).bind fun σ8 => (f_CA_isCarried x1 σ8).bind fun q10 => (if q10.1 = 0 then (sto q10.2 19 40 x1 (q10.2 27 0)).bind fun σ13 => (ld (σ13 18) 40 x1).bind fun v15 => (sf σ13 27 ((σ13 27 0) + v15)).bind fun σ17 => b_ST_layOut_12 n (x1 + (1 : Int32)) σ17 else b_ST_layOut_12 n (x1 + (1 : Int32)) q10.2))
set_option maxHeartbeats 4000000 in
set_option maxRecDepth 100000 in
theorem k_ST_layOut_12 {p : Program} {l : Launch} {e : Env} {s : State} {m : MethodId} {args : Array Value} {below : List Frame} {meth : Method} {c : Code} {D : va_G} {a t : Nat → Nat} {cI cZ : ClassId} (ha : aCC a) (F : CallFix p m c b_ST_layOut 2 s args gt R_ST) (hr : meth.sig.returnType = none) (hlk : meth.locks = false) (hK : va_K D vwCl [(cI, .int), (cZ, .boolean)] s) (hT : stC t (aC a) s s.heap) :
    ∀ (n : Nat) (x1 : Int32) (σ : SS) (q : SS), b_ST_layOut_12 n x1 σ = some q → ∀ (H : Heap) (locs : List Loc), va_P D vwCl ((wC a cI cZ) σ) H → va_S (aC a) s.heap H locs → ∀ (ls : Array Slot), lv_has ls 2 [(0, .ref (a 4)), (1, .int x1)] → W p l e { frames := 4, cells := 0, slots := 0, locals := 95 } s m args below meth c H locs 0 0 (MQ below (va_Qv (fun u => u = q) (pW D (wC a cI cZ) [(cI, .int), (cZ, .boolean)] (stC t) (aC a)) (aC a)) args s 0 0 (aC a)) (F0 m 12 ls []) := by
  obtain ⟨hx, hb, hml, hown, hg⟩ := id F
  intro n
  induction n with
  | zero =>
    intro x1 σ q hf
    rw [b_ST_layOut_12] at hf
    cases hf
  | succ n ih =>
    intro x1 σ q hf H locs hP hS ls hl
    rw [b_ST_layOut_12] at hf
    refine lv_iload_n hx hb d_ST_layOut_12 rfl (lv_at hl 1 rfl) ?_
    refine lv_aload_n hx hb d_ST_layOut_13 rfl (lv_at hl 0 rfl) ?_
    refine va_get (D := D) (ci := 4) (v := .ref (a 1)) (C := R_ST) (T := T_ST) (N := 9) hx hb hg in_ST hown hK hP 4 rfl rfl 0 (by decide) (hg _ gw_109) (fun _ h9 => h9) rfl d_ST_layOut_14 ?_
    refine bdK hf (fun q1 h2 hf => ?_)
    refine rc_Vi (As := []) (rest := [.int x1]) (b := a 1) (stC_g t) F (c_RC_count l ha σ q1 h2) (cwV 0 hg gc_ST_43 rfl rfl rfl hs_RC_count ⟨Nat.le_of_ble_eq_true rfl, Nat.le_of_ble_eq_true rfl⟩) hK hT hP hS (va_recv hK hP (ci := 1) (q0 := 1) rfl rfl) rfl hl.1 rfl (Nat.le_of_ble_eq_true rfl) d_ST_layOut_17 ⟨Nat.zero_le _, Nat.zero_le _⟩ (fun H locs hP hS => ?_)
    refine lv_icmp_ge (tgt := 76) hx hb d_ST_layOut_20 (by decide) (fun c3 => ?_) (fun c3 => ?_)
    · replace hf := (if_pos c3).symm.trans hf
      refine lv_aload_n hx hb d_ST_layOut_76 rfl (lv_at hl 0 rfl) ?_
      refine va_get (D := D) (ci := 4) (v := .ref (a 1)) (C := R_ST) (T := T_ST) (N := 9) hx hb hg in_ST hown hK hP 4 rfl rfl 0 (by decide) (hg _ gw_109) (fun _ h9 => h9) rfl d_ST_layOut_77 ?_
      refine bdK hf (fun q4 h5 hf => ?_)
      refine rc_Vi (As := []) (rest := []) (b := a 1) (stC_g t) F (c_RC_count l ha q1.2 q4 h5) (cwV 0 hg gc_ST_43 rfl rfl rfl hs_RC_count ⟨Nat.le_of_ble_eq_true rfl, Nat.le_of_ble_eq_true rfl⟩) hK hT hP hS (va_recv hK hP (ci := 1) (q0 := 1) rfl rfl) rfl hl.1 rfl (Nat.le_of_ble_eq_true rfl) d_ST_layOut_80 ⟨Nat.zero_le _, Nat.zero_le _⟩ (fun H locs hP hS => ?_)
      refine lv_iconst (v := (1 : Int32)) hx hb d_ST_layOut_83 (by decide) ?_
      refine lv_isub hx hb d_ST_layOut_84 ?_
      refine lv_istore_n (lv' := [(1, .int (q4.1 - (1 : Int32))), (0, .ref (a 4))]) hx hb d_ST_layOut_85 rfl hl (by decide) rfl (fun ls hl => ?_)
      exact k_ST_layOut_86 ha F hr hlk hK hT FU (q4.1 - (1 : Int32)) q4.2 q hf _ _ hP hS ls (lv_sub hl [1, 0] rfl)
    · replace hf := (if_neg c3).symm.trans hf
      refine lv_aload_n hx hb d_ST_layOut_23 rfl (lv_at hl 0 rfl) ?_
      refine va_get (D := D) (ci := 4) (v := .ref (a 24)) (C := R_ST) (T := T_ST) (N := 9) hx hb hg in_ST hown hK hP 4 rfl rfl 5 (by decide) (hg _ gw_114) (fun _ h9 => h9) rfl d_ST_layOut_24 ?_
      refine lv_iload_n hx hb d_ST_layOut_27 rfl (lv_at hl 1 rfl) ?_
      refine lv_aload_n hx hb d_ST_layOut_28 rfl (lv_at hl 0 rfl) ?_
      refine lv_iload_n hx hb d_ST_layOut_29 rfl (lv_at hl 1 rfl) ?_
      refine bdK hf (fun q6 h7 hf => ?_)
      refine rc_Vi (As := [.int x1]) (rest := [.int x1, .ref (a 24)]) (b := a 4) (stC_g t) F (c_ST_widthOf l ha x1 q1.2 q6 h7) (cwV 1 hg gc_ST_49 rfl rfl rfl hs_ST_widthOf ⟨Nat.le_of_ble_eq_true rfl, Nat.le_of_ble_eq_true rfl⟩) hK hT hP hS (va_recv hK hP (ci := 4) (q0 := 4) rfl rfl) rfl hl.1 rfl (Nat.le_of_ble_eq_true rfl) d_ST_layOut_30 ⟨Nat.zero_le _, Nat.zero_le _⟩ (fun H locs hP hS => ?_)
      refine bdK hf (fun σ8 h9 hf => ?_)
      refine r_iast (wf := (wC a cI cZ)) hx hb hK hP (dC ha q6.2) hS 24 0 rfl rfl (fun _ _ => rfl) h9 d_ST_layOut_33 (fun H locs hP hS => ?_)
      refine lv_aload_n hx hb d_ST_layOut_34 rfl (lv_at hl 0 rfl) ?_
      refine va_get (D := D) (ci := 4) (v := .ref (a 3)) (C := R_ST) (T := T_ST) (N := 9) hx hb hg in_ST hown hK hP 4 rfl rfl 2 (by decide) (hg _ gw_111) (fun _ h9 => h9) rfl d_ST_layOut_35 ?_
      refine lv_iload_n hx hb d_ST_layOut_38 rfl (lv_at hl 1 rfl) ?_
      refine bdK hf (fun q10 h11 hf => ?_)
      refine rc_Vi (As := [.int x1]) (rest := []) (b := a 3) (stC_g t) F (c_CA_isCarried l ha x1 σ8 q10 h11) (cwV 1 hg gc_ST_53 rfl rfl rfl hs_CA_isCarried ⟨Nat.le_of_ble_eq_true rfl, Nat.le_of_ble_eq_true rfl⟩) hK hT hP hS (va_recv hK hP (ci := 3) (q0 := 3) rfl rfl) rfl hl.1 rfl (Nat.le_of_ble_eq_true rfl) d_ST_layOut_39 ⟨Nat.zero_le _, Nat.zero_le _⟩ (fun H locs hP hS => ?_)
      refine lv_if_ne (tgt := 70) hx hb d_ST_layOut_42 (by decide) (fun c12 => ?_) (fun c12 => ?_)
      · replace hf := (if_neg c12).symm.trans hf
        refine lv_iinc (v := (x1 + (1 : Int32))) (lv' := [(1, .int (x1 + (1 : Int32))), (0, .ref (a 4))]) hx hb d_ST_layOut_70 hl (k := 1) rfl (by rfl) (by decide) rfl (fun ls hl => ?_)
        refine lv_goto (tgt := 12) hx hb d_ST_layOut_73 (by decide) ?_
        exact ih (x1 + (1 : Int32)) q10.2 q hf _ _ hP hS ls (lv_sub hl [1, 0] rfl)
      · replace hf := (if_pos c12).symm.trans hf
        refine lv_aload_n hx hb d_ST_layOut_45 rfl (lv_at hl 0 rfl) ?_
        refine va_get (D := D) (ci := 4) (v := .ref (a 25)) (C := R_ST) (T := T_ST) (N := 9) hx hb hg in_ST hown hK hP 4 rfl rfl 6 (by decide) (hg _ gw_115) (fun _ h9 => h9) rfl d_ST_layOut_46 ?_
        refine lv_iload_n hx hb d_ST_layOut_49 rfl (lv_at hl 1 rfl) ?_
        refine lv_aload_n hx hb d_ST_layOut_50 rfl (lv_at hl 0 rfl) ?_
        refine va_get (D := D) (ci := 4) (v := .int (q10.2 27 0)) (C := R_ST) (T := T_ST) (N := 9) hx hb hg in_ST hown hK hP 4 rfl rfl 7 (by decide) (hg _ gw_116) (fun _ h9 => h9) rfl d_ST_layOut_51 ?_
        refine bdK hf (fun σ13 h14 hf => ?_)
        refine r_iast (wf := (wC a cI cZ)) hx hb hK hP (dC ha q10.2) hS 25 0 rfl rfl (fun _ _ => rfl) h14 d_ST_layOut_54 (fun H locs hP hS => ?_)
        refine lv_aload_n hx hb d_ST_layOut_55 rfl (lv_at hl 0 rfl) ?_
        refine lv_dup hx hb d_ST_layOut_56 rfl ?_
        refine va_get (D := D) (ci := 4) (v := .int (σ13 27 0)) (C := R_ST) (T := T_ST) (N := 9) hx hb hg in_ST hown hK hP 4 rfl rfl 7 (by decide) (hg _ gw_116) (fun _ h9 => h9) rfl d_ST_layOut_57 ?_
        refine lv_aload_n hx hb d_ST_layOut_60 rfl (lv_at hl 0 rfl) ?_
        refine va_get (D := D) (ci := 4) (v := .ref (a 24)) (C := R_ST) (T := T_ST) (N := 9) hx hb hg in_ST hown hK hP 4 rfl rfl 5 (by decide) (hg _ gw_114) (fun _ h9 => h9) rfl d_ST_layOut_61 ?_
        refine lv_iload_n hx hb d_ST_layOut_64 rfl (lv_at hl 1 rfl) ?_
        refine bdK hf (fun v15 h16 hf => ?_)
        refine r_iald hx hb hK hP 24 0 rfl rfl h16 d_ST_layOut_65 ?_
        refine lv_iadd hx hb d_ST_layOut_66 ?_
        refine bdK hf (fun σ17 h18 hf => ?_)
        refine va_put (D := D) (ci := 4) (v := .int ((σ13 27 0) + v15)) (ty := .int) (C := R_ST) (T := T_ST) (N := 9) hx hb hg in_ST t_ST t_ST_ok n_ST hown hK hP (dC ha σ13) hS 4 rfl rfl 7 (by decide) (hg _ gw_116) (fun _ h9 => h9) rfl (by decide +kernel) rfl rfl (Nat.le_of_ble_eq_true rfl) d_ST_layOut_67 (fun H locs hP _ hS => ?_)
        replace hP := sf_P (wf := (wC a cI cZ)) h18 hP rfl
        refine lv_iinc (v := (x1 + (1 : Int32))) (lv' := [(1, .int (x1 + (1 : Int32))), (0, .ref (a 4))]) hx hb d_ST_layOut_70 hl (k := 1) rfl (by rfl) (by decide) rfl (fun ls hl => ?_)
        refine lv_goto (tgt := 12) hx hb d_ST_layOut_73 (by decide) ?_
        exact ih (x1 + (1 : Int32)) σ17 q hf _ _ hP hS ls (lv_sub hl [1, 0] rfl)
def f_ST_layOut (σ : SS) : Option (SS) :=
  (sf σ 27 (0 : Int32)).bind fun σ1 => (sf σ1 28 (0 : Int32)).bind fun σ3 => b_ST_layOut_12 FU (0 : Int32) σ3
set_option maxHeartbeats 4000000 in
set_option maxRecDepth 100000 in
theorem e_ST_layOut {p : Program} {l : Launch} {e : Env} {s : State} {m : MethodId} {args : Array Value} {below : List Frame} {meth : Method} {c : Code} {D : va_G} {a t : Nat → Nat} {cI cZ : ClassId} (ha : aCC a) (F : CallFix p m c b_ST_layOut 2 s args gt R_ST) (hr : meth.sig.returnType = none) (hlk : meth.locks = false) (hK : va_K D vwCl [(cI, .int), (cZ, .boolean)] s) (hT : stC t (aC a) s s.heap) :
    ∀ (σ : SS) (q : SS), f_ST_layOut σ = some q → ∀ (H : Heap) (locs : List Loc), va_P D vwCl ((wC a cI cZ) σ) H → va_S (aC a) s.heap H locs → ∀ (ls : Array Slot), lv_has ls 2 [(0, .ref (a 4))] → W p l e { frames := 4, cells := 0, slots := 0, locals := 95 } s m args below meth c H locs 0 0 (MQ below (va_Qv (fun u => u = q) (pW D (wC a cI cZ) [(cI, .int), (cZ, .boolean)] (stC t) (aC a)) (aC a)) args s 0 0 (aC a)) (F0 m 0 ls []) := by
  obtain ⟨hx, hb, hml, hown, hg⟩ := id F
  intro σ q hf H locs hP hS ls hl
  unfold f_ST_layOut at hf
  refine lv_aload_n hx hb d_ST_layOut_0 rfl (lv_at hl 0 rfl) ?_
  refine lv_iconst (v := (0 : Int32)) hx hb d_ST_layOut_1 (by decide) ?_
  refine bdK hf (fun σ1 h2 hf => ?_)
  refine va_put (D := D) (ci := 4) (v := .int (0 : Int32)) (ty := .int) (C := R_ST) (T := T_ST) (N := 9) hx hb hg in_ST t_ST t_ST_ok n_ST hown hK hP (dC ha σ) hS 4 rfl rfl 7 (by decide) (hg _ gw_116) (fun _ h9 => h9) rfl (by decide +kernel) rfl rfl (Nat.le_of_ble_eq_true rfl) d_ST_layOut_2 (fun H locs hP _ hS => ?_)
  replace hP := sf_P (wf := (wC a cI cZ)) h2 hP rfl
  refine lv_aload_n hx hb d_ST_layOut_5 rfl (lv_at hl 0 rfl) ?_
  refine lv_iconst (v := (0 : Int32)) hx hb d_ST_layOut_6 (by decide) ?_
  refine bdK hf (fun σ3 h4 hf => ?_)
  refine va_put (D := D) (ci := 4) (v := .int (0 : Int32)) (ty := .int) (C := R_ST) (T := T_ST) (N := 9) hx hb hg in_ST t_ST t_ST_ok n_ST hown hK hP (dC ha σ1) hS 4 rfl rfl 8 (by decide) (hg _ gw_117) (fun _ h9 => h9) rfl (by decide +kernel) rfl rfl (Nat.le_of_ble_eq_true rfl) d_ST_layOut_7 (fun H locs hP _ hS => ?_)
  replace hP := sf_P (wf := (wC a cI cZ)) h4 hP rfl
  refine lv_iconst (v := (0 : Int32)) hx hb d_ST_layOut_10 (by decide) ?_
  refine lv_istore_n (lv' := [(1, .int (0 : Int32)), (0, .ref (a 4))]) hx hb d_ST_layOut_11 rfl hl (by decide) rfl (fun ls hl => ?_)
  exact k_ST_layOut_12 ha F hr hlk hK hT FU (0 : Int32) σ3 q hf _ _ hP hS ls (lv_sub hl [1, 0] rfl)
set_option maxHeartbeats 4000000 in
set_option maxRecDepth 100000 in
theorem c_ST_layOut (l : Launch) {D : va_G} {a t : Nat → Nat} {cI cZ : ClassId} (ha : aCC a) (σ : SS) (q : SS) (hf : f_ST_layOut σ = some q) : Met l y_ST_layOut ws_ST_layOut { frames := 4, cells := 0, slots := 0, locals := 95 } (va_Pc [.ref (a 4)] (pW D (wC a cI cZ) [(cI, .int), (cZ, .boolean)] (stC t) (aC a) σ)) (va_Qv (fun u => u = q) (pW D (wC a cI cZ) [(cI, .int), (cZ, .boolean)] (stC t) (aC a)) (aC a)) 0 0 (aC a) := by
  refine Met.ofW (cc := b_ST_layOut) (maxL := 2) (ret := none) (by decide) rfl ?_
  intro p e s m args below meth c s₁ B hml hv
  obtain ⟨rfl, hP, hK, hT⟩ := hv
  have hl := lv_entry ([.ref (a 4)]) (n := 2) (Nat.le_of_ble_eq_true rfl)
  rw [lg_entry_eq]
  generalize (lg_sl ([.ref (a 4)]) ++ List.replicate (2 - (lg_sl ([.ref (a 4)])).length) Slot.unset).toArray = ls at hl ⊢
  exact e_ST_layOut ha ⟨B.exec, B.bytes, hml, findClass_of_methodNamed B.named, fun w h => atoms_spec (ws := ws_ST_layOut) B.pre w (List.mem_cons_of_mem _ h)⟩ B.returns B.notSynchronized hK hT σ q hf s.heap [] hP va_S.rf ls hl
theorem d_SC_translate_0 : decode b_SC_translate 0 = .ok (.aload_n 0, 1) := by decide +kernel
theorem d_SC_translate_1 : decode b_SC_translate 1 = .ok (.getfield 50, 3) := by decide +kernel
theorem d_SC_translate_4 : decode b_SC_translate 4 = .ok (.ifCond .ne 4, 3) := by decide +kernel
theorem d_SC_translate_7 : decode b_SC_translate 7 = .ok (.return_, 1) := by decide +kernel
theorem d_SC_translate_8 : decode b_SC_translate 8 = .ok (.aload_n 0, 1) := by decide +kernel
theorem d_SC_translate_9 : decode b_SC_translate 9 = .ok (.getfield 21, 3) := by decide +kernel
theorem d_SC_translate_12 : decode b_SC_translate 12 = .ok (.invokevirtual 117, 3) := by decide +kernel
theorem d_SC_translate_15 : decode b_SC_translate 15 = .ok (.aload_n 0, 1) := by decide +kernel
theorem d_SC_translate_16 : decode b_SC_translate 16 = .ok (.getfield 30, 3) := by decide +kernel
theorem d_SC_translate_19 : decode b_SC_translate 19 = .ok (.invokevirtual 120, 3) := by decide +kernel
theorem d_SC_translate_22 : decode b_SC_translate 22 = .ok (.aload_n 0, 1) := by decide +kernel
theorem d_SC_translate_23 : decode b_SC_translate 23 = .ok (.getfield 39, 3) := by decide +kernel
theorem d_SC_translate_26 : decode b_SC_translate 26 = .ok (.invokevirtual 123, 3) := by decide +kernel
theorem d_SC_translate_29 : decode b_SC_translate 29 = .ok (.aload_n 0, 1) := by decide +kernel
theorem d_SC_translate_30 : decode b_SC_translate 30 = .ok (.iconst 0, 1) := by decide +kernel
theorem d_SC_translate_31 : decode b_SC_translate 31 = .ok (.putfield 50, 3) := by decide +kernel
theorem d_SC_translate_34 : decode b_SC_translate 34 = .ok (.return_, 1) := by decide +kernel
theorem gc_SC_117 : GoodIn gt (wsV R_SC 117 R_FL y_FL_trace ws_FL_trace) := gd_V gw_236 gw_237 gw_238 gw_3 gw_239
theorem gc_SC_120 : GoodIn gt (wsV R_SC 120 R_CA y_CA_settle ws_CA_settle) := gd_V gw_289 gw_290 gw_291 gw_4 gw_292
theorem gc_SC_123 : GoodIn gt (wsV R_SC 123 R_ST y_ST_layOut ws_ST_layOut) := gd_V gw_358 gw_359 gw_360 gw_5 gw_361
def f_SC_translate (σ : SS) : Option (SS) :=
  (if (σ 24 0) = 0 then some σ else (f_FL_trace σ).bind fun σ2 => (f_CA_settle σ2).bind fun σ4 => (f_ST_layOut σ4).bind fun σ6 => (sf σ6 24 (0 : Int32)).bind fun σ8 => some σ8)
set_option maxHeartbeats 4000000 in
set_option maxRecDepth 100000 in
theorem e_SC_translate {p : Program} {l : Launch} {e : Env} {s : State} {m : MethodId} {args : Array Value} {below : List Frame} {meth : Method} {c : Code} {D : va_G} {a t : Nat → Nat} {cI cZ : ClassId} (ha : aCC a) (F : CallFix p m c b_SC_translate 1 s args gt R_SC) (hr : meth.sig.returnType = none) (hlk : meth.locks = false) (hK : va_K D vwCl [(cI, .int), (cZ, .boolean)] s) (hT : stC t (aC a) s s.heap) :
    ∀ (σ : SS) (q : SS), f_SC_translate σ = some q → ∀ (H : Heap) (locs : List Loc), va_P D vwCl ((wC a cI cZ) σ) H → va_S (aC a) s.heap H locs → ∀ (ls : Array Slot), lv_has ls 1 [(0, .ref (a 0))] → W p l e { frames := 5, cells := 0, slots := 0, locals := 116 } s m args below meth c H locs 0 0 (MQ below (va_Qv (fun u => u = q) (pW D (wC a cI cZ) [(cI, .int), (cZ, .boolean)] (stC t) (aC a)) (aC a)) args s 0 0 (aC a)) (F0 m 0 ls []) := by
  obtain ⟨hx, hb, hml, hown, hg⟩ := id F
  intro σ q hf H locs hP hS ls hl
  unfold f_SC_translate at hf
  refine lv_aload_n hx hb d_SC_translate_0 rfl (lv_at hl 0 rfl) ?_
  refine va_get (D := D) (ci := 0) (v := .int (σ 24 0)) (C := R_SC) (T := T_SC) (N := 6) hx hb hg in_SC hown hK hP 0 rfl rfl 5 (by decide) (hg _ gw_170) (fun _ h9 => h9) rfl d_SC_translate_1 ?_
  refine lv_if_ne (tgt := 8) hx hb d_SC_translate_4 (by decide) (fun c1 => ?_) (fun c1 => ?_)
  · replace hf := (if_neg c1).symm.trans hf
    refine lv_aload_n hx hb d_SC_translate_8 rfl (lv_at hl 0 rfl) ?_
    refine va_get (D := D) (ci := 0) (v := .ref (a 2)) (C := R_SC) (T := T_SC) (N := 6) hx hb hg in_SC hown hK hP 0 rfl rfl 1 (by decide) (hg _ gw_166) (fun _ h9 => h9) rfl d_SC_translate_9 ?_
    refine bdK hf (fun σ2 h3 hf => ?_)
    refine rc_Vv (As := []) (rest := []) (b := a 2) (stC_g t) F (c_FL_trace l ha σ σ2 h3) (cwV 0 hg gc_SC_117 rfl rfl rfl hs_FL_trace ⟨Nat.le_of_ble_eq_true rfl, Nat.le_of_ble_eq_true rfl⟩) hK hT hP hS (va_recv hK hP (ci := 2) (q0 := 2) rfl rfl) rfl hl.1 rfl (Nat.le_of_ble_eq_true rfl) d_SC_translate_12 ⟨Nat.zero_le _, Nat.zero_le _⟩ (fun H locs hP hS => ?_)
    refine lv_aload_n hx hb d_SC_translate_15 rfl (lv_at hl 0 rfl) ?_
    refine va_get (D := D) (ci := 0) (v := .ref (a 3)) (C := R_SC) (T := T_SC) (N := 6) hx hb hg in_SC hown hK hP 0 rfl rfl 2 (by decide) (hg _ gw_167) (fun _ h9 => h9) rfl d_SC_translate_16 ?_
    refine bdK hf (fun σ4 h5 hf => ?_)
    refine rc_Vv (As := []) (rest := []) (b := a 3) (stC_g t) F (c_CA_settle l ha σ2 σ4 h5) (cwV 0 hg gc_SC_120 rfl rfl rfl hs_CA_settle ⟨Nat.le_of_ble_eq_true rfl, Nat.le_of_ble_eq_true rfl⟩) hK hT hP hS (va_recv hK hP (ci := 3) (q0 := 3) rfl rfl) rfl hl.1 rfl (Nat.le_of_ble_eq_true rfl) d_SC_translate_19 ⟨Nat.zero_le _, Nat.zero_le _⟩ (fun H locs hP hS => ?_)
    refine lv_aload_n hx hb d_SC_translate_22 rfl (lv_at hl 0 rfl) ?_
    refine va_get (D := D) (ci := 0) (v := .ref (a 4)) (C := R_SC) (T := T_SC) (N := 6) hx hb hg in_SC hown hK hP 0 rfl rfl 3 (by decide) (hg _ gw_168) (fun _ h9 => h9) rfl d_SC_translate_23 ?_
    refine bdK hf (fun σ6 h7 hf => ?_)
    refine rc_Vv (As := []) (rest := []) (b := a 4) (stC_g t) F (c_ST_layOut l ha σ4 σ6 h7) (cwV 0 hg gc_SC_123 rfl rfl rfl hs_ST_layOut ⟨Nat.le_of_ble_eq_true rfl, Nat.le_of_ble_eq_true rfl⟩) hK hT hP hS (va_recv hK hP (ci := 4) (q0 := 4) rfl rfl) rfl hl.1 rfl (Nat.le_of_ble_eq_true rfl) d_SC_translate_26 ⟨Nat.zero_le _, Nat.zero_le _⟩ (fun H locs hP hS => ?_)
    refine lv_aload_n hx hb d_SC_translate_29 rfl (lv_at hl 0 rfl) ?_
    refine lv_iconst (v := (0 : Int32)) hx hb d_SC_translate_30 (by decide) ?_
    refine bdK hf (fun σ8 h9 hf => ?_)
    refine va_put (D := D) (ci := 0) (v := .int (0 : Int32)) (ty := .boolean) (C := R_SC) (T := T_SC) (N := 6) hx hb hg in_SC t_SC t_SC_ok n_SC hown hK hP (dC ha σ6) hS 0 rfl rfl 5 (by decide) (hg _ gw_170) (fun _ h9 => h9) rfl (by decide +kernel) rfl rfl (Nat.le_of_ble_eq_true rfl) d_SC_translate_31 (fun H locs hP _ hS => ?_)
    replace hP := sf_P (wf := (wC a cI cZ)) h9 hP rfl
    exact rr_v hx hb hr hlk (stC_g t) hK hT hP hS hf d_SC_translate_34
  · replace hf := (if_pos c1).symm.trans hf
    exact rr_v hx hb hr hlk (stC_g t) hK hT hP hS hf d_SC_translate_7
set_option maxHeartbeats 4000000 in
set_option maxRecDepth 100000 in
theorem c_SC_translate (l : Launch) {D : va_G} {a t : Nat → Nat} {cI cZ : ClassId} (ha : aCC a) (σ : SS) (q : SS) (hf : f_SC_translate σ = some q) : Met l y_SC_translate ws_SC_translate { frames := 5, cells := 0, slots := 0, locals := 116 } (va_Pc [.ref (a 0)] (pW D (wC a cI cZ) [(cI, .int), (cZ, .boolean)] (stC t) (aC a) σ)) (va_Qv (fun u => u = q) (pW D (wC a cI cZ) [(cI, .int), (cZ, .boolean)] (stC t) (aC a)) (aC a)) 0 0 (aC a) := by
  refine Met.ofW (cc := b_SC_translate) (maxL := 1) (ret := none) (by decide) rfl ?_
  intro p e s m args below meth c s₁ B hml hv
  obtain ⟨rfl, hP, hK, hT⟩ := hv
  have hl := lv_entry ([.ref (a 0)]) (n := 1) (Nat.le_of_ble_eq_true rfl)
  rw [lg_entry_eq]
  generalize (lg_sl ([.ref (a 0)]) ++ List.replicate (1 - (lg_sl ([.ref (a 0)])).length) Slot.unset).toArray = ls at hl ⊢
  exact e_SC_translate ha ⟨B.exec, B.bytes, hml, findClass_of_methodNamed B.named, fun w h => atoms_spec (ws := ws_SC_translate) B.pre w (List.mem_cons_of_mem _ h)⟩ B.returns B.notSynchronized hK hT σ q hf s.heap [] hP va_S.rf ls hl
theorem d_ST_operationCount_0 : decode b_ST_operationCount 0 = .ok (.aload_n 0, 1) := by decide +kernel
theorem d_ST_operationCount_1 : decode b_ST_operationCount 1 = .ok (.getfield 36, 3) := by decide +kernel
theorem d_ST_operationCount_4 : decode b_ST_operationCount 4 = .ok (.iconst 1, 1) := by decide +kernel
theorem d_ST_operationCount_5 : decode b_ST_operationCount 5 = .ok (.iadd, 1) := by decide +kernel
theorem d_ST_operationCount_6 : decode b_ST_operationCount 6 = .ok (.ireturn, 1) := by decide +kernel
def f_ST_operationCount (σ : SS) : Option (Int32 × SS) :=
  some (((σ 27 0) + (1 : Int32)), σ)
set_option maxHeartbeats 4000000 in
set_option maxRecDepth 100000 in
theorem e_ST_operationCount {p : Program} {l : Launch} {e : Env} {s : State} {m : MethodId} {args : Array Value} {below : List Frame} {meth : Method} {c : Code} {D : va_G} {a t : Nat → Nat} {cI cZ : ClassId} (ha : aCC a) (F : CallFix p m c b_ST_operationCount 1 s args gt R_ST) (hr : meth.sig.returnType = some .int) (hlk : meth.locks = false) (hK : va_K D vwCl [(cI, .int), (cZ, .boolean)] s) (hT : stC t (aC a) s s.heap) :
    ∀ (σ : SS) (q : Int32 × SS), f_ST_operationCount σ = some q → ∀ (H : Heap) (locs : List Loc), va_P D vwCl ((wC a cI cZ) σ) H → va_S (aC a) s.heap H locs → ∀ (ls : Array Slot), lv_has ls 1 [(0, .ref (a 4))] → W p l e { frames := 0, cells := 0, slots := 0, locals := 0 } s m args below meth c H locs 0 0 (MQ below (va_Qi (fun r u => r = q.1 ∧ u = q.2) (pW D (wC a cI cZ) [(cI, .int), (cZ, .boolean)] (stC t) (aC a)) (aC a)) args s 0 0 (aC a)) (F0 m 0 ls []) := by
  obtain ⟨hx, hb, hml, hown, hg⟩ := id F
  intro σ q hf H locs hP hS ls hl
  unfold f_ST_operationCount at hf
  refine lv_aload_n hx hb d_ST_operationCount_0 rfl (lv_at hl 0 rfl) ?_
  refine va_get (D := D) (ci := 4) (v := .int (σ 27 0)) (C := R_ST) (T := T_ST) (N := 9) hx hb hg in_ST hown hK hP 4 rfl rfl 7 (by decide) (hg _ gw_116) (fun _ h9 => h9) rfl d_ST_operationCount_1 ?_
  refine lv_iconst (v := (1 : Int32)) hx hb d_ST_operationCount_4 (by decide) ?_
  refine lv_iadd hx hb d_ST_operationCount_5 ?_
  exact rr_i hx hb hr hlk (stC_g t) hK hT hP hS hf d_ST_operationCount_6
set_option maxHeartbeats 4000000 in
set_option maxRecDepth 100000 in
theorem c_ST_operationCount (l : Launch) {D : va_G} {a t : Nat → Nat} {cI cZ : ClassId} (ha : aCC a) (σ : SS) (q : Int32 × SS) (hf : f_ST_operationCount σ = some q) : Met l y_ST_operationCount ws_ST_operationCount { frames := 0, cells := 0, slots := 0, locals := 0 } (va_Pc [.ref (a 4)] (pW D (wC a cI cZ) [(cI, .int), (cZ, .boolean)] (stC t) (aC a) σ)) (va_Qi (fun r u => r = q.1 ∧ u = q.2) (pW D (wC a cI cZ) [(cI, .int), (cZ, .boolean)] (stC t) (aC a)) (aC a)) 0 0 (aC a) := by
  refine Met.ofW (cc := b_ST_operationCount) (maxL := 1) (ret := some .int) (by decide) rfl ?_
  intro p e s m args below meth c s₁ B hml hv
  obtain ⟨rfl, hP, hK, hT⟩ := hv
  have hl := lv_entry ([.ref (a 4)]) (n := 1) (Nat.le_of_ble_eq_true rfl)
  rw [lg_entry_eq]
  generalize (lg_sl ([.ref (a 4)]) ++ List.replicate (1 - (lg_sl ([.ref (a 4)])).length) Slot.unset).toArray = ls at hl ⊢
  exact e_ST_operationCount ha ⟨B.exec, B.bytes, hml, findClass_of_methodNamed B.named, fun w h => atoms_spec (ws := ws_ST_operationCount) B.pre w (List.mem_cons_of_mem _ h)⟩ B.returns B.notSynchronized hK hT σ q hf s.heap [] hP va_S.rf ls hl
theorem d_SC_length_0 : decode b_SC_length 0 = .ok (.aload_n 0, 1) := by decide +kernel
theorem d_SC_length_1 : decode b_SC_length 1 = .ok (.invokevirtual 74, 3) := by decide +kernel
theorem d_SC_length_4 : decode b_SC_length 4 = .ok (.aload_n 0, 1) := by decide +kernel
theorem d_SC_length_5 : decode b_SC_length 5 = .ok (.getfield 39, 3) := by decide +kernel
theorem d_SC_length_8 : decode b_SC_length 8 = .ok (.invokevirtual 77, 3) := by decide +kernel
theorem d_SC_length_11 : decode b_SC_length 11 = .ok (.ireturn, 1) := by decide +kernel
theorem gc_SC_74 : GoodIn gt (wsV R_SC 74 R_SC y_SC_translate ws_SC_translate) := gd_V gw_232 gw_234 gs_0 gw_1 gw_235
theorem gc_SC_77 : GoodIn gt (wsV R_SC 77 R_ST y_ST_operationCount ws_ST_operationCount) := gd_V gw_433 gw_434 gw_435 gw_5 gw_436
def f_SC_length (σ : SS) : Option (Int32 × SS) :=
  (f_SC_translate σ).bind fun σ1 => (f_ST_operationCount σ1).bind fun q3 => some (q3.1, q3.2)
set_option maxHeartbeats 4000000 in
set_option maxRecDepth 100000 in
theorem e_SC_length {p : Program} {l : Launch} {e : Env} {s : State} {m : MethodId} {args : Array Value} {below : List Frame} {meth : Method} {c : Code} {D : va_G} {a t : Nat → Nat} {cI cZ : ClassId} (ha : aCC a) (F : CallFix p m c b_SC_length 1 s args gt R_SC) (hr : meth.sig.returnType = some .int) (hlk : meth.locks = false) (hK : va_K D vwCl [(cI, .int), (cZ, .boolean)] s) (hT : stC t (aC a) s s.heap) :
    ∀ (σ : SS) (q : Int32 × SS), f_SC_length σ = some q → ∀ (H : Heap) (locs : List Loc), va_P D vwCl ((wC a cI cZ) σ) H → va_S (aC a) s.heap H locs → ∀ (ls : Array Slot), lv_has ls 1 [(0, .ref (a 0))] → W p l e { frames := 6, cells := 0, slots := 0, locals := 136 } s m args below meth c H locs 0 0 (MQ below (va_Qi (fun r u => r = q.1 ∧ u = q.2) (pW D (wC a cI cZ) [(cI, .int), (cZ, .boolean)] (stC t) (aC a)) (aC a)) args s 0 0 (aC a)) (F0 m 0 ls []) := by
  obtain ⟨hx, hb, hml, hown, hg⟩ := id F
  intro σ q hf H locs hP hS ls hl
  unfold f_SC_length at hf
  refine lv_aload_n hx hb d_SC_length_0 rfl (lv_at hl 0 rfl) ?_
  refine bdK hf (fun σ1 h2 hf => ?_)
  refine rc_Vv (As := []) (rest := []) (b := a 0) (stC_g t) F (c_SC_translate l ha σ σ1 h2) (cwV 0 hg gc_SC_74 rfl rfl rfl hs_SC_translate ⟨Nat.le_of_ble_eq_true rfl, Nat.le_of_ble_eq_true rfl⟩) hK hT hP hS (va_recv hK hP (ci := 0) (q0 := 0) rfl rfl) rfl hl.1 rfl (Nat.le_of_ble_eq_true rfl) d_SC_length_1 ⟨Nat.zero_le _, Nat.zero_le _⟩ (fun H locs hP hS => ?_)
  refine lv_aload_n hx hb d_SC_length_4 rfl (lv_at hl 0 rfl) ?_
  refine va_get (D := D) (ci := 0) (v := .ref (a 4)) (C := R_SC) (T := T_SC) (N := 6) hx hb hg in_SC hown hK hP 0 rfl rfl 3 (by decide) (hg _ gw_168) (fun _ h9 => h9) rfl d_SC_length_5 ?_
  refine bdK hf (fun q3 h4 hf => ?_)
  refine rc_Vi (As := []) (rest := []) (b := a 4) (stC_g t) F (c_ST_operationCount l ha σ1 q3 h4) (cwV 0 hg gc_SC_77 rfl rfl rfl hs_ST_operationCount ⟨Nat.le_of_ble_eq_true rfl, Nat.le_of_ble_eq_true rfl⟩) hK hT hP hS (va_recv hK hP (ci := 4) (q0 := 4) rfl rfl) rfl hl.1 rfl (Nat.le_of_ble_eq_true rfl) d_SC_length_8 ⟨Nat.zero_le _, Nat.zero_le _⟩ (fun H locs hP hS => ?_)
  exact rr_i hx hb hr hlk (stC_g t) hK hT hP hS hf d_SC_length_11
set_option maxHeartbeats 4000000 in
set_option maxRecDepth 100000 in
theorem c_SC_length (l : Launch) {D : va_G} {a t : Nat → Nat} {cI cZ : ClassId} (ha : aCC a) (σ : SS) (q : Int32 × SS) (hf : f_SC_length σ = some q) : Met l y_SC_length ws_SC_length { frames := 6, cells := 0, slots := 0, locals := 136 } (va_Pc [.ref (a 0)] (pW D (wC a cI cZ) [(cI, .int), (cZ, .boolean)] (stC t) (aC a) σ)) (va_Qi (fun r u => r = q.1 ∧ u = q.2) (pW D (wC a cI cZ) [(cI, .int), (cZ, .boolean)] (stC t) (aC a)) (aC a)) 0 0 (aC a) := by
  refine Met.ofW (cc := b_SC_length) (maxL := 1) (ret := some .int) (by decide) rfl ?_
  intro p e s m args below meth c s₁ B hml hv
  obtain ⟨rfl, hP, hK, hT⟩ := hv
  have hl := lv_entry ([.ref (a 0)]) (n := 1) (Nat.le_of_ble_eq_true rfl)
  rw [lg_entry_eq]
  generalize (lg_sl ([.ref (a 0)]) ++ List.replicate (1 - (lg_sl ([.ref (a 0)])).length) Slot.unset).toArray = ls at hl ⊢
  exact e_SC_length ha ⟨B.exec, B.bytes, hml, findClass_of_methodNamed B.named, fun w h => atoms_spec (ws := ws_SC_length) B.pre w (List.mem_cons_of_mem _ h)⟩ B.returns B.notSynchronized hK hT σ q hf s.heap [] hP va_S.rf ls hl
theorem d_ST_holds_0 : decode b_ST_holds 0 = .ok (.iload_n 1, 1) := by decide +kernel
theorem d_ST_holds_1 : decode b_ST_holds 1 = .ok (.ifCond .lt 22, 3) := by decide +kernel
theorem d_ST_holds_4 : decode b_ST_holds 4 = .ok (.iload_n 1, 1) := by decide +kernel
theorem d_ST_holds_5 : decode b_ST_holds 5 = .ok (.aload_n 0, 1) := by decide +kernel
theorem d_ST_holds_6 : decode b_ST_holds 6 = .ok (.getfield 36, 3) := by decide +kernel
theorem d_ST_holds_9 : decode b_ST_holds 9 = .ok (.if_icmp .gt 14, 3) := by decide +kernel
theorem d_ST_holds_12 : decode b_ST_holds 12 = .ok (.iload_n 1, 1) := by decide +kernel
theorem d_ST_holds_13 : decode b_ST_holds 13 = .ok (.sipush 201, 3) := by decide +kernel
theorem d_ST_holds_16 : decode b_ST_holds 16 = .ok (.if_icmp .ge 7, 3) := by decide +kernel
theorem d_ST_holds_19 : decode b_ST_holds 19 = .ok (.iconst 1, 1) := by decide +kernel
theorem d_ST_holds_20 : decode b_ST_holds 20 = .ok (.goto 4, 3) := by decide +kernel
theorem d_ST_holds_23 : decode b_ST_holds 23 = .ok (.iconst 0, 1) := by decide +kernel
theorem d_ST_holds_24 : decode b_ST_holds 24 = .ok (.ireturn, 1) := by decide +kernel
def f_ST_holds (x1 : Int32) (σ : SS) : Option (Int32 × SS) :=
  (if x1 < 0 then some ((0 : Int32), σ) else (if (σ 27 0) < x1 then some ((0 : Int32), σ) else (if (201 : Int32) ≤ x1 then some ((0 : Int32), σ) else some ((1 : Int32), σ))))
set_option maxHeartbeats 4000000 in
set_option maxRecDepth 100000 in
theorem e_ST_holds {p : Program} {l : Launch} {e : Env} {s : State} {m : MethodId} {args : Array Value} {below : List Frame} {meth : Method} {c : Code} {D : va_G} {a t : Nat → Nat} {cI cZ : ClassId} (ha : aCC a) (F : CallFix p m c b_ST_holds 2 s args gt R_ST) (hr : meth.sig.returnType = some .boolean) (hlk : meth.locks = false) (hK : va_K D vwCl [(cI, .int), (cZ, .boolean)] s) (hT : stC t (aC a) s s.heap) :
    ∀ (x1 : Int32) (σ : SS) (q : Int32 × SS), f_ST_holds x1 σ = some q → ∀ (H : Heap) (locs : List Loc), va_P D vwCl ((wC a cI cZ) σ) H → va_S (aC a) s.heap H locs → ∀ (ls : Array Slot), lv_has ls 2 [(0, .ref (a 4)), (1, .int x1)] → W p l e { frames := 0, cells := 0, slots := 0, locals := 0 } s m args below meth c H locs 0 0 (MQ below (va_Qi (fun r u => r = q.1 ∧ u = q.2) (pW D (wC a cI cZ) [(cI, .int), (cZ, .boolean)] (stC t) (aC a)) (aC a)) args s 0 0 (aC a)) (F0 m 0 ls []) := by
  obtain ⟨hx, hb, hml, hown, hg⟩ := id F
  intro x1 σ q hf H locs hP hS ls hl
  unfold f_ST_holds at hf
  refine lv_iload_n hx hb d_ST_holds_0 rfl (lv_at hl 1 rfl) ?_
  refine lv_if_lt (tgt := 23) hx hb d_ST_holds_1 (by decide) (fun c1 => ?_) (fun c1 => ?_)
  · replace hf := (if_pos c1).symm.trans hf
    refine lv_iconst (v := (0 : Int32)) hx hb d_ST_holds_23 (by decide) ?_
    exact rr_z hx hb hr hlk (stC_g t) hK hT hP hS (Or.inl rfl) hf d_ST_holds_24
  · replace hf := (if_neg c1).symm.trans hf
    refine lv_iload_n hx hb d_ST_holds_4 rfl (lv_at hl 1 rfl) ?_
    refine lv_aload_n hx hb d_ST_holds_5 rfl (lv_at hl 0 rfl) ?_
    refine va_get (D := D) (ci := 4) (v := .int (σ 27 0)) (C := R_ST) (T := T_ST) (N := 9) hx hb hg in_ST hown hK hP 4 rfl rfl 7 (by decide) (hg _ gw_116) (fun _ h9 => h9) rfl d_ST_holds_6 ?_
    refine lv_icmp_gt (tgt := 23) hx hb d_ST_holds_9 (by decide) (fun c2 => ?_) (fun c2 => ?_)
    · replace hf := (if_pos c2).symm.trans hf
      refine lv_iconst (v := (0 : Int32)) hx hb d_ST_holds_23 (by decide) ?_
      exact rr_z hx hb hr hlk (stC_g t) hK hT hP hS (Or.inl rfl) hf d_ST_holds_24
    · replace hf := (if_neg c2).symm.trans hf
      refine lv_iload_n hx hb d_ST_holds_12 rfl (lv_at hl 1 rfl) ?_
      refine lv_sipush (v := (201 : Int32)) hx hb d_ST_holds_13 (by decide) ?_
      refine lv_icmp_ge (tgt := 23) hx hb d_ST_holds_16 (by decide) (fun c3 => ?_) (fun c3 => ?_)
      · replace hf := (if_pos c3).symm.trans hf
        refine lv_iconst (v := (0 : Int32)) hx hb d_ST_holds_23 (by decide) ?_
        exact rr_z hx hb hr hlk (stC_g t) hK hT hP hS (Or.inl rfl) hf d_ST_holds_24
      · replace hf := (if_neg c3).symm.trans hf
        refine lv_iconst (v := (1 : Int32)) hx hb d_ST_holds_19 (by decide) ?_
        refine lv_goto (tgt := 24) hx hb d_ST_holds_20 (by decide) ?_
        exact rr_z hx hb hr hlk (stC_g t) hK hT hP hS (Or.inr rfl) hf d_ST_holds_24
set_option maxHeartbeats 4000000 in
set_option maxRecDepth 100000 in
theorem c_ST_holds (l : Launch) {D : va_G} {a t : Nat → Nat} {cI cZ : ClassId} (ha : aCC a) (x1 : Int32) (σ : SS) (q : Int32 × SS) (hf : f_ST_holds x1 σ = some q) : Met l y_ST_holds ws_ST_holds { frames := 0, cells := 0, slots := 0, locals := 0 } (va_Pc [.ref (a 4), .int x1] (pW D (wC a cI cZ) [(cI, .int), (cZ, .boolean)] (stC t) (aC a) σ)) (va_Qi (fun r u => r = q.1 ∧ u = q.2) (pW D (wC a cI cZ) [(cI, .int), (cZ, .boolean)] (stC t) (aC a)) (aC a)) 0 0 (aC a) := by
  refine Met.ofW (cc := b_ST_holds) (maxL := 2) (ret := some .boolean) (by decide) rfl ?_
  intro p e s m args below meth c s₁ B hml hv
  obtain ⟨rfl, hP, hK, hT⟩ := hv
  have hl := lv_entry ([.ref (a 4), .int x1]) (n := 2) (Nat.le_of_ble_eq_true rfl)
  rw [lg_entry_eq]
  generalize (lg_sl ([.ref (a 4), .int x1]) ++ List.replicate (2 - (lg_sl ([.ref (a 4), .int x1])).length) Slot.unset).toArray = ls at hl ⊢
  exact e_ST_holds ha ⟨B.exec, B.bytes, hml, findClass_of_methodNamed B.named, fun w h => atoms_spec (ws := ws_ST_holds) B.pre w (List.mem_cons_of_mem _ h)⟩ B.returns B.notSynchronized hK hT x1 σ q hf s.heap [] hP va_S.rf ls hl
theorem d_ST_encoded_0 : decode b_ST_encoded 0 = .ok (.aload_n 0, 1) := by decide +kernel
theorem d_ST_encoded_1 : decode b_ST_encoded 1 = .ok (.getfield 11, 3) := by decide +kernel
theorem d_ST_encoded_4 : decode b_ST_encoded 4 = .ok (.iload_n 1, 1) := by decide +kernel
theorem d_ST_encoded_5 : decode b_ST_encoded 5 = .ok (.iaload, 1) := by decide +kernel
theorem d_ST_encoded_6 : decode b_ST_encoded 6 = .ok (.ifCond .ne 9, 3) := by decide +kernel
theorem d_ST_encoded_9 : decode b_ST_encoded 9 = .ok (.sipush 1000, 3) := by decide +kernel
theorem d_ST_encoded_12 : decode b_ST_encoded 12 = .ok (.goto 4, 3) := by decide +kernel
theorem d_ST_encoded_15 : decode b_ST_encoded 15 = .ok (.iconst 0, 1) := by decide +kernel
theorem d_ST_encoded_16 : decode b_ST_encoded 16 = .ok (.istore_n 2, 1) := by decide +kernel
theorem d_ST_encoded_17 : decode b_ST_encoded 17 = .ok (.sipush 10000, 3) := by decide +kernel
theorem d_ST_encoded_20 : decode b_ST_encoded 20 = .ok (.aload_n 0, 1) := by decide +kernel
theorem d_ST_encoded_21 : decode b_ST_encoded 21 = .ok (.getfield 11, 3) := by decide +kernel
theorem d_ST_encoded_24 : decode b_ST_encoded 24 = .ok (.iload_n 1, 1) := by decide +kernel
theorem d_ST_encoded_25 : decode b_ST_encoded 25 = .ok (.iaload, 1) := by decide +kernel
theorem d_ST_encoded_26 : decode b_ST_encoded 26 = .ok (.imul, 1) := by decide +kernel
theorem d_ST_encoded_27 : decode b_ST_encoded 27 = .ok (.iload_n 2, 1) := by decide +kernel
theorem d_ST_encoded_28 : decode b_ST_encoded 28 = .ok (.iadd, 1) := by decide +kernel
theorem d_ST_encoded_29 : decode b_ST_encoded 29 = .ok (.aload_n 0, 1) := by decide +kernel
theorem d_ST_encoded_30 : decode b_ST_encoded 30 = .ok (.getfield 15, 3) := by decide +kernel
theorem d_ST_encoded_33 : decode b_ST_encoded 33 = .ok (.iload_n 1, 1) := by decide +kernel
theorem d_ST_encoded_34 : decode b_ST_encoded 34 = .ok (.iaload, 1) := by decide +kernel
theorem d_ST_encoded_35 : decode b_ST_encoded 35 = .ok (.iadd, 1) := by decide +kernel
theorem d_ST_encoded_36 : decode b_ST_encoded 36 = .ok (.ireturn, 1) := by decide +kernel
def b_ST_encoded_16 (x1 y0 : Int32) (σ : SS) : Option (Int32 × SS) :=
  (ld (σ 16) 201 x1).bind fun v1 => (ld (σ 17) 201 x1).bind fun v3 => some (((((10000 : Int32) * v1) + y0) + v3), σ)
set_option maxHeartbeats 4000000 in
set_option maxRecDepth 100000 in
theorem k_ST_encoded_16 {p : Program} {l : Launch} {e : Env} {s : State} {m : MethodId} {args : Array Value} {below : List Frame} {meth : Method} {c : Code} {D : va_G} {a t : Nat → Nat} {cI cZ : ClassId} (ha : aCC a) (F : CallFix p m c b_ST_encoded 3 s args gt R_ST) (hr : meth.sig.returnType = some .int) (hlk : meth.locks = false) (hK : va_K D vwCl [(cI, .int), (cZ, .boolean)] s) (hT : stC t (aC a) s s.heap) :
    ∀ (x1 y0 : Int32) (σ : SS) (q : Int32 × SS), b_ST_encoded_16 x1 y0 σ = some q → ∀ (H : Heap) (locs : List Loc), va_P D vwCl ((wC a cI cZ) σ) H → va_S (aC a) s.heap H locs → ∀ (ls : Array Slot), lv_has ls 3 [(0, .ref (a 4)), (1, .int x1)] → W p l e { frames := 0, cells := 0, slots := 0, locals := 0 } s m args below meth c H locs 0 0 (MQ below (va_Qi (fun r u => r = q.1 ∧ u = q.2) (pW D (wC a cI cZ) [(cI, .int), (cZ, .boolean)] (stC t) (aC a)) (aC a)) args s 0 0 (aC a)) (F0 m 16 ls [.int y0]) := by
  obtain ⟨hx, hb, hml, hown, hg⟩ := id F
  intro x1 y0 σ q hf H locs hP hS ls hl
  unfold b_ST_encoded_16 at hf
  refine lv_istore_n (lv' := [(2, .int y0), (0, .ref (a 4)), (1, .int x1)]) hx hb d_ST_encoded_16 rfl hl (by decide) rfl (fun ls hl => ?_)
  refine lv_sipush (v := (10000 : Int32)) hx hb d_ST_encoded_17 (by decide) ?_
  refine lv_aload_n hx hb d_ST_encoded_20 rfl (lv_at hl 1 rfl) ?_
  refine va_get (D := D) (ci := 4) (v := .ref (a 22)) (C := R_ST) (T := T_ST) (N := 9) hx hb hg in_ST hown hK hP 4 rfl rfl 3 (by decide) (hg _ gw_112) (fun _ h9 => h9) rfl d_ST_encoded_21 ?_
  refine lv_iload_n hx hb d_ST_encoded_24 rfl (lv_at hl 2 rfl) ?_
  refine bdK hf (fun v1 h2 hf => ?_)
  refine r_iald hx hb hK hP 22 0 rfl rfl h2 d_ST_encoded_25 ?_
  refine lv_imul hx hb d_ST_encoded_26 ?_
  refine lv_iload_n hx hb d_ST_encoded_27 rfl (lv_at hl 0 rfl) ?_
  refine lv_iadd hx hb d_ST_encoded_28 ?_
  refine lv_aload_n hx hb d_ST_encoded_29 rfl (lv_at hl 1 rfl) ?_
  refine va_get (D := D) (ci := 4) (v := .ref (a 23)) (C := R_ST) (T := T_ST) (N := 9) hx hb hg in_ST hown hK hP 4 rfl rfl 4 (by decide) (hg _ gw_113) (fun _ h9 => h9) rfl d_ST_encoded_30 ?_
  refine lv_iload_n hx hb d_ST_encoded_33 rfl (lv_at hl 2 rfl) ?_
  refine bdK hf (fun v3 h4 hf => ?_)
  refine r_iald hx hb hK hP 23 0 rfl rfl h4 d_ST_encoded_34 ?_
  refine lv_iadd hx hb d_ST_encoded_35 ?_
  exact rr_i hx hb hr hlk (stC_g t) hK hT hP hS hf d_ST_encoded_36
def f_ST_encoded (x1 : Int32) (σ : SS) : Option (Int32 × SS) :=
  (ld (σ 16) 201 x1).bind fun v1 => (if v1 = 0 then b_ST_encoded_16 x1 (1000 : Int32) σ else b_ST_encoded_16 x1 (0 : Int32) σ)
set_option maxHeartbeats 4000000 in
set_option maxRecDepth 100000 in
theorem e_ST_encoded {p : Program} {l : Launch} {e : Env} {s : State} {m : MethodId} {args : Array Value} {below : List Frame} {meth : Method} {c : Code} {D : va_G} {a t : Nat → Nat} {cI cZ : ClassId} (ha : aCC a) (F : CallFix p m c b_ST_encoded 3 s args gt R_ST) (hr : meth.sig.returnType = some .int) (hlk : meth.locks = false) (hK : va_K D vwCl [(cI, .int), (cZ, .boolean)] s) (hT : stC t (aC a) s s.heap) :
    ∀ (x1 : Int32) (σ : SS) (q : Int32 × SS), f_ST_encoded x1 σ = some q → ∀ (H : Heap) (locs : List Loc), va_P D vwCl ((wC a cI cZ) σ) H → va_S (aC a) s.heap H locs → ∀ (ls : Array Slot), lv_has ls 3 [(0, .ref (a 4)), (1, .int x1)] → W p l e { frames := 0, cells := 0, slots := 0, locals := 0 } s m args below meth c H locs 0 0 (MQ below (va_Qi (fun r u => r = q.1 ∧ u = q.2) (pW D (wC a cI cZ) [(cI, .int), (cZ, .boolean)] (stC t) (aC a)) (aC a)) args s 0 0 (aC a)) (F0 m 0 ls []) := by
  obtain ⟨hx, hb, hml, hown, hg⟩ := id F
  intro x1 σ q hf H locs hP hS ls hl
  unfold f_ST_encoded at hf
  refine lv_aload_n hx hb d_ST_encoded_0 rfl (lv_at hl 0 rfl) ?_
  refine va_get (D := D) (ci := 4) (v := .ref (a 22)) (C := R_ST) (T := T_ST) (N := 9) hx hb hg in_ST hown hK hP 4 rfl rfl 3 (by decide) (hg _ gw_112) (fun _ h9 => h9) rfl d_ST_encoded_1 ?_
  refine lv_iload_n hx hb d_ST_encoded_4 rfl (lv_at hl 1 rfl) ?_
  refine bdK hf (fun v1 h2 hf => ?_)
  refine r_iald hx hb hK hP 22 0 rfl rfl h2 d_ST_encoded_5 ?_
  refine lv_if_ne (tgt := 15) hx hb d_ST_encoded_6 (by decide) (fun c3 => ?_) (fun c3 => ?_)
  · replace hf := (if_neg c3).symm.trans hf
    refine lv_iconst (v := (0 : Int32)) hx hb d_ST_encoded_15 (by decide) ?_
    exact k_ST_encoded_16 ha F hr hlk hK hT x1 (0 : Int32) σ q hf _ _ hP hS ls (lv_sub hl [0, 1] rfl)
  · replace hf := (if_pos c3).symm.trans hf
    refine lv_sipush (v := (1000 : Int32)) hx hb d_ST_encoded_9 (by decide) ?_
    refine lv_goto (tgt := 16) hx hb d_ST_encoded_12 (by decide) ?_
    exact k_ST_encoded_16 ha F hr hlk hK hT x1 (1000 : Int32) σ q hf _ _ hP hS ls (lv_sub hl [0, 1] rfl)
set_option maxHeartbeats 4000000 in
set_option maxRecDepth 100000 in
theorem c_ST_encoded (l : Launch) {D : va_G} {a t : Nat → Nat} {cI cZ : ClassId} (ha : aCC a) (x1 : Int32) (σ : SS) (q : Int32 × SS) (hf : f_ST_encoded x1 σ = some q) : Met l y_ST_encoded ws_ST_encoded { frames := 0, cells := 0, slots := 0, locals := 0 } (va_Pc [.ref (a 4), .int x1] (pW D (wC a cI cZ) [(cI, .int), (cZ, .boolean)] (stC t) (aC a) σ)) (va_Qi (fun r u => r = q.1 ∧ u = q.2) (pW D (wC a cI cZ) [(cI, .int), (cZ, .boolean)] (stC t) (aC a)) (aC a)) 0 0 (aC a) := by
  refine Met.ofW (cc := b_ST_encoded) (maxL := 3) (ret := some .int) (by decide) rfl ?_
  intro p e s m args below meth c s₁ B hml hv
  obtain ⟨rfl, hP, hK, hT⟩ := hv
  have hl := lv_entry ([.ref (a 4), .int x1]) (n := 3) (Nat.le_of_ble_eq_true rfl)
  rw [lg_entry_eq]
  generalize (lg_sl ([.ref (a 4), .int x1]) ++ List.replicate (3 - (lg_sl ([.ref (a 4), .int x1])).length) Slot.unset).toArray = ls at hl ⊢
  exact e_ST_encoded ha ⟨B.exec, B.bytes, hml, findClass_of_methodNamed B.named, fun w h => atoms_spec (ws := ws_ST_encoded) B.pre w (List.mem_cons_of_mem _ h)⟩ B.returns B.notSynchronized hK hT x1 σ q hf s.heap [] hP va_S.rf ls hl
theorem d_SC_code_0 : decode b_SC_code 0 = .ok (.aload_n 0, 1) := by decide +kernel
theorem d_SC_code_1 : decode b_SC_code 1 = .ok (.invokevirtual 74, 3) := by decide +kernel
theorem d_SC_code_4 : decode b_SC_code 4 = .ok (.aload_n 0, 1) := by decide +kernel
theorem d_SC_code_5 : decode b_SC_code 5 = .ok (.getfield 39, 3) := by decide +kernel
theorem d_SC_code_8 : decode b_SC_code 8 = .ok (.iload_n 1, 1) := by decide +kernel
theorem d_SC_code_9 : decode b_SC_code 9 = .ok (.invokevirtual 80, 3) := by decide +kernel
theorem d_SC_code_12 : decode b_SC_code 12 = .ok (.ifCond .eq 14, 3) := by decide +kernel
theorem d_SC_code_15 : decode b_SC_code 15 = .ok (.aload_n 0, 1) := by decide +kernel
theorem d_SC_code_16 : decode b_SC_code 16 = .ok (.getfield 39, 3) := by decide +kernel
theorem d_SC_code_19 : decode b_SC_code 19 = .ok (.iload_n 1, 1) := by decide +kernel
theorem d_SC_code_20 : decode b_SC_code 20 = .ok (.invokevirtual 81, 3) := by decide +kernel
theorem d_SC_code_23 : decode b_SC_code 23 = .ok (.goto 4, 3) := by decide +kernel
theorem d_SC_code_26 : decode b_SC_code 26 = .ok (.iconst (-1), 1) := by decide +kernel
theorem d_SC_code_27 : decode b_SC_code 27 = .ok (.ireturn, 1) := by decide +kernel
theorem gc_SC_80 : GoodIn gt (wsV R_SC 80 R_ST y_ST_holds ws_ST_holds) := gd_V gw_441 gw_442 gw_443 gw_5 gw_444
theorem gc_SC_81 : GoodIn gt (wsV R_SC 81 R_ST y_ST_encoded ws_ST_encoded) := gd_V gw_445 gw_446 gw_447 gw_5 gw_448
def f_SC_code (x1 : Int32) (σ : SS) : Option (Int32 × SS) :=
  (f_SC_translate σ).bind fun σ1 => (f_ST_holds x1 σ1).bind fun q3 => (if q3.1 = 0 then some ((-1 : Int32), q3.2) else (f_ST_encoded x1 q3.2).bind fun q6 => some (q6.1, q6.2))
set_option maxHeartbeats 4000000 in
set_option maxRecDepth 100000 in
theorem e_SC_code {p : Program} {l : Launch} {e : Env} {s : State} {m : MethodId} {args : Array Value} {below : List Frame} {meth : Method} {c : Code} {D : va_G} {a t : Nat → Nat} {cI cZ : ClassId} (ha : aCC a) (F : CallFix p m c b_SC_code 2 s args gt R_SC) (hr : meth.sig.returnType = some .int) (hlk : meth.locks = false) (hK : va_K D vwCl [(cI, .int), (cZ, .boolean)] s) (hT : stC t (aC a) s s.heap) :
    ∀ (x1 : Int32) (σ : SS) (q : Int32 × SS), f_SC_code x1 σ = some q → ∀ (H : Heap) (locs : List Loc), va_P D vwCl ((wC a cI cZ) σ) H → va_S (aC a) s.heap H locs → ∀ (ls : Array Slot), lv_has ls 2 [(0, .ref (a 0)), (1, .int x1)] → W p l e { frames := 6, cells := 0, slots := 0, locals := 136 } s m args below meth c H locs 0 0 (MQ below (va_Qi (fun r u => r = q.1 ∧ u = q.2) (pW D (wC a cI cZ) [(cI, .int), (cZ, .boolean)] (stC t) (aC a)) (aC a)) args s 0 0 (aC a)) (F0 m 0 ls []) := by
  obtain ⟨hx, hb, hml, hown, hg⟩ := id F
  intro x1 σ q hf H locs hP hS ls hl
  unfold f_SC_code at hf
  refine lv_aload_n hx hb d_SC_code_0 rfl (lv_at hl 0 rfl) ?_
  refine bdK hf (fun σ1 h2 hf => ?_)
  refine rc_Vv (As := []) (rest := []) (b := a 0) (stC_g t) F (c_SC_translate l ha σ σ1 h2) (cwV 0 hg gc_SC_74 rfl rfl rfl hs_SC_translate ⟨Nat.le_of_ble_eq_true rfl, Nat.le_of_ble_eq_true rfl⟩) hK hT hP hS (va_recv hK hP (ci := 0) (q0 := 0) rfl rfl) rfl hl.1 rfl (Nat.le_of_ble_eq_true rfl) d_SC_code_1 ⟨Nat.zero_le _, Nat.zero_le _⟩ (fun H locs hP hS => ?_)
  refine lv_aload_n hx hb d_SC_code_4 rfl (lv_at hl 0 rfl) ?_
  refine va_get (D := D) (ci := 0) (v := .ref (a 4)) (C := R_SC) (T := T_SC) (N := 6) hx hb hg in_SC hown hK hP 0 rfl rfl 3 (by decide) (hg _ gw_168) (fun _ h9 => h9) rfl d_SC_code_5 ?_
  refine lv_iload_n hx hb d_SC_code_8 rfl (lv_at hl 1 rfl) ?_
  refine bdK hf (fun q3 h4 hf => ?_)
  refine rc_Vi (As := [.int x1]) (rest := []) (b := a 4) (stC_g t) F (c_ST_holds l ha x1 σ1 q3 h4) (cwV 1 hg gc_SC_80 rfl rfl rfl hs_ST_holds ⟨Nat.le_of_ble_eq_true rfl, Nat.le_of_ble_eq_true rfl⟩) hK hT hP hS (va_recv hK hP (ci := 4) (q0 := 4) rfl rfl) rfl hl.1 rfl (Nat.le_of_ble_eq_true rfl) d_SC_code_9 ⟨Nat.zero_le _, Nat.zero_le _⟩ (fun H locs hP hS => ?_)
  refine lv_if_eq (tgt := 26) hx hb d_SC_code_12 (by decide) (fun c5 => ?_) (fun c5 => ?_)
  · replace hf := (if_pos c5).symm.trans hf
    refine lv_iconst (v := (-1 : Int32)) hx hb d_SC_code_26 (by decide) ?_
    exact rr_i hx hb hr hlk (stC_g t) hK hT hP hS hf d_SC_code_27
  · replace hf := (if_neg c5).symm.trans hf
    refine lv_aload_n hx hb d_SC_code_15 rfl (lv_at hl 0 rfl) ?_
    refine va_get (D := D) (ci := 0) (v := .ref (a 4)) (C := R_SC) (T := T_SC) (N := 6) hx hb hg in_SC hown hK hP 0 rfl rfl 3 (by decide) (hg _ gw_168) (fun _ h9 => h9) rfl d_SC_code_16 ?_
    refine lv_iload_n hx hb d_SC_code_19 rfl (lv_at hl 1 rfl) ?_
    refine bdK hf (fun q6 h7 hf => ?_)
    refine rc_Vi (As := [.int x1]) (rest := []) (b := a 4) (stC_g t) F (c_ST_encoded l ha x1 q3.2 q6 h7) (cwV 1 hg gc_SC_81 rfl rfl rfl hs_ST_encoded ⟨Nat.le_of_ble_eq_true rfl, Nat.le_of_ble_eq_true rfl⟩) hK hT hP hS (va_recv hK hP (ci := 4) (q0 := 4) rfl rfl) rfl hl.1 rfl (Nat.le_of_ble_eq_true rfl) d_SC_code_20 ⟨Nat.zero_le _, Nat.zero_le _⟩ (fun H locs hP hS => ?_)
    refine lv_goto (tgt := 27) hx hb d_SC_code_23 (by decide) ?_
    exact rr_i hx hb hr hlk (stC_g t) hK hT hP hS hf d_SC_code_27
set_option maxHeartbeats 4000000 in
set_option maxRecDepth 100000 in
theorem c_SC_code (l : Launch) {D : va_G} {a t : Nat → Nat} {cI cZ : ClassId} (ha : aCC a) (x1 : Int32) (σ : SS) (q : Int32 × SS) (hf : f_SC_code x1 σ = some q) : Met l y_SC_code ws_SC_code { frames := 6, cells := 0, slots := 0, locals := 136 } (va_Pc [.ref (a 0), .int x1] (pW D (wC a cI cZ) [(cI, .int), (cZ, .boolean)] (stC t) (aC a) σ)) (va_Qi (fun r u => r = q.1 ∧ u = q.2) (pW D (wC a cI cZ) [(cI, .int), (cZ, .boolean)] (stC t) (aC a)) (aC a)) 0 0 (aC a) := by
  refine Met.ofW (cc := b_SC_code) (maxL := 2) (ret := some .int) (by decide) rfl ?_
  intro p e s m args below meth c s₁ B hml hv
  obtain ⟨rfl, hP, hK, hT⟩ := hv
  have hl := lv_entry ([.ref (a 0), .int x1]) (n := 2) (Nat.le_of_ble_eq_true rfl)
  rw [lg_entry_eq]
  generalize (lg_sl ([.ref (a 0), .int x1]) ++ List.replicate (2 - (lg_sl ([.ref (a 0), .int x1])).length) Slot.unset).toArray = ls at hl ⊢
  exact e_SC_code ha ⟨B.exec, B.bytes, hml, findClass_of_methodNamed B.named, fun w h => atoms_spec (ws := ws_SC_code) B.pre w (List.mem_cons_of_mem _ h)⟩ B.returns B.notSynchronized hK hT x1 σ q hf s.heap [] hP va_S.rf ls hl
theorem d_CA_goalOf_0 : decode b_CA_goalOf 0 = .ok (.aload_n 0, 1) := by decide +kernel
theorem d_CA_goalOf_1 : decode b_CA_goalOf 1 = .ok (.getfield 9, 3) := by decide +kernel
theorem d_CA_goalOf_4 : decode b_CA_goalOf 4 = .ok (.iload_n 1, 1) := by decide +kernel
theorem d_CA_goalOf_5 : decode b_CA_goalOf 5 = .ok (.iaload, 1) := by decide +kernel
theorem d_CA_goalOf_6 : decode b_CA_goalOf 6 = .ok (.ireturn, 1) := by decide +kernel
def f_CA_goalOf (x1 : Int32) (σ : SS) : Option (Int32 × SS) :=
  (ld (σ 10) 40 x1).bind fun v1 => some (v1, σ)
set_option maxHeartbeats 4000000 in
set_option maxRecDepth 100000 in
theorem e_CA_goalOf {p : Program} {l : Launch} {e : Env} {s : State} {m : MethodId} {args : Array Value} {below : List Frame} {meth : Method} {c : Code} {D : va_G} {a t : Nat → Nat} {cI cZ : ClassId} (ha : aCC a) (F : CallFix p m c b_CA_goalOf 2 s args gt R_CA) (hr : meth.sig.returnType = some .int) (hlk : meth.locks = false) (hK : va_K D vwCl [(cI, .int), (cZ, .boolean)] s) (hT : stC t (aC a) s s.heap) :
    ∀ (x1 : Int32) (σ : SS) (q : Int32 × SS), f_CA_goalOf x1 σ = some q → ∀ (H : Heap) (locs : List Loc), va_P D vwCl ((wC a cI cZ) σ) H → va_S (aC a) s.heap H locs → ∀ (ls : Array Slot), lv_has ls 2 [(0, .ref (a 3)), (1, .int x1)] → W p l e { frames := 0, cells := 0, slots := 0, locals := 0 } s m args below meth c H locs 0 0 (MQ below (va_Qi (fun r u => r = q.1 ∧ u = q.2) (pW D (wC a cI cZ) [(cI, .int), (cZ, .boolean)] (stC t) (aC a)) (aC a)) args s 0 0 (aC a)) (F0 m 0 ls []) := by
  obtain ⟨hx, hb, hml, hown, hg⟩ := id F
  intro x1 σ q hf H locs hP hS ls hl
  unfold f_CA_goalOf at hf
  refine lv_aload_n hx hb d_CA_goalOf_0 rfl (lv_at hl 0 rfl) ?_
  refine va_get (D := D) (ci := 3) (v := .ref (a 16)) (C := R_CA) (T := T_CA) (N := 9) hx hb hg in_CA hown hK hP 3 rfl rfl 3 (by decide) (hg _ gw_78) (fun _ h9 => h9) rfl d_CA_goalOf_1 ?_
  refine lv_iload_n hx hb d_CA_goalOf_4 rfl (lv_at hl 1 rfl) ?_
  refine bdK hf (fun v1 h2 hf => ?_)
  refine r_iald hx hb hK hP 16 0 rfl rfl h2 d_CA_goalOf_5 ?_
  exact rr_i hx hb hr hlk (stC_g t) hK hT hP hS hf d_CA_goalOf_6
set_option maxHeartbeats 4000000 in
set_option maxRecDepth 100000 in
theorem c_CA_goalOf (l : Launch) {D : va_G} {a t : Nat → Nat} {cI cZ : ClassId} (ha : aCC a) (x1 : Int32) (σ : SS) (q : Int32 × SS) (hf : f_CA_goalOf x1 σ = some q) : Met l y_CA_goalOf ws_CA_goalOf { frames := 0, cells := 0, slots := 0, locals := 0 } (va_Pc [.ref (a 3), .int x1] (pW D (wC a cI cZ) [(cI, .int), (cZ, .boolean)] (stC t) (aC a) σ)) (va_Qi (fun r u => r = q.1 ∧ u = q.2) (pW D (wC a cI cZ) [(cI, .int), (cZ, .boolean)] (stC t) (aC a)) (aC a)) 0 0 (aC a) := by
  refine Met.ofW (cc := b_CA_goalOf) (maxL := 2) (ret := some .int) (by decide) rfl ?_
  intro p e s m args below meth c s₁ B hml hv
  obtain ⟨rfl, hP, hK, hT⟩ := hv
  have hl := lv_entry ([.ref (a 3), .int x1]) (n := 2) (Nat.le_of_ble_eq_true rfl)
  rw [lg_entry_eq]
  generalize (lg_sl ([.ref (a 3), .int x1]) ++ List.replicate (2 - (lg_sl ([.ref (a 3), .int x1])).length) Slot.unset).toArray = ls at hl ⊢
  exact e_CA_goalOf ha ⟨B.exec, B.bytes, hml, findClass_of_methodNamed B.named, fun w h => atoms_spec (ws := ws_CA_goalOf) B.pre w (List.mem_cons_of_mem _ h)⟩ B.returns B.notSynchronized hK hT x1 σ q hf s.heap [] hP va_S.rf ls hl
