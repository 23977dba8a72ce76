theorem d_MA_followInstruction_0 : decode b_MA_followInstruction 0 = .ok (.aload_n 1, 1) := by decide +kernel
theorem d_MA_followInstruction_1 : decode b_MA_followInstruction 1 = .ok (.iload_n 2, 1) := by decide +kernel
theorem d_MA_followInstruction_2 : decode b_MA_followInstruction 2 = .ok (.invokevirtual 61, 3) := by decide +kernel
theorem d_MA_followInstruction_5 : decode b_MA_followInstruction 5 = .ok (.istore_n 3, 1) := by decide +kernel
theorem d_MA_followInstruction_6 : decode b_MA_followInstruction 6 = .ok (.aload_n 1, 1) := by decide +kernel
theorem d_MA_followInstruction_7 : decode b_MA_followInstruction 7 = .ok (.iload_n 2, 1) := by decide +kernel
theorem d_MA_followInstruction_8 : decode b_MA_followInstruction 8 = .ok (.invokevirtual 64, 3) := by decide +kernel
theorem d_MA_followInstruction_11 : decode b_MA_followInstruction 11 = .ok (.istore 4, 2) := by decide +kernel
theorem d_MA_followInstruction_13 : decode b_MA_followInstruction 13 = .ok (.aload_n 1, 1) := by decide +kernel
theorem d_MA_followInstruction_14 : decode b_MA_followInstruction 14 = .ok (.iload_n 2, 1) := by decide +kernel
theorem d_MA_followInstruction_15 : decode b_MA_followInstruction 15 = .ok (.invokevirtual 67, 3) := by decide +kernel
theorem d_MA_followInstruction_18 : decode b_MA_followInstruction 18 = .ok (.tableswitch 95 7 11 #[34, 59, 73, 75, 93], 34) := by decide +kernel
theorem d_MA_followInstruction_52 : decode b_MA_followInstruction 52 = .ok (.aload_n 0, 1) := by decide +kernel
theorem d_MA_followInstruction_53 : decode b_MA_followInstruction 53 = .ok (.getfield 15, 3) := by decide +kernel
theorem d_MA_followInstruction_56 : decode b_MA_followInstruction 56 = .ok (.aload_n 0, 1) := by decide +kernel
theorem d_MA_followInstruction_57 : decode b_MA_followInstruction 57 = .ok (.getfield 9, 3) := by decide +kernel
theorem d_MA_followInstruction_60 : decode b_MA_followInstruction 60 = .ok (.iload_n 3, 1) := by decide +kernel
theorem d_MA_followInstruction_61 : decode b_MA_followInstruction 61 = .ok (.iaload, 1) := by decide +kernel
theorem d_MA_followInstruction_62 : decode b_MA_followInstruction 62 = .ok (.invokestatic 70, 3) := by decide +kernel
theorem d_MA_followInstruction_65 : decode b_MA_followInstruction 65 = .ok (.aload_n 0, 1) := by decide +kernel
theorem d_MA_followInstruction_66 : decode b_MA_followInstruction 66 = .ok (.getfield 9, 3) := by decide +kernel
theorem d_MA_followInstruction_69 : decode b_MA_followInstruction 69 = .ok (.iload 4, 2) := by decide +kernel
theorem d_MA_followInstruction_71 : decode b_MA_followInstruction 71 = .ok (.iaload, 1) := by decide +kernel
theorem d_MA_followInstruction_72 : decode b_MA_followInstruction 72 = .ok (.iastore, 1) := by decide +kernel
theorem d_MA_followInstruction_73 : decode b_MA_followInstruction 73 = .ok (.iload_n 2, 1) := by decide +kernel
theorem d_MA_followInstruction_74 : decode b_MA_followInstruction 74 = .ok (.iconst 1, 1) := by decide +kernel
theorem d_MA_followInstruction_75 : decode b_MA_followInstruction 75 = .ok (.iadd, 1) := by decide +kernel
theorem d_MA_followInstruction_76 : decode b_MA_followInstruction 76 = .ok (.ireturn, 1) := by decide +kernel
theorem d_MA_followInstruction_77 : decode b_MA_followInstruction 77 = .ok (.aload_n 0, 1) := by decide +kernel
theorem d_MA_followInstruction_78 : decode b_MA_followInstruction 78 = .ok (.aload_n 0, 1) := by decide +kernel
theorem d_MA_followInstruction_79 : decode b_MA_followInstruction 79 = .ok (.getfield 9, 3) := by decide +kernel
theorem d_MA_followInstruction_82 : decode b_MA_followInstruction 82 = .ok (.iload_n 3, 1) := by decide +kernel
theorem d_MA_followInstruction_83 : decode b_MA_followInstruction 83 = .ok (.iaload, 1) := by decide +kernel
theorem d_MA_followInstruction_84 : decode b_MA_followInstruction 84 = .ok (.invokevirtual 73, 3) := by decide +kernel
theorem d_MA_followInstruction_87 : decode b_MA_followInstruction 87 = .ok (.iload_n 2, 1) := by decide +kernel
theorem d_MA_followInstruction_88 : decode b_MA_followInstruction 88 = .ok (.iconst 1, 1) := by decide +kernel
theorem d_MA_followInstruction_89 : decode b_MA_followInstruction 89 = .ok (.iadd, 1) := by decide +kernel
theorem d_MA_followInstruction_90 : decode b_MA_followInstruction 90 = .ok (.ireturn, 1) := by decide +kernel
theorem d_MA_followInstruction_91 : decode b_MA_followInstruction 91 = .ok (.iload_n 3, 1) := by decide +kernel
theorem d_MA_followInstruction_92 : decode b_MA_followInstruction 92 = .ok (.ireturn, 1) := by decide +kernel
theorem d_MA_followInstruction_93 : decode b_MA_followInstruction 93 = .ok (.aload_n 0, 1) := by decide +kernel
theorem d_MA_followInstruction_94 : decode b_MA_followInstruction 94 = .ok (.getfield 9, 3) := by decide +kernel
theorem d_MA_followInstruction_97 : decode b_MA_followInstruction 97 = .ok (.iload_n 3, 1) := by decide +kernel
theorem d_MA_followInstruction_98 : decode b_MA_followInstruction 98 = .ok (.iaload, 1) := by decide +kernel
theorem d_MA_followInstruction_99 : decode b_MA_followInstruction 99 = .ok (.ifCond .ne 8, 3) := by decide +kernel
theorem d_MA_followInstruction_102 : decode b_MA_followInstruction 102 = .ok (.iload 4, 2) := by decide +kernel
theorem d_MA_followInstruction_104 : decode b_MA_followInstruction 104 = .ok (.goto 6, 3) := by decide +kernel
theorem d_MA_followInstruction_107 : decode b_MA_followInstruction 107 = .ok (.iload_n 2, 1) := by decide +kernel
theorem d_MA_followInstruction_108 : decode b_MA_followInstruction 108 = .ok (.iconst 1, 1) := by decide +kernel
theorem d_MA_followInstruction_109 : decode b_MA_followInstruction 109 = .ok (.iadd, 1) := by decide +kernel
theorem d_MA_followInstruction_110 : decode b_MA_followInstruction 110 = .ok (.ireturn, 1) := by decide +kernel
theorem d_MA_followInstruction_111 : decode b_MA_followInstruction 111 = .ok (.iconst (-1), 1) := by decide +kernel
theorem d_MA_followInstruction_112 : decode b_MA_followInstruction 112 = .ok (.ireturn, 1) := by decide +kernel
theorem d_MA_followInstruction_113 : decode b_MA_followInstruction 113 = .ok (.aload_n 0, 1) := by decide +kernel
theorem d_MA_followInstruction_114 : decode b_MA_followInstruction 114 = .ok (.getfield 9, 3) := by decide +kernel
theorem d_MA_followInstruction_117 : decode b_MA_followInstruction 117 = .ok (.aload_n 1, 1) := by decide +kernel
theorem d_MA_followInstruction_118 : decode b_MA_followInstruction 118 = .ok (.iload_n 2, 1) := by decide +kernel
theorem d_MA_followInstruction_119 : decode b_MA_followInstruction 119 = .ok (.invokevirtual 77, 3) := by decide +kernel
theorem d_MA_followInstruction_122 : decode b_MA_followInstruction 122 = .ok (.aload_n 0, 1) := by decide +kernel
theorem d_MA_followInstruction_123 : decode b_MA_followInstruction 123 = .ok (.aload_n 1, 1) := by decide +kernel
theorem d_MA_followInstruction_124 : decode b_MA_followInstruction 124 = .ok (.iload_n 2, 1) := by decide +kernel
theorem d_MA_followInstruction_125 : decode b_MA_followInstruction 125 = .ok (.invokevirtual 67, 3) := by decide +kernel
theorem d_MA_followInstruction_128 : decode b_MA_followInstruction 128 = .ok (.iload_n 3, 1) := by decide +kernel
theorem d_MA_followInstruction_129 : decode b_MA_followInstruction 129 = .ok (.iload 4, 2) := by decide +kernel
theorem d_MA_followInstruction_131 : decode b_MA_followInstruction 131 = .ok (.invokevirtual 80, 3) := by decide +kernel
theorem d_MA_followInstruction_134 : decode b_MA_followInstruction 134 = .ok (.iastore, 1) := by decide +kernel
theorem d_MA_followInstruction_135 : decode b_MA_followInstruction 135 = .ok (.iload_n 2, 1) := by decide +kernel
theorem d_MA_followInstruction_136 : decode b_MA_followInstruction 136 = .ok (.iconst 1, 1) := by decide +kernel
theorem d_MA_followInstruction_137 : decode b_MA_followInstruction 137 = .ok (.iadd, 1) := by decide +kernel
theorem d_MA_followInstruction_138 : decode b_MA_followInstruction 138 = .ok (.ireturn, 1) := by decide +kernel
theorem gc_MA_61 : GoodIn gt (wsV R_MA 61 R_RC y_RC_aOf ws_RC_aOf) := gd_V gw_503 gw_250 gw_251 gw_2 gw_252
theorem gc_MA_64 : GoodIn gt (wsV R_MA 64 R_RC y_RC_bOf ws_RC_bOf) := gd_V gw_504 gw_259 gw_260 gw_2 gw_261
theorem gc_MA_67 : GoodIn gt (wsV R_MA 67 R_RC y_RC_operationOf ws_RC_operationOf) := gd_V gw_505 gw_246 gw_247 gw_2 gw_248
theorem gc_MA_73 : GoodIn gt (wsV R_MA 73 R_MA y_MA_print ws_MA_print) := gd_V gw_509 gw_511 gs_28 gw_6 gw_512
theorem gc_MA_77 : GoodIn gt (wsV R_MA 77 R_RC y_RC_dOf ws_RC_dOf) := gd_V gw_513 gw_514 gw_515 gw_2 gw_516
theorem gc_MA_80 : GoodIn gt (wsV R_MA 80 R_MA y_MA_valueOf ws_MA_valueOf) := gd_V gw_517 gw_519 gs_29 gw_6 gw_520
def f_MA_followInstruction (x2 : Int32) (σ : SS) : Option (Int32 × SS) :=
  (f_RC_aOf x2 σ).bind fun q1 => (f_RC_bOf x2 q1.2).bind fun q3 => (f_RC_operationOf x2 q3.2).bind fun q5 => (if q5.1 = (7 : Int32) then (ld (q5.2 20) 10 q1.1).bind fun v12 => (f_MA_cellIndex v12 q5.2).bind fun q14 => (ld (q14.2 20) 10 q3.1).bind fun v16 => (sto q14.2 21 16 q14.1 v16).bind fun σ18 => some ((x2 + (1 : Int32)), σ18) else (if q5.1 = (8 : Int32) then (ld (q5.2 20) 10 q1.1).bind fun v20 => (f_MA_print v20 q5.2).bind fun σ22 => some ((x2 + (1 : Int32)), σ22) else (if q5.1 = (9 : Int32) then some (q1.1, q5.2) else (if q5.1 = (10 : Int32) then (ld (q5.2 20) 10 q1.1).bind fun v24 => (if v24 = 0 then some (q3.1, q5.2) else some ((x2 + (1 : Int32)), q5.2)) else (if q5.1 = (11 : Int32) then some ((-1 : Int32), q5.2) else (f_RC_dOf x2 q5.2).bind fun q27 => (f_RC_operationOf x2 q27.2).bind fun q29 => (f_MA_valueOf q29.1 q1.1 q3.1 q29.2).bind fun q31 => (sto q31.2 20 10 q27.1 q31.1).bind fun σ33 => some ((x2 + (1 : Int32)), σ33))))))
set_option maxHeartbeats 4000000 in
set_option maxRecDepth 100000 in
theorem e_MA_followInstruction {p : Program} {l : Launch} {e : Env} {s : State} {m : MethodId} {args : Array Value} {below : List Frame} {meth : Method} {c : Code} {D : va_G} {a t : Nat → Nat} {cI cZ : ClassId} (ha : aCC a) (F : CallFix p m c b_MA_followInstruction 5 s args gt R_MA) (hr : meth.sig.returnType = some .int) (hlk : meth.locks = false) (hK : va_K D vwCl [(cI, .int), (cZ, .boolean)] s) (hT : stC t (aC a) s s.heap) :
    ∀ (x2 : Int32) (σ : SS) (q : Int32 × SS), f_MA_followInstruction x2 σ = some q → ∀ (H : Heap) (locs : List Loc), va_P D vwCl ((wC a cI cZ) σ) H → va_S (aC a) s.heap H locs → ∀ (ls : Array Slot), lv_has ls 5 [(0, .ref (a 5)), (1, .ref (a 1)), (2, .int x2)] → W p l e { frames := 2, cells := 0, slots := 0, locals := 43 } s m args below meth c H locs 0 0 (MQ below (va_Qi (fun r u => r = q.1 ∧ u = q.2) (pW D (wC a cI cZ) [(cI, .int), (cZ, .boolean)] (stC t) (aC a)) (aC a)) args s 0 0 (aC a)) (F0 m 0 ls []) := by
  obtain ⟨hx, hb, hml, hown, hg⟩ := id F
  intro x2 σ q hf H locs hP hS ls hl
  unfold f_MA_followInstruction at hf
  refine lv_aload_n hx hb d_MA_followInstruction_0 rfl (lv_at hl 1 rfl) ?_
  refine lv_iload_n hx hb d_MA_followInstruction_1 rfl (lv_at hl 2 rfl) ?_
  refine bdK hf (fun q1 h2 hf => ?_)
  refine rc_Vi (As := [.int x2]) (rest := []) (b := a 1) (stC_g t) F (c_RC_aOf l ha x2 σ q1 h2) (cwV 1 hg gc_MA_61 rfl rfl rfl hs_RC_aOf ⟨Nat.le_of_ble_eq_true rfl, Nat.le_of_ble_eq_true rfl⟩) hK hT hP hS (va_recv hK hP (ci := 1) (q0 := 1) rfl rfl) rfl hl.1 rfl (Nat.le_of_ble_eq_true rfl) d_MA_followInstruction_2 ⟨Nat.zero_le _, Nat.zero_le _⟩ (fun H locs hP hS => ?_)
  refine lv_istore_n (lv' := [(3, .int q1.1), (0, .ref (a 5)), (1, .ref (a 1)), (2, .int x2)]) hx hb d_MA_followInstruction_5 rfl hl (by decide) rfl (fun ls hl => ?_)
  refine lv_aload_n hx hb d_MA_followInstruction_6 rfl (lv_at hl 2 rfl) ?_
  refine lv_iload_n hx hb d_MA_followInstruction_7 rfl (lv_at hl 3 rfl) ?_
  refine bdK hf (fun q3 h4 hf => ?_)
  refine rc_Vi (As := [.int x2]) (rest := []) (b := a 1) (stC_g t) F (c_RC_bOf l ha x2 q1.2 q3 h4) (cwV 1 hg gc_MA_64 rfl rfl rfl hs_RC_bOf ⟨Nat.le_of_ble_eq_true rfl, Nat.le_of_ble_eq_true rfl⟩) hK hT hP hS (va_recv hK hP (ci := 1) (q0 := 1) rfl rfl) rfl hl.1 rfl (Nat.le_of_ble_eq_true rfl) d_MA_followInstruction_8 ⟨Nat.zero_le _, Nat.zero_le _⟩ (fun H locs hP hS => ?_)
  refine lv_istore (lv' := [(4, .int q3.1), (3, .int q1.1), (0, .ref (a 5)), (1, .ref (a 1)), (2, .int x2)]) hx hb d_MA_followInstruction_11 hl (by decide) rfl (fun ls hl => ?_)
  refine lv_aload_n hx hb d_MA_followInstruction_13 rfl (lv_at hl 3 rfl) ?_
  refine lv_iload_n hx hb d_MA_followInstruction_14 rfl (lv_at hl 4 rfl) ?_
  refine bdK hf (fun q5 h6 hf => ?_)
  refine rc_Vi (As := [.int x2]) (rest := []) (b := a 1) (stC_g t) F (c_RC_operationOf l ha x2 q3.2 q5 h6) (cwV 1 hg gc_MA_67 rfl rfl rfl hs_RC_operationOf ⟨Nat.le_of_ble_eq_true rfl, Nat.le_of_ble_eq_true rfl⟩) hK hT hP hS (va_recv hK hP (ci := 1) (q0 := 1) rfl rfl) rfl hl.1 rfl (Nat.le_of_ble_eq_true rfl) d_MA_followInstruction_15 ⟨Nat.zero_le _, Nat.zero_le _⟩ (fun H locs hP hS => ?_)
  by_cases c7 : q5.1 = (7 : Int32)
  · replace hf := (if_pos c7).symm.trans hf
    refine lv_tableIn (off := 34) (tgt := 52) hx hb d_MA_followInstruction_18 (by rw [c7]; decide) (by rw [c7]; decide) (by rw [c7]; rfl) (by decide) ?_
    refine lv_aload_n hx hb d_MA_followInstruction_52 rfl (lv_at hl 2 rfl) ?_
    refine va_get (D := D) (ci := 5) (v := .ref (a 27)) (C := R_MA) (T := T_MA) (N := 7) hx hb hg in_MA hown hK hP 5 rfl rfl 1 (by decide) (hg _ gw_144) (fun _ h9 => h9) rfl d_MA_followInstruction_53 ?_
    refine lv_aload_n hx hb d_MA_followInstruction_56 rfl (lv_at hl 2 rfl) ?_
    refine va_get (D := D) (ci := 5) (v := .ref (a 26)) (C := R_MA) (T := T_MA) (N := 7) hx hb hg in_MA hown hK hP 5 rfl rfl 0 (by decide) (hg _ gw_143) (fun _ h9 => h9) rfl d_MA_followInstruction_57 ?_
    refine lv_iload_n hx hb d_MA_followInstruction_60 rfl (lv_at hl 1 rfl) ?_
    refine bdK hf (fun v12 h13 hf => ?_)
    refine r_iald hx hb hK hP 26 0 rfl rfl h13 d_MA_followInstruction_61 ?_
    refine bdK hf (fun q14 h15 hf => ?_)
    refine rc_Si (As := [.int v12]) (rest := [.ref (a 27)]) (stC_g t) F (c_MA_cellIndex l ha v12 q5.2 q14 h15) (cwS 1 hg gc_MA_70 rfl rfl rfl hs_MA_cellIndex ⟨Nat.le_of_ble_eq_true rfl, Nat.le_of_ble_eq_true rfl⟩) hK hT hP hS rfl hl.1 rfl (Nat.le_of_ble_eq_true rfl) d_MA_followInstruction_62 ⟨Nat.zero_le _, Nat.zero_le _⟩ (fun H locs hP hS => ?_)
    refine lv_aload_n hx hb d_MA_followInstruction_65 rfl (lv_at hl 2 rfl) ?_
    refine va_get (D := D) (ci := 5) (v := .ref (a 26)) (C := R_MA) (T := T_MA) (N := 7) hx hb hg in_MA hown hK hP 5 rfl rfl 0 (by decide) (hg _ gw_143) (fun _ h9 => h9) rfl d_MA_followInstruction_66 ?_
    refine lv_iload hx hb d_MA_followInstruction_69 (lv_at hl 0 rfl) ?_
    refine bdK hf (fun v16 h17 hf => ?_)
    refine r_iald hx hb hK hP 26 0 rfl rfl h17 d_MA_followInstruction_71 ?_
    refine bdK hf (fun σ18 h19 hf => ?_)
    refine r_iast (wf := (wC a cI cZ)) hx hb hK hP (dC ha q14.2) hS 27 0 rfl rfl (fun _ _ => rfl) h19 d_MA_followInstruction_72 (fun H locs hP hS => ?_)
    refine lv_iload_n hx hb d_MA_followInstruction_73 rfl (lv_at hl 4 rfl) ?_
    refine lv_iconst (v := (1 : Int32)) hx hb d_MA_followInstruction_74 (by decide) ?_
    refine lv_iadd hx hb d_MA_followInstruction_75 ?_
    exact rr_i hx hb hr hlk (stC_g t) hK hT hP hS hf d_MA_followInstruction_76
  · replace hf := (if_neg c7).symm.trans hf
    by_cases c8 : q5.1 = (8 : Int32)
    · replace hf := (if_pos c8).symm.trans hf
      refine lv_tableIn (off := 59) (tgt := 77) hx hb d_MA_followInstruction_18 (by rw [c8]; decide) (by rw [c8]; decide) (by rw [c8]; rfl) (by decide) ?_
      refine lv_aload_n hx hb d_MA_followInstruction_77 rfl (lv_at hl 2 rfl) ?_
      refine lv_aload_n hx hb d_MA_followInstruction_78 rfl (lv_at hl 2 rfl) ?_
      refine va_get (D := D) (ci := 5) (v := .ref (a 26)) (C := R_MA) (T := T_MA) (N := 7) hx hb hg in_MA hown hK hP 5 rfl rfl 0 (by decide) (hg _ gw_143) (fun _ h9 => h9) rfl d_MA_followInstruction_79 ?_
      refine lv_iload_n hx hb d_MA_followInstruction_82 rfl (lv_at hl 1 rfl) ?_
      refine bdK hf (fun v20 h21 hf => ?_)
      refine r_iald hx hb hK hP 26 0 rfl rfl h21 d_MA_followInstruction_83 ?_
      refine bdK hf (fun σ22 h23 hf => ?_)
      refine rc_Vv (As := [.int v20]) (rest := []) (b := a 5) (stC_g t) F (c_MA_print l ha v20 q5.2 σ22 h23) (cwV 1 hg gc_MA_73 rfl rfl rfl hs_MA_print ⟨Nat.le_of_ble_eq_true rfl, Nat.le_of_ble_eq_true rfl⟩) hK hT hP hS (va_recv hK hP (ci := 5) (q0 := 5) rfl rfl) rfl hl.1 rfl (Nat.le_of_ble_eq_true rfl) d_MA_followInstruction_84 ⟨Nat.zero_le _, Nat.zero_le _⟩ (fun H locs hP hS => ?_)
      refine lv_iload_n hx hb d_MA_followInstruction_87 rfl (lv_at hl 4 rfl) ?_
      refine lv_iconst (v := (1 : Int32)) hx hb d_MA_followInstruction_88 (by decide) ?_
      refine lv_iadd hx hb d_MA_followInstruction_89 ?_
      exact rr_i hx hb hr hlk (stC_g t) hK hT hP hS hf d_MA_followInstruction_90
    · replace hf := (if_neg c8).symm.trans hf
      by_cases c9 : q5.1 = (9 : Int32)
      · replace hf := (if_pos c9).symm.trans hf
        refine lv_tableIn (off := 73) (tgt := 91) hx hb d_MA_followInstruction_18 (by rw [c9]; decide) (by rw [c9]; decide) (by rw [c9]; rfl) (by decide) ?_
        refine lv_iload_n hx hb d_MA_followInstruction_91 rfl (lv_at hl 1 rfl) ?_
        exact rr_i hx hb hr hlk (stC_g t) hK hT hP hS hf d_MA_followInstruction_92
      · replace hf := (if_neg c9).symm.trans hf
        by_cases c10 : q5.1 = (10 : Int32)
        · replace hf := (if_pos c10).symm.trans hf
          refine lv_tableIn (off := 75) (tgt := 93) hx hb d_MA_followInstruction_18 (by rw [c10]; decide) (by rw [c10]; decide) (by rw [c10]; rfl) (by decide) ?_
          refine lv_aload_n hx hb d_MA_followInstruction_93 rfl (lv_at hl 2 rfl) ?_
          refine va_get (D := D) (ci := 5) (v := .ref (a 26)) (C := R_MA) (T := T_MA) (N := 7) hx hb hg in_MA hown hK hP 5 rfl rfl 0 (by decide) (hg _ gw_143) (fun _ h9 => h9) rfl d_MA_followInstruction_94 ?_
          refine lv_iload_n hx hb d_MA_followInstruction_97 rfl (lv_at hl 1 rfl) ?_
          refine bdK hf (fun v24 h25 hf => ?_)
          refine r_iald hx hb hK hP 26 0 rfl rfl h25 d_MA_followInstruction_98 ?_
          refine lv_if_ne (tgt := 107) hx hb d_MA_followInstruction_99 (by decide) (fun c26 => ?_) (fun c26 => ?_)
          · replace hf := (if_neg c26).symm.trans hf
            refine lv_iload_n hx hb d_MA_followInstruction_107 rfl (lv_at hl 4 rfl) ?_
            refine lv_iconst (v := (1 : Int32)) hx hb d_MA_followInstruction_108 (by decide) ?_
            refine lv_iadd hx hb d_MA_followInstruction_109 ?_
            exact rr_i hx hb hr hlk (stC_g t) hK hT hP hS hf d_MA_followInstruction_110
          · replace hf := (if_pos c26).symm.trans hf
            refine lv_iload hx hb d_MA_followInstruction_102 (lv_at hl 0 rfl) ?_
            refine lv_goto (tgt := 110) hx hb d_MA_followInstruction_104 (by decide) ?_
            exact rr_i hx hb hr hlk (stC_g t) hK hT hP hS hf d_MA_followInstruction_110
        · replace hf := (if_neg c10).symm.trans hf
          by_cases c11 : q5.1 = (11 : Int32)
          · replace hf := (if_pos c11).symm.trans hf
            refine lv_tableIn (off := 93) (tgt := 111) hx hb d_MA_followInstruction_18 (by rw [c11]; decide) (by rw [c11]; decide) (by rw [c11]; rfl) (by decide) ?_
            refine lv_iconst (v := (-1 : Int32)) hx hb d_MA_followInstruction_111 (by decide) ?_
            exact rr_i hx hb hr hlk (stC_g t) hK hT hP hS hf d_MA_followInstruction_112
          · replace hf := (if_neg c11).symm.trans hf
            have nc7 := lv_neT (a := 7) c7 (by decide)
            have nc8 := lv_neT (a := 8) c8 (by decide)
            have nc9 := lv_neT (a := 9) c9 (by decide)
            have nc10 := lv_neT (a := 10) c10 (by decide)
            have nc11 := lv_neT (a := 11) c11 (by decide)
            refine lv_tableOut (tgt := 113) hx hb d_MA_followInstruction_18 (by omega) (by decide) ?_
            refine lv_aload_n hx hb d_MA_followInstruction_113 rfl (lv_at hl 2 rfl) ?_
            refine va_get (D := D) (ci := 5) (v := .ref (a 26)) (C := R_MA) (T := T_MA) (N := 7) hx hb hg in_MA hown hK hP 5 rfl rfl 0 (by decide) (hg _ gw_143) (fun _ h9 => h9) rfl d_MA_followInstruction_114 ?_
            refine lv_aload_n hx hb d_MA_followInstruction_117 rfl (lv_at hl 3 rfl) ?_
            refine lv_iload_n hx hb d_MA_followInstruction_118 rfl (lv_at hl 4 rfl) ?_
            refine bdK hf (fun q27 h28 hf => ?_)
            refine rc_Vi (As := [.int x2]) (rest := [.ref (a 26)]) (b := a 1) (stC_g t) F (c_RC_dOf l ha x2 q5.2 q27 h28) (cwV 1 hg gc_MA_77 rfl rfl rfl hs_RC_dOf ⟨Nat.le_of_ble_eq_true rfl, Nat.le_of_ble_eq_true rfl⟩) hK hT hP hS (va_recv hK hP (ci := 1) (q0 := 1) rfl rfl) rfl hl.1 rfl (Nat.le_of_ble_eq_true rfl) d_MA_followInstruction_119 ⟨Nat.zero_le _, Nat.zero_le _⟩ (fun H locs hP hS => ?_)
            refine lv_aload_n hx hb d_MA_followInstruction_122 rfl (lv_at hl 2 rfl) ?_
            refine lv_aload_n hx hb d_MA_followInstruction_123 rfl (lv_at hl 3 rfl) ?_
            refine lv_iload_n hx hb d_MA_followInstruction_124 rfl (lv_at hl 4 rfl) ?_
            refine bdK hf (fun q29 h30 hf => ?_)
            refine rc_Vi (As := [.int x2]) (rest := [.ref (a 5), .int q27.1, .ref (a 26)]) (b := a 1) (stC_g t) F (c_RC_operationOf l ha x2 q27.2 q29 h30) (cwV 1 hg gc_MA_67 rfl rfl rfl hs_RC_operationOf ⟨Nat.le_of_ble_eq_true rfl, Nat.le_of_ble_eq_true rfl⟩) hK hT hP hS (va_recv hK hP (ci := 1) (q0 := 1) rfl rfl) rfl hl.1 rfl (Nat.le_of_ble_eq_true rfl) d_MA_followInstruction_125 ⟨Nat.zero_le _, Nat.zero_le _⟩ (fun H locs hP hS => ?_)
            refine lv_iload_n hx hb d_MA_followInstruction_128 rfl (lv_at hl 1 rfl) ?_
            refine lv_iload hx hb d_MA_followInstruction_129 (lv_at hl 0 rfl) ?_
            refine bdK hf (fun q31 h32 hf => ?_)
            refine rc_Vi (As := [.int q29.1, .int q1.1, .int q3.1]) (rest := [.int q27.1, .ref (a 26)]) (b := a 5) (stC_g t) F (c_MA_valueOf l ha q29.1 q1.1 q3.1 q29.2 q31 h32) (cwV 3 hg gc_MA_80 rfl rfl rfl hs_MA_valueOf ⟨Nat.le_of_ble_eq_true rfl, Nat.le_of_ble_eq_true rfl⟩) hK hT hP hS (va_recv hK hP (ci := 5) (q0 := 5) rfl rfl) rfl hl.1 rfl (Nat.le_of_ble_eq_true rfl) d_MA_followInstruction_131 ⟨Nat.zero_le _, Nat.zero_le _⟩ (fun H locs hP hS => ?_)
            refine bdK hf (fun σ33 h34 hf => ?_)
            refine r_iast (wf := (wC a cI cZ)) hx hb hK hP (dC ha q31.2) hS 26 0 rfl rfl (fun _ _ => rfl) h34 d_MA_followInstruction_134 (fun H locs hP hS => ?_)
            refine lv_iload_n hx hb d_MA_followInstruction_135 rfl (lv_at hl 4 rfl) ?_
            refine lv_iconst (v := (1 : Int32)) hx hb d_MA_followInstruction_136 (by decide) ?_
            refine lv_iadd hx hb d_MA_followInstruction_137 ?_
            exact rr_i hx hb hr hlk (stC_g t) hK hT hP hS hf d_MA_followInstruction_138
set_option maxHeartbeats 4000000 in
set_option maxRecDepth 100000 in
theorem c_MA_followInstruction (l : Launch) {D : va_G} {a t : Nat → Nat} {cI cZ : ClassId} (ha : aCC a) (x2 : Int32) (σ : SS) (q : Int32 × SS) (hf : f_MA_followInstruction x2 σ = some q) : Met l y_MA_followInstruction ws_MA_followInstruction { frames := 2, cells := 0, slots := 0, locals := 43 } (va_Pc [.ref (a 5), .ref (a 1), .int x2] (pW D (wC a cI cZ) [(cI, .int), (cZ, .boolean)] (stC t) (aC a) σ)) (va_Qi (fun r u => r = q.1 ∧ u = q.2) (pW D (wC a cI cZ) [(cI, .int), (cZ, .boolean)] (stC t) (aC a)) (aC a)) 0 0 (aC a) := by
  refine Met.ofW (cc := b_MA_followInstruction) (maxL := 5) (ret := some .int) (by decide) rfl ?_
  intro p e s m args below meth c s₁ B hml hv
  obtain ⟨rfl, hP, hK, hT⟩ := hv
  have hl := lv_entry ([.ref (a 5), .ref (a 1), .int x2]) (n := 5) (Nat.le_of_ble_eq_true rfl)
  rw [lg_entry_eq]
  generalize (lg_sl ([.ref (a 5), .ref (a 1), .int x2]) ++ List.replicate (5 - (lg_sl ([.ref (a 5), .ref (a 1), .int x2])).length) Slot.unset).toArray = ls at hl ⊢
  exact e_MA_followInstruction ha ⟨B.exec, B.bytes, hml, findClass_of_methodNamed B.named, fun w h => atoms_spec (ws := ws_MA_followInstruction) B.pre w (List.mem_cons_of_mem _ h)⟩ B.returns B.notSynchronized hK hT x2 σ q hf s.heap [] hP va_S.rf ls hl
theorem d_MA_runInstructions_0 : decode b_MA_runInstructions 0 = .ok (.aload_n 0, 1) := by decide +kernel
theorem d_MA_runInstructions_1 : decode b_MA_runInstructions 1 = .ok (.invokevirtual 24, 3) := by decide +kernel
theorem d_MA_runInstructions_4 : decode b_MA_runInstructions 4 = .ok (.iconst 0, 1) := by decide +kernel
theorem d_MA_runInstructions_5 : decode b_MA_runInstructions 5 = .ok (.istore_n 2, 1) := by decide +kernel
theorem d_MA_runInstructions_6 : decode b_MA_runInstructions 6 = .ok (.iconst 0, 1) := by decide +kernel
theorem d_MA_runInstructions_7 : decode b_MA_runInstructions 7 = .ok (.istore_n 3, 1) := by decide +kernel
theorem d_MA_runInstructions_8 : decode b_MA_runInstructions 8 = .ok (.iload_n 3, 1) := by decide +kernel
theorem d_MA_runInstructions_9 : decode b_MA_runInstructions 9 = .ok (.sipush 300, 3) := by decide +kernel
theorem d_MA_runInstructions_12 : decode b_MA_runInstructions 12 = .ok (.if_icmp .ge 24, 3) := by decide +kernel
theorem d_MA_runInstructions_15 : decode b_MA_runInstructions 15 = .ok (.aload_n 1, 1) := by decide +kernel
theorem d_MA_runInstructions_16 : decode b_MA_runInstructions 16 = .ok (.iload_n 2, 1) := by decide +kernel
theorem d_MA_runInstructions_17 : decode b_MA_runInstructions 17 = .ok (.invokevirtual 27, 3) := by decide +kernel
theorem d_MA_runInstructions_20 : decode b_MA_runInstructions 20 = .ok (.ifCond .eq 16, 3) := by decide +kernel
theorem d_MA_runInstructions_23 : decode b_MA_runInstructions 23 = .ok (.aload_n 0, 1) := by decide +kernel
theorem d_MA_runInstructions_24 : decode b_MA_runInstructions 24 = .ok (.aload_n 1, 1) := by decide +kernel
theorem d_MA_runInstructions_25 : decode b_MA_runInstructions 25 = .ok (.iload_n 2, 1) := by decide +kernel
theorem d_MA_runInstructions_26 : decode b_MA_runInstructions 26 = .ok (.invokevirtual 33, 3) := by decide +kernel
theorem d_MA_runInstructions_29 : decode b_MA_runInstructions 29 = .ok (.istore_n 2, 1) := by decide +kernel
theorem d_MA_runInstructions_30 : decode b_MA_runInstructions 30 = .ok (.iinc 3 1, 3) := by decide +kernel
theorem d_MA_runInstructions_33 : decode b_MA_runInstructions 33 = .ok (.goto (-25), 3) := by decide +kernel
theorem d_MA_runInstructions_36 : decode b_MA_runInstructions 36 = .ok (.aload_n 0, 1) := by decide +kernel
theorem d_MA_runInstructions_37 : decode b_MA_runInstructions 37 = .ok (.iload_n 3, 1) := by decide +kernel
theorem d_MA_runInstructions_38 : decode b_MA_runInstructions 38 = .ok (.putfield 37, 3) := by decide +kernel
theorem d_MA_runInstructions_41 : decode b_MA_runInstructions 41 = .ok (.aload_n 0, 1) := by decide +kernel
theorem d_MA_runInstructions_42 : decode b_MA_runInstructions 42 = .ok (.getfield 41, 3) := by decide +kernel
theorem d_MA_runInstructions_45 : decode b_MA_runInstructions 45 = .ok (.ireturn, 1) := by decide +kernel
theorem gc_MA_27 : GoodIn gt (wsV R_MA 27 R_RC y_RC_holds ws_RC_holds) := gd_V gw_498 gw_217 gw_218 gw_2 gw_219
theorem gc_MA_33 : GoodIn gt (wsV R_MA 33 R_MA y_MA_followInstruction ws_MA_followInstruction) := gd_V gw_499 gw_501 gs_27 gw_6 gw_502
theorem gc_MA_24 : GoodIn gt (wsV R_MA 24 R_MA y_MA_reset ws_MA_reset) := gd_V gw_494 gw_496 gs_26 gw_6 gw_497
def b_MA_runInstructions_8 : Nat → Int32 → Int32 → SS → Option (Int32 × SS)
  | 0, _, _, _ => none
  | n + 1, x2, x3, σ =>
    (if (300 : Int32) ≤ x3 then (sf σ 31 x3).bind fun σ2 => some ((σ2 30 0), σ2) else (f_RC_holds x2 σ).bind fun q4 => (if q4.1 = 0 then (sf q4.2 31 x3).bind fun σ7 => some ((σ7 30 0), σ7) else (f_MA_followInstruction x2 q4.2).bind fun q9 => b_MA_runInstructions_8 n q9.1 (x3 + (1 : Int32)) q9.2))
set_option maxHeartbeats 4000000 in
set_option maxRecDepth 100000 in
theorem k_MA_runInstructions_8 {p : Program} {l : Launch} {e : Env} {s : State} {m : MethodId} {args : Array Value} {below : List Frame} {meth : Method} {c : Code} {D : va_G} {a t : Nat → Nat} {cI cZ : ClassId} (ha : aCC a) (F : CallFix p m c b_MA_runInstructions 4 s args gt R_MA) (hr : meth.sig.returnType = some .int) (hlk : meth.locks = false) (hK : va_K D vwCl [(cI, .int), (cZ, .boolean)] s) (hT : stC t (aC a) s s.heap) :
    ∀ (n : Nat) (x2 x3 : Int32) (σ : SS) (q : Int32 × SS), b_MA_runInstructions_8 n x2 x3 σ = some q → ∀ (H : Heap) (locs : List Loc), va_P D vwCl ((wC a cI cZ) σ) H → va_S (aC a) s.heap H locs → ∀ (ls : Array Slot), lv_has ls 4 [(0, .ref (a 5)), (1, .ref (a 1)), (2, .int x2), (3, .int x3)] → W p l e { frames := 3, cells := 0, slots := 0, locals := 67 } s m args below meth c H locs 0 0 (MQ below (va_Qi (fun r u => r = q.1 ∧ u = q.2) (pW D (wC a cI cZ) [(cI, .int), (cZ, .boolean)] (stC t) (aC a)) (aC a)) args s 0 0 (aC a)) (F0 m 8 ls []) := by
  obtain ⟨hx, hb, hml, hown, hg⟩ := id F
  intro n
  induction n with
  | zero =>
    intro x2 x3 σ q hf
    rw [b_MA_runInstructions_8] at hf
    cases hf
  | succ n ih =>
    intro x2 x3 σ q hf H locs hP hS ls hl
    rw [b_MA_runInstructions_8] at hf
    refine lv_iload_n hx hb d_MA_runInstructions_8 rfl (lv_at hl 3 rfl) ?_
    refine lv_sipush (v := (300 : Int32)) hx hb d_MA_runInstructions_9 (by decide) ?_
    refine lv_icmp_ge (tgt := 36) hx hb d_MA_runInstructions_12 (by decide) (fun c1 => ?_) (fun c1 => ?_)
    · replace hf := (if_pos c1).symm.trans hf
      refine lv_aload_n hx hb d_MA_runInstructions_36 rfl (lv_at hl 0 rfl) ?_
      refine lv_iload_n hx hb d_MA_runInstructions_37 rfl (lv_at hl 3 rfl) ?_
      refine bdK hf (fun σ2 h3 hf => ?_)
      refine va_put (D := D) (ci := 5) (v := .int x3) (ty := .int) (C := R_MA) (T := T_MA) (N := 7) hx hb hg in_MA t_MA t_MA_ok n_MA hown hK hP (dC ha σ) hS 5 rfl rfl 6 (by decide) (hg _ gw_149) (fun _ h9 => h9) rfl (by decide +kernel) rfl rfl (Nat.le_of_ble_eq_true rfl) d_MA_runInstructions_38 (fun H locs hP _ hS => ?_)
      replace hP := sf_P (wf := (wC a cI cZ)) h3 hP rfl
      refine lv_aload_n hx hb d_MA_runInstructions_41 rfl (lv_at hl 0 rfl) ?_
      refine va_get (D := D) (ci := 5) (v := .int (σ2 30 0)) (C := R_MA) (T := T_MA) (N := 7) hx hb hg in_MA hown hK hP 5 rfl rfl 5 (by decide) (hg _ gw_148) (fun _ h9 => h9) rfl d_MA_runInstructions_42 ?_
      exact rr_i hx hb hr hlk (stC_g t) hK hT hP hS hf d_MA_runInstructions_45
    · replace hf := (if_neg c1).symm.trans hf
      refine lv_aload_n hx hb d_MA_runInstructions_15 rfl (lv_at hl 1 rfl) ?_
      refine lv_iload_n hx hb d_MA_runInstructions_16 rfl (lv_at hl 2 rfl) ?_
      refine bdK hf (fun q4 h5 hf => ?_)
      refine rc_Vi (As := [.int x2]) (rest := []) (b := a 1) (stC_g t) F (c_RC_holds l ha x2 σ q4 h5) (cwV 1 hg gc_MA_27 rfl rfl rfl hs_RC_holds ⟨Nat.le_of_ble_eq_true rfl, Nat.le_of_ble_eq_true rfl⟩) hK hT hP hS (va_recv hK hP (ci := 1) (q0 := 1) rfl rfl) rfl hl.1 rfl (Nat.le_of_ble_eq_true rfl) d_MA_runInstructions_17 ⟨Nat.zero_le _, Nat.zero_le _⟩ (fun H locs hP hS => ?_)
      refine lv_if_eq (tgt := 36) hx hb d_MA_runInstructions_20 (by decide) (fun c6 => ?_) (fun c6 => ?_)
      · replace hf := (if_pos c6).symm.trans hf
        refine lv_aload_n hx hb d_MA_runInstructions_36 rfl (lv_at hl 0 rfl) ?_
        refine lv_iload_n hx hb d_MA_runInstructions_37 rfl (lv_at hl 3 rfl) ?_
        refine bdK hf (fun σ7 h8 hf => ?_)
        refine va_put (D := D) (ci := 5) (v := .int x3) (ty := .int) (C := R_MA) (T := T_MA) (N := 7) hx hb hg in_MA t_MA t_MA_ok n_MA hown hK hP (dC ha q4.2) hS 5 rfl rfl 6 (by decide) (hg _ gw_149) (fun _ h9 => h9) rfl (by decide +kernel) rfl rfl (Nat.le_of_ble_eq_true rfl) d_MA_runInstructions_38 (fun H locs hP _ hS => ?_)
        replace hP := sf_P (wf := (wC a cI cZ)) h8 hP rfl
        refine lv_aload_n hx hb d_MA_runInstructions_41 rfl (lv_at hl 0 rfl) ?_
        refine va_get (D := D) (ci := 5) (v := .int (σ7 30 0)) (C := R_MA) (T := T_MA) (N := 7) hx hb hg in_MA hown hK hP 5 rfl rfl 5 (by decide) (hg _ gw_148) (fun _ h9 => h9) rfl d_MA_runInstructions_42 ?_
        exact rr_i hx hb hr hlk (stC_g t) hK hT hP hS hf d_MA_runInstructions_45
      · replace hf := (if_neg c6).symm.trans hf
        refine lv_aload_n hx hb d_MA_runInstructions_23 rfl (lv_at hl 0 rfl) ?_
        refine lv_aload_n hx hb d_MA_runInstructions_24 rfl (lv_at hl 1 rfl) ?_
        refine lv_iload_n hx hb d_MA_runInstructions_25 rfl (lv_at hl 2 rfl) ?_
        refine bdK hf (fun q9 h10 hf => ?_)
        refine rc_Vi (As := [.ref (a 1), .int x2]) (rest := []) (b := a 5) (stC_g t) F (c_MA_followInstruction l ha x2 q4.2 q9 h10) (cwV 2 hg gc_MA_33 rfl rfl rfl hs_MA_followInstruction ⟨Nat.le_of_ble_eq_true rfl, Nat.le_of_ble_eq_true rfl⟩) hK hT hP hS (va_recv hK hP (ci := 5) (q0 := 5) rfl rfl) rfl hl.1 rfl (Nat.le_of_ble_eq_true rfl) d_MA_runInstructions_26 ⟨Nat.zero_le _, Nat.zero_le _⟩ (fun H locs hP hS => ?_)
        refine lv_istore_n (lv' := [(2, .int q9.1), (0, .ref (a 5)), (1, .ref (a 1)), (3, .int x3)]) hx hb d_MA_runInstructions_29 rfl hl (by decide) rfl (fun ls hl => ?_)
        refine lv_iinc (v := (x3 + (1 : Int32))) (lv' := [(3, .int (x3 + (1 : Int32))), (2, .int q9.1), (0, .ref (a 5)), (1, .ref (a 1))]) hx hb d_MA_runInstructions_30 hl (k := 3) rfl (by rfl) (by decide) rfl (fun ls hl => ?_)
        refine lv_goto (tgt := 8) hx hb d_MA_runInstructions_33 (by decide) ?_
        exact ih q9.1 (x3 + (1 : Int32)) q9.2 q hf _ _ hP hS ls (lv_sub hl [2, 3, 1, 0] rfl)
def f_MA_runInstructions (σ : SS) : Option (Int32 × SS) :=
  (f_MA_reset σ).bind fun σ1 => b_MA_runInstructions_8 FU (0 : Int32) (0 : Int32) σ1
set_option maxHeartbeats 4000000 in
set_option maxRecDepth 100000 in
theorem e_MA_runInstructions {p : Program} {l : Launch} {e : Env} {s : State} {m : MethodId} {args : Array Value} {below : List Frame} {meth : Method} {c : Code} {D : va_G} {a t : Nat → Nat} {cI cZ : ClassId} (ha : aCC a) (F : CallFix p m c b_MA_runInstructions 4 s args gt R_MA) (hr : meth.sig.returnType = some .int) (hlk : meth.locks = false) (hK : va_K D vwCl [(cI, .int), (cZ, .boolean)] s) (hT : stC t (aC a) s s.heap) :
    ∀ (σ : SS) (q : Int32 × SS), f_MA_runInstructions σ = some q → ∀ (H : Heap) (locs : List Loc), va_P D vwCl ((wC a cI cZ) σ) H → va_S (aC a) s.heap H locs → ∀ (ls : Array Slot), lv_has ls 4 [(0, .ref (a 5)), (1, .ref (a 1))] → W p l e { frames := 3, cells := 0, slots := 0, locals := 67 } s m args below meth c H locs 0 0 (MQ below (va_Qi (fun r u => r = q.1 ∧ u = q.2) (pW D (wC a cI cZ) [(cI, .int), (cZ, .boolean)] (stC t) (aC a)) (aC a)) args s 0 0 (aC a)) (F0 m 0 ls []) := by
  obtain ⟨hx, hb, hml, hown, hg⟩ := id F
  intro σ q hf H locs hP hS ls hl
  unfold f_MA_runInstructions at hf
  refine lv_aload_n hx hb d_MA_runInstructions_0 rfl (lv_at hl 0 rfl) ?_
  refine bdK hf (fun σ1 h2 hf => ?_)
  refine rc_Vv (As := []) (rest := []) (b := a 5) (stC_g t) F (c_MA_reset l ha σ σ1 h2) (cwV 0 hg gc_MA_24 rfl rfl rfl hs_MA_reset ⟨Nat.le_of_ble_eq_true rfl, Nat.le_of_ble_eq_true rfl⟩) hK hT hP hS (va_recv hK hP (ci := 5) (q0 := 5) rfl rfl) rfl hl.1 rfl (Nat.le_of_ble_eq_true rfl) d_MA_runInstructions_1 ⟨Nat.zero_le _, Nat.zero_le _⟩ (fun H locs hP hS => ?_)
  refine lv_iconst (v := (0 : Int32)) hx hb d_MA_runInstructions_4 (by decide) ?_
  refine lv_istore_n (lv' := [(2, .int (0 : Int32)), (0, .ref (a 5)), (1, .ref (a 1))]) hx hb d_MA_runInstructions_5 rfl hl (by decide) rfl (fun ls hl => ?_)
  refine lv_iconst (v := (0 : Int32)) hx hb d_MA_runInstructions_6 (by decide) ?_
  refine lv_istore_n (lv' := [(3, .int (0 : Int32)), (2, .int (0 : Int32)), (0, .ref (a 5)), (1, .ref (a 1))]) hx hb d_MA_runInstructions_7 rfl hl (by decide) rfl (fun ls hl => ?_)
  exact k_MA_runInstructions_8 ha F hr hlk hK hT FU (0 : Int32) (0 : Int32) σ1 q hf _ _ hP hS ls (lv_sub hl [2, 3, 1, 0] rfl)
set_option maxHeartbeats 4000000 in
set_option maxRecDepth 100000 in
theorem c_MA_runInstructions (l : Launch) {D : va_G} {a t : Nat → Nat} {cI cZ : ClassId} (ha : aCC a) (σ : SS) (q : Int32 × SS) (hf : f_MA_runInstructions σ = some q) : Met l y_MA_runInstructions ws_MA_runInstructions { frames := 3, cells := 0, slots := 0, locals := 67 } (va_Pc [.ref (a 5), .ref (a 1)] (pW D (wC a cI cZ) [(cI, .int), (cZ, .boolean)] (stC t) (aC a) σ)) (va_Qi (fun r u => r = q.1 ∧ u = q.2) (pW D (wC a cI cZ) [(cI, .int), (cZ, .boolean)] (stC t) (aC a)) (aC a)) 0 0 (aC a) := by
  refine Met.ofW (cc := b_MA_runInstructions) (maxL := 4) (ret := some .int) (by decide) rfl ?_
  intro p e s m args below meth c s₁ B hml hv
  obtain ⟨rfl, hP, hK, hT⟩ := hv
  have hl := lv_entry ([.ref (a 5), .ref (a 1)]) (n := 4) (Nat.le_of_ble_eq_true rfl)
  rw [lg_entry_eq]
  generalize (lg_sl ([.ref (a 5), .ref (a 1)]) ++ List.replicate (4 - (lg_sl ([.ref (a 5), .ref (a 1)])).length) Slot.unset).toArray = ls at hl ⊢
  exact e_MA_runInstructions ha ⟨B.exec, B.bytes, hml, findClass_of_methodNamed B.named, fun w h => atoms_spec (ws := ws_MA_runInstructions) B.pre w (List.mem_cons_of_mem _ h)⟩ B.returns B.notSynchronized hK hT σ q hf s.heap [] hP va_S.rf ls hl
theorem d_ST_operationAt_0 : decode b_ST_operationAt 0 = .ok (.aload_n 0, 1) := by decide +kernel
theorem d_ST_operationAt_1 : decode b_ST_operationAt 1 = .ok (.getfield 11, 3) := by decide +kernel
theorem d_ST_operationAt_4 : decode b_ST_operationAt 4 = .ok (.iload_n 1, 1) := by decide +kernel
theorem d_ST_operationAt_5 : decode b_ST_operationAt 5 = .ok (.iaload, 1) := by decide +kernel
theorem d_ST_operationAt_6 : decode b_ST_operationAt 6 = .ok (.ireturn, 1) := by decide +kernel
def f_ST_operationAt (x1 : Int32) (σ : SS) : Option (Int32 × SS) :=
  (ld (σ 16) 201 x1).bind fun v1 => some (v1, σ)
set_option maxHeartbeats 4000000 in
set_option maxRecDepth 100000 in
theorem e_ST_operationAt {p : Program} {l : Launch} {e : Env} {s : State} {m : MethodId} {args : Array Value} {below : List Frame} {meth : Method} {c : Code} {D : va_G} {a t : Nat → Nat} {cI cZ : ClassId} (ha : aCC a) (F : CallFix p m c b_ST_operationAt 2 s args gt R_ST) (hr : meth.sig.returnType = some .int) (hlk : meth.locks = false) (hK : va_K D vwCl [(cI, .int), (cZ, .boolean)] s) (hT : stC t (aC a) s s.heap) :
    ∀ (x1 : Int32) (σ : SS) (q : Int32 × SS), f_ST_operationAt x1 σ = some q → ∀ (H : Heap) (locs : List Loc), va_P D vwCl ((wC a cI cZ) σ) H → va_S (aC a) s.heap H locs → ∀ (ls : Array Slot), lv_has ls 2 [(0, .ref (a 4)), (1, .int x1)] → W p l e { frames := 0, cells := 0, slots := 0, locals := 0 } s m args below meth c H locs 0 0 (MQ below (va_Qi (fun r u => r = q.1 ∧ u = q.2) (pW D (wC a cI cZ) [(cI, .int), (cZ, .boolean)] (stC t) (aC a)) (aC a)) args s 0 0 (aC a)) (F0 m 0 ls []) := by
  obtain ⟨hx, hb, hml, hown, hg⟩ := id F
  intro x1 σ q hf H locs hP hS ls hl
  unfold f_ST_operationAt at hf
  refine lv_aload_n hx hb d_ST_operationAt_0 rfl (lv_at hl 0 rfl) ?_
  refine va_get (D := D) (ci := 4) (v := .ref (a 22)) (C := R_ST) (T := T_ST) (N := 9) hx hb hg in_ST hown hK hP 4 rfl rfl 3 (by decide) (hg _ gw_112) (fun _ h9 => h9) rfl d_ST_operationAt_1 ?_
  refine lv_iload_n hx hb d_ST_operationAt_4 rfl (lv_at hl 1 rfl) ?_
  refine bdK hf (fun v1 h2 hf => ?_)
  refine r_iald hx hb hK hP 22 0 rfl rfl h2 d_ST_operationAt_5 ?_
  exact rr_i hx hb hr hlk (stC_g t) hK hT hP hS hf d_ST_operationAt_6
set_option maxHeartbeats 4000000 in
set_option maxRecDepth 100000 in
theorem c_ST_operationAt (l : Launch) {D : va_G} {a t : Nat → Nat} {cI cZ : ClassId} (ha : aCC a) (x1 : Int32) (σ : SS) (q : Int32 × SS) (hf : f_ST_operationAt x1 σ = some q) : Met l y_ST_operationAt ws_ST_operationAt { frames := 0, cells := 0, slots := 0, locals := 0 } (va_Pc [.ref (a 4), .int x1] (pW D (wC a cI cZ) [(cI, .int), (cZ, .boolean)] (stC t) (aC a) σ)) (va_Qi (fun r u => r = q.1 ∧ u = q.2) (pW D (wC a cI cZ) [(cI, .int), (cZ, .boolean)] (stC t) (aC a)) (aC a)) 0 0 (aC a) := by
  refine Met.ofW (cc := b_ST_operationAt) (maxL := 2) (ret := some .int) (by decide) rfl ?_
  intro p e s m args below meth c s₁ B hml hv
  obtain ⟨rfl, hP, hK, hT⟩ := hv
  have hl := lv_entry ([.ref (a 4), .int x1]) (n := 2) (Nat.le_of_ble_eq_true rfl)
  rw [lg_entry_eq]
  generalize (lg_sl ([.ref (a 4), .int x1]) ++ List.replicate (2 - (lg_sl ([.ref (a 4), .int x1])).length) Slot.unset).toArray = ls at hl ⊢
  exact e_ST_operationAt ha ⟨B.exec, B.bytes, hml, findClass_of_methodNamed B.named, fun w h => atoms_spec (ws := ws_ST_operationAt) B.pre w (List.mem_cons_of_mem _ h)⟩ B.returns B.notSynchronized hK hT x1 σ q hf s.heap [] hP va_S.rf ls hl
theorem d_ST_numberAt_0 : decode b_ST_numberAt 0 = .ok (.aload_n 0, 1) := by decide +kernel
theorem d_ST_numberAt_1 : decode b_ST_numberAt 1 = .ok (.getfield 15, 3) := by decide +kernel
theorem d_ST_numberAt_4 : decode b_ST_numberAt 4 = .ok (.iload_n 1, 1) := by decide +kernel
theorem d_ST_numberAt_5 : decode b_ST_numberAt 5 = .ok (.iaload, 1) := by decide +kernel
theorem d_ST_numberAt_6 : decode b_ST_numberAt 6 = .ok (.ireturn, 1) := by decide +kernel
def f_ST_numberAt (x1 : Int32) (σ : SS) : Option (Int32 × SS) :=
  (ld (σ 17) 201 x1).bind fun v1 => some (v1, σ)
set_option maxHeartbeats 4000000 in
set_option maxRecDepth 100000 in
theorem e_ST_numberAt {p : Program} {l : Launch} {e : Env} {s : State} {m : MethodId} {args : Array Value} {below : List Frame} {meth : Method} {c : Code} {D : va_G} {a t : Nat → Nat} {cI cZ : ClassId} (ha : aCC a) (F : CallFix p m c b_ST_numberAt 2 s args gt R_ST) (hr : meth.sig.returnType = some .int) (hlk : meth.locks = false) (hK : va_K D vwCl [(cI, .int), (cZ, .boolean)] s) (hT : stC t (aC a) s s.heap) :
    ∀ (x1 : Int32) (σ : SS) (q : Int32 × SS), f_ST_numberAt x1 σ = some q → ∀ (H : Heap) (locs : List Loc), va_P D vwCl ((wC a cI cZ) σ) H → va_S (aC a) s.heap H locs → ∀ (ls : Array Slot), lv_has ls 2 [(0, .ref (a 4)), (1, .int x1)] → W p l e { frames := 0, cells := 0, slots := 0, locals := 0 } s m args below meth c H locs 0 0 (MQ below (va_Qi (fun r u => r = q.1 ∧ u = q.2) (pW D (wC a cI cZ) [(cI, .int), (cZ, .boolean)] (stC t) (aC a)) (aC a)) args s 0 0 (aC a)) (F0 m 0 ls []) := by
  obtain ⟨hx, hb, hml, hown, hg⟩ := id F
  intro x1 σ q hf H locs hP hS ls hl
  unfold f_ST_numberAt at hf
  refine lv_aload_n hx hb d_ST_numberAt_0 rfl (lv_at hl 0 rfl) ?_
  refine va_get (D := D) (ci := 4) (v := .ref (a 23)) (C := R_ST) (T := T_ST) (N := 9) hx hb hg in_ST hown hK hP 4 rfl rfl 4 (by decide) (hg _ gw_113) (fun _ h9 => h9) rfl d_ST_numberAt_1 ?_
  refine lv_iload_n hx hb d_ST_numberAt_4 rfl (lv_at hl 1 rfl) ?_
  refine bdK hf (fun v1 h2 hf => ?_)
  refine r_iald hx hb hK hP 23 0 rfl rfl h2 d_ST_numberAt_5 ?_
  exact rr_i hx hb hr hlk (stC_g t) hK hT hP hS hf d_ST_numberAt_6
set_option maxHeartbeats 4000000 in
set_option maxRecDepth 100000 in
theorem c_ST_numberAt (l : Launch) {D : va_G} {a t : Nat → Nat} {cI cZ : ClassId} (ha : aCC a) (x1 : Int32) (σ : SS) (q : Int32 × SS) (hf : f_ST_numberAt x1 σ = some q) : Met l y_ST_numberAt ws_ST_numberAt { frames := 0, cells := 0, slots := 0, locals := 0 } (va_Pc [.ref (a 4), .int x1] (pW D (wC a cI cZ) [(cI, .int), (cZ, .boolean)] (stC t) (aC a) σ)) (va_Qi (fun r u => r = q.1 ∧ u = q.2) (pW D (wC a cI cZ) [(cI, .int), (cZ, .boolean)] (stC t) (aC a)) (aC a)) 0 0 (aC a) := by
  refine Met.ofW (cc := b_ST_numberAt) (maxL := 2) (ret := some .int) (by decide) rfl ?_
  intro p e s m args below meth c s₁ B hml hv
  obtain ⟨rfl, hP, hK, hT⟩ := hv
  have hl := lv_entry ([.ref (a 4), .int x1]) (n := 2) (Nat.le_of_ble_eq_true rfl)
  rw [lg_entry_eq]
  generalize (lg_sl ([.ref (a 4), .int x1]) ++ List.replicate (2 - (lg_sl ([.ref (a 4), .int x1])).length) Slot.unset).toArray = ls at hl ⊢
  exact e_ST_numberAt ha ⟨B.exec, B.bytes, hml, findClass_of_methodNamed B.named, fun w h => atoms_spec (ws := ws_ST_numberAt) B.pre w (List.mem_cons_of_mem _ h)⟩ B.returns B.notSynchronized hK hT x1 σ q hf s.heap [] hP va_S.rf ls hl
theorem d_MA_push_0 : decode b_MA_push 0 = .ok (.aload_n 0, 1) := by decide +kernel
theorem d_MA_push_1 : decode b_MA_push 1 = .ok (.getfield 58, 3) := by decide +kernel
theorem d_MA_push_4 : decode b_MA_push 4 = .ok (.ifCond .lt 32, 3) := by decide +kernel
theorem d_MA_push_7 : decode b_MA_push 7 = .ok (.aload_n 0, 1) := by decide +kernel
theorem d_MA_push_8 : decode b_MA_push 8 = .ok (.getfield 58, 3) := by decide +kernel
theorem d_MA_push_11 : decode b_MA_push 11 = .ok (.bipush 8, 2) := by decide +kernel
theorem d_MA_push_13 : decode b_MA_push 13 = .ok (.if_icmp .ge 23, 3) := by decide +kernel
theorem d_MA_push_16 : decode b_MA_push 16 = .ok (.aload_n 0, 1) := by decide +kernel
theorem d_MA_push_17 : decode b_MA_push 17 = .ok (.getfield 21, 3) := by decide +kernel
theorem d_MA_push_20 : decode b_MA_push 20 = .ok (.aload_n 0, 1) := by decide +kernel
theorem d_MA_push_21 : decode b_MA_push 21 = .ok (.getfield 58, 3) := by decide +kernel
theorem d_MA_push_24 : decode b_MA_push 24 = .ok (.iload_n 1, 1) := by decide +kernel
theorem d_MA_push_25 : decode b_MA_push 25 = .ok (.iastore, 1) := by decide +kernel
theorem d_MA_push_26 : decode b_MA_push 26 = .ok (.aload_n 0, 1) := by decide +kernel
theorem d_MA_push_27 : decode b_MA_push 27 = .ok (.dup, 1) := by decide +kernel
theorem d_MA_push_28 : decode b_MA_push 28 = .ok (.getfield 58, 3) := by decide +kernel
theorem d_MA_push_31 : decode b_MA_push 31 = .ok (.iconst 1, 1) := by decide +kernel
theorem d_MA_push_32 : decode b_MA_push 32 = .ok (.iadd, 1) := by decide +kernel
theorem d_MA_push_33 : decode b_MA_push 33 = .ok (.putfield 58, 3) := by decide +kernel
theorem d_MA_push_36 : decode b_MA_push 36 = .ok (.return_, 1) := by decide +kernel
def f_MA_push (x1 : Int32) (σ : SS) : Option (SS) :=
  (if (σ 29 0) < 0 then some σ else (if (8 : Int32) ≤ (σ 29 0) then some σ else (sto σ 23 8 (σ 29 0) x1).bind fun σ3 => (sf σ3 29 ((σ3 29 0) + (1 : Int32))).bind fun σ5 => some σ5))
set_option maxHeartbeats 4000000 in
set_option maxRecDepth 100000 in
theorem e_MA_push {p : Program} {l : Launch} {e : Env} {s : State} {m : MethodId} {args : Array Value} {below : List Frame} {meth : Method} {c : Code} {D : va_G} {a t : Nat → Nat} {cI cZ : ClassId} (ha : aCC a) (F : CallFix p m c b_MA_push 2 s args gt R_MA) (hr : meth.sig.returnType = none) (hlk : meth.locks = false) (hK : va_K D vwCl [(cI, .int), (cZ, .boolean)] s) (hT : stC t (aC a) s s.heap) :
    ∀ (x1 : Int32) (σ : SS) (q : SS), f_MA_push x1 σ = some q → ∀ (H : Heap) (locs : List Loc), va_P D vwCl ((wC a cI cZ) σ) H → va_S (aC a) s.heap H locs → ∀ (ls : Array Slot), lv_has ls 2 [(0, .ref (a 5)), (1, .int x1)] → W p l e { frames := 0, cells := 0, slots := 0, locals := 0 } s m args below meth c H locs 0 0 (MQ below (va_Qv (fun u => u = q) (pW D (wC a cI cZ) [(cI, .int), (cZ, .boolean)] (stC t) (aC a)) (aC a)) args s 0 0 (aC a)) (F0 m 0 ls []) := by
  obtain ⟨hx, hb, hml, hown, hg⟩ := id F
  intro x1 σ q hf H locs hP hS ls hl
  unfold f_MA_push at hf
  refine lv_aload_n hx hb d_MA_push_0 rfl (lv_at hl 0 rfl) ?_
  refine va_get (D := D) (ci := 5) (v := .int (σ 29 0)) (C := R_MA) (T := T_MA) (N := 7) hx hb hg in_MA hown hK hP 5 rfl rfl 4 (by decide) (hg _ gw_147) (fun _ h9 => h9) rfl d_MA_push_1 ?_
  refine lv_if_lt (tgt := 36) hx hb d_MA_push_4 (by decide) (fun c1 => ?_) (fun c1 => ?_)
  · replace hf := (if_pos c1).symm.trans hf
    exact rr_v hx hb hr hlk (stC_g t) hK hT hP hS hf d_MA_push_36
  · replace hf := (if_neg c1).symm.trans hf
    refine lv_aload_n hx hb d_MA_push_7 rfl (lv_at hl 0 rfl) ?_
    refine va_get (D := D) (ci := 5) (v := .int (σ 29 0)) (C := R_MA) (T := T_MA) (N := 7) hx hb hg in_MA hown hK hP 5 rfl rfl 4 (by decide) (hg _ gw_147) (fun _ h9 => h9) rfl d_MA_push_8 ?_
    refine lv_bipush (v := (8 : Int32)) hx hb d_MA_push_11 (by decide) ?_
    refine lv_icmp_ge (tgt := 36) hx hb d_MA_push_13 (by decide) (fun c2 => ?_) (fun c2 => ?_)
    · replace hf := (if_pos c2).symm.trans hf
      exact rr_v hx hb hr hlk (stC_g t) hK hT hP hS hf d_MA_push_36
    · replace hf := (if_neg c2).symm.trans hf
      refine lv_aload_n hx hb d_MA_push_16 rfl (lv_at hl 0 rfl) ?_
      refine va_get (D := D) (ci := 5) (v := .ref (a 29)) (C := R_MA) (T := T_MA) (N := 7) hx hb hg in_MA hown hK hP 5 rfl rfl 3 (by decide) (hg _ gw_146) (fun _ h9 => h9) rfl d_MA_push_17 ?_
      refine lv_aload_n hx hb d_MA_push_20 rfl (lv_at hl 0 rfl) ?_
      refine va_get (D := D) (ci := 5) (v := .int (σ 29 0)) (C := R_MA) (T := T_MA) (N := 7) hx hb hg in_MA hown hK hP 5 rfl rfl 4 (by decide) (hg _ gw_147) (fun _ h9 => h9) rfl d_MA_push_21 ?_
      refine lv_iload_n hx hb d_MA_push_24 rfl (lv_at hl 1 rfl) ?_
      refine bdK hf (fun σ3 h4 hf => ?_)
      refine r_iast (wf := (wC a cI cZ)) hx hb hK hP (dC ha σ) hS 29 0 rfl rfl (fun _ _ => rfl) h4 d_MA_push_25 (fun H locs hP hS => ?_)
      refine lv_aload_n hx hb d_MA_push_26 rfl (lv_at hl 0 rfl) ?_
      refine lv_dup hx hb d_MA_push_27 rfl ?_
      refine va_get (D := D) (ci := 5) (v := .int (σ3 29 0)) (C := R_MA) (T := T_MA) (N := 7) hx hb hg in_MA hown hK hP 5 rfl rfl 4 (by decide) (hg _ gw_147) (fun _ h9 => h9) rfl d_MA_push_28 ?_
      refine lv_iconst (v := (1 : Int32)) hx hb d_MA_push_31 (by decide) ?_
      refine lv_iadd hx hb d_MA_push_32 ?_
      refine bdK hf (fun σ5 h6 hf => ?_)
      refine va_put (D := D) (ci := 5) (v := .int ((σ3 29 0) + (1 : Int32))) (ty := .int) (C := R_MA) (T := T_MA) (N := 7) hx hb hg in_MA t_MA t_MA_ok n_MA hown hK hP (dC ha σ3) hS 5 rfl rfl 4 (by decide) (hg _ gw_147) (fun _ h9 => h9) rfl (by decide +kernel) rfl rfl (Nat.le_of_ble_eq_true rfl) d_MA_push_33 (fun H locs hP _ hS => ?_)
      replace hP := sf_P (wf := (wC a cI cZ)) h6 hP rfl
      exact rr_v hx hb hr hlk (stC_g t) hK hT hP hS hf d_MA_push_36
set_option maxHeartbeats 4000000 in
set_option maxRecDepth 100000 in
theorem c_MA_push (l : Launch) {D : va_G} {a t : Nat → Nat} {cI cZ : ClassId} (ha : aCC a) (x1 : Int32) (σ : SS) (q : SS) (hf : f_MA_push x1 σ = some q) : Met l y_MA_push ws_MA_push { frames := 0, cells := 0, slots := 0, locals := 0 } (va_Pc [.ref (a 5), .int x1] (pW D (wC a cI cZ) [(cI, .int), (cZ, .boolean)] (stC t) (aC a) σ)) (va_Qv (fun u => u = q) (pW D (wC a cI cZ) [(cI, .int), (cZ, .boolean)] (stC t) (aC a)) (aC a)) 0 0 (aC a) := by
  refine Met.ofW (cc := b_MA_push) (maxL := 2) (ret := none) (by decide) rfl ?_
  intro p e s m args below meth c s₁ B hml hv
  obtain ⟨rfl, hP, hK, hT⟩ := hv
  have hl := lv_entry ([.ref (a 5), .int x1]) (n := 2) (Nat.le_of_ble_eq_true rfl)
  rw [lg_entry_eq]
  generalize (lg_sl ([.ref (a 5), .int x1]) ++ List.replicate (2 - (lg_sl ([.ref (a 5), .int x1])).length) Slot.unset).toArray = ls at hl ⊢
  exact e_MA_push ha ⟨B.exec, B.bytes, hml, findClass_of_methodNamed B.named, fun w h => atoms_spec (ws := ws_MA_push) B.pre w (List.mem_cons_of_mem _ h)⟩ B.returns B.notSynchronized hK hT x1 σ q hf s.heap [] hP va_S.rf ls hl
theorem d_MA_pop_0 : decode b_MA_pop 0 = .ok (.aload_n 0, 1) := by decide +kernel
theorem d_MA_pop_1 : decode b_MA_pop 1 = .ok (.getfield 58, 3) := by decide +kernel
theorem d_MA_pop_4 : decode b_MA_pop 4 = .ok (.ifCond .le 12, 3) := by decide +kernel
theorem d_MA_pop_7 : decode b_MA_pop 7 = .ok (.aload_n 0, 1) := by decide +kernel
theorem d_MA_pop_8 : decode b_MA_pop 8 = .ok (.getfield 58, 3) := by decide +kernel
theorem d_MA_pop_11 : decode b_MA_pop 11 = .ok (.bipush 8, 2) := by decide +kernel
theorem d_MA_pop_13 : decode b_MA_pop 13 = .ok (.if_icmp .le 5, 3) := by decide +kernel
theorem d_MA_pop_16 : decode b_MA_pop 16 = .ok (.iconst 0, 1) := by decide +kernel
theorem d_MA_pop_17 : decode b_MA_pop 17 = .ok (.ireturn, 1) := by decide +kernel
theorem d_MA_pop_18 : decode b_MA_pop 18 = .ok (.aload_n 0, 1) := by decide +kernel
theorem d_MA_pop_19 : decode b_MA_pop 19 = .ok (.dup, 1) := by decide +kernel
theorem d_MA_pop_20 : decode b_MA_pop 20 = .ok (.getfield 58, 3) := by decide +kernel
theorem d_MA_pop_23 : decode b_MA_pop 23 = .ok (.iconst 1, 1) := by decide +kernel
theorem d_MA_pop_24 : decode b_MA_pop 24 = .ok (.isub, 1) := by decide +kernel
theorem d_MA_pop_25 : decode b_MA_pop 25 = .ok (.putfield 58, 3) := by decide +kernel
theorem d_MA_pop_28 : decode b_MA_pop 28 = .ok (.aload_n 0, 1) := by decide +kernel
theorem d_MA_pop_29 : decode b_MA_pop 29 = .ok (.getfield 21, 3) := by decide +kernel
theorem d_MA_pop_32 : decode b_MA_pop 32 = .ok (.aload_n 0, 1) := by decide +kernel
theorem d_MA_pop_33 : decode b_MA_pop 33 = .ok (.getfield 58, 3) := by decide +kernel
theorem d_MA_pop_36 : decode b_MA_pop 36 = .ok (.iaload, 1) := by decide +kernel
theorem d_MA_pop_37 : decode b_MA_pop 37 = .ok (.ireturn, 1) := by decide +kernel
def f_MA_pop (σ : SS) : Option (Int32 × SS) :=
  (if (σ 29 0) ≤ 0 then some ((0 : Int32), σ) else (if (σ 29 0) ≤ (8 : Int32) then (sf σ 29 ((σ 29 0) - (1 : Int32))).bind fun σ3 => (ld (σ3 23) 8 (σ3 29 0)).bind fun v5 => some (v5, σ3) else some ((0 : Int32), σ)))
set_option maxHeartbeats 4000000 in
set_option maxRecDepth 100000 in
theorem e_MA_pop {p : Program} {l : Launch} {e : Env} {s : State} {m : MethodId} {args : Array Value} {below : List Frame} {meth : Method} {c : Code} {D : va_G} {a t : Nat → Nat} {cI cZ : ClassId} (ha : aCC a) (F : CallFix p m c b_MA_pop 1 s args gt R_MA) (hr : meth.sig.returnType = some .int) (hlk : meth.locks = false) (hK : va_K D vwCl [(cI, .int), (cZ, .boolean)] s) (hT : stC t (aC a) s s.heap) :
    ∀ (σ : SS) (q : Int32 × SS), f_MA_pop σ = some q → ∀ (H : Heap) (locs : List Loc), va_P D vwCl ((wC a cI cZ) σ) H → va_S (aC a) s.heap H locs → ∀ (ls : Array Slot), lv_has ls 1 [(0, .ref (a 5))] → W p l e { frames := 0, cells := 0, slots := 0, locals := 0 } s m args below meth c H locs 0 0 (MQ below (va_Qi (fun r u => r = q.1 ∧ u = q.2) (pW D (wC a cI cZ) [(cI, .int), (cZ, .boolean)] (stC t) (aC a)) (aC a)) args s 0 0 (aC a)) (F0 m 0 ls []) := by
  obtain ⟨hx, hb, hml, hown, hg⟩ := id F
  intro σ q hf H locs hP hS ls hl
  unfold f_MA_pop at hf
  refine lv_aload_n hx hb d_MA_pop_0 rfl (lv_at hl 0 rfl) ?_
  refine va_get (D := D) (ci := 5) (v := .int (σ 29 0)) (C := R_MA) (T := T_MA) (N := 7) hx hb hg in_MA hown hK hP 5 rfl rfl 4 (by decide) (hg _ gw_147) (fun _ h9 => h9) rfl d_MA_pop_1 ?_
  refine lv_if_le (tgt := 16) hx hb d_MA_pop_4 (by decide) (fun c1 => ?_) (fun c1 => ?_)
  · replace hf := (if_pos c1).symm.trans hf
    refine lv_iconst (v := (0 : Int32)) hx hb d_MA_pop_16 (by decide) ?_
    exact rr_i hx hb hr hlk (stC_g t) hK hT hP hS hf d_MA_pop_17
  · replace hf := (if_neg c1).symm.trans hf
    refine lv_aload_n hx hb d_MA_pop_7 rfl (lv_at hl 0 rfl) ?_
    refine va_get (D := D) (ci := 5) (v := .int (σ 29 0)) (C := R_MA) (T := T_MA) (N := 7) hx hb hg in_MA hown hK hP 5 rfl rfl 4 (by decide) (hg _ gw_147) (fun _ h9 => h9) rfl d_MA_pop_8 ?_
    refine lv_bipush (v := (8 : Int32)) hx hb d_MA_pop_11 (by decide) ?_
    refine lv_icmp_le (tgt := 18) hx hb d_MA_pop_13 (by decide) (fun c2 => ?_) (fun c2 => ?_)
    · replace hf := (if_pos c2).symm.trans hf
      refine lv_aload_n hx hb d_MA_pop_18 rfl (lv_at hl 0 rfl) ?_
      refine lv_dup hx hb d_MA_pop_19 rfl ?_
      refine va_get (D := D) (ci := 5) (v := .int (σ 29 0)) (C := R_MA) (T := T_MA) (N := 7) hx hb hg in_MA hown hK hP 5 rfl rfl 4 (by decide) (hg _ gw_147) (fun _ h9 => h9) rfl d_MA_pop_20 ?_
      refine lv_iconst (v := (1 : Int32)) hx hb d_MA_pop_23 (by decide) ?_
      refine lv_isub hx hb d_MA_pop_24 ?_
      refine bdK hf (fun σ3 h4 hf => ?_)
      refine va_put (D := D) (ci := 5) (v := .int ((σ 29 0) - (1 : Int32))) (ty := .int) (C := R_MA) (T := T_MA) (N := 7) hx hb hg in_MA t_MA t_MA_ok n_MA hown hK hP (dC ha σ) hS 5 rfl rfl 4 (by decide) (hg _ gw_147) (fun _ h9 => h9) rfl (by decide +kernel) rfl rfl (Nat.le_of_ble_eq_true rfl) d_MA_pop_25 (fun H locs hP _ hS => ?_)
      replace hP := sf_P (wf := (wC a cI cZ)) h4 hP rfl
      refine lv_aload_n hx hb d_MA_pop_28 rfl (lv_at hl 0 rfl) ?_
      refine va_get (D := D) (ci := 5) (v := .ref (a 29)) (C := R_MA) (T := T_MA) (N := 7) hx hb hg in_MA hown hK hP 5 rfl rfl 3 (by decide) (hg _ gw_146) (fun _ h9 => h9) rfl d_MA_pop_29 ?_
      refine lv_aload_n hx hb d_MA_pop_32 rfl (lv_at hl 0 rfl) ?_
      refine va_get (D := D) (ci := 5) (v := .int (σ3 29 0)) (C := R_MA) (T := T_MA) (N := 7) hx hb hg in_MA hown hK hP 5 rfl rfl 4 (by decide) (hg _ gw_147) (fun _ h9 => h9) rfl d_MA_pop_33 ?_
      refine bdK hf (fun v5 h6 hf => ?_)
      refine r_iald hx hb hK hP 29 0 rfl rfl h6 d_MA_pop_36 ?_
      exact rr_i hx hb hr hlk (stC_g t) hK hT hP hS hf d_MA_pop_37
    · replace hf := (if_neg c2).symm.trans hf
      refine lv_iconst (v := (0 : Int32)) hx hb d_MA_pop_16 (by decide) ?_
      exact rr_i hx hb hr hlk (stC_g t) hK hT hP hS hf d_MA_pop_17
set_option maxHeartbeats 4000000 in
set_option maxRecDepth 100000 in
theorem c_MA_pop (l : Launch) {D : va_G} {a t : Nat → Nat} {cI cZ : ClassId} (ha : aCC a) (σ : SS) (q : Int32 × SS) (hf : f_MA_pop σ = some q) : Met l y_MA_pop ws_MA_pop { frames := 0, cells := 0, slots := 0, locals := 0 } (va_Pc [.ref (a 5)] (pW D (wC a cI cZ) [(cI, .int), (cZ, .boolean)] (stC t) (aC a) σ)) (va_Qi (fun r u => r = q.1 ∧ u = q.2) (pW D (wC a cI cZ) [(cI, .int), (cZ, .boolean)] (stC t) (aC a)) (aC a)) 0 0 (aC a) := by
  refine Met.ofW (cc := b_MA_pop) (maxL := 1) (ret := some .int) (by decide) rfl ?_
  intro p e s m args below meth c s₁ B hml hv
  obtain ⟨rfl, hP, hK, hT⟩ := hv
  have hl := lv_entry ([.ref (a 5)]) (n := 1) (Nat.le_of_ble_eq_true rfl)
  rw [lg_entry_eq]
  generalize (lg_sl ([.ref (a 5)]) ++ List.replicate (1 - (lg_sl ([.ref (a 5)])).length) Slot.unset).toArray = ls at hl ⊢
  exact e_MA_pop ha ⟨B.exec, B.bytes, hml, findClass_of_methodNamed B.named, fun w h => atoms_spec (ws := ws_MA_pop) B.pre w (List.mem_cons_of_mem _ h)⟩ B.returns B.notSynchronized hK hT σ q hf s.heap [] hP va_S.rf ls hl
theorem d_MA_joinTopTwo_0 : decode b_MA_joinTopTwo 0 = .ok (.aload_n 0, 1) := by decide +kernel
theorem d_MA_joinTopTwo_1 : decode b_MA_joinTopTwo 1 = .ok (.invokevirtual 86, 3) := by decide +kernel
theorem d_MA_joinTopTwo_4 : decode b_MA_joinTopTwo 4 = .ok (.istore_n 2, 1) := by decide +kernel
theorem d_MA_joinTopTwo_5 : decode b_MA_joinTopTwo 5 = .ok (.aload_n 0, 1) := by decide +kernel
theorem d_MA_joinTopTwo_6 : decode b_MA_joinTopTwo 6 = .ok (.invokevirtual 86, 3) := by decide +kernel
theorem d_MA_joinTopTwo_9 : decode b_MA_joinTopTwo 9 = .ok (.istore_n 3, 1) := by decide +kernel
theorem d_MA_joinTopTwo_10 : decode b_MA_joinTopTwo 10 = .ok (.iload_n 1, 1) := by decide +kernel
theorem d_MA_joinTopTwo_11 : decode b_MA_joinTopTwo 11 = .ok (.tableswitch 114 4 10 #[41, 54, 64, 74, 84, 114, 101], 41) := by decide +kernel
theorem d_MA_joinTopTwo_52 : decode b_MA_joinTopTwo 52 = .ok (.aload_n 0, 1) := by decide +kernel
theorem d_MA_joinTopTwo_53 : decode b_MA_joinTopTwo 53 = .ok (.iload_n 2, 1) := by decide +kernel
theorem d_MA_joinTopTwo_54 : decode b_MA_joinTopTwo 54 = .ok (.invokevirtual 83, 3) := by decide +kernel
theorem d_MA_joinTopTwo_57 : decode b_MA_joinTopTwo 57 = .ok (.aload_n 0, 1) := by decide +kernel
theorem d_MA_joinTopTwo_58 : decode b_MA_joinTopTwo 58 = .ok (.iload_n 3, 1) := by decide +kernel
theorem d_MA_joinTopTwo_59 : decode b_MA_joinTopTwo 59 = .ok (.invokevirtual 83, 3) := by decide +kernel
theorem d_MA_joinTopTwo_62 : decode b_MA_joinTopTwo 62 = .ok (.goto 63, 3) := by decide +kernel
theorem d_MA_joinTopTwo_65 : decode b_MA_joinTopTwo 65 = .ok (.aload_n 0, 1) := by decide +kernel
theorem d_MA_joinTopTwo_66 : decode b_MA_joinTopTwo 66 = .ok (.iload_n 3, 1) := by decide +kernel
theorem d_MA_joinTopTwo_67 : decode b_MA_joinTopTwo 67 = .ok (.iload_n 2, 1) := by decide +kernel
theorem d_MA_joinTopTwo_68 : decode b_MA_joinTopTwo 68 = .ok (.iadd, 1) := by decide +kernel
theorem d_MA_joinTopTwo_69 : decode b_MA_joinTopTwo 69 = .ok (.invokevirtual 83, 3) := by decide +kernel
theorem d_MA_joinTopTwo_72 : decode b_MA_joinTopTwo 72 = .ok (.goto 53, 3) := by decide +kernel
theorem d_MA_joinTopTwo_75 : decode b_MA_joinTopTwo 75 = .ok (.aload_n 0, 1) := by decide +kernel
theorem d_MA_joinTopTwo_76 : decode b_MA_joinTopTwo 76 = .ok (.iload_n 3, 1) := by decide +kernel
theorem d_MA_joinTopTwo_77 : decode b_MA_joinTopTwo 77 = .ok (.iload_n 2, 1) := by decide +kernel
theorem d_MA_joinTopTwo_78 : decode b_MA_joinTopTwo 78 = .ok (.isub, 1) := by decide +kernel
theorem d_MA_joinTopTwo_79 : decode b_MA_joinTopTwo 79 = .ok (.invokevirtual 83, 3) := by decide +kernel
theorem d_MA_joinTopTwo_82 : decode b_MA_joinTopTwo 82 = .ok (.goto 43, 3) := by decide +kernel
theorem d_MA_joinTopTwo_85 : decode b_MA_joinTopTwo 85 = .ok (.aload_n 0, 1) := by decide +kernel
theorem d_MA_joinTopTwo_86 : decode b_MA_joinTopTwo 86 = .ok (.iload_n 3, 1) := by decide +kernel
theorem d_MA_joinTopTwo_87 : decode b_MA_joinTopTwo 87 = .ok (.iload_n 2, 1) := by decide +kernel
theorem d_MA_joinTopTwo_88 : decode b_MA_joinTopTwo 88 = .ok (.imul, 1) := by decide +kernel
theorem d_MA_joinTopTwo_89 : decode b_MA_joinTopTwo 89 = .ok (.invokevirtual 83, 3) := by decide +kernel
theorem d_MA_joinTopTwo_92 : decode b_MA_joinTopTwo 92 = .ok (.goto 33, 3) := by decide +kernel
theorem d_MA_joinTopTwo_95 : decode b_MA_joinTopTwo 95 = .ok (.aload_n 0, 1) := by decide +kernel
theorem d_MA_joinTopTwo_96 : decode b_MA_joinTopTwo 96 = .ok (.iload_n 3, 1) := by decide +kernel
theorem d_MA_joinTopTwo_97 : decode b_MA_joinTopTwo 97 = .ok (.iload_n 2, 1) := by decide +kernel
theorem d_MA_joinTopTwo_98 : decode b_MA_joinTopTwo 98 = .ok (.if_icmp .ge 7, 3) := by decide +kernel
theorem d_MA_joinTopTwo_101 : decode b_MA_joinTopTwo 101 = .ok (.iconst 1, 1) := by decide +kernel
theorem d_MA_joinTopTwo_102 : decode b_MA_joinTopTwo 102 = .ok (.goto 4, 3) := by decide +kernel
theorem d_MA_joinTopTwo_105 : decode b_MA_joinTopTwo 105 = .ok (.iconst 0, 1) := by decide +kernel
theorem d_MA_joinTopTwo_106 : decode b_MA_joinTopTwo 106 = .ok (.invokevirtual 83, 3) := by decide +kernel
theorem d_MA_joinTopTwo_109 : decode b_MA_joinTopTwo 109 = .ok (.goto 16, 3) := by decide +kernel
theorem d_MA_joinTopTwo_112 : decode b_MA_joinTopTwo 112 = .ok (.aload_n 0, 1) := by decide +kernel
theorem d_MA_joinTopTwo_113 : decode b_MA_joinTopTwo 113 = .ok (.getfield 15, 3) := by decide +kernel
theorem d_MA_joinTopTwo_116 : decode b_MA_joinTopTwo 116 = .ok (.iload_n 3, 1) := by decide +kernel
theorem d_MA_joinTopTwo_117 : decode b_MA_joinTopTwo 117 = .ok (.invokestatic 70, 3) := by decide +kernel
theorem d_MA_joinTopTwo_120 : decode b_MA_joinTopTwo 120 = .ok (.iload_n 2, 1) := by decide +kernel
theorem d_MA_joinTopTwo_121 : decode b_MA_joinTopTwo 121 = .ok (.iastore, 1) := by decide +kernel
theorem d_MA_joinTopTwo_122 : decode b_MA_joinTopTwo 122 = .ok (.goto 3, 3) := by decide +kernel
theorem d_MA_joinTopTwo_125 : decode b_MA_joinTopTwo 125 = .ok (.return_, 1) := by decide +kernel
theorem gc_MA_86 : GoodIn gt (wsV R_MA 86 R_MA y_MA_pop ws_MA_pop) := gd_V gw_542 gw_544 gs_32 gw_6 gw_545
theorem gc_MA_83 : GoodIn gt (wsV R_MA 83 R_MA y_MA_push ws_MA_push) := gd_V gw_538 gw_540 gs_31 gw_6 gw_541
def f_MA_joinTopTwo (x1 : Int32) (σ : SS) : Option (SS) :=
  (f_MA_pop σ).bind fun q1 => (f_MA_pop q1.2).bind fun q3 => (if x1 = (4 : Int32) then (f_MA_push q1.1 q3.2).bind fun σ11 => (f_MA_push q3.1 σ11).bind fun σ13 => some σ13 else (if x1 = (5 : Int32) then (f_MA_push (q3.1 + q1.1) q3.2).bind fun σ15 => some σ15 else (if x1 = (6 : Int32) then (f_MA_push (q3.1 - q1.1) q3.2).bind fun σ17 => some σ17 else (if x1 = (7 : Int32) then (f_MA_push (q3.1 * q1.1) q3.2).bind fun σ19 => some σ19 else (if x1 = (8 : Int32) then (if q1.1 ≤ q3.1 then (f_MA_push (0 : Int32) q3.2).bind fun σ22 => some σ22 else (f_MA_push (1 : Int32) q3.2).bind fun σ24 => some σ24) else (if x1 = (10 : Int32) then (f_MA_cellIndex q3.1 q3.2).bind fun q26 => (sto q26.2 21 16 q26.1 q1.1).bind fun σ28 => some σ28 else some q3.2))))))
set_option maxHeartbeats 4000000 in
set_option maxRecDepth 100000 in
theorem e_MA_joinTopTwo {p : Program} {l : Launch} {e : Env} {s : State} {m : MethodId} {args : Array Value} {below : List Frame} {meth : Method} {c : Code} {D : va_G} {a t : Nat → Nat} {cI cZ : ClassId} (ha : aCC a) (F : CallFix p m c b_MA_joinTopTwo 4 s args gt R_MA) (hr : meth.sig.returnType = none) (hlk : meth.locks = false) (hK : va_K D vwCl [(cI, .int), (cZ, .boolean)] s) (hT : stC t (aC a) s s.heap) :
    ∀ (x1 : Int32) (σ : SS) (q : SS), f_MA_joinTopTwo x1 σ = some q → ∀ (H : Heap) (locs : List Loc), va_P D vwCl ((wC a cI cZ) σ) H → va_S (aC a) s.heap H locs → ∀ (ls : Array Slot), lv_has ls 4 [(0, .ref (a 5)), (1, .int x1)] → W p l e { frames := 1, cells := 0, slots := 0, locals := 21 } s m args below meth c H locs 0 0 (MQ below (va_Qv (fun u => u = q) (pW D (wC a cI cZ) [(cI, .int), (cZ, .boolean)] (stC t) (aC a)) (aC a)) args s 0 0 (aC a)) (F0 m 0 ls []) := by
  obtain ⟨hx, hb, hml, hown, hg⟩ := id F
  intro x1 σ q hf H locs hP hS ls hl
  unfold f_MA_joinTopTwo at hf
  refine lv_aload_n hx hb d_MA_joinTopTwo_0 rfl (lv_at hl 0 rfl) ?_
  refine bdK hf (fun q1 h2 hf => ?_)
  refine rc_Vi (As := []) (rest := []) (b := a 5) (stC_g t) F (c_MA_pop l ha σ q1 h2) (cwV 0 hg gc_MA_86 rfl rfl rfl hs_MA_pop ⟨Nat.le_of_ble_eq_true rfl, Nat.le_of_ble_eq_true rfl⟩) hK hT hP hS (va_recv hK hP (ci := 5) (q0 := 5) rfl rfl) rfl hl.1 rfl (Nat.le_of_ble_eq_true rfl) d_MA_joinTopTwo_1 ⟨Nat.zero_le _, Nat.zero_le _⟩ (fun H locs hP hS => ?_)
  refine lv_istore_n (lv' := [(2, .int q1.1), (0, .ref (a 5)), (1, .int x1)]) hx hb d_MA_joinTopTwo_4 rfl hl (by decide) rfl (fun ls hl => ?_)
  refine lv_aload_n hx hb d_MA_joinTopTwo_5 rfl (lv_at hl 1 rfl) ?_
  refine bdK hf (fun q3 h4 hf => ?_)
  refine rc_Vi (As := []) (rest := []) (b := a 5) (stC_g t) F (c_MA_pop l ha q1.2 q3 h4) (cwV 0 hg gc_MA_86 rfl rfl rfl hs_MA_pop ⟨Nat.le_of_ble_eq_true rfl, Nat.le_of_ble_eq_true rfl⟩) hK hT hP hS (va_recv hK hP (ci := 5) (q0 := 5) rfl rfl) rfl hl.1 rfl (Nat.le_of_ble_eq_true rfl) d_MA_joinTopTwo_6 ⟨Nat.zero_le _, Nat.zero_le _⟩ (fun H locs hP hS => ?_)
  refine lv_istore_n (lv' := [(3, .int q3.1), (2, .int q1.1), (0, .ref (a 5)), (1, .int x1)]) hx hb d_MA_joinTopTwo_9 rfl hl (by decide) rfl (fun ls hl => ?_)
  refine lv_iload_n hx hb d_MA_joinTopTwo_10 rfl (lv_at hl 3 rfl) ?_
  by_cases c5 : x1 = (4 : Int32)
  · replace hf := (if_pos c5).symm.trans hf
    refine lv_tableIn (off := 41) (tgt := 52) hx hb d_MA_joinTopTwo_11 (by rw [c5]; decide) (by rw [c5]; decide) (by rw [c5]; rfl) (by decide) ?_
    refine lv_aload_n hx hb d_MA_joinTopTwo_52 rfl (lv_at hl 2 rfl) ?_
    refine lv_iload_n hx hb d_MA_joinTopTwo_53 rfl (lv_at hl 1 rfl) ?_
    refine bdK hf (fun σ11 h12 hf => ?_)
    refine rc_Vv (As := [.int q1.1]) (rest := []) (b := a 5) (stC_g t) F (c_MA_push l ha q1.1 q3.2 σ11 h12) (cwV 1 hg gc_MA_83 rfl rfl rfl hs_MA_push ⟨Nat.le_of_ble_eq_true rfl, Nat.le_of_ble_eq_true rfl⟩) hK hT hP hS (va_recv hK hP (ci := 5) (q0 := 5) rfl rfl) rfl hl.1 rfl (Nat.le_of_ble_eq_true rfl) d_MA_joinTopTwo_54 ⟨Nat.zero_le _, Nat.zero_le _⟩ (fun H locs hP hS => ?_)
    refine lv_aload_n hx hb d_MA_joinTopTwo_57 rfl (lv_at hl 2 rfl) ?_
    refine lv_iload_n hx hb d_MA_joinTopTwo_58 rfl (lv_at hl 0 rfl) ?_
    refine bdK hf (fun σ13 h14 hf => ?_)
    refine rc_Vv (As := [.int q3.1]) (rest := []) (b := a 5) (stC_g t) F (c_MA_push l ha q3.1 σ11 σ13 h14) (cwV 1 hg gc_MA_83 rfl rfl rfl hs_MA_push ⟨Nat.le_of_ble_eq_true rfl, Nat.le_of_ble_eq_true rfl⟩) hK hT hP hS (va_recv hK hP (ci := 5) (q0 := 5) rfl rfl) rfl hl.1 rfl (Nat.le_of_ble_eq_true rfl) d_MA_joinTopTwo_59 ⟨Nat.zero_le _, Nat.zero_le _⟩ (fun H locs hP hS => ?_)
    refine lv_goto (tgt := 125) hx hb d_MA_joinTopTwo_62 (by decide) ?_
    exact rr_v hx hb hr hlk (stC_g t) hK hT hP hS hf d_MA_joinTopTwo_125
  · replace hf := (if_neg c5).symm.trans hf
    by_cases c6 : x1 = (5 : Int32)
    · replace hf := (if_pos c6).symm.trans hf
      refine lv_tableIn (off := 54) (tgt := 65) hx hb d_MA_joinTopTwo_11 (by rw [c6]; decide) (by rw [c6]; decide) (by rw [c6]; rfl) (by decide) ?_
      refine lv_aload_n hx hb d_MA_joinTopTwo_65 rfl (lv_at hl 2 rfl) ?_
      refine lv_iload_n hx hb d_MA_joinTopTwo_66 rfl (lv_at hl 0 rfl) ?_
      refine lv_iload_n hx hb d_MA_joinTopTwo_67 rfl (lv_at hl 1 rfl) ?_
      refine lv_iadd hx hb d_MA_joinTopTwo_68 ?_
      refine bdK hf (fun σ15 h16 hf => ?_)
      refine rc_Vv (As := [.int (q3.1 + q1.1)]) (rest := []) (b := a 5) (stC_g t) F (c_MA_push l ha (q3.1 + q1.1) q3.2 σ15 h16) (cwV 1 hg gc_MA_83 rfl rfl rfl hs_MA_push ⟨Nat.le_of_ble_eq_true rfl, Nat.le_of_ble_eq_true rfl⟩) hK hT hP hS (va_recv hK hP (ci := 5) (q0 := 5) rfl rfl) rfl hl.1 rfl (Nat.le_of_ble_eq_true rfl) d_MA_joinTopTwo_69 ⟨Nat.zero_le _, Nat.zero_le _⟩ (fun H locs hP hS => ?_)
      refine lv_goto (tgt := 125) hx hb d_MA_joinTopTwo_72 (by decide) ?_
      exact rr_v hx hb hr hlk (stC_g t) hK hT hP hS hf d_MA_joinTopTwo_125
    · replace hf := (if_neg c6).symm.trans hf
      by_cases c7 : x1 = (6 : Int32)
      · replace hf := (if_pos c7).symm.trans hf
        refine lv_tableIn (off := 64) (tgt := 75) hx hb d_MA_joinTopTwo_11 (by rw [c7]; decide) (by rw [c7]; decide) (by rw [c7]; rfl) (by decide) ?_
        refine lv_aload_n hx hb d_MA_joinTopTwo_75 rfl (lv_at hl 2 rfl) ?_
        refine lv_iload_n hx hb d_MA_joinTopTwo_76 rfl (lv_at hl 0 rfl) ?_
        refine lv_iload_n hx hb d_MA_joinTopTwo_77 rfl (lv_at hl 1 rfl) ?_
        refine lv_isub hx hb d_MA_joinTopTwo_78 ?_
        refine bdK hf (fun σ17 h18 hf => ?_)
        refine rc_Vv (As := [.int (q3.1 - q1.1)]) (rest := []) (b := a 5) (stC_g t) F (c_MA_push l ha (q3.1 - q1.1) q3.2 σ17 h18) (cwV 1 hg gc_MA_83 rfl rfl rfl hs_MA_push ⟨Nat.le_of_ble_eq_true rfl, Nat.le_of_ble_eq_true rfl⟩) hK hT hP hS (va_recv hK hP (ci := 5) (q0 := 5) rfl rfl) rfl hl.1 rfl (Nat.le_of_ble_eq_true rfl) d_MA_joinTopTwo_79 ⟨Nat.zero_le _, Nat.zero_le _⟩ (fun H locs hP hS => ?_)
        refine lv_goto (tgt := 125) hx hb d_MA_joinTopTwo_82 (by decide) ?_
        exact rr_v hx hb hr hlk (stC_g t) hK hT hP hS hf d_MA_joinTopTwo_125
      · replace hf := (if_neg c7).symm.trans hf
        by_cases c8 : x1 = (7 : Int32)
        · replace hf := (if_pos c8).symm.trans hf
          refine lv_tableIn (off := 74) (tgt := 85) hx hb d_MA_joinTopTwo_11 (by rw [c8]; decide) (by rw [c8]; decide) (by rw [c8]; rfl) (by decide) ?_
          refine lv_aload_n hx hb d_MA_joinTopTwo_85 rfl (lv_at hl 2 rfl) ?_
          refine lv_iload_n hx hb d_MA_joinTopTwo_86 rfl (lv_at hl 0 rfl) ?_
          refine lv_iload_n hx hb d_MA_joinTopTwo_87 rfl (lv_at hl 1 rfl) ?_
          refine lv_imul hx hb d_MA_joinTopTwo_88 ?_
          refine bdK hf (fun σ19 h20 hf => ?_)
          refine rc_Vv (As := [.int (q3.1 * q1.1)]) (rest := []) (b := a 5) (stC_g t) F (c_MA_push l ha (q3.1 * q1.1) q3.2 σ19 h20) (cwV 1 hg gc_MA_83 rfl rfl rfl hs_MA_push ⟨Nat.le_of_ble_eq_true rfl, Nat.le_of_ble_eq_true rfl⟩) hK hT hP hS (va_recv hK hP (ci := 5) (q0 := 5) rfl rfl) rfl hl.1 rfl (Nat.le_of_ble_eq_true rfl) d_MA_joinTopTwo_89 ⟨Nat.zero_le _, Nat.zero_le _⟩ (fun H locs hP hS => ?_)
          refine lv_goto (tgt := 125) hx hb d_MA_joinTopTwo_92 (by decide) ?_
          exact rr_v hx hb hr hlk (stC_g t) hK hT hP hS hf d_MA_joinTopTwo_125
        · replace hf := (if_neg c8).symm.trans hf
          by_cases c9 : x1 = (8 : Int32)
          · replace hf := (if_pos c9).symm.trans hf
            refine lv_tableIn (off := 84) (tgt := 95) hx hb d_MA_joinTopTwo_11 (by rw [c9]; decide) (by rw [c9]; decide) (by rw [c9]; rfl) (by decide) ?_
            refine lv_aload_n hx hb d_MA_joinTopTwo_95 rfl (lv_at hl 2 rfl) ?_
            refine lv_iload_n hx hb d_MA_joinTopTwo_96 rfl (lv_at hl 0 rfl) ?_
            refine lv_iload_n hx hb d_MA_joinTopTwo_97 rfl (lv_at hl 1 rfl) ?_
            refine lv_icmp_ge (tgt := 105) hx hb d_MA_joinTopTwo_98 (by decide) (fun c21 => ?_) (fun c21 => ?_)
            · replace hf := (if_pos c21).symm.trans hf
              refine lv_iconst (v := (0 : Int32)) hx hb d_MA_joinTopTwo_105 (by decide) ?_
              refine bdK hf (fun σ22 h23 hf => ?_)
              refine rc_Vv (As := [.int (0 : Int32)]) (rest := []) (b := a 5) (stC_g t) F (c_MA_push l ha (0 : Int32) q3.2 σ22 h23) (cwV 1 hg gc_MA_83 rfl rfl rfl hs_MA_push ⟨Nat.le_of_ble_eq_true rfl, Nat.le_of_ble_eq_true rfl⟩) hK hT hP hS (va_recv hK hP (ci := 5) (q0 := 5) rfl rfl) rfl hl.1 rfl (Nat.le_of_ble_eq_true rfl) d_MA_joinTopTwo_106 ⟨Nat.zero_le _, Nat.zero_le _⟩ (fun H locs hP hS => ?_)
              refine lv_goto (tgt := 125) hx hb d_MA_joinTopTwo_109 (by decide) ?_
              exact rr_v hx hb hr hlk (stC_g t) hK hT hP hS hf d_MA_joinTopTwo_125
            · replace hf := (if_neg c21).symm.trans hf
              refine lv_iconst (v := (1 : Int32)) hx hb d_MA_joinTopTwo_101 (by decide) ?_
              refine lv_goto (tgt := 106) hx hb d_MA_joinTopTwo_102 (by decide) ?_
              refine bdK hf (fun σ24 h25 hf => ?_)
              refine rc_Vv (As := [.int (1 : Int32)]) (rest := []) (b := a 5) (stC_g t) F (c_MA_push l ha (1 : Int32) q3.2 σ24 h25) (cwV 1 hg gc_MA_83 rfl rfl rfl hs_MA_push ⟨Nat.le_of_ble_eq_true rfl, Nat.le_of_ble_eq_true rfl⟩) hK hT hP hS (va_recv hK hP (ci := 5) (q0 := 5) rfl rfl) rfl hl.1 rfl (Nat.le_of_ble_eq_true rfl) d_MA_joinTopTwo_106 ⟨Nat.zero_le _, Nat.zero_le _⟩ (fun H locs hP hS => ?_)
              refine lv_goto (tgt := 125) hx hb d_MA_joinTopTwo_109 (by decide) ?_
              exact rr_v hx hb hr hlk (stC_g t) hK hT hP hS hf d_MA_joinTopTwo_125
          · replace hf := (if_neg c9).symm.trans hf
            by_cases c10 : x1 = (10 : Int32)
            · replace hf := (if_pos c10).symm.trans hf
              refine lv_tableIn (off := 101) (tgt := 112) hx hb d_MA_joinTopTwo_11 (by rw [c10]; decide) (by rw [c10]; decide) (by rw [c10]; rfl) (by decide) ?_
              refine lv_aload_n hx hb d_MA_joinTopTwo_112 rfl (lv_at hl 2 rfl) ?_
              refine va_get (D := D) (ci := 5) (v := .ref (a 27)) (C := R_MA) (T := T_MA) (N := 7) hx hb hg in_MA hown hK hP 5 rfl rfl 1 (by decide) (hg _ gw_144) (fun _ h9 => h9) rfl d_MA_joinTopTwo_113 ?_
              refine lv_iload_n hx hb d_MA_joinTopTwo_116 rfl (lv_at hl 0 rfl) ?_
              refine bdK hf (fun q26 h27 hf => ?_)
              refine rc_Si (As := [.int q3.1]) (rest := [.ref (a 27)]) (stC_g t) F (c_MA_cellIndex l ha q3.1 q3.2 q26 h27) (cwS 1 hg gc_MA_70 rfl rfl rfl hs_MA_cellIndex ⟨Nat.le_of_ble_eq_true rfl, Nat.le_of_ble_eq_true rfl⟩) hK hT hP hS rfl hl.1 rfl (Nat.le_of_ble_eq_true rfl) d_MA_joinTopTwo_117 ⟨Nat.zero_le _, Nat.zero_le _⟩ (fun H locs hP hS => ?_)
              refine lv_iload_n hx hb d_MA_joinTopTwo_120 rfl (lv_at hl 1 rfl) ?_
              refine bdK hf (fun σ28 h29 hf => ?_)
              refine r_iast (wf := (wC a cI cZ)) hx hb hK hP (dC ha q26.2) hS 27 0 rfl rfl (fun _ _ => rfl) h29 d_MA_joinTopTwo_121 (fun H locs hP hS => ?_)
              refine lv_goto (tgt := 125) hx hb d_MA_joinTopTwo_122 (by decide) ?_
              exact rr_v hx hb hr hlk (stC_g t) hK hT hP hS hf d_MA_joinTopTwo_125
            · replace hf := (if_neg c10).symm.trans hf
              by_cases c30 : x1 = (9 : Int32)
              · refine lv_tableIn (off := 114) (tgt := 125) hx hb d_MA_joinTopTwo_11 (by rw [c30]; decide) (by rw [c30]; decide) (by rw [c30]; rfl) (by decide) ?_
                exact rr_v hx hb hr hlk (stC_g t) hK hT hP hS hf d_MA_joinTopTwo_125
              · skip
                have nc5 := lv_neT (a := 4) c5 (by decide)
                have nc6 := lv_neT (a := 5) c6 (by decide)
                have nc7 := lv_neT (a := 6) c7 (by decide)
                have nc8 := lv_neT (a := 7) c8 (by decide)
                have nc9 := lv_neT (a := 8) c9 (by decide)
                have nc10 := lv_neT (a := 10) c10 (by decide)
                have nc30 := lv_neT (a := 9) c30 (by decide)
                refine lv_tableOut (tgt := 125) hx hb d_MA_joinTopTwo_11 (by omega) (by decide) ?_
                exact rr_v hx hb hr hlk (stC_g t) hK hT hP hS hf d_MA_joinTopTwo_125
set_option maxHeartbeats 4000000 in
set_option maxRecDepth 100000 in
theorem c_MA_joinTopTwo (l : Launch) {D : va_G} {a t : Nat → Nat} {cI cZ : ClassId} (ha : aCC a) (x1 : Int32) (σ : SS) (q : SS) (hf : f_MA_joinTopTwo x1 σ = some q) : Met l y_MA_joinTopTwo ws_MA_joinTopTwo { frames := 1, cells := 0, slots := 0, locals := 21 } (va_Pc [.ref (a 5), .int x1] (pW D (wC a cI cZ) [(cI, .int), (cZ, .boolean)] (stC t) (aC a) σ)) (va_Qv (fun u => u = q) (pW D (wC a cI cZ) [(cI, .int), (cZ, .boolean)] (stC t) (aC a)) (aC a)) 0 0 (aC a) := by
  refine Met.ofW (cc := b_MA_joinTopTwo) (maxL := 4) (ret := none) (by decide) rfl ?_
  intro p e s m args below meth c s₁ B hml hv
  obtain ⟨rfl, hP, hK, hT⟩ := hv
  have hl := lv_entry ([.ref (a 5), .int x1]) (n := 4) (Nat.le_of_ble_eq_true rfl)
  rw [lg_entry_eq]
  generalize (lg_sl ([.ref (a 5), .int x1]) ++ List.replicate (4 - (lg_sl ([.ref (a 5), .int x1])).length) Slot.unset).toArray = ls at hl ⊢
  exact e_MA_joinTopTwo ha ⟨B.exec, B.bytes, hml, findClass_of_methodNamed B.named, fun w h => atoms_spec (ws := ws_MA_joinTopTwo) B.pre w (List.mem_cons_of_mem _ h)⟩ B.returns B.notSynchronized hK hT x1 σ q hf s.heap [] hP va_S.rf ls hl
theorem d_MA_followOperation_0 : decode b_MA_followOperation 0 = .ok (.iload_n 1, 1) := by decide +kernel
theorem d_MA_followOperation_1 : decode b_MA_followOperation 1 = .ok (.tableswitch 158 0 14 #[75, 82, 94, 106, 158, 158, 158, 158, 158, 113, 158, 131, 141, 143, 156], 75) := by decide +kernel
theorem d_MA_followOperation_76 : decode b_MA_followOperation 76 = .ok (.aload_n 0, 1) := by decide +kernel
theorem d_MA_followOperation_77 : decode b_MA_followOperation 77 = .ok (.iload_n 2, 1) := by decide +kernel
theorem d_MA_followOperation_78 : decode b_MA_followOperation 78 = .ok (.invokevirtual 83, 3) := by decide +kernel
theorem d_MA_followOperation_81 : decode b_MA_followOperation 81 = .ok (.iload_n 3, 1) := by decide +kernel
theorem d_MA_followOperation_82 : decode b_MA_followOperation 82 = .ok (.ireturn, 1) := by decide +kernel
theorem d_MA_followOperation_83 : decode b_MA_followOperation 83 = .ok (.aload_n 0, 1) := by decide +kernel
theorem d_MA_followOperation_84 : decode b_MA_followOperation 84 = .ok (.aload_n 0, 1) := by decide +kernel
theorem d_MA_followOperation_85 : decode b_MA_followOperation 85 = .ok (.getfield 9, 3) := by decide +kernel
theorem d_MA_followOperation_88 : decode b_MA_followOperation 88 = .ok (.iload_n 2, 1) := by decide +kernel
theorem d_MA_followOperation_89 : decode b_MA_followOperation 89 = .ok (.iaload, 1) := by decide +kernel
theorem d_MA_followOperation_90 : decode b_MA_followOperation 90 = .ok (.invokevirtual 83, 3) := by decide +kernel
theorem d_MA_followOperation_93 : decode b_MA_followOperation 93 = .ok (.iload_n 3, 1) := by decide +kernel
theorem d_MA_followOperation_94 : decode b_MA_followOperation 94 = .ok (.ireturn, 1) := by decide +kernel
theorem d_MA_followOperation_95 : decode b_MA_followOperation 95 = .ok (.aload_n 0, 1) := by decide +kernel
theorem d_MA_followOperation_96 : decode b_MA_followOperation 96 = .ok (.getfield 9, 3) := by decide +kernel
theorem d_MA_followOperation_99 : decode b_MA_followOperation 99 = .ok (.iload_n 2, 1) := by decide +kernel
theorem d_MA_followOperation_100 : decode b_MA_followOperation 100 = .ok (.aload_n 0, 1) := by decide +kernel
theorem d_MA_followOperation_101 : decode b_MA_followOperation 101 = .ok (.invokevirtual 86, 3) := by decide +kernel
theorem d_MA_followOperation_104 : decode b_MA_followOperation 104 = .ok (.iastore, 1) := by decide +kernel
theorem d_MA_followOperation_105 : decode b_MA_followOperation 105 = .ok (.iload_n 3, 1) := by decide +kernel
theorem d_MA_followOperation_106 : decode b_MA_followOperation 106 = .ok (.ireturn, 1) := by decide +kernel
theorem d_MA_followOperation_107 : decode b_MA_followOperation 107 = .ok (.aload_n 0, 1) := by decide +kernel
theorem d_MA_followOperation_108 : decode b_MA_followOperation 108 = .ok (.invokevirtual 86, 3) := by decide +kernel
theorem d_MA_followOperation_111 : decode b_MA_followOperation 111 = .ok (.pop, 1) := by decide +kernel
theorem d_MA_followOperation_112 : decode b_MA_followOperation 112 = .ok (.iload_n 3, 1) := by decide +kernel
theorem d_MA_followOperation_113 : decode b_MA_followOperation 113 = .ok (.ireturn, 1) := by decide +kernel
theorem d_MA_followOperation_114 : decode b_MA_followOperation 114 = .ok (.aload_n 0, 1) := by decide +kernel
theorem d_MA_followOperation_115 : decode b_MA_followOperation 115 = .ok (.aload_n 0, 1) := by decide +kernel
theorem d_MA_followOperation_116 : decode b_MA_followOperation 116 = .ok (.getfield 15, 3) := by decide +kernel
theorem d_MA_followOperation_119 : decode b_MA_followOperation 119 = .ok (.aload_n 0, 1) := by decide +kernel
theorem d_MA_followOperation_120 : decode b_MA_followOperation 120 = .ok (.invokevirtual 86, 3) := by decide +kernel
theorem d_MA_followOperation_123 : decode b_MA_followOperation 123 = .ok (.invokestatic 70, 3) := by decide +kernel
theorem d_MA_followOperation_126 : decode b_MA_followOperation 126 = .ok (.iaload, 1) := by decide +kernel
theorem d_MA_followOperation_127 : decode b_MA_followOperation 127 = .ok (.invokevirtual 83, 3) := by decide +kernel
theorem d_MA_followOperation_130 : decode b_MA_followOperation 130 = .ok (.iload_n 3, 1) := by decide +kernel
theorem d_MA_followOperation_131 : decode b_MA_followOperation 131 = .ok (.ireturn, 1) := by decide +kernel
theorem d_MA_followOperation_132 : decode b_MA_followOperation 132 = .ok (.aload_n 0, 1) := by decide +kernel
theorem d_MA_followOperation_133 : decode b_MA_followOperation 133 = .ok (.aload_n 0, 1) := by decide +kernel
theorem d_MA_followOperation_134 : decode b_MA_followOperation 134 = .ok (.invokevirtual 86, 3) := by decide +kernel
theorem d_MA_followOperation_137 : decode b_MA_followOperation 137 = .ok (.invokevirtual 73, 3) := by decide +kernel
theorem d_MA_followOperation_140 : decode b_MA_followOperation 140 = .ok (.iload_n 3, 1) := by decide +kernel
theorem d_MA_followOperation_141 : decode b_MA_followOperation 141 = .ok (.ireturn, 1) := by decide +kernel
theorem d_MA_followOperation_142 : decode b_MA_followOperation 142 = .ok (.iload_n 2, 1) := by decide +kernel
theorem d_MA_followOperation_143 : decode b_MA_followOperation 143 = .ok (.ireturn, 1) := by decide +kernel
theorem d_MA_followOperation_144 : decode b_MA_followOperation 144 = .ok (.aload_n 0, 1) := by decide +kernel
theorem d_MA_followOperation_145 : decode b_MA_followOperation 145 = .ok (.invokevirtual 86, 3) := by decide +kernel
theorem d_MA_followOperation_148 : decode b_MA_followOperation 148 = .ok (.ifCond .ne 7, 3) := by decide +kernel
theorem d_MA_followOperation_151 : decode b_MA_followOperation 151 = .ok (.iload_n 2, 1) := by decide +kernel
theorem d_MA_followOperation_152 : decode b_MA_followOperation 152 = .ok (.goto 4, 3) := by decide +kernel
theorem d_MA_followOperation_155 : decode b_MA_followOperation 155 = .ok (.iload_n 3, 1) := by decide +kernel
theorem d_MA_followOperation_156 : decode b_MA_followOperation 156 = .ok (.ireturn, 1) := by decide +kernel
theorem d_MA_followOperation_157 : decode b_MA_followOperation 157 = .ok (.iconst (-1), 1) := by decide +kernel
theorem d_MA_followOperation_158 : decode b_MA_followOperation 158 = .ok (.ireturn, 1) := by decide +kernel
theorem d_MA_followOperation_159 : decode b_MA_followOperation 159 = .ok (.aload_n 0, 1) := by decide +kernel
theorem d_MA_followOperation_160 : decode b_MA_followOperation 160 = .ok (.iload_n 1, 1) := by decide +kernel
theorem d_MA_followOperation_161 : decode b_MA_followOperation 161 = .ok (.invokevirtual 90, 3) := by decide +kernel
theorem d_MA_followOperation_164 : decode b_MA_followOperation 164 = .ok (.iload_n 3, 1) := by decide +kernel
theorem d_MA_followOperation_165 : decode b_MA_followOperation 165 = .ok (.ireturn, 1) := by decide +kernel
theorem gc_MA_90 : GoodIn gt (wsV R_MA 90 R_MA y_MA_joinTopTwo ws_MA_joinTopTwo) := gd_V gw_546 gw_548 gs_33 gw_6 gw_549
def f_MA_followOperation (x1 x2 x3 : Int32) (σ : SS) : Option (Int32 × SS) :=
  (if x1 = (0 : Int32) then (f_MA_push x2 σ).bind fun σ10 => some (x3, σ10) else (if x1 = (1 : Int32) then (ld (σ 20) 10 x2).bind fun v12 => (f_MA_push v12 σ).bind fun σ14 => some (x3, σ14) else (if x1 = (2 : Int32) then (f_MA_pop σ).bind fun q16 => (sto q16.2 20 10 x2 q16.1).bind fun σ18 => some (x3, σ18) else (if x1 = (3 : Int32) then (f_MA_pop σ).bind fun q20 => some (x3, q20.2) else (if x1 = (9 : Int32) then (f_MA_pop σ).bind fun q22 => (f_MA_cellIndex q22.1 q22.2).bind fun q24 => (ld (q24.2 21) 16 q24.1).bind fun v26 => (f_MA_push v26 q24.2).bind fun σ28 => some (x3, σ28) else (if x1 = (11 : Int32) then (f_MA_pop σ).bind fun q30 => (f_MA_print q30.1 q30.2).bind fun σ32 => some (x3, σ32) else (if x1 = (12 : Int32) then some (x2, σ) else (if x1 = (13 : Int32) then (f_MA_pop σ).bind fun q34 => (if q34.1 = 0 then some (x2, q34.2) else some (x3, q34.2)) else (if x1 = (14 : Int32) then some ((-1 : Int32), σ) else (f_MA_joinTopTwo x1 σ).bind fun σ55 => some (x3, σ55))))))))))
set_option maxHeartbeats 4000000 in
set_option maxRecDepth 100000 in
theorem e_MA_followOperation {p : Program} {l : Launch} {e : Env} {s : State} {m : MethodId} {args : Array Value} {below : List Frame} {meth : Method} {c : Code} {D : va_G} {a t : Nat → Nat} {cI cZ : ClassId} (ha : aCC a) (F : CallFix p m c b_MA_followOperation 4 s args gt R_MA) (hr : meth.sig.returnType = some .int) (hlk : meth.locks = false) (hK : va_K D vwCl [(cI, .int), (cZ, .boolean)] s) (hT : stC t (aC a) s s.heap) :
    ∀ (x1 x2 x3 : Int32) (σ : SS) (q : Int32 × SS), f_MA_followOperation x1 x2 x3 σ = some q → ∀ (H : Heap) (locs : List Loc), va_P D vwCl ((wC a cI cZ) σ) H → va_S (aC a) s.heap H locs → ∀ (ls : Array Slot), lv_has ls 4 [(0, .ref (a 5)), (1, .int x1), (2, .int x2), (3, .int x3)] → W p l e { frames := 2, cells := 0, slots := 0, locals := 44 } s m args below meth c H locs 0 0 (MQ below (va_Qi (fun r u => r = q.1 ∧ u = q.2) (pW D (wC a cI cZ) [(cI, .int), (cZ, .boolean)] (stC t) (aC a)) (aC a)) args s 0 0 (aC a)) (F0 m 0 ls []) := by
  obtain ⟨hx, hb, hml, hown, hg⟩ := id F
  intro x1 x2 x3 σ q hf H locs hP hS ls hl
  unfold f_MA_followOperation at hf
  refine lv_iload_n hx hb d_MA_followOperation_0 rfl (lv_at hl 1 rfl) ?_
  by_cases c1 : x1 = (0 : Int32)
  · replace hf := (if_pos c1).symm.trans hf
    refine lv_tableIn (off := 75) (tgt := 76) hx hb d_MA_followOperation_1 (by rw [c1]; decide) (by rw [c1]; decide) (by rw [c1]; rfl) (by decide) ?_
    refine lv_aload_n hx hb d_MA_followOperation_76 rfl (lv_at hl 0 rfl) ?_
    refine lv_iload_n hx hb d_MA_followOperation_77 rfl (lv_at hl 2 rfl) ?_
    refine bdK hf (fun σ10 h11 hf => ?_)
    refine rc_Vv (As := [.int x2]) (rest := []) (b := a 5) (stC_g t) F (c_MA_push l ha x2 σ σ10 h11) (cwV 1 hg gc_MA_83 rfl rfl rfl hs_MA_push ⟨Nat.le_of_ble_eq_true rfl, Nat.le_of_ble_eq_true rfl⟩) hK hT hP hS (va_recv hK hP (ci := 5) (q0 := 5) rfl rfl) rfl hl.1 rfl (Nat.le_of_ble_eq_true rfl) d_MA_followOperation_78 ⟨Nat.zero_le _, Nat.zero_le _⟩ (fun H locs hP hS => ?_)
    refine lv_iload_n hx hb d_MA_followOperation_81 rfl (lv_at hl 3 rfl) ?_
    exact rr_i hx hb hr hlk (stC_g t) hK hT hP hS hf d_MA_followOperation_82
  · replace hf := (if_neg c1).symm.trans hf
    by_cases c2 : x1 = (1 : Int32)
    · replace hf := (if_pos c2).symm.trans hf
      refine lv_tableIn (off := 82) (tgt := 83) hx hb d_MA_followOperation_1 (by rw [c2]; decide) (by rw [c2]; decide) (by rw [c2]; rfl) (by decide) ?_
      refine lv_aload_n hx hb d_MA_followOperation_83 rfl (lv_at hl 0 rfl) ?_
      refine lv_aload_n hx hb d_MA_followOperation_84 rfl (lv_at hl 0 rfl) ?_
      refine va_get (D := D) (ci := 5) (v := .ref (a 26)) (C := R_MA) (T := T_MA) (N := 7) hx hb hg in_MA hown hK hP 5 rfl rfl 0 (by decide) (hg _ gw_143) (fun _ h9 => h9) rfl d_MA_followOperation_85 ?_
      refine lv_iload_n hx hb d_MA_followOperation_88 rfl (lv_at hl 2 rfl) ?_
      refine bdK hf (fun v12 h13 hf => ?_)
      refine r_iald hx hb hK hP 26 0 rfl rfl h13 d_MA_followOperation_89 ?_
      refine bdK hf (fun σ14 h15 hf => ?_)
      refine rc_Vv (As := [.int v12]) (rest := []) (b := a 5) (stC_g t) F (c_MA_push l ha v12 σ σ14 h15) (cwV 1 hg gc_MA_83 rfl rfl rfl hs_MA_push ⟨Nat.le_of_ble_eq_true rfl, Nat.le_of_ble_eq_true rfl⟩) hK hT hP hS (va_recv hK hP (ci := 5) (q0 := 5) rfl rfl) rfl hl.1 rfl (Nat.le_of_ble_eq_true rfl) d_MA_followOperation_90 ⟨Nat.zero_le _, Nat.zero_le _⟩ (fun H locs hP hS => ?_)
      refine lv_iload_n hx hb d_MA_followOperation_93 rfl (lv_at hl 3 rfl) ?_
      exact rr_i hx hb hr hlk (stC_g t) hK hT hP hS hf d_MA_followOperation_94
    · replace hf := (if_neg c2).symm.trans hf
      by_cases c3 : x1 = (2 : Int32)
      · replace hf := (if_pos c3).symm.trans hf
        refine lv_tableIn (off := 94) (tgt := 95) hx hb d_MA_followOperation_1 (by rw [c3]; decide) (by rw [c3]; decide) (by rw [c3]; rfl) (by decide) ?_
        refine lv_aload_n hx hb d_MA_followOperation_95 rfl (lv_at hl 0 rfl) ?_
        refine va_get (D := D) (ci := 5) (v := .ref (a 26)) (C := R_MA) (T := T_MA) (N := 7) hx hb hg in_MA hown hK hP 5 rfl rfl 0 (by decide) (hg _ gw_143) (fun _ h9 => h9) rfl d_MA_followOperation_96 ?_
        refine lv_iload_n hx hb d_MA_followOperation_99 rfl (lv_at hl 2 rfl) ?_
        refine lv_aload_n hx hb d_MA_followOperation_100 rfl (lv_at hl 0 rfl) ?_
        refine bdK hf (fun q16 h17 hf => ?_)
        refine rc_Vi (As := []) (rest := [.int x2, .ref (a 26)]) (b := a 5) (stC_g t) F (c_MA_pop l ha σ q16 h17) (cwV 0 hg gc_MA_86 rfl rfl rfl hs_MA_pop ⟨Nat.le_of_ble_eq_true rfl, Nat.le_of_ble_eq_true rfl⟩) hK hT hP hS (va_recv hK hP (ci := 5) (q0 := 5) rfl rfl) rfl hl.1 rfl (Nat.le_of_ble_eq_true rfl) d_MA_followOperation_101 ⟨Nat.zero_le _, Nat.zero_le _⟩ (fun H locs hP hS => ?_)
        refine bdK hf (fun σ18 h19 hf => ?_)
        refine r_iast (wf := (wC a cI cZ)) hx hb hK hP (dC ha q16.2) hS 26 0 rfl rfl (fun _ _ => rfl) h19 d_MA_followOperation_104 (fun H locs hP hS => ?_)
        refine lv_iload_n hx hb d_MA_followOperation_105 rfl (lv_at hl 3 rfl) ?_
        exact rr_i hx hb hr hlk (stC_g t) hK hT hP hS hf d_MA_followOperation_106
      · replace hf := (if_neg c3).symm.trans hf
        by_cases c4 : x1 = (3 : Int32)
        · replace hf := (if_pos c4).symm.trans hf
          refine lv_tableIn (off := 106) (tgt := 107) hx hb d_MA_followOperation_1 (by rw [c4]; decide) (by rw [c4]; decide) (by rw [c4]; rfl) (by decide) ?_
          refine lv_aload_n hx hb d_MA_followOperation_107 rfl (lv_at hl 0 rfl) ?_
          refine bdK hf (fun q20 h21 hf => ?_)
          refine rc_Vi (As := []) (rest := []) (b := a 5) (stC_g t) F (c_MA_pop l ha σ q20 h21) (cwV 0 hg gc_MA_86 rfl rfl rfl hs_MA_pop ⟨Nat.le_of_ble_eq_true rfl, Nat.le_of_ble_eq_true rfl⟩) hK hT hP hS (va_recv hK hP (ci := 5) (q0 := 5) rfl rfl) rfl hl.1 rfl (Nat.le_of_ble_eq_true rfl) d_MA_followOperation_108 ⟨Nat.zero_le _, Nat.zero_le _⟩ (fun H locs hP hS => ?_)
          refine lv_pop hx hb d_MA_followOperation_111 rfl ?_
          refine lv_iload_n hx hb d_MA_followOperation_112 rfl (lv_at hl 3 rfl) ?_
          exact rr_i hx hb hr hlk (stC_g t) hK hT hP hS hf d_MA_followOperation_113
        · replace hf := (if_neg c4).symm.trans hf
          by_cases c5 : x1 = (9 : Int32)
          · replace hf := (if_pos c5).symm.trans hf
            refine lv_tableIn (off := 113) (tgt := 114) hx hb d_MA_followOperation_1 (by rw [c5]; decide) (by rw [c5]; decide) (by rw [c5]; rfl) (by decide) ?_
            refine lv_aload_n hx hb d_MA_followOperation_114 rfl (lv_at hl 0 rfl) ?_
            refine lv_aload_n hx hb d_MA_followOperation_115 rfl (lv_at hl 0 rfl) ?_
            refine va_get (D := D) (ci := 5) (v := .ref (a 27)) (C := R_MA) (T := T_MA) (N := 7) hx hb hg in_MA hown hK hP 5 rfl rfl 1 (by decide) (hg _ gw_144) (fun _ h9 => h9) rfl d_MA_followOperation_116 ?_
            refine lv_aload_n hx hb d_MA_followOperation_119 rfl (lv_at hl 0 rfl) ?_
            refine bdK hf (fun q22 h23 hf => ?_)
            refine rc_Vi (As := []) (rest := [.ref (a 27), .ref (a 5)]) (b := a 5) (stC_g t) F (c_MA_pop l ha σ q22 h23) (cwV 0 hg gc_MA_86 rfl rfl rfl hs_MA_pop ⟨Nat.le_of_ble_eq_true rfl, Nat.le_of_ble_eq_true rfl⟩) hK hT hP hS (va_recv hK hP (ci := 5) (q0 := 5) rfl rfl) rfl hl.1 rfl (Nat.le_of_ble_eq_true rfl) d_MA_followOperation_120 ⟨Nat.zero_le _, Nat.zero_le _⟩ (fun H locs hP hS => ?_)
            refine bdK hf (fun q24 h25 hf => ?_)
            refine rc_Si (As := [.int q22.1]) (rest := [.ref (a 27), .ref (a 5)]) (stC_g t) F (c_MA_cellIndex l ha q22.1 q22.2 q24 h25) (cwS 1 hg gc_MA_70 rfl rfl rfl hs_MA_cellIndex ⟨Nat.le_of_ble_eq_true rfl, Nat.le_of_ble_eq_true rfl⟩) hK hT hP hS rfl hl.1 rfl (Nat.le_of_ble_eq_true rfl) d_MA_followOperation_123 ⟨Nat.zero_le _, Nat.zero_le _⟩ (fun H locs hP hS => ?_)
            refine bdK hf (fun v26 h27 hf => ?_)
            refine r_iald hx hb hK hP 27 0 rfl rfl h27 d_MA_followOperation_126 ?_
            refine bdK hf (fun σ28 h29 hf => ?_)
            refine rc_Vv (As := [.int v26]) (rest := []) (b := a 5) (stC_g t) F (c_MA_push l ha v26 q24.2 σ28 h29) (cwV 1 hg gc_MA_83 rfl rfl rfl hs_MA_push ⟨Nat.le_of_ble_eq_true rfl, Nat.le_of_ble_eq_true rfl⟩) hK hT hP hS (va_recv hK hP (ci := 5) (q0 := 5) rfl rfl) rfl hl.1 rfl (Nat.le_of_ble_eq_true rfl) d_MA_followOperation_127 ⟨Nat.zero_le _, Nat.zero_le _⟩ (fun H locs hP hS => ?_)
            refine lv_iload_n hx hb d_MA_followOperation_130 rfl (lv_at hl 3 rfl) ?_
            exact rr_i hx hb hr hlk (stC_g t) hK hT hP hS hf d_MA_followOperation_131
          · replace hf := (if_neg c5).symm.trans hf
            by_cases c6 : x1 = (11 : Int32)
            · replace hf := (if_pos c6).symm.trans hf
              refine lv_tableIn (off := 131) (tgt := 132) hx hb d_MA_followOperation_1 (by rw [c6]; decide) (by rw [c6]; decide) (by rw [c6]; rfl) (by decide) ?_
              refine lv_aload_n hx hb d_MA_followOperation_132 rfl (lv_at hl 0 rfl) ?_
              refine lv_aload_n hx hb d_MA_followOperation_133 rfl (lv_at hl 0 rfl) ?_
              refine bdK hf (fun q30 h31 hf => ?_)
              refine rc_Vi (As := []) (rest := [.ref (a 5)]) (b := a 5) (stC_g t) F (c_MA_pop l ha σ q30 h31) (cwV 0 hg gc_MA_86 rfl rfl rfl hs_MA_pop ⟨Nat.le_of_ble_eq_true rfl, Nat.le_of_ble_eq_true rfl⟩) hK hT hP hS (va_recv hK hP (ci := 5) (q0 := 5) rfl rfl) rfl hl.1 rfl (Nat.le_of_ble_eq_true rfl) d_MA_followOperation_134 ⟨Nat.zero_le _, Nat.zero_le _⟩ (fun H locs hP hS => ?_)
              refine bdK hf (fun σ32 h33 hf => ?_)
              refine rc_Vv (As := [.int q30.1]) (rest := []) (b := a 5) (stC_g t) F (c_MA_print l ha q30.1 q30.2 σ32 h33) (cwV 1 hg gc_MA_73 rfl rfl rfl hs_MA_print ⟨Nat.le_of_ble_eq_true rfl, Nat.le_of_ble_eq_true rfl⟩) hK hT hP hS (va_recv hK hP (ci := 5) (q0 := 5) rfl rfl) rfl hl.1 rfl (Nat.le_of_ble_eq_true rfl) d_MA_followOperation_137 ⟨Nat.zero_le _, Nat.zero_le _⟩ (fun H locs hP hS => ?_)
              refine lv_iload_n hx hb d_MA_followOperation_140 rfl (lv_at hl 3 rfl) ?_
              exact rr_i hx hb hr hlk (stC_g t) hK hT hP hS hf d_MA_followOperation_141
            · replace hf := (if_neg c6).symm.trans hf
              by_cases c7 : x1 = (12 : Int32)
              · replace hf := (if_pos c7).symm.trans hf
                refine lv_tableIn (off := 141) (tgt := 142) hx hb d_MA_followOperation_1 (by rw [c7]; decide) (by rw [c7]; decide) (by rw [c7]; rfl) (by decide) ?_
                refine lv_iload_n hx hb d_MA_followOperation_142 rfl (lv_at hl 2 rfl) ?_
                exact rr_i hx hb hr hlk (stC_g t) hK hT hP hS hf d_MA_followOperation_143
              · replace hf := (if_neg c7).symm.trans hf
                by_cases c8 : x1 = (13 : Int32)
                · replace hf := (if_pos c8).symm.trans hf
                  refine lv_tableIn (off := 143) (tgt := 144) hx hb d_MA_followOperation_1 (by rw [c8]; decide) (by rw [c8]; decide) (by rw [c8]; rfl) (by decide) ?_
                  refine lv_aload_n hx hb d_MA_followOperation_144 rfl (lv_at hl 0 rfl) ?_
                  refine bdK hf (fun q34 h35 hf => ?_)
                  refine rc_Vi (As := []) (rest := []) (b := a 5) (stC_g t) F (c_MA_pop l ha σ q34 h35) (cwV 0 hg gc_MA_86 rfl rfl rfl hs_MA_pop ⟨Nat.le_of_ble_eq_true rfl, Nat.le_of_ble_eq_true rfl⟩) hK hT hP hS (va_recv hK hP (ci := 5) (q0 := 5) rfl rfl) rfl hl.1 rfl (Nat.le_of_ble_eq_true rfl) d_MA_followOperation_145 ⟨Nat.zero_le _, Nat.zero_le _⟩ (fun H locs hP hS => ?_)
                  refine lv_if_ne (tgt := 155) hx hb d_MA_followOperation_148 (by decide) (fun c36 => ?_) (fun c36 => ?_)
                  · replace hf := (if_neg c36).symm.trans hf
                    refine lv_iload_n hx hb d_MA_followOperation_155 rfl (lv_at hl 3 rfl) ?_
                    exact rr_i hx hb hr hlk (stC_g t) hK hT hP hS hf d_MA_followOperation_156
                  · replace hf := (if_pos c36).symm.trans hf
                    refine lv_iload_n hx hb d_MA_followOperation_151 rfl (lv_at hl 2 rfl) ?_
                    refine lv_goto (tgt := 156) hx hb d_MA_followOperation_152 (by decide) ?_
                    exact rr_i hx hb hr hlk (stC_g t) hK hT hP hS hf d_MA_followOperation_156
                · replace hf := (if_neg c8).symm.trans hf
                  by_cases c9 : x1 = (14 : Int32)
                  · replace hf := (if_pos c9).symm.trans hf
                    refine lv_tableIn (off := 156) (tgt := 157) hx hb d_MA_followOperation_1 (by rw [c9]; decide) (by rw [c9]; decide) (by rw [c9]; rfl) (by decide) ?_
                    refine lv_iconst (v := (-1 : Int32)) hx hb d_MA_followOperation_157 (by decide) ?_
                    exact rr_i hx hb hr hlk (stC_g t) hK hT hP hS hf d_MA_followOperation_158
                  · replace hf := (if_neg c9).symm.trans hf
                    by_cases c37 : x1 = (4 : Int32)
                    · refine lv_tableIn (off := 158) (tgt := 159) hx hb d_MA_followOperation_1 (by rw [c37]; decide) (by rw [c37]; decide) (by rw [c37]; rfl) (by decide) ?_
                      refine lv_aload_n hx hb d_MA_followOperation_159 rfl (lv_at hl 0 rfl) ?_
                      refine lv_iload_n hx hb d_MA_followOperation_160 rfl (lv_at hl 1 rfl) ?_
                      refine bdK hf (fun σ38 h39 hf => ?_)
                      refine rc_Vv (As := [.int x1]) (rest := []) (b := a 5) (stC_g t) F (c_MA_joinTopTwo l ha x1 σ σ38 h39) (cwV 1 hg gc_MA_90 rfl rfl rfl hs_MA_joinTopTwo ⟨Nat.le_of_ble_eq_true rfl, Nat.le_of_ble_eq_true rfl⟩) hK hT hP hS (va_recv hK hP (ci := 5) (q0 := 5) rfl rfl) rfl hl.1 rfl (Nat.le_of_ble_eq_true rfl) d_MA_followOperation_161 ⟨Nat.zero_le _, Nat.zero_le _⟩ (fun H locs hP hS => ?_)
                      refine lv_iload_n hx hb d_MA_followOperation_164 rfl (lv_at hl 3 rfl) ?_
                      exact rr_i hx hb hr hlk (stC_g t) hK hT hP hS hf d_MA_followOperation_165
                    · skip
                      by_cases c40 : x1 = (5 : Int32)
                      · refine lv_tableIn (off := 158) (tgt := 159) hx hb d_MA_followOperation_1 (by rw [c40]; decide) (by rw [c40]; decide) (by rw [c40]; rfl) (by decide) ?_
                        refine lv_aload_n hx hb d_MA_followOperation_159 rfl (lv_at hl 0 rfl) ?_
                        refine lv_iload_n hx hb d_MA_followOperation_160 rfl (lv_at hl 1 rfl) ?_
                        refine bdK hf (fun σ41 h42 hf => ?_)
                        refine rc_Vv (As := [.int x1]) (rest := []) (b := a 5) (stC_g t) F (c_MA_joinTopTwo l ha x1 σ σ41 h42) (cwV 1 hg gc_MA_90 rfl rfl rfl hs_MA_joinTopTwo ⟨Nat.le_of_ble_eq_true rfl, Nat.le_of_ble_eq_true rfl⟩) hK hT hP hS (va_recv hK hP (ci := 5) (q0 := 5) rfl rfl) rfl hl.1 rfl (Nat.le_of_ble_eq_true rfl) d_MA_followOperation_161 ⟨Nat.zero_le _, Nat.zero_le _⟩ (fun H locs hP hS => ?_)
                        refine lv_iload_n hx hb d_MA_followOperation_164 rfl (lv_at hl 3 rfl) ?_
                        exact rr_i hx hb hr hlk (stC_g t) hK hT hP hS hf d_MA_followOperation_165
                      · skip
                        by_cases c43 : x1 = (6 : Int32)
                        · refine lv_tableIn (off := 158) (tgt := 159) hx hb d_MA_followOperation_1 (by rw [c43]; decide) (by rw [c43]; decide) (by rw [c43]; rfl) (by decide) ?_
                          refine lv_aload_n hx hb d_MA_followOperation_159 rfl (lv_at hl 0 rfl) ?_
                          refine lv_iload_n hx hb d_MA_followOperation_160 rfl (lv_at hl 1 rfl) ?_
                          refine bdK hf (fun σ44 h45 hf => ?_)
                          refine rc_Vv (As := [.int x1]) (rest := []) (b := a 5) (stC_g t) F (c_MA_joinTopTwo l ha x1 σ σ44 h45) (cwV 1 hg gc_MA_90 rfl rfl rfl hs_MA_joinTopTwo ⟨Nat.le_of_ble_eq_true rfl, Nat.le_of_ble_eq_true rfl⟩) hK hT hP hS (va_recv hK hP (ci := 5) (q0 := 5) rfl rfl) rfl hl.1 rfl (Nat.le_of_ble_eq_true rfl) d_MA_followOperation_161 ⟨Nat.zero_le _, Nat.zero_le _⟩ (fun H locs hP hS => ?_)
                          refine lv_iload_n hx hb d_MA_followOperation_164 rfl (lv_at hl 3 rfl) ?_
                          exact rr_i hx hb hr hlk (stC_g t) hK hT hP hS hf d_MA_followOperation_165
                        · skip
                          by_cases c46 : x1 = (7 : Int32)
                          · refine lv_tableIn (off := 158) (tgt := 159) hx hb d_MA_followOperation_1 (by rw [c46]; decide) (by rw [c46]; decide) (by rw [c46]; rfl) (by decide) ?_
                            refine lv_aload_n hx hb d_MA_followOperation_159 rfl (lv_at hl 0 rfl) ?_
                            refine lv_iload_n hx hb d_MA_followOperation_160 rfl (lv_at hl 1 rfl) ?_
                            refine bdK hf (fun σ47 h48 hf => ?_)
                            refine rc_Vv (As := [.int x1]) (rest := []) (b := a 5) (stC_g t) F (c_MA_joinTopTwo l ha x1 σ σ47 h48) (cwV 1 hg gc_MA_90 rfl rfl rfl hs_MA_joinTopTwo ⟨Nat.le_of_ble_eq_true rfl, Nat.le_of_ble_eq_true rfl⟩) hK hT hP hS (va_recv hK hP (ci := 5) (q0 := 5) rfl rfl) rfl hl.1 rfl (Nat.le_of_ble_eq_true rfl) d_MA_followOperation_161 ⟨Nat.zero_le _, Nat.zero_le _⟩ (fun H locs hP hS => ?_)
                            refine lv_iload_n hx hb d_MA_followOperation_164 rfl (lv_at hl 3 rfl) ?_
                            exact rr_i hx hb hr hlk (stC_g t) hK hT hP hS hf d_MA_followOperation_165
                          · skip
                            by_cases c49 : x1 = (8 : Int32)
                            · refine lv_tableIn (off := 158) (tgt := 159) hx hb d_MA_followOperation_1 (by rw [c49]; decide) (by rw [c49]; decide) (by rw [c49]; rfl) (by decide) ?_
                              refine lv_aload_n hx hb d_MA_followOperation_159 rfl (lv_at hl 0 rfl) ?_
                              refine lv_iload_n hx hb d_MA_followOperation_160 rfl (lv_at hl 1 rfl) ?_
                              refine bdK hf (fun σ50 h51 hf => ?_)
                              refine rc_Vv (As := [.int x1]) (rest := []) (b := a 5) (stC_g t) F (c_MA_joinTopTwo l ha x1 σ σ50 h51) (cwV 1 hg gc_MA_90 rfl rfl rfl hs_MA_joinTopTwo ⟨Nat.le_of_ble_eq_true rfl, Nat.le_of_ble_eq_true rfl⟩) hK hT hP hS (va_recv hK hP (ci := 5) (q0 := 5) rfl rfl) rfl hl.1 rfl (Nat.le_of_ble_eq_true rfl) d_MA_followOperation_161 ⟨Nat.zero_le _, Nat.zero_le _⟩ (fun H locs hP hS => ?_)
                              refine lv_iload_n hx hb d_MA_followOperation_164 rfl (lv_at hl 3 rfl) ?_
                              exact rr_i hx hb hr hlk (stC_g t) hK hT hP hS hf d_MA_followOperation_165
                            · skip
                              by_cases c52 : x1 = (10 : Int32)
                              · refine lv_tableIn (off := 158) (tgt := 159) hx hb d_MA_followOperation_1 (by rw [c52]; decide) (by rw [c52]; decide) (by rw [c52]; rfl) (by decide) ?_
                                refine lv_aload_n hx hb d_MA_followOperation_159 rfl (lv_at hl 0 rfl) ?_
                                refine lv_iload_n hx hb d_MA_followOperation_160 rfl (lv_at hl 1 rfl) ?_
                                refine bdK hf (fun σ53 h54 hf => ?_)
                                refine rc_Vv (As := [.int x1]) (rest := []) (b := a 5) (stC_g t) F (c_MA_joinTopTwo l ha x1 σ σ53 h54) (cwV 1 hg gc_MA_90 rfl rfl rfl hs_MA_joinTopTwo ⟨Nat.le_of_ble_eq_true rfl, Nat.le_of_ble_eq_true rfl⟩) hK hT hP hS (va_recv hK hP (ci := 5) (q0 := 5) rfl rfl) rfl hl.1 rfl (Nat.le_of_ble_eq_true rfl) d_MA_followOperation_161 ⟨Nat.zero_le _, Nat.zero_le _⟩ (fun H locs hP hS => ?_)
                                refine lv_iload_n hx hb d_MA_followOperation_164 rfl (lv_at hl 3 rfl) ?_
                                exact rr_i hx hb hr hlk (stC_g t) hK hT hP hS hf d_MA_followOperation_165
                              · skip
                                have nc1 := lv_neT (a := 0) c1 (by decide)
                                have nc2 := lv_neT (a := 1) c2 (by decide)
                                have nc3 := lv_neT (a := 2) c3 (by decide)
                                have nc4 := lv_neT (a := 3) c4 (by decide)
                                have nc5 := lv_neT (a := 9) c5 (by decide)
                                have nc6 := lv_neT (a := 11) c6 (by decide)
                                have nc7 := lv_neT (a := 12) c7 (by decide)
                                have nc8 := lv_neT (a := 13) c8 (by decide)
                                have nc9 := lv_neT (a := 14) c9 (by decide)
                                have nc37 := lv_neT (a := 4) c37 (by decide)
                                have nc40 := lv_neT (a := 5) c40 (by decide)
                                have nc43 := lv_neT (a := 6) c43 (by decide)
                                have nc46 := lv_neT (a := 7) c46 (by decide)
                                have nc49 := lv_neT (a := 8) c49 (by decide)
                                have nc52 := lv_neT (a := 10) c52 (by decide)
                                refine lv_tableOut (tgt := 159) hx hb d_MA_followOperation_1 (by omega) (by decide) ?_
                                refine lv_aload_n hx hb d_MA_followOperation_159 rfl (lv_at hl 0 rfl) ?_
                                refine lv_iload_n hx hb d_MA_followOperation_160 rfl (lv_at hl 1 rfl) ?_
                                refine bdK hf (fun σ55 h56 hf => ?_)
                                refine rc_Vv (As := [.int x1]) (rest := []) (b := a 5) (stC_g t) F (c_MA_joinTopTwo l ha x1 σ σ55 h56) (cwV 1 hg gc_MA_90 rfl rfl rfl hs_MA_joinTopTwo ⟨Nat.le_of_ble_eq_true rfl, Nat.le_of_ble_eq_true rfl⟩) hK hT hP hS (va_recv hK hP (ci := 5) (q0 := 5) rfl rfl) rfl hl.1 rfl (Nat.le_of_ble_eq_true rfl) d_MA_followOperation_161 ⟨Nat.zero_le _, Nat.zero_le _⟩ (fun H locs hP hS => ?_)
                                refine lv_iload_n hx hb d_MA_followOperation_164 rfl (lv_at hl 3 rfl) ?_
                                exact rr_i hx hb hr hlk (stC_g t) hK hT hP hS hf d_MA_followOperation_165
set_option maxHeartbeats 4000000 in
set_option maxRecDepth 100000 in
theorem c_MA_followOperation (l : Launch) {D : va_G} {a t : Nat → Nat} {cI cZ : ClassId} (ha : aCC a) (x1 x2 x3 : Int32) (σ : SS) (q : Int32 × SS) (hf : f_MA_followOperation x1 x2 x3 σ = some q) : Met l y_MA_followOperation ws_MA_followOperation { frames := 2, cells := 0, slots := 0, locals := 44 } (va_Pc [.ref (a 5), .int x1, .int x2, .int x3] (pW D (wC a cI cZ) [(cI, .int), (cZ, .boolean)] (stC t) (aC a) σ)) (va_Qi (fun r u => r = q.1 ∧ u = q.2) (pW D (wC a cI cZ) [(cI, .int), (cZ, .boolean)] (stC t) (aC a)) (aC a)) 0 0 (aC a) := by
  refine Met.ofW (cc := b_MA_followOperation) (maxL := 4) (ret := some .int) (by decide) rfl ?_
  intro p e s m args below meth c s₁ B hml hv
  obtain ⟨rfl, hP, hK, hT⟩ := hv
  have hl := lv_entry ([.ref (a 5), .int x1, .int x2, .int x3]) (n := 4) (Nat.le_of_ble_eq_true rfl)
  rw [lg_entry_eq]
  generalize (lg_sl ([.ref (a 5), .int x1, .int x2, .int x3]) ++ List.replicate (4 - (lg_sl ([.ref (a 5), .int x1, .int x2, .int x3])).length) Slot.unset).toArray = ls at hl ⊢
  exact e_MA_followOperation ha ⟨B.exec, B.bytes, hml, findClass_of_methodNamed B.named, fun w h => atoms_spec (ws := ws_MA_followOperation) B.pre w (List.mem_cons_of_mem _ h)⟩ B.returns B.notSynchronized hK hT x1 x2 x3 σ q hf s.heap [] hP va_S.rf ls hl
