theorem d_FL_flowBack_0 : decode b_FL_flowBack 0 = .ok (.iconst 0, 1) := by decide +kernel
theorem d_FL_flowBack_1 : decode b_FL_flowBack 1 = .ok (.istore_n 1, 1) := by decide +kernel
theorem d_FL_flowBack_2 : decode b_FL_flowBack 2 = .ok (.aload_n 0, 1) := by decide +kernel
theorem d_FL_flowBack_3 : decode b_FL_flowBack 3 = .ok (.getfield 22, 3) := by decide +kernel
theorem d_FL_flowBack_6 : decode b_FL_flowBack 6 = .ok (.invokevirtual 29, 3) := by decide +kernel
theorem d_FL_flowBack_9 : decode b_FL_flowBack 9 = .ok (.iconst 1, 1) := by decide +kernel
theorem d_FL_flowBack_10 : decode b_FL_flowBack 10 = .ok (.isub, 1) := by decide +kernel
theorem d_FL_flowBack_11 : decode b_FL_flowBack 11 = .ok (.istore_n 2, 1) := by decide +kernel
theorem d_FL_flowBack_12 : decode b_FL_flowBack 12 = .ok (.iload_n 2, 1) := by decide +kernel
theorem d_FL_flowBack_13 : decode b_FL_flowBack 13 = .ok (.ifCond .lt 97, 3) := by decide +kernel
theorem d_FL_flowBack_16 : decode b_FL_flowBack 16 = .ok (.aload_n 0, 1) := by decide +kernel
theorem d_FL_flowBack_17 : decode b_FL_flowBack 17 = .ok (.getfield 19, 3) := by decide +kernel
theorem d_FL_flowBack_20 : decode b_FL_flowBack 20 = .ok (.iload_n 2, 1) := by decide +kernel
theorem d_FL_flowBack_21 : decode b_FL_flowBack 21 = .ok (.aload_n 0, 1) := by decide +kernel
theorem d_FL_flowBack_22 : decode b_FL_flowBack 22 = .ok (.iload_n 2, 1) := by decide +kernel
theorem d_FL_flowBack_23 : decode b_FL_flowBack 23 = .ok (.invokevirtual 57, 3) := by decide +kernel
theorem d_FL_flowBack_26 : decode b_FL_flowBack 26 = .ok (.iastore, 1) := by decide +kernel
theorem d_FL_flowBack_27 : decode b_FL_flowBack 27 = .ok (.aload_n 0, 1) := by decide +kernel
theorem d_FL_flowBack_28 : decode b_FL_flowBack 28 = .ok (.getfield 22, 3) := by decide +kernel
theorem d_FL_flowBack_31 : decode b_FL_flowBack 31 = .ok (.iload_n 2, 1) := by decide +kernel
theorem d_FL_flowBack_32 : decode b_FL_flowBack 32 = .ok (.invokevirtual 60, 3) := by decide +kernel
theorem d_FL_flowBack_35 : decode b_FL_flowBack 35 = .ok (.invokestatic 63, 3) := by decide +kernel
theorem d_FL_flowBack_38 : decode b_FL_flowBack 38 = .ok (.aload_n 0, 1) := by decide +kernel
theorem d_FL_flowBack_39 : decode b_FL_flowBack 39 = .ok (.getfield 22, 3) := by decide +kernel
theorem d_FL_flowBack_42 : decode b_FL_flowBack 42 = .ok (.iload_n 2, 1) := by decide +kernel
theorem d_FL_flowBack_43 : decode b_FL_flowBack 43 = .ok (.invokevirtual 66, 3) := by decide +kernel
theorem d_FL_flowBack_46 : decode b_FL_flowBack 46 = .ok (.invokestatic 63, 3) := by decide +kernel
theorem d_FL_flowBack_49 : decode b_FL_flowBack 49 = .ok (.ior, 1) := by decide +kernel
theorem d_FL_flowBack_50 : decode b_FL_flowBack 50 = .ok (.istore_n 3, 1) := by decide +kernel
theorem d_FL_flowBack_51 : decode b_FL_flowBack 51 = .ok (.iload_n 3, 1) := by decide +kernel
theorem d_FL_flowBack_52 : decode b_FL_flowBack 52 = .ok (.aload_n 0, 1) := by decide +kernel
theorem d_FL_flowBack_53 : decode b_FL_flowBack 53 = .ok (.getfield 19, 3) := by decide +kernel
theorem d_FL_flowBack_56 : decode b_FL_flowBack 56 = .ok (.iload_n 2, 1) := by decide +kernel
theorem d_FL_flowBack_57 : decode b_FL_flowBack 57 = .ok (.iaload, 1) := by decide +kernel
theorem d_FL_flowBack_58 : decode b_FL_flowBack 58 = .ok (.aload_n 0, 1) := by decide +kernel
theorem d_FL_flowBack_59 : decode b_FL_flowBack 59 = .ok (.getfield 22, 3) := by decide +kernel
theorem d_FL_flowBack_62 : decode b_FL_flowBack 62 = .ok (.iload_n 2, 1) := by decide +kernel
theorem d_FL_flowBack_63 : decode b_FL_flowBack 63 = .ok (.invokevirtual 69, 3) := by decide +kernel
theorem d_FL_flowBack_66 : decode b_FL_flowBack 66 = .ok (.invokestatic 63, 3) := by decide +kernel
theorem d_FL_flowBack_69 : decode b_FL_flowBack 69 = .ok (.iconst (-1), 1) := by decide +kernel
theorem d_FL_flowBack_70 : decode b_FL_flowBack 70 = .ok (.ixor, 1) := by decide +kernel
theorem d_FL_flowBack_71 : decode b_FL_flowBack 71 = .ok (.iand, 1) := by decide +kernel
theorem d_FL_flowBack_72 : decode b_FL_flowBack 72 = .ok (.ior, 1) := by decide +kernel
theorem d_FL_flowBack_73 : decode b_FL_flowBack 73 = .ok (.istore 4, 2) := by decide +kernel
theorem d_FL_flowBack_75 : decode b_FL_flowBack 75 = .ok (.iload_n 1, 1) := by decide +kernel
theorem d_FL_flowBack_76 : decode b_FL_flowBack 76 = .ok (.ifCond .ne 14, 3) := by decide +kernel
theorem d_FL_flowBack_79 : decode b_FL_flowBack 79 = .ok (.iload 4, 2) := by decide +kernel
theorem d_FL_flowBack_81 : decode b_FL_flowBack 81 = .ok (.aload_n 0, 1) := by decide +kernel
theorem d_FL_flowBack_82 : decode b_FL_flowBack 82 = .ok (.getfield 15, 3) := by decide +kernel
theorem d_FL_flowBack_85 : decode b_FL_flowBack 85 = .ok (.iload_n 2, 1) := by decide +kernel
theorem d_FL_flowBack_86 : decode b_FL_flowBack 86 = .ok (.iaload, 1) := by decide +kernel
theorem d_FL_flowBack_87 : decode b_FL_flowBack 87 = .ok (.if_icmp .eq 7, 3) := by decide +kernel
theorem d_FL_flowBack_90 : decode b_FL_flowBack 90 = .ok (.iconst 1, 1) := by decide +kernel
theorem d_FL_flowBack_91 : decode b_FL_flowBack 91 = .ok (.goto 4, 3) := by decide +kernel
theorem d_FL_flowBack_94 : decode b_FL_flowBack 94 = .ok (.iconst 0, 1) := by decide +kernel
theorem d_FL_flowBack_95 : decode b_FL_flowBack 95 = .ok (.istore_n 1, 1) := by decide +kernel
theorem d_FL_flowBack_96 : decode b_FL_flowBack 96 = .ok (.aload_n 0, 1) := by decide +kernel
theorem d_FL_flowBack_97 : decode b_FL_flowBack 97 = .ok (.getfield 15, 3) := by decide +kernel
theorem d_FL_flowBack_100 : decode b_FL_flowBack 100 = .ok (.iload_n 2, 1) := by decide +kernel
theorem d_FL_flowBack_101 : decode b_FL_flowBack 101 = .ok (.iload 4, 2) := by decide +kernel
theorem d_FL_flowBack_103 : decode b_FL_flowBack 103 = .ok (.iastore, 1) := by decide +kernel
theorem d_FL_flowBack_104 : decode b_FL_flowBack 104 = .ok (.iinc 2 (-1), 3) := by decide +kernel
theorem d_FL_flowBack_107 : decode b_FL_flowBack 107 = .ok (.goto (-95), 3) := by decide +kernel
theorem d_FL_flowBack_110 : decode b_FL_flowBack 110 = .ok (.iload_n 1, 1) := by decide +kernel
theorem d_FL_flowBack_111 : decode b_FL_flowBack 111 = .ok (.ireturn, 1) := by decide +kernel
theorem gc_FL_57 : GoodIn gt (wsV R_FL 57 R_FL y_FL_gatherAfter ws_FL_gatherAfter) := gd_V gw_266 gw_268 gs_4 gw_3 gw_269
theorem gc_FL_60 : GoodIn gt (wsV R_FL 60 R_RC y_RC_readAsA ws_RC_readAsA) := gd_V gw_274 gw_275 gw_276 gw_2 gw_277
theorem gc_FL_63 : GoodIn gt (wsS R_FL 63 y_FL_setOf ws_FL_setOf) := gd_S gw_278 gw_279 gw_3 gw_280
theorem gc_FL_66 : GoodIn gt (wsV R_FL 66 R_RC y_RC_readAsB ws_RC_readAsB) := gd_V gw_281 gw_282 gw_283 gw_2 gw_284
theorem gc_FL_69 : GoodIn gt (wsV R_FL 69 R_RC y_RC_writtenBy ws_RC_writtenBy) := gd_V gw_285 gw_286 gw_287 gw_2 gw_288
def b_FL_flowBack_12 : Nat → Int32 → Int32 → SS → Option (Int32 × SS)
  | 0, _, _, _ => none
  | n + 1, x1, x2, σ =>
    (if x2 < 0 then rz x1 σ else (f_FL_gatherAfter x2 σ).bind fun q2 => (sto q2.2 9 40 x2 q2.1).bind fun σ4 => (f_RC_readAsA x2 σ4).bind fun q6 => (f_FL_setOf q6.1 q6.2).bind fun q8 => (f_RC_readAsB x2 q8.2).bind fun q10 => (f_FL_setOf q10.1 q10.2).bind fun q12 => (ld (q12.2 9) 40 x2).bind fun v14 => (f_RC_writtenBy x2 q12.2).bind fun q16 => (f_FL_setOf q16.1 q16.2).bind fun q18 => (if x1 = 0 then (ld (q18.2 8) 40 x2).bind fun v23 => (if ((q8.1 ||| q12.1) ||| (v14 &&& (q18.1 ^^^ (-1 : Int32)))) = v23 then (sto q18.2 8 40 x2 ((q8.1 ||| q12.1) ||| (v14 &&& (q18.1 ^^^ (-1 : Int32))))).bind fun σ26 => b_FL_flowBack_12 n (0 : Int32) (x2 + (-1 : Int32)) σ26 else (sto q18.2 8 40 x2 ((q8.1 ||| q12.1) ||| (v14 &&& (q18.1 ^^^ (-1 : Int32))))).bind fun σ28 => b_FL_flowBack_12 n (1 : Int32) (x2 + (-1 : Int32)) σ28) else (sto q18.2 8 40 x2 ((q8.1 ||| q12.1) ||| (v14 &&& (q18.1 ^^^ (-1 : Int32))))).bind fun σ21 => b_FL_flowBack_12 n (1 : Int32) (x2 + (-1 : Int32)) σ21))
set_option maxHeartbeats 4000000 in
set_option maxRecDepth 100000 in
theorem k_FL_flowBack_12 {p : Program} {l : Launch} {e : Env} {s : State} {m : MethodId} {args : Array Value} {below : List Frame} {meth : Method} {c : Code} {D : va_G} {a t : Nat → Nat} {cI cZ : ClassId} (ha : aCC a) (F : CallFix p m c b_FL_flowBack 5 s args gt R_FL) (hr : meth.sig.returnType = some .boolean) (hlk : meth.locks = false) (hK : va_K D vwCl [(cI, .int), (cZ, .boolean)] s) (hT : stC t (aC a) s s.heap) :
    ∀ (n : Nat) (x1 x2 : Int32) (σ : SS) (q : Int32 × SS), b_FL_flowBack_12 n x1 x2 σ = some q → ∀ (H : Heap) (locs : List Loc), va_P D vwCl ((wC a cI cZ) σ) H → va_S (aC a) s.heap H locs → ∀ (ls : Array Slot), lv_has ls 5 [(0, .ref (a 2)), (1, .int x1), (2, .int x2)] → W p l e { frames := 3, cells := 0, slots := 0, locals := 63 } s m args below meth c H locs 0 0 (MQ below (va_Qi (fun r u => r = q.1 ∧ u = q.2) (pW D (wC a cI cZ) [(cI, .int), (cZ, .boolean)] (stC t) (aC a)) (aC a)) args s 0 0 (aC a)) (F0 m 12 ls []) := by
  obtain ⟨hx, hb, hml, hown, hg⟩ := id F
  intro n
  induction n with
  | zero =>
    intro x1 x2 σ q hf
    rw [b_FL_flowBack_12] at hf
    cases hf
  | succ n ih =>
    intro x1 x2 σ q hf H locs hP hS ls hl
    rw [b_FL_flowBack_12] at hf
    refine lv_iload_n hx hb d_FL_flowBack_12 rfl (lv_at hl 2 rfl) ?_
    refine lv_if_lt (tgt := 110) hx hb d_FL_flowBack_13 (by decide) (fun c1 => ?_) (fun c1 => ?_)
    · replace hf := (if_pos c1).symm.trans hf
      refine lv_iload_n hx hb d_FL_flowBack_110 rfl (lv_at hl 1 rfl) ?_
      exact rr_zg hx hb hr hlk (stC_g t) hK hT hP hS hf d_FL_flowBack_111
    · replace hf := (if_neg c1).symm.trans hf
      refine lv_aload_n hx hb d_FL_flowBack_16 rfl (lv_at hl 0 rfl) ?_
      refine va_get (D := D) (ci := 2) (v := .ref (a 15)) (C := R_FL) (T := T_FL) (N := 4) hx hb hg in_FL hown hK hP 2 rfl rfl 3 (by decide) (hg _ gw_58) (fun _ h9 => h9) rfl d_FL_flowBack_17 ?_
      refine lv_iload_n hx hb d_FL_flowBack_20 rfl (lv_at hl 2 rfl) ?_
      refine lv_aload_n hx hb d_FL_flowBack_21 rfl (lv_at hl 0 rfl) ?_
      refine lv_iload_n hx hb d_FL_flowBack_22 rfl (lv_at hl 2 rfl) ?_
      refine bdK hf (fun q2 h3 hf => ?_)
      refine rc_Vi (As := [.int x2]) (rest := [.int x2, .ref (a 15)]) (b := a 2) (stC_g t) F (c_FL_gatherAfter l ha x2 σ q2 h3) (cwV 1 hg gc_FL_57 rfl rfl rfl hs_FL_gatherAfter ⟨Nat.le_of_ble_eq_true rfl, Nat.le_of_ble_eq_true rfl⟩) hK hT hP hS (va_recv hK hP (ci := 2) (q0 := 2) rfl rfl) rfl hl.1 rfl (Nat.le_of_ble_eq_true rfl) d_FL_flowBack_23 ⟨Nat.zero_le _, Nat.zero_le _⟩ (fun H locs hP hS => ?_)
      refine bdK hf (fun σ4 h5 hf => ?_)
      refine r_iast (wf := (wC a cI cZ)) hx hb hK hP (dC ha q2.2) hS 15 0 rfl rfl (fun _ _ => rfl) h5 d_FL_flowBack_26 (fun H locs hP hS => ?_)
      refine lv_aload_n hx hb d_FL_flowBack_27 rfl (lv_at hl 0 rfl) ?_
      refine va_get (D := D) (ci := 2) (v := .ref (a 1)) (C := R_FL) (T := T_FL) (N := 4) hx hb hg in_FL hown hK hP 2 rfl rfl 0 (by decide) (hg _ gw_55) (fun _ h9 => h9) rfl d_FL_flowBack_28 ?_
      refine lv_iload_n hx hb d_FL_flowBack_31 rfl (lv_at hl 2 rfl) ?_
      refine bdK hf (fun q6 h7 hf => ?_)
      refine rc_Vi (As := [.int x2]) (rest := []) (b := a 1) (stC_g t) F (c_RC_readAsA l ha x2 σ4 q6 h7) (cwV 1 hg gc_FL_60 rfl rfl rfl hs_RC_readAsA ⟨Nat.le_of_ble_eq_true rfl, Nat.le_of_ble_eq_true rfl⟩) hK hT hP hS (va_recv hK hP (ci := 1) (q0 := 1) rfl rfl) rfl hl.1 rfl (Nat.le_of_ble_eq_true rfl) d_FL_flowBack_32 ⟨Nat.zero_le _, Nat.zero_le _⟩ (fun H locs hP hS => ?_)
      refine bdK hf (fun q8 h9 hf => ?_)
      refine rc_Si (As := [.int q6.1]) (rest := []) (stC_g t) F (c_FL_setOf l ha q6.1 q6.2 q8 h9) (cwS 1 hg gc_FL_63 rfl rfl rfl hs_FL_setOf ⟨Nat.le_of_ble_eq_true rfl, Nat.le_of_ble_eq_true rfl⟩) hK hT hP hS rfl hl.1 rfl (Nat.le_of_ble_eq_true rfl) d_FL_flowBack_35 ⟨Nat.zero_le _, Nat.zero_le _⟩ (fun H locs hP hS => ?_)
      refine lv_aload_n hx hb d_FL_flowBack_38 rfl (lv_at hl 0 rfl) ?_
      refine va_get (D := D) (ci := 2) (v := .ref (a 1)) (C := R_FL) (T := T_FL) (N := 4) hx hb hg in_FL hown hK hP 2 rfl rfl 0 (by decide) (hg _ gw_55) (fun _ h9 => h9) rfl d_FL_flowBack_39 ?_
      refine lv_iload_n hx hb d_FL_flowBack_42 rfl (lv_at hl 2 rfl) ?_
      refine bdK hf (fun q10 h11 hf => ?_)
      refine rc_Vi (As := [.int x2]) (rest := [.int q8.1]) (b := a 1) (stC_g t) F (c_RC_readAsB l ha x2 q8.2 q10 h11) (cwV 1 hg gc_FL_66 rfl rfl rfl hs_RC_readAsB ⟨Nat.le_of_ble_eq_true rfl, Nat.le_of_ble_eq_true rfl⟩) hK hT hP hS (va_recv hK hP (ci := 1) (q0 := 1) rfl rfl) rfl hl.1 rfl (Nat.le_of_ble_eq_true rfl) d_FL_flowBack_43 ⟨Nat.zero_le _, Nat.zero_le _⟩ (fun H locs hP hS => ?_)
      refine bdK hf (fun q12 h13 hf => ?_)
      refine rc_Si (As := [.int q10.1]) (rest := [.int q8.1]) (stC_g t) F (c_FL_setOf l ha q10.1 q10.2 q12 h13) (cwS 1 hg gc_FL_63 rfl rfl rfl hs_FL_setOf ⟨Nat.le_of_ble_eq_true rfl, Nat.le_of_ble_eq_true rfl⟩) hK hT hP hS rfl hl.1 rfl (Nat.le_of_ble_eq_true rfl) d_FL_flowBack_46 ⟨Nat.zero_le _, Nat.zero_le _⟩ (fun H locs hP hS => ?_)
      refine lv_ior hx hb d_FL_flowBack_49 ?_
      refine lv_istore_n (lv' := [(3, .int (q8.1 ||| q12.1)), (0, .ref (a 2)), (1, .int x1), (2, .int x2)]) hx hb d_FL_flowBack_50 rfl hl (by decide) rfl (fun ls hl => ?_)
      refine lv_iload_n hx hb d_FL_flowBack_51 rfl (lv_at hl 0 rfl) ?_
      refine lv_aload_n hx hb d_FL_flowBack_52 rfl (lv_at hl 1 rfl) ?_
      refine va_get (D := D) (ci := 2) (v := .ref (a 15)) (C := R_FL) (T := T_FL) (N := 4) hx hb hg in_FL hown hK hP 2 rfl rfl 3 (by decide) (hg _ gw_58) (fun _ h9 => h9) rfl d_FL_flowBack_53 ?_
      refine lv_iload_n hx hb d_FL_flowBack_56 rfl (lv_at hl 3 rfl) ?_
      refine bdK hf (fun v14 h15 hf => ?_)
      refine r_iald hx hb hK hP 15 0 rfl rfl h15 d_FL_flowBack_57 ?_
      refine lv_aload_n hx hb d_FL_flowBack_58 rfl (lv_at hl 1 rfl) ?_
      refine va_get (D := D) (ci := 2) (v := .ref (a 1)) (C := R_FL) (T := T_FL) (N := 4) hx hb hg in_FL hown hK hP 2 rfl rfl 0 (by decide) (hg _ gw_55) (fun _ h9 => h9) rfl d_FL_flowBack_59 ?_
      refine lv_iload_n hx hb d_FL_flowBack_62 rfl (lv_at hl 3 rfl) ?_
      refine bdK hf (fun q16 h17 hf => ?_)
      refine rc_Vi (As := [.int x2]) (rest := [.int v14, .int (q8.1 ||| q12.1)]) (b := a 1) (stC_g t) F (c_RC_writtenBy l ha x2 q12.2 q16 h17) (cwV 1 hg gc_FL_69 rfl rfl rfl hs_RC_writtenBy ⟨Nat.le_of_ble_eq_true rfl, Nat.le_of_ble_eq_true rfl⟩) hK hT hP hS (va_recv hK hP (ci := 1) (q0 := 1) rfl rfl) rfl hl.1 rfl (Nat.le_of_ble_eq_true rfl) d_FL_flowBack_63 ⟨Nat.zero_le _, Nat.zero_le _⟩ (fun H locs hP hS => ?_)
      refine bdK hf (fun q18 h19 hf => ?_)
      refine rc_Si (As := [.int q16.1]) (rest := [.int v14, .int (q8.1 ||| q12.1)]) (stC_g t) F (c_FL_setOf l ha q16.1 q16.2 q18 h19) (cwS 1 hg gc_FL_63 rfl rfl rfl hs_FL_setOf ⟨Nat.le_of_ble_eq_true rfl, Nat.le_of_ble_eq_true rfl⟩) hK hT hP hS rfl hl.1 rfl (Nat.le_of_ble_eq_true rfl) d_FL_flowBack_66 ⟨Nat.zero_le _, Nat.zero_le _⟩ (fun H locs hP hS => ?_)
      refine lv_iconst (v := (-1 : Int32)) hx hb d_FL_flowBack_69 (by decide) ?_
      refine lv_ixor hx hb d_FL_flowBack_70 ?_
      refine lv_iand hx hb d_FL_flowBack_71 ?_
      refine lv_ior hx hb d_FL_flowBack_72 ?_
      refine lv_istore (lv' := [(4, .int ((q8.1 ||| q12.1) ||| (v14 &&& (q18.1 ^^^ (-1 : Int32))))), (3, .int (q8.1 ||| q12.1)), (0, .ref (a 2)), (1, .int x1), (2, .int x2)]) hx hb d_FL_flowBack_73 hl (by decide) rfl (fun ls hl => ?_)
      refine lv_iload_n hx hb d_FL_flowBack_75 rfl (lv_at hl 3 rfl) ?_
      refine lv_if_ne (tgt := 90) hx hb d_FL_flowBack_76 (by decide) (fun c20 => ?_) (fun c20 => ?_)
      · replace hf := (if_neg c20).symm.trans hf
        refine lv_iconst (v := (1 : Int32)) hx hb d_FL_flowBack_90 (by decide) ?_
        refine lv_goto (tgt := 95) hx hb d_FL_flowBack_91 (by decide) ?_
        refine lv_istore_n (lv' := [(1, .int (1 : Int32)), (4, .int ((q8.1 ||| q12.1) ||| (v14 &&& (q18.1 ^^^ (-1 : Int32))))), (3, .int (q8.1 ||| q12.1)), (0, .ref (a 2)), (2, .int x2)]) hx hb d_FL_flowBack_95 rfl hl (by decide) rfl (fun ls hl => ?_)
        refine lv_aload_n hx hb d_FL_flowBack_96 rfl (lv_at hl 3 rfl) ?_
        refine va_get (D := D) (ci := 2) (v := .ref (a 14)) (C := R_FL) (T := T_FL) (N := 4) hx hb hg in_FL hown hK hP 2 rfl rfl 2 (by decide) (hg _ gw_57) (fun _ h9 => h9) rfl d_FL_flowBack_97 ?_
        refine lv_iload_n hx hb d_FL_flowBack_100 rfl (lv_at hl 4 rfl) ?_
        refine lv_iload hx hb d_FL_flowBack_101 (lv_at hl 1 rfl) ?_
        refine bdK hf (fun σ21 h22 hf => ?_)
        refine r_iast (wf := (wC a cI cZ)) hx hb hK hP (dC ha q18.2) hS 14 0 rfl rfl (fun _ _ => rfl) h22 d_FL_flowBack_103 (fun H locs hP hS => ?_)
        refine lv_iinc (v := (x2 + (-1 : Int32))) (lv' := [(2, .int (x2 + (-1 : Int32))), (1, .int (1 : Int32)), (4, .int ((q8.1 ||| q12.1) ||| (v14 &&& (q18.1 ^^^ (-1 : Int32))))), (3, .int (q8.1 ||| q12.1)), (0, .ref (a 2))]) hx hb d_FL_flowBack_104 hl (k := 4) rfl (by rfl) (by decide) rfl (fun ls hl => ?_)
        refine lv_goto (tgt := 12) hx hb d_FL_flowBack_107 (by decide) ?_
        exact ih (1 : Int32) (x2 + (-1 : Int32)) σ21 q hf _ _ hP hS ls (lv_sub hl [4, 1, 0] rfl)
      · replace hf := (if_pos c20).symm.trans hf
        refine lv_iload hx hb d_FL_flowBack_79 (lv_at hl 0 rfl) ?_
        refine lv_aload_n hx hb d_FL_flowBack_81 rfl (lv_at hl 2 rfl) ?_
        refine va_get (D := D) (ci := 2) (v := .ref (a 14)) (C := R_FL) (T := T_FL) (N := 4) hx hb hg in_FL hown hK hP 2 rfl rfl 2 (by decide) (hg _ gw_57) (fun _ h9 => h9) rfl d_FL_flowBack_82 ?_
        refine lv_iload_n hx hb d_FL_flowBack_85 rfl (lv_at hl 4 rfl) ?_
        refine bdK hf (fun v23 h24 hf => ?_)
        refine r_iald hx hb hK hP 14 0 rfl rfl h24 d_FL_flowBack_86 ?_
        refine lv_icmp_eq (tgt := 94) hx hb d_FL_flowBack_87 (by decide) (fun c25 => ?_) (fun c25 => ?_)
        · replace hf := (if_pos c25).symm.trans hf
          refine lv_iconst (v := (0 : Int32)) hx hb d_FL_flowBack_94 (by decide) ?_
          refine lv_istore_n (lv' := [(1, .int (0 : Int32)), (4, .int ((q8.1 ||| q12.1) ||| (v14 &&& (q18.1 ^^^ (-1 : Int32))))), (3, .int (q8.1 ||| q12.1)), (0, .ref (a 2)), (2, .int x2)]) hx hb d_FL_flowBack_95 rfl hl (by decide) rfl (fun ls hl => ?_)
          refine lv_aload_n hx hb d_FL_flowBack_96 rfl (lv_at hl 3 rfl) ?_
          refine va_get (D := D) (ci := 2) (v := .ref (a 14)) (C := R_FL) (T := T_FL) (N := 4) hx hb hg in_FL hown hK hP 2 rfl rfl 2 (by decide) (hg _ gw_57) (fun _ h9 => h9) rfl d_FL_flowBack_97 ?_
          refine lv_iload_n hx hb d_FL_flowBack_100 rfl (lv_at hl 4 rfl) ?_
          refine lv_iload hx hb d_FL_flowBack_101 (lv_at hl 1 rfl) ?_
          refine bdK hf (fun σ26 h27 hf => ?_)
          refine r_iast (wf := (wC a cI cZ)) hx hb hK hP (dC ha q18.2) hS 14 0 rfl rfl (fun _ _ => rfl) h27 d_FL_flowBack_103 (fun H locs hP hS => ?_)
          refine lv_iinc (v := (x2 + (-1 : Int32))) (lv' := [(2, .int (x2 + (-1 : Int32))), (1, .int (0 : Int32)), (4, .int ((q8.1 ||| q12.1) ||| (v14 &&& (q18.1 ^^^ (-1 : Int32))))), (3, .int (q8.1 ||| q12.1)), (0, .ref (a 2))]) hx hb d_FL_flowBack_104 hl (k := 4) rfl (by rfl) (by decide) rfl (fun ls hl => ?_)
          refine lv_goto (tgt := 12) hx hb d_FL_flowBack_107 (by decide) ?_
          exact ih (0 : Int32) (x2 + (-1 : Int32)) σ26 q hf _ _ hP hS ls (lv_sub hl [4, 1, 0] rfl)
        · replace hf := (if_neg c25).symm.trans hf
          refine lv_iconst (v := (1 : Int32)) hx hb d_FL_flowBack_90 (by decide) ?_
          refine lv_goto (tgt := 95) hx hb d_FL_flowBack_91 (by decide) ?_
          refine lv_istore_n (lv' := [(1, .int (1 : Int32)), (4, .int ((q8.1 ||| q12.1) ||| (v14 &&& (q18.1 ^^^ (-1 : Int32))))), (3, .int (q8.1 ||| q12.1)), (0, .ref (a 2)), (2, .int x2)]) hx hb d_FL_flowBack_95 rfl hl (by decide) rfl (fun ls hl => ?_)
          refine lv_aload_n hx hb d_FL_flowBack_96 rfl (lv_at hl 3 rfl) ?_
          refine va_get (D := D) (ci := 2) (v := .ref (a 14)) (C := R_FL) (T := T_FL) (N := 4) hx hb hg in_FL hown hK hP 2 rfl rfl 2 (by decide) (hg _ gw_57) (fun _ h9 => h9) rfl d_FL_flowBack_97 ?_
          refine lv_iload_n hx hb d_FL_flowBack_100 rfl (lv_at hl 4 rfl) ?_
          refine lv_iload hx hb d_FL_flowBack_101 (lv_at hl 1 rfl) ?_
          refine bdK hf (fun σ28 h29 hf => ?_)
          refine r_iast (wf := (wC a cI cZ)) hx hb hK hP (dC ha q18.2) hS 14 0 rfl rfl (fun _ _ => rfl) h29 d_FL_flowBack_103 (fun H locs hP hS => ?_)
          refine lv_iinc (v := (x2 + (-1 : Int32))) (lv' := [(2, .int (x2 + (-1 : Int32))), (1, .int (1 : Int32)), (4, .int ((q8.1 ||| q12.1) ||| (v14 &&& (q18.1 ^^^ (-1 : Int32))))), (3, .int (q8.1 ||| q12.1)), (0, .ref (a 2))]) hx hb d_FL_flowBack_104 hl (k := 4) rfl (by rfl) (by decide) rfl (fun ls hl => ?_)
          refine lv_goto (tgt := 12) hx hb d_FL_flowBack_107 (by decide) ?_
          exact ih (1 : Int32) (x2 + (-1 : Int32)) σ28 q hf _ _ hP hS ls (lv_sub hl [4, 1, 0] rfl)
def f_FL_flowBack (σ : SS) : Option (Int32 × SS) :=
  (f_RC_count σ).bind fun q1 => b_FL_flowBack_12 FU (0 : Int32) (q1.1 - (1 : Int32)) q1.2
set_option maxHeartbeats 4000000 in
set_option maxRecDepth 100000 in
theorem e_FL_flowBack {p : Program} {l : Launch} {e : Env} {s : State} {m : MethodId} {args : Array Value} {below : List Frame} {meth : Method} {c : Code} {D : va_G} {a t : Nat → Nat} {cI cZ : ClassId} (ha : aCC a) (F : CallFix p m c b_FL_flowBack 5 s args gt R_FL) (hr : meth.sig.returnType = some .boolean) (hlk : meth.locks = false) (hK : va_K D vwCl [(cI, .int), (cZ, .boolean)] s) (hT : stC t (aC a) s s.heap) :
    ∀ (σ : SS) (q : Int32 × SS), f_FL_flowBack σ = some q → ∀ (H : Heap) (locs : List Loc), va_P D vwCl ((wC a cI cZ) σ) H → va_S (aC a) s.heap H locs → ∀ (ls : Array Slot), lv_has ls 5 [(0, .ref (a 2))] → W p l e { frames := 3, cells := 0, slots := 0, locals := 63 } s m args below meth c H locs 0 0 (MQ below (va_Qi (fun r u => r = q.1 ∧ u = q.2) (pW D (wC a cI cZ) [(cI, .int), (cZ, .boolean)] (stC t) (aC a)) (aC a)) args s 0 0 (aC a)) (F0 m 0 ls []) := by
  obtain ⟨hx, hb, hml, hown, hg⟩ := id F
  intro σ q hf H locs hP hS ls hl
  unfold f_FL_flowBack at hf
  refine lv_iconst (v := (0 : Int32)) hx hb d_FL_flowBack_0 (by decide) ?_
  refine lv_istore_n (lv' := [(1, .int (0 : Int32)), (0, .ref (a 2))]) hx hb d_FL_flowBack_1 rfl hl (by decide) rfl (fun ls hl => ?_)
  refine lv_aload_n hx hb d_FL_flowBack_2 rfl (lv_at hl 1 rfl) ?_
  refine va_get (D := D) (ci := 2) (v := .ref (a 1)) (C := R_FL) (T := T_FL) (N := 4) hx hb hg in_FL hown hK hP 2 rfl rfl 0 (by decide) (hg _ gw_55) (fun _ h9 => h9) rfl d_FL_flowBack_3 ?_
  refine bdK hf (fun q1 h2 hf => ?_)
  refine rc_Vi (As := []) (rest := []) (b := a 1) (stC_g t) F (c_RC_count l ha σ q1 h2) (cwV 0 hg gc_FL_29 rfl rfl rfl hs_RC_count ⟨Nat.le_of_ble_eq_true rfl, Nat.le_of_ble_eq_true rfl⟩) hK hT hP hS (va_recv hK hP (ci := 1) (q0 := 1) rfl rfl) rfl hl.1 rfl (Nat.le_of_ble_eq_true rfl) d_FL_flowBack_6 ⟨Nat.zero_le _, Nat.zero_le _⟩ (fun H locs hP hS => ?_)
  refine lv_iconst (v := (1 : Int32)) hx hb d_FL_flowBack_9 (by decide) ?_
  refine lv_isub hx hb d_FL_flowBack_10 ?_
  refine lv_istore_n (lv' := [(2, .int (q1.1 - (1 : Int32))), (1, .int (0 : Int32)), (0, .ref (a 2))]) hx hb d_FL_flowBack_11 rfl hl (by decide) rfl (fun ls hl => ?_)
  exact k_FL_flowBack_12 ha F hr hlk hK hT FU (0 : Int32) (q1.1 - (1 : Int32)) q1.2 q hf _ _ hP hS ls (lv_sub hl [2, 1, 0] rfl)
set_option maxHeartbeats 4000000 in
set_option maxRecDepth 100000 in
theorem c_FL_flowBack (l : Launch) {D : va_G} {a t : Nat → Nat} {cI cZ : ClassId} (ha : aCC a) (σ : SS) (q : Int32 × SS) (hf : f_FL_flowBack σ = some q) : Met l y_FL_flowBack ws_FL_flowBack { frames := 3, cells := 0, slots := 0, locals := 63 } (va_Pc [.ref (a 2)] (pW D (wC a cI cZ) [(cI, .int), (cZ, .boolean)] (stC t) (aC a) σ)) (va_Qi (fun r u => r = q.1 ∧ u = q.2) (pW D (wC a cI cZ) [(cI, .int), (cZ, .boolean)] (stC t) (aC a)) (aC a)) 0 0 (aC a) := by
  refine Met.ofW (cc := b_FL_flowBack) (maxL := 5) (ret := some .boolean) (by decide) rfl ?_
  intro p e s m args below meth c s₁ B hml hv
  obtain ⟨rfl, hP, hK, hT⟩ := hv
  have hl := lv_entry ([.ref (a 2)]) (n := 5) (Nat.le_of_ble_eq_true rfl)
  rw [lg_entry_eq]
  generalize (lg_sl ([.ref (a 2)]) ++ List.replicate (5 - (lg_sl ([.ref (a 2)])).length) Slot.unset).toArray = ls at hl ⊢
  exact e_FL_flowBack ha ⟨B.exec, B.bytes, hml, findClass_of_methodNamed B.named, fun w h => atoms_spec (ws := ws_FL_flowBack) B.pre w (List.mem_cons_of_mem _ h)⟩ B.returns B.notSynchronized hK hT σ q hf s.heap [] hP va_S.rf ls hl
theorem d_FL_trace_0 : decode b_FL_trace 0 = .ok (.aload_n 0, 1) := by decide +kernel
theorem d_FL_trace_1 : decode b_FL_trace 1 = .ok (.invokevirtual 26, 3) := by decide +kernel
theorem d_FL_trace_4 : decode b_FL_trace 4 = .ok (.iconst 0, 1) := by decide +kernel
theorem d_FL_trace_5 : decode b_FL_trace 5 = .ok (.istore_n 1, 1) := by decide +kernel
theorem d_FL_trace_6 : decode b_FL_trace 6 = .ok (.iload_n 1, 1) := by decide +kernel
theorem d_FL_trace_7 : decode b_FL_trace 7 = .ok (.aload_n 0, 1) := by decide +kernel
theorem d_FL_trace_8 : decode b_FL_trace 8 = .ok (.getfield 22, 3) := by decide +kernel
theorem d_FL_trace_11 : decode b_FL_trace 11 = .ok (.invokevirtual 29, 3) := by decide +kernel
theorem d_FL_trace_14 : decode b_FL_trace 14 = .ok (.if_icmp .ge 16, 3) := by decide +kernel
theorem d_FL_trace_17 : decode b_FL_trace 17 = .ok (.aload_n 0, 1) := by decide +kernel
theorem d_FL_trace_18 : decode b_FL_trace 18 = .ok (.getfield 15, 3) := by decide +kernel
theorem d_FL_trace_21 : decode b_FL_trace 21 = .ok (.iload_n 1, 1) := by decide +kernel
theorem d_FL_trace_22 : decode b_FL_trace 22 = .ok (.iconst 0, 1) := by decide +kernel
theorem d_FL_trace_23 : decode b_FL_trace 23 = .ok (.iastore, 1) := by decide +kernel
theorem d_FL_trace_24 : decode b_FL_trace 24 = .ok (.iinc 1 1, 3) := by decide +kernel
theorem d_FL_trace_27 : decode b_FL_trace 27 = .ok (.goto (-21), 3) := by decide +kernel
theorem d_FL_trace_30 : decode b_FL_trace 30 = .ok (.iconst 1, 1) := by decide +kernel
theorem d_FL_trace_31 : decode b_FL_trace 31 = .ok (.istore_n 1, 1) := by decide +kernel
theorem d_FL_trace_32 : decode b_FL_trace 32 = .ok (.iconst 0, 1) := by decide +kernel
theorem d_FL_trace_33 : decode b_FL_trace 33 = .ok (.istore_n 2, 1) := by decide +kernel
theorem d_FL_trace_34 : decode b_FL_trace 34 = .ok (.iload_n 1, 1) := by decide +kernel
theorem d_FL_trace_35 : decode b_FL_trace 35 = .ok (.ifCond .eq 21, 3) := by decide +kernel
theorem d_FL_trace_38 : decode b_FL_trace 38 = .ok (.iload_n 2, 1) := by decide +kernel
theorem d_FL_trace_39 : decode b_FL_trace 39 = .ok (.sipush 401, 3) := by decide +kernel
theorem d_FL_trace_42 : decode b_FL_trace 42 = .ok (.if_icmp .ge 14, 3) := by decide +kernel
theorem d_FL_trace_45 : decode b_FL_trace 45 = .ok (.aload_n 0, 1) := by decide +kernel
theorem d_FL_trace_46 : decode b_FL_trace 46 = .ok (.invokevirtual 35, 3) := by decide +kernel
theorem d_FL_trace_49 : decode b_FL_trace 49 = .ok (.istore_n 1, 1) := by decide +kernel
theorem d_FL_trace_50 : decode b_FL_trace 50 = .ok (.iinc 2 1, 3) := by decide +kernel
theorem d_FL_trace_53 : decode b_FL_trace 53 = .ok (.goto (-19), 3) := by decide +kernel
theorem d_FL_trace_56 : decode b_FL_trace 56 = .ok (.return_, 1) := by decide +kernel
theorem gc_FL_35 : GoodIn gt (wsV R_FL 35 R_FL y_FL_flowBack ws_FL_flowBack) := gd_V gw_262 gw_264 gs_3 gw_3 gw_265
theorem gc_FL_26 : GoodIn gt (wsV R_FL 26 R_FL y_FL_markBlocks ws_FL_markBlocks) := gd_V gw_240 gw_242 gs_1 gw_3 gw_243
def b_FL_trace_34 : Nat → Int32 → Int32 → SS → Option (SS)
  | 0, _, _, _ => none
  | n + 1, x1, x2, σ =>
    (if x1 = 0 then some σ else (if (401 : Int32) ≤ x2 then some σ else (f_FL_flowBack σ).bind fun q3 => b_FL_trace_34 n q3.1 (x2 + (1 : Int32)) q3.2))
set_option maxHeartbeats 4000000 in
set_option maxRecDepth 100000 in
theorem k_FL_trace_34 {p : Program} {l : Launch} {e : Env} {s : State} {m : MethodId} {args : Array Value} {below : List Frame} {meth : Method} {c : Code} {D : va_G} {a t : Nat → Nat} {cI cZ : ClassId} (ha : aCC a) (F : CallFix p m c b_FL_trace 3 s args gt R_FL) (hr : meth.sig.returnType = none) (hlk : meth.locks = false) (hK : va_K D vwCl [(cI, .int), (cZ, .boolean)] s) (hT : stC t (aC a) s s.heap) :
    ∀ (n : Nat) (x1 x2 : Int32) (σ : SS) (q : SS), b_FL_trace_34 n x1 x2 σ = some q → ∀ (H : Heap) (locs : List Loc), va_P D vwCl ((wC a cI cZ) σ) H → va_S (aC a) s.heap H locs → ∀ (ls : Array Slot), lv_has ls 3 [(0, .ref (a 2)), (1, .int x1), (2, .int x2)] → W p l e { frames := 4, cells := 0, slots := 0, locals := 87 } s m args below meth c H locs 0 0 (MQ below (va_Qv (fun u => u = q) (pW D (wC a cI cZ) [(cI, .int), (cZ, .boolean)] (stC t) (aC a)) (aC a)) args s 0 0 (aC a)) (F0 m 34 ls []) := by
  obtain ⟨hx, hb, hml, hown, hg⟩ := id F
  intro n
  induction n with
  | zero =>
    intro x1 x2 σ q hf
    rw [b_FL_trace_34] at hf
    cases hf
  | succ n ih =>
    intro x1 x2 σ q hf H locs hP hS ls hl
    rw [b_FL_trace_34] at hf
    refine lv_iload_n hx hb d_FL_trace_34 rfl (lv_at hl 1 rfl) ?_
    refine lv_if_eq (tgt := 56) hx hb d_FL_trace_35 (by decide) (fun c1 => ?_) (fun c1 => ?_)
    · replace hf := (if_pos c1).symm.trans hf
      exact rr_v hx hb hr hlk (stC_g t) hK hT hP hS hf d_FL_trace_56
    · replace hf := (if_neg c1).symm.trans hf
      refine lv_iload_n hx hb d_FL_trace_38 rfl (lv_at hl 2 rfl) ?_
      refine lv_sipush (v := (401 : Int32)) hx hb d_FL_trace_39 (by decide) ?_
      refine lv_icmp_ge (tgt := 56) hx hb d_FL_trace_42 (by decide) (fun c2 => ?_) (fun c2 => ?_)
      · replace hf := (if_pos c2).symm.trans hf
        exact rr_v hx hb hr hlk (stC_g t) hK hT hP hS hf d_FL_trace_56
      · replace hf := (if_neg c2).symm.trans hf
        refine lv_aload_n hx hb d_FL_trace_45 rfl (lv_at hl 0 rfl) ?_
        refine bdK hf (fun q3 h4 hf => ?_)
        refine rc_Vi (As := []) (rest := []) (b := a 2) (stC_g t) F (c_FL_flowBack l ha σ q3 h4) (cwV 0 hg gc_FL_35 rfl rfl rfl hs_FL_flowBack ⟨Nat.le_of_ble_eq_true rfl, Nat.le_of_ble_eq_true rfl⟩) hK hT hP hS (va_recv hK hP (ci := 2) (q0 := 2) rfl rfl) rfl hl.1 rfl (Nat.le_of_ble_eq_true rfl) d_FL_trace_46 ⟨Nat.zero_le _, Nat.zero_le _⟩ (fun H locs hP hS => ?_)
        refine lv_istore_n (lv' := [(1, .int q3.1), (0, .ref (a 2)), (2, .int x2)]) hx hb d_FL_trace_49 rfl hl (by decide) rfl (fun ls hl => ?_)
        refine lv_iinc (v := (x2 + (1 : Int32))) (lv' := [(2, .int (x2 + (1 : Int32))), (1, .int q3.1), (0, .ref (a 2))]) hx hb d_FL_trace_50 hl (k := 2) rfl (by rfl) (by decide) rfl (fun ls hl => ?_)
        refine lv_goto (tgt := 34) hx hb d_FL_trace_53 (by decide) ?_
        exact ih q3.1 (x2 + (1 : Int32)) q3.2 q hf _ _ hP hS ls (lv_sub hl [2, 1, 0] rfl)
def b_FL_trace_6 : Nat → Int32 → SS → Option (SS)
  | 0, _, _ => none
  | n + 1, x1, σ =>
    (f_RC_count σ).bind fun q1 => (if q1.1 ≤ x1 then b_FL_trace_34 FU (1 : Int32) (0 : Int32) q1.2 else (sto q1.2 8 40 x1 (0 : Int32)).bind fun σ4 => b_FL_trace_6 n (x1 + (1 : Int32)) σ4)
set_option maxHeartbeats 4000000 in
set_option maxRecDepth 100000 in
theorem k_FL_trace_6 {p : Program} {l : Launch} {e : Env} {s : State} {m : MethodId} {args : Array Value} {below : List Frame} {meth : Method} {c : Code} {D : va_G} {a t : Nat → Nat} {cI cZ : ClassId} (ha : aCC a) (F : CallFix p m c b_FL_trace 3 s args gt R_FL) (hr : meth.sig.returnType = none) (hlk : meth.locks = false) (hK : va_K D vwCl [(cI, .int), (cZ, .boolean)] s) (hT : stC t (aC a) s s.heap) :
    ∀ (n : Nat) (x1 : Int32) (σ : SS) (q : SS), b_FL_trace_6 n x1 σ = some q → ∀ (H : Heap) (locs : List Loc), va_P D vwCl ((wC a cI cZ) σ) H → va_S (aC a) s.heap H locs → ∀ (ls : Array Slot), lv_has ls 3 [(0, .ref (a 2)), (1, .int x1)] → W p l e { frames := 4, cells := 0, slots := 0, locals := 87 } s m args below meth c H locs 0 0 (MQ below (va_Qv (fun u => u = q) (pW D (wC a cI cZ) [(cI, .int), (cZ, .boolean)] (stC t) (aC a)) (aC a)) args s 0 0 (aC a)) (F0 m 6 ls []) := by
  obtain ⟨hx, hb, hml, hown, hg⟩ := id F
  intro n
  induction n with
  | zero =>
    intro x1 σ q hf
    rw [b_FL_trace_6] at hf
    cases hf
  | succ n ih =>
    intro x1 σ q hf H locs hP hS ls hl
    rw [b_FL_trace_6] at hf
    refine lv_iload_n hx hb d_FL_trace_6 rfl (lv_at hl 1 rfl) ?_
    refine lv_aload_n hx hb d_FL_trace_7 rfl (lv_at hl 0 rfl) ?_
    refine va_get (D := D) (ci := 2) (v := .ref (a 1)) (C := R_FL) (T := T_FL) (N := 4) hx hb hg in_FL hown hK hP 2 rfl rfl 0 (by decide) (hg _ gw_55) (fun _ h9 => h9) rfl d_FL_trace_8 ?_
    refine bdK hf (fun q1 h2 hf => ?_)
    refine rc_Vi (As := []) (rest := [.int x1]) (b := a 1) (stC_g t) F (c_RC_count l ha σ q1 h2) (cwV 0 hg gc_FL_29 rfl rfl rfl hs_RC_count ⟨Nat.le_of_ble_eq_true rfl, Nat.le_of_ble_eq_true rfl⟩) hK hT hP hS (va_recv hK hP (ci := 1) (q0 := 1) rfl rfl) rfl hl.1 rfl (Nat.le_of_ble_eq_true rfl) d_FL_trace_11 ⟨Nat.zero_le _, Nat.zero_le _⟩ (fun H locs hP hS => ?_)
    refine lv_icmp_ge (tgt := 30) hx hb d_FL_trace_14 (by decide) (fun c3 => ?_) (fun c3 => ?_)
    · replace hf := (if_pos c3).symm.trans hf
      refine lv_iconst (v := (1 : Int32)) hx hb d_FL_trace_30 (by decide) ?_
      refine lv_istore_n (lv' := [(1, .int (1 : Int32)), (0, .ref (a 2))]) hx hb d_FL_trace_31 rfl hl (by decide) rfl (fun ls hl => ?_)
      refine lv_iconst (v := (0 : Int32)) hx hb d_FL_trace_32 (by decide) ?_
      refine lv_istore_n (lv' := [(2, .int (0 : Int32)), (1, .int (1 : Int32)), (0, .ref (a 2))]) hx hb d_FL_trace_33 rfl hl (by decide) rfl (fun ls hl => ?_)
      exact k_FL_trace_34 ha F hr hlk hK hT FU (1 : Int32) (0 : Int32) q1.2 q hf _ _ hP hS ls (lv_sub hl [2, 1, 0] rfl)
    · replace hf := (if_neg c3).symm.trans hf
      refine lv_aload_n hx hb d_FL_trace_17 rfl (lv_at hl 0 rfl) ?_
      refine va_get (D := D) (ci := 2) (v := .ref (a 14)) (C := R_FL) (T := T_FL) (N := 4) hx hb hg in_FL hown hK hP 2 rfl rfl 2 (by decide) (hg _ gw_57) (fun _ h9 => h9) rfl d_FL_trace_18 ?_
      refine lv_iload_n hx hb d_FL_trace_21 rfl (lv_at hl 1 rfl) ?_
      refine lv_iconst (v := (0 : Int32)) hx hb d_FL_trace_22 (by decide) ?_
      refine bdK hf (fun σ4 h5 hf => ?_)
      refine r_iast (wf := (wC a cI cZ)) hx hb hK hP (dC ha q1.2) hS 14 0 rfl rfl (fun _ _ => rfl) h5 d_FL_trace_23 (fun H locs hP hS => ?_)
      refine lv_iinc (v := (x1 + (1 : Int32))) (lv' := [(1, .int (x1 + (1 : Int32))), (0, .ref (a 2))]) hx hb d_FL_trace_24 hl (k := 1) rfl (by rfl) (by decide) rfl (fun ls hl => ?_)
      refine lv_goto (tgt := 6) hx hb d_FL_trace_27 (by decide) ?_
      exact ih (x1 + (1 : Int32)) σ4 q hf _ _ hP hS ls (lv_sub hl [1, 0] rfl)
def f_FL_trace (σ : SS) : Option (SS) :=
  (f_FL_markBlocks σ).bind fun σ1 => b_FL_trace_6 FU (0 : Int32) σ1
set_option maxHeartbeats 4000000 in
set_option maxRecDepth 100000 in
theorem e_FL_trace {p : Program} {l : Launch} {e : Env} {s : State} {m : MethodId} {args : Array Value} {below : List Frame} {meth : Method} {c : Code} {D : va_G} {a t : Nat → Nat} {cI cZ : ClassId} (ha : aCC a) (F : CallFix p m c b_FL_trace 3 s args gt R_FL) (hr : meth.sig.returnType = none) (hlk : meth.locks = false) (hK : va_K D vwCl [(cI, .int), (cZ, .boolean)] s) (hT : stC t (aC a) s s.heap) :
    ∀ (σ : SS) (q : SS), f_FL_trace σ = some q → ∀ (H : Heap) (locs : List Loc), va_P D vwCl ((wC a cI cZ) σ) H → va_S (aC a) s.heap H locs → ∀ (ls : Array Slot), lv_has ls 3 [(0, .ref (a 2))] → W p l e { frames := 4, cells := 0, slots := 0, locals := 87 } s m args below meth c H locs 0 0 (MQ below (va_Qv (fun u => u = q) (pW D (wC a cI cZ) [(cI, .int), (cZ, .boolean)] (stC t) (aC a)) (aC a)) args s 0 0 (aC a)) (F0 m 0 ls []) := by
  obtain ⟨hx, hb, hml, hown, hg⟩ := id F
  intro σ q hf H locs hP hS ls hl
  unfold f_FL_trace at hf
  refine lv_aload_n hx hb d_FL_trace_0 rfl (lv_at hl 0 rfl) ?_
  refine bdK hf (fun σ1 h2 hf => ?_)
  refine rc_Vv (As := []) (rest := []) (b := a 2) (stC_g t) F (c_FL_markBlocks l ha σ σ1 h2) (cwV 0 hg gc_FL_26 rfl rfl rfl hs_FL_markBlocks ⟨Nat.le_of_ble_eq_true rfl, Nat.le_of_ble_eq_true rfl⟩) hK hT hP hS (va_recv hK hP (ci := 2) (q0 := 2) rfl rfl) rfl hl.1 rfl (Nat.le_of_ble_eq_true rfl) d_FL_trace_1 ⟨Nat.zero_le _, Nat.zero_le _⟩ (fun H locs hP hS => ?_)
  refine lv_iconst (v := (0 : Int32)) hx hb d_FL_trace_4 (by decide) ?_
  refine lv_istore_n (lv' := [(1, .int (0 : Int32)), (0, .ref (a 2))]) hx hb d_FL_trace_5 rfl hl (by decide) rfl (fun ls hl => ?_)
  exact k_FL_trace_6 ha F hr hlk hK hT FU (0 : Int32) σ1 q hf _ _ hP hS ls (lv_sub hl [1, 0] rfl)
set_option maxHeartbeats 4000000 in
set_option maxRecDepth 100000 in
theorem c_FL_trace (l : Launch) {D : va_G} {a t : Nat → Nat} {cI cZ : ClassId} (ha : aCC a) (σ : SS) (q : SS) (hf : f_FL_trace σ = some q) : Met l y_FL_trace ws_FL_trace { frames := 4, cells := 0, slots := 0, locals := 87 } (va_Pc [.ref (a 2)] (pW D (wC a cI cZ) [(cI, .int), (cZ, .boolean)] (stC t) (aC a) σ)) (va_Qv (fun u => u = q) (pW D (wC a cI cZ) [(cI, .int), (cZ, .boolean)] (stC t) (aC a)) (aC a)) 0 0 (aC a) := by
  refine Met.ofW (cc := b_FL_trace) (maxL := 3) (ret := none) (by decide) rfl ?_
  intro p e s m args below meth c s₁ B hml hv
  obtain ⟨rfl, hP, hK, hT⟩ := hv
  have hl := lv_entry ([.ref (a 2)]) (n := 3) (Nat.le_of_ble_eq_true rfl)
  rw [lg_entry_eq]
  generalize (lg_sl ([.ref (a 2)]) ++ List.replicate (3 - (lg_sl ([.ref (a 2)])).length) Slot.unset).toArray = ls at hl ⊢
  exact e_FL_trace ha ⟨B.exec, B.bytes, hml, findClass_of_methodNamed B.named, fun w h => atoms_spec (ws := ws_FL_trace) B.pre w (List.mem_cons_of_mem _ h)⟩ B.returns B.notSynchronized hK hT σ q hf s.heap [] hP va_S.rf ls hl
theorem d_FL_beginsBlock_0 : decode b_FL_beginsBlock 0 = .ok (.aload_n 0, 1) := by decide +kernel
theorem d_FL_beginsBlock_1 : decode b_FL_beginsBlock 1 = .ok (.getfield 9, 3) := by decide +kernel
theorem d_FL_beginsBlock_4 : decode b_FL_beginsBlock 4 = .ok (.iload_n 1, 1) := by decide +kernel
theorem d_FL_beginsBlock_5 : decode b_FL_beginsBlock 5 = .ok (.baload, 1) := by decide +kernel
theorem d_FL_beginsBlock_6 : decode b_FL_beginsBlock 6 = .ok (.ireturn, 1) := by decide +kernel
def f_FL_beginsBlock (x1 : Int32) (σ : SS) : Option (Int32 × SS) :=
  (ld (σ 7) 40 x1).bind fun v1 => rz v1 σ
set_option maxHeartbeats 4000000 in
set_option maxRecDepth 100000 in
theorem e_FL_beginsBlock {p : Program} {l : Launch} {e : Env} {s : State} {m : MethodId} {args : Array Value} {below : List Frame} {meth : Method} {c : Code} {D : va_G} {a t : Nat → Nat} {cI cZ : ClassId} (ha : aCC a) (F : CallFix p m c b_FL_beginsBlock 2 s args gt R_FL) (hr : meth.sig.returnType = some .boolean) (hlk : meth.locks = false) (hK : va_K D vwCl [(cI, .int), (cZ, .boolean)] s) (hT : stC t (aC a) s s.heap) :
    ∀ (x1 : Int32) (σ : SS) (q : Int32 × SS), f_FL_beginsBlock x1 σ = some q → ∀ (H : Heap) (locs : List Loc), va_P D vwCl ((wC a cI cZ) σ) H → va_S (aC a) s.heap H locs → ∀ (ls : Array Slot), lv_has ls 2 [(0, .ref (a 2)), (1, .int x1)] → W p l e { frames := 0, cells := 0, slots := 0, locals := 0 } s m args below meth c H locs 0 0 (MQ below (va_Qi (fun r u => r = q.1 ∧ u = q.2) (pW D (wC a cI cZ) [(cI, .int), (cZ, .boolean)] (stC t) (aC a)) (aC a)) args s 0 0 (aC a)) (F0 m 0 ls []) := by
  obtain ⟨hx, hb, hml, hown, hg⟩ := id F
  intro x1 σ q hf H locs hP hS ls hl
  unfold f_FL_beginsBlock at hf
  refine lv_aload_n hx hb d_FL_beginsBlock_0 rfl (lv_at hl 0 rfl) ?_
  refine va_get (D := D) (ci := 2) (v := .ref (a 13)) (C := R_FL) (T := T_FL) (N := 4) hx hb hg in_FL hown hK hP 2 rfl rfl 1 (by decide) (hg _ gw_56) (fun _ h9 => h9) rfl d_FL_beginsBlock_1 ?_
  refine lv_iload_n hx hb d_FL_beginsBlock_4 rfl (lv_at hl 1 rfl) ?_
  refine bdK hf (fun v1 h2 hf => ?_)
  refine r_zald hx hb hK hP 13 1 rfl rfl h2 d_FL_beginsBlock_5 ?_
  exact rr_zg hx hb hr hlk (stC_g t) hK hT hP hS hf d_FL_beginsBlock_6
set_option maxHeartbeats 4000000 in
set_option maxRecDepth 100000 in
theorem c_FL_beginsBlock (l : Launch) {D : va_G} {a t : Nat → Nat} {cI cZ : ClassId} (ha : aCC a) (x1 : Int32) (σ : SS) (q : Int32 × SS) (hf : f_FL_beginsBlock x1 σ = some q) : Met l y_FL_beginsBlock ws_FL_beginsBlock { frames := 0, cells := 0, slots := 0, locals := 0 } (va_Pc [.ref (a 2), .int x1] (pW D (wC a cI cZ) [(cI, .int), (cZ, .boolean)] (stC t) (aC a) σ)) (va_Qi (fun r u => r = q.1 ∧ u = q.2) (pW D (wC a cI cZ) [(cI, .int), (cZ, .boolean)] (stC t) (aC a)) (aC a)) 0 0 (aC a) := by
  refine Met.ofW (cc := b_FL_beginsBlock) (maxL := 2) (ret := some .boolean) (by decide) rfl ?_
  intro p e s m args below meth c s₁ B hml hv
  obtain ⟨rfl, hP, hK, hT⟩ := hv
  have hl := lv_entry ([.ref (a 2), .int x1]) (n := 2) (Nat.le_of_ble_eq_true rfl)
  rw [lg_entry_eq]
  generalize (lg_sl ([.ref (a 2), .int x1]) ++ List.replicate (2 - (lg_sl ([.ref (a 2), .int x1])).length) Slot.unset).toArray = ls at hl ⊢
  exact e_FL_beginsBlock ha ⟨B.exec, B.bytes, hml, findClass_of_methodNamed B.named, fun w h => atoms_spec (ws := ws_FL_beginsBlock) B.pre w (List.mem_cons_of_mem _ h)⟩ B.returns B.notSynchronized hK hT x1 σ q hf s.heap [] hP va_S.rf ls hl
theorem d_CA_lastWriter_0 : decode b_CA_lastWriter 0 = .ok (.iload_n 1, 1) := by decide +kernel
theorem d_CA_lastWriter_1 : decode b_CA_lastWriter 1 = .ok (.iconst (-1), 1) := by decide +kernel
theorem d_CA_lastWriter_2 : decode b_CA_lastWriter 2 = .ok (.if_icmp .ne 5, 3) := by decide +kernel
theorem d_CA_lastWriter_5 : decode b_CA_lastWriter 5 = .ok (.iconst (-1), 1) := by decide +kernel
theorem d_CA_lastWriter_6 : decode b_CA_lastWriter 6 = .ok (.ireturn, 1) := by decide +kernel
theorem d_CA_lastWriter_7 : decode b_CA_lastWriter 7 = .ok (.iload_n 2, 1) := by decide +kernel
theorem d_CA_lastWriter_8 : decode b_CA_lastWriter 8 = .ok (.istore_n 3, 1) := by decide +kernel
theorem d_CA_lastWriter_9 : decode b_CA_lastWriter 9 = .ok (.iload_n 3, 1) := by decide +kernel
theorem d_CA_lastWriter_10 : decode b_CA_lastWriter 10 = .ok (.ifCond .le 38, 3) := by decide +kernel
theorem d_CA_lastWriter_13 : decode b_CA_lastWriter 13 = .ok (.aload_n 0, 1) := by decide +kernel
theorem d_CA_lastWriter_14 : decode b_CA_lastWriter 14 = .ok (.getfield 35, 3) := by decide +kernel
theorem d_CA_lastWriter_17 : decode b_CA_lastWriter 17 = .ok (.iload_n 3, 1) := by decide +kernel
theorem d_CA_lastWriter_18 : decode b_CA_lastWriter 18 = .ok (.invokevirtual 94, 3) := by decide +kernel
theorem d_CA_lastWriter_21 : decode b_CA_lastWriter 21 = .ok (.ifCond .ne 27, 3) := by decide +kernel
theorem d_CA_lastWriter_24 : decode b_CA_lastWriter 24 = .ok (.aload_n 0, 1) := by decide +kernel
theorem d_CA_lastWriter_25 : decode b_CA_lastWriter 25 = .ok (.getfield 31, 3) := by decide +kernel
theorem d_CA_lastWriter_28 : decode b_CA_lastWriter 28 = .ok (.iload_n 3, 1) := by decide +kernel
theorem d_CA_lastWriter_29 : decode b_CA_lastWriter 29 = .ok (.iconst 1, 1) := by decide +kernel
theorem d_CA_lastWriter_30 : decode b_CA_lastWriter 30 = .ok (.isub, 1) := by decide +kernel
theorem d_CA_lastWriter_31 : decode b_CA_lastWriter 31 = .ok (.invokevirtual 99, 3) := by decide +kernel
theorem d_CA_lastWriter_34 : decode b_CA_lastWriter 34 = .ok (.iload_n 1, 1) := by decide +kernel
theorem d_CA_lastWriter_35 : decode b_CA_lastWriter 35 = .ok (.if_icmp .ne 7, 3) := by decide +kernel
theorem d_CA_lastWriter_38 : decode b_CA_lastWriter 38 = .ok (.iload_n 3, 1) := by decide +kernel
theorem d_CA_lastWriter_39 : decode b_CA_lastWriter 39 = .ok (.iconst 1, 1) := by decide +kernel
theorem d_CA_lastWriter_40 : decode b_CA_lastWriter 40 = .ok (.isub, 1) := by decide +kernel
theorem d_CA_lastWriter_41 : decode b_CA_lastWriter 41 = .ok (.ireturn, 1) := by decide +kernel
theorem d_CA_lastWriter_42 : decode b_CA_lastWriter 42 = .ok (.iinc 3 (-1), 3) := by decide +kernel
theorem d_CA_lastWriter_45 : decode b_CA_lastWriter 45 = .ok (.goto (-36), 3) := by decide +kernel
theorem d_CA_lastWriter_48 : decode b_CA_lastWriter 48 = .ok (.iconst (-1), 1) := by decide +kernel
theorem d_CA_lastWriter_49 : decode b_CA_lastWriter 49 = .ok (.ireturn, 1) := by decide +kernel
theorem gc_CA_94 : GoodIn gt (wsV R_CA 94 R_FL y_FL_beginsBlock ws_FL_beginsBlock) := gd_V gw_307 gw_308 gw_309 gw_3 gw_310
theorem gc_CA_99 : GoodIn gt (wsV R_CA 99 R_RC y_RC_writtenBy ws_RC_writtenBy) := gd_V gw_311 gw_286 gw_287 gw_2 gw_288
def b_CA_lastWriter_9 : Nat → Int32 → Int32 → SS → Option (Int32 × SS)
  | 0, _, _, _ => none
  | n + 1, x1, x3, σ =>
    (if x3 ≤ 0 then some ((-1 : Int32), σ) else (f_FL_beginsBlock x3 σ).bind fun q2 => (if q2.1 = 0 then (f_RC_writtenBy (x3 - (1 : Int32)) q2.2).bind fun q5 => (if q5.1 = x1 then some ((x3 - (1 : Int32)), q5.2) else b_CA_lastWriter_9 n x1 (x3 + (-1 : Int32)) q5.2) else some ((-1 : Int32), q2.2)))
set_option maxHeartbeats 4000000 in
set_option maxRecDepth 100000 in
theorem k_CA_lastWriter_9 {p : Program} {l : Launch} {e : Env} {s : State} {m : MethodId} {args : Array Value} {below : List Frame} {meth : Method} {c : Code} {D : va_G} {a t : Nat → Nat} {cI cZ : ClassId} (ha : aCC a) (F : CallFix p m c b_CA_lastWriter 4 s args gt R_CA) (hr : meth.sig.returnType = some .int) (hlk : meth.locks = false) (hK : va_K D vwCl [(cI, .int), (cZ, .boolean)] s) (hT : stC t (aC a) s s.heap) :
    ∀ (n : Nat) (x1 x3 : Int32) (σ : SS) (q : Int32 × SS), b_CA_lastWriter_9 n x1 x3 σ = some q → ∀ (H : Heap) (locs : List Loc), va_P D vwCl ((wC a cI cZ) σ) H → va_S (aC a) s.heap H locs → ∀ (ls : Array Slot), lv_has ls 4 [(0, .ref (a 3)), (1, .int x1), (3, .int x3)] → W p l e { frames := 1, cells := 0, slots := 0, locals := 21 } s m args below meth c H locs 0 0 (MQ below (va_Qi (fun r u => r = q.1 ∧ u = q.2) (pW D (wC a cI cZ) [(cI, .int), (cZ, .boolean)] (stC t) (aC a)) (aC a)) args s 0 0 (aC a)) (F0 m 9 ls []) := by
  obtain ⟨hx, hb, hml, hown, hg⟩ := id F
  intro n
  induction n with
  | zero =>
    intro x1 x3 σ q hf
    rw [b_CA_lastWriter_9] at hf
    cases hf
  | succ n ih =>
    intro x1 x3 σ q hf H locs hP hS ls hl
    rw [b_CA_lastWriter_9] at hf
    refine lv_iload_n hx hb d_CA_lastWriter_9 rfl (lv_at hl 2 rfl) ?_
    refine lv_if_le (tgt := 48) hx hb d_CA_lastWriter_10 (by decide) (fun c1 => ?_) (fun c1 => ?_)
    · replace hf := (if_pos c1).symm.trans hf
      refine lv_iconst (v := (-1 : Int32)) hx hb d_CA_lastWriter_48 (by decide) ?_
      exact rr_i hx hb hr hlk (stC_g t) hK hT hP hS hf d_CA_lastWriter_49
    · replace hf := (if_neg c1).symm.trans hf
      refine lv_aload_n hx hb d_CA_lastWriter_13 rfl (lv_at hl 0 rfl) ?_
      refine va_get (D := D) (ci := 3) (v := .ref (a 2)) (C := R_CA) (T := T_CA) (N := 9) hx hb hg in_CA hown hK hP 3 rfl rfl 1 (by decide) (hg _ gw_76) (fun _ h9 => h9) rfl d_CA_lastWriter_14 ?_
      refine lv_iload_n hx hb d_CA_lastWriter_17 rfl (lv_at hl 2 rfl) ?_
      refine bdK hf (fun q2 h3 hf => ?_)
      refine rc_Vi (As := [.int x3]) (rest := []) (b := a 2) (stC_g t) F (c_FL_beginsBlock l ha x3 σ q2 h3) (cwV 1 hg gc_CA_94 rfl rfl rfl hs_FL_beginsBlock ⟨Nat.le_of_ble_eq_true rfl, Nat.le_of_ble_eq_true rfl⟩) hK hT hP hS (va_recv hK hP (ci := 2) (q0 := 2) rfl rfl) rfl hl.1 rfl (Nat.le_of_ble_eq_true rfl) d_CA_lastWriter_18 ⟨Nat.zero_le _, Nat.zero_le _⟩ (fun H locs hP hS => ?_)
      refine lv_if_ne (tgt := 48) hx hb d_CA_lastWriter_21 (by decide) (fun c4 => ?_) (fun c4 => ?_)
      · replace hf := (if_neg c4).symm.trans hf
        refine lv_iconst (v := (-1 : Int32)) hx hb d_CA_lastWriter_48 (by decide) ?_
        exact rr_i hx hb hr hlk (stC_g t) hK hT hP hS hf d_CA_lastWriter_49
      · replace hf := (if_pos c4).symm.trans hf
        refine lv_aload_n hx hb d_CA_lastWriter_24 rfl (lv_at hl 0 rfl) ?_
        refine va_get (D := D) (ci := 3) (v := .ref (a 1)) (C := R_CA) (T := T_CA) (N := 9) hx hb hg in_CA hown hK hP 3 rfl rfl 0 (by decide) (hg _ gw_75) (fun _ h9 => h9) rfl d_CA_lastWriter_25 ?_
        refine lv_iload_n hx hb d_CA_lastWriter_28 rfl (lv_at hl 2 rfl) ?_
        refine lv_iconst (v := (1 : Int32)) hx hb d_CA_lastWriter_29 (by decide) ?_
        refine lv_isub hx hb d_CA_lastWriter_30 ?_
        refine bdK hf (fun q5 h6 hf => ?_)
        refine rc_Vi (As := [.int (x3 - (1 : Int32))]) (rest := []) (b := a 1) (stC_g t) F (c_RC_writtenBy l ha (x3 - (1 : Int32)) q2.2 q5 h6) (cwV 1 hg gc_CA_99 rfl rfl rfl hs_RC_writtenBy ⟨Nat.le_of_ble_eq_true rfl, Nat.le_of_ble_eq_true rfl⟩) hK hT hP hS (va_recv hK hP (ci := 1) (q0 := 1) rfl rfl) rfl hl.1 rfl (Nat.le_of_ble_eq_true rfl) d_CA_lastWriter_31 ⟨Nat.zero_le _, Nat.zero_le _⟩ (fun H locs hP hS => ?_)
        refine lv_iload_n hx hb d_CA_lastWriter_34 rfl (lv_at hl 1 rfl) ?_
        refine lv_icmp_ne (tgt := 42) hx hb d_CA_lastWriter_35 (by decide) (fun c7 => ?_) (fun c7 => ?_)
        · replace hf := (if_neg c7).symm.trans hf
          refine lv_iinc (v := (x3 + (-1 : Int32))) (lv' := [(3, .int (x3 + (-1 : Int32))), (0, .ref (a 3)), (1, .int x1)]) hx hb d_CA_lastWriter_42 hl (k := 2) rfl (by rfl) (by decide) rfl (fun ls hl => ?_)
          refine lv_goto (tgt := 9) hx hb d_CA_lastWriter_45 (by decide) ?_
          exact ih x1 (x3 + (-1 : Int32)) q5.2 q hf _ _ hP hS ls (lv_sub hl [1, 2, 0] rfl)
        · replace hf := (if_pos c7).symm.trans hf
          refine lv_iload_n hx hb d_CA_lastWriter_38 rfl (lv_at hl 2 rfl) ?_
          refine lv_iconst (v := (1 : Int32)) hx hb d_CA_lastWriter_39 (by decide) ?_
          refine lv_isub hx hb d_CA_lastWriter_40 ?_
          exact rr_i hx hb hr hlk (stC_g t) hK hT hP hS hf d_CA_lastWriter_41
def f_CA_lastWriter (x1 x2 : Int32) (σ : SS) : Option (Int32 × SS) :=
  (if x1 = (-1 : Int32) then some ((-1 : Int32), σ) else b_CA_lastWriter_9 FU x1 x2 σ)
set_option maxHeartbeats 4000000 in
set_option maxRecDepth 100000 in
theorem e_CA_lastWriter {p : Program} {l : Launch} {e : Env} {s : State} {m : MethodId} {args : Array Value} {below : List Frame} {meth : Method} {c : Code} {D : va_G} {a t : Nat → Nat} {cI cZ : ClassId} (ha : aCC a) (F : CallFix p m c b_CA_lastWriter 4 s args gt R_CA) (hr : meth.sig.returnType = some .int) (hlk : meth.locks = false) (hK : va_K D vwCl [(cI, .int), (cZ, .boolean)] s) (hT : stC t (aC a) s s.heap) :
    ∀ (x1 x2 : Int32) (σ : SS) (q : Int32 × SS), f_CA_lastWriter x1 x2 σ = some q → ∀ (H : Heap) (locs : List Loc), va_P D vwCl ((wC a cI cZ) σ) H → va_S (aC a) s.heap H locs → ∀ (ls : Array Slot), lv_has ls 4 [(0, .ref (a 3)), (1, .int x1), (2, .int x2)] → W p l e { frames := 1, cells := 0, slots := 0, locals := 21 } s m args below meth c H locs 0 0 (MQ below (va_Qi (fun r u => r = q.1 ∧ u = q.2) (pW D (wC a cI cZ) [(cI, .int), (cZ, .boolean)] (stC t) (aC a)) (aC a)) args s 0 0 (aC a)) (F0 m 0 ls []) := by
  obtain ⟨hx, hb, hml, hown, hg⟩ := id F
  intro x1 x2 σ q hf H locs hP hS ls hl
  unfold f_CA_lastWriter at hf
  refine lv_iload_n hx hb d_CA_lastWriter_0 rfl (lv_at hl 1 rfl) ?_
  refine lv_iconst (v := (-1 : Int32)) hx hb d_CA_lastWriter_1 (by decide) ?_
  refine lv_icmp_ne (tgt := 7) hx hb d_CA_lastWriter_2 (by decide) (fun c1 => ?_) (fun c1 => ?_)
  · replace hf := (if_neg c1).symm.trans hf
    refine lv_iload_n hx hb d_CA_lastWriter_7 rfl (lv_at hl 2 rfl) ?_
    refine lv_istore_n (lv' := [(3, .int x2), (0, .ref (a 3)), (1, .int x1), (2, .int x2)]) hx hb d_CA_lastWriter_8 rfl hl (by decide) rfl (fun ls hl => ?_)
    exact k_CA_lastWriter_9 ha F hr hlk hK hT FU x1 x2 σ q hf _ _ hP hS ls (lv_sub hl [1, 2, 0] rfl)
  · replace hf := (if_pos c1).symm.trans hf
    refine lv_iconst (v := (-1 : Int32)) hx hb d_CA_lastWriter_5 (by decide) ?_
    exact rr_i hx hb hr hlk (stC_g t) hK hT hP hS hf d_CA_lastWriter_6
set_option maxHeartbeats 4000000 in
set_option maxRecDepth 100000 in
theorem c_CA_lastWriter (l : Launch) {D : va_G} {a t : Nat → Nat} {cI cZ : ClassId} (ha : aCC a) (x1 x2 : Int32) (σ : SS) (q : Int32 × SS) (hf : f_CA_lastWriter x1 x2 σ = some q) : Met l y_CA_lastWriter ws_CA_lastWriter { frames := 1, cells := 0, slots := 0, locals := 21 } (va_Pc [.ref (a 3), .int x1, .int x2] (pW D (wC a cI cZ) [(cI, .int), (cZ, .boolean)] (stC t) (aC a) σ)) (va_Qi (fun r u => r = q.1 ∧ u = q.2) (pW D (wC a cI cZ) [(cI, .int), (cZ, .boolean)] (stC t) (aC a)) (aC a)) 0 0 (aC a) := by
  refine Met.ofW (cc := b_CA_lastWriter) (maxL := 4) (ret := some .int) (by decide) rfl ?_
  intro p e s m args below meth c s₁ B hml hv
  obtain ⟨rfl, hP, hK, hT⟩ := hv
  have hl := lv_entry ([.ref (a 3), .int x1, .int x2]) (n := 4) (Nat.le_of_ble_eq_true rfl)
  rw [lg_entry_eq]
  generalize (lg_sl ([.ref (a 3), .int x1, .int x2]) ++ List.replicate (4 - (lg_sl ([.ref (a 3), .int x1, .int x2])).length) Slot.unset).toArray = ls at hl ⊢
  exact e_CA_lastWriter ha ⟨B.exec, B.bytes, hml, findClass_of_methodNamed B.named, fun w h => atoms_spec (ws := ws_CA_lastWriter) B.pre w (List.mem_cons_of_mem _ h)⟩ B.returns B.notSynchronized hK hT x1 x2 σ q hf s.heap [] hP va_S.rf ls hl
theorem d_RC_readsOnce_0 : decode b_RC_readsOnce 0 = .ok (.aload_n 0, 1) := by decide +kernel
theorem d_RC_readsOnce_1 : decode b_RC_readsOnce 1 = .ok (.getfield 27, 3) := by decide +kernel
theorem d_RC_readsOnce_4 : decode b_RC_readsOnce 4 = .ok (.iload_n 1, 1) := by decide +kernel
theorem d_RC_readsOnce_5 : decode b_RC_readsOnce 5 = .ok (.iaload, 1) := by decide +kernel
theorem d_RC_readsOnce_6 : decode b_RC_readsOnce 6 = .ok (.iload_n 2, 1) := by decide +kernel
theorem d_RC_readsOnce_7 : decode b_RC_readsOnce 7 = .ok (.if_icmp .ne 7, 3) := by decide +kernel
theorem d_RC_readsOnce_10 : decode b_RC_readsOnce 10 = .ok (.iconst 1, 1) := by decide +kernel
theorem d_RC_readsOnce_11 : decode b_RC_readsOnce 11 = .ok (.goto 4, 3) := by decide +kernel
theorem d_RC_readsOnce_14 : decode b_RC_readsOnce 14 = .ok (.iconst 0, 1) := by decide +kernel
theorem d_RC_readsOnce_15 : decode b_RC_readsOnce 15 = .ok (.aload_n 0, 1) := by decide +kernel
theorem d_RC_readsOnce_16 : decode b_RC_readsOnce 16 = .ok (.getfield 30, 3) := by decide +kernel
theorem d_RC_readsOnce_19 : decode b_RC_readsOnce 19 = .ok (.iload_n 1, 1) := by decide +kernel
theorem d_RC_readsOnce_20 : decode b_RC_readsOnce 20 = .ok (.iaload, 1) := by decide +kernel
theorem d_RC_readsOnce_21 : decode b_RC_readsOnce 21 = .ok (.iload_n 2, 1) := by decide +kernel
theorem d_RC_readsOnce_22 : decode b_RC_readsOnce 22 = .ok (.if_icmp .ne 7, 3) := by decide +kernel
theorem d_RC_readsOnce_25 : decode b_RC_readsOnce 25 = .ok (.iconst 1, 1) := by decide +kernel
theorem d_RC_readsOnce_26 : decode b_RC_readsOnce 26 = .ok (.goto 4, 3) := by decide +kernel
theorem d_RC_readsOnce_29 : decode b_RC_readsOnce 29 = .ok (.iconst 0, 1) := by decide +kernel
theorem d_RC_readsOnce_30 : decode b_RC_readsOnce 30 = .ok (.if_icmp .eq 7, 3) := by decide +kernel
theorem d_RC_readsOnce_33 : decode b_RC_readsOnce 33 = .ok (.iconst 1, 1) := by decide +kernel
theorem d_RC_readsOnce_34 : decode b_RC_readsOnce 34 = .ok (.goto 4, 3) := by decide +kernel
theorem d_RC_readsOnce_37 : decode b_RC_readsOnce 37 = .ok (.iconst 0, 1) := by decide +kernel
theorem d_RC_readsOnce_38 : decode b_RC_readsOnce 38 = .ok (.ireturn, 1) := by decide +kernel
def f_RC_readsOnce (x1 x2 : Int32) (σ : SS) : Option (Int32 × SS) :=
  (ld (σ 5) 40 x1).bind fun v1 => (if v1 = x2 then (ld (σ 6) 40 x1).bind fun v9 => (if v9 = x2 then (if (1 : Int32) = (1 : Int32) then some ((0 : Int32), σ) else some ((1 : Int32), σ)) else (if (1 : Int32) = (0 : Int32) then some ((0 : Int32), σ) else some ((1 : Int32), σ))) else (ld (σ 6) 40 x1).bind fun v4 => (if v4 = x2 then (if (0 : Int32) = (1 : Int32) then some ((0 : Int32), σ) else some ((1 : Int32), σ)) else (if (0 : Int32) = (0 : Int32) then some ((0 : Int32), σ) else some ((1 : Int32), σ))))
set_option maxHeartbeats 4000000 in
set_option maxRecDepth 100000 in
theorem e_RC_readsOnce {p : Program} {l : Launch} {e : Env} {s : State} {m : MethodId} {args : Array Value} {below : List Frame} {meth : Method} {c : Code} {D : va_G} {a t : Nat → Nat} {cI cZ : ClassId} (ha : aCC a) (F : CallFix p m c b_RC_readsOnce 3 s args gt R_RC) (hr : meth.sig.returnType = some .boolean) (hlk : meth.locks = false) (hK : va_K D vwCl [(cI, .int), (cZ, .boolean)] s) (hT : stC t (aC a) s s.heap) :
    ∀ (x1 x2 : Int32) (σ : SS) (q : Int32 × SS), f_RC_readsOnce x1 x2 σ = some q → ∀ (H : Heap) (locs : List Loc), va_P D vwCl ((wC a cI cZ) σ) H → va_S (aC a) s.heap H locs → ∀ (ls : Array Slot), lv_has ls 3 [(0, .ref (a 1)), (1, .int x1), (2, .int x2)] → W p l e { frames := 0, cells := 0, slots := 0, locals := 0 } s m args below meth c H locs 0 0 (MQ below (va_Qi (fun r u => r = q.1 ∧ u = q.2) (pW D (wC a cI cZ) [(cI, .int), (cZ, .boolean)] (stC t) (aC a)) (aC a)) args s 0 0 (aC a)) (F0 m 0 ls []) := by
  obtain ⟨hx, hb, hml, hown, hg⟩ := id F
  intro x1 x2 σ q hf H locs hP hS ls hl
  unfold f_RC_readsOnce at hf
  refine lv_aload_n hx hb d_RC_readsOnce_0 rfl (lv_at hl 0 rfl) ?_
  refine va_get (D := D) (ci := 1) (v := .ref (a 11)) (C := R_RC) (T := T_RC) (N := 8) hx hb hg in_RC hown hK hP 1 rfl rfl 5 (by decide) (hg _ gw_28) (fun _ h9 => h9) rfl d_RC_readsOnce_1 ?_
  refine lv_iload_n hx hb d_RC_readsOnce_4 rfl (lv_at hl 1 rfl) ?_
  refine bdK hf (fun v1 h2 hf => ?_)
  refine r_iald hx hb hK hP 11 0 rfl rfl h2 d_RC_readsOnce_5 ?_
  refine lv_iload_n hx hb d_RC_readsOnce_6 rfl (lv_at hl 2 rfl) ?_
  refine lv_icmp_ne (tgt := 14) hx hb d_RC_readsOnce_7 (by decide) (fun c3 => ?_) (fun c3 => ?_)
  · replace hf := (if_neg c3).symm.trans hf
    refine lv_iconst (v := (0 : Int32)) hx hb d_RC_readsOnce_14 (by decide) ?_
    refine lv_aload_n hx hb d_RC_readsOnce_15 rfl (lv_at hl 0 rfl) ?_
    refine va_get (D := D) (ci := 1) (v := .ref (a 12)) (C := R_RC) (T := T_RC) (N := 8) hx hb hg in_RC hown hK hP 1 rfl rfl 6 (by decide) (hg _ gw_29) (fun _ h9 => h9) rfl d_RC_readsOnce_16 ?_
    refine lv_iload_n hx hb d_RC_readsOnce_19 rfl (lv_at hl 1 rfl) ?_
    refine bdK hf (fun v4 h5 hf => ?_)
    refine r_iald hx hb hK hP 12 0 rfl rfl h5 d_RC_readsOnce_20 ?_
    refine lv_iload_n hx hb d_RC_readsOnce_21 rfl (lv_at hl 2 rfl) ?_
    refine lv_icmp_ne (tgt := 29) hx hb d_RC_readsOnce_22 (by decide) (fun c6 => ?_) (fun c6 => ?_)
    · replace hf := (if_neg c6).symm.trans hf
      refine lv_iconst (v := (0 : Int32)) hx hb d_RC_readsOnce_29 (by decide) ?_
      refine lv_icmp_eq (tgt := 37) hx hb d_RC_readsOnce_30 (by decide) (fun c7 => ?_) (fun c7 => ?_)
      · replace hf := (if_pos c7).symm.trans hf
        refine lv_iconst (v := (0 : Int32)) hx hb d_RC_readsOnce_37 (by decide) ?_
        exact rr_z hx hb hr hlk (stC_g t) hK hT hP hS (Or.inl rfl) hf d_RC_readsOnce_38
      · replace hf := (if_neg c7).symm.trans hf
        refine lv_iconst (v := (1 : Int32)) hx hb d_RC_readsOnce_33 (by decide) ?_
        refine lv_goto (tgt := 38) hx hb d_RC_readsOnce_34 (by decide) ?_
        exact rr_z hx hb hr hlk (stC_g t) hK hT hP hS (Or.inr rfl) hf d_RC_readsOnce_38
    · replace hf := (if_pos c6).symm.trans hf
      refine lv_iconst (v := (1 : Int32)) hx hb d_RC_readsOnce_25 (by decide) ?_
      refine lv_goto (tgt := 30) hx hb d_RC_readsOnce_26 (by decide) ?_
      refine lv_icmp_eq (tgt := 37) hx hb d_RC_readsOnce_30 (by decide) (fun c8 => ?_) (fun c8 => ?_)
      · replace hf := (if_pos c8).symm.trans hf
        refine lv_iconst (v := (0 : Int32)) hx hb d_RC_readsOnce_37 (by decide) ?_
        exact rr_z hx hb hr hlk (stC_g t) hK hT hP hS (Or.inl rfl) hf d_RC_readsOnce_38
      · replace hf := (if_neg c8).symm.trans hf
        refine lv_iconst (v := (1 : Int32)) hx hb d_RC_readsOnce_33 (by decide) ?_
        refine lv_goto (tgt := 38) hx hb d_RC_readsOnce_34 (by decide) ?_
        exact rr_z hx hb hr hlk (stC_g t) hK hT hP hS (Or.inr rfl) hf d_RC_readsOnce_38
  · replace hf := (if_pos c3).symm.trans hf
    refine lv_iconst (v := (1 : Int32)) hx hb d_RC_readsOnce_10 (by decide) ?_
    refine lv_goto (tgt := 15) hx hb d_RC_readsOnce_11 (by decide) ?_
    refine lv_aload_n hx hb d_RC_readsOnce_15 rfl (lv_at hl 0 rfl) ?_
    refine va_get (D := D) (ci := 1) (v := .ref (a 12)) (C := R_RC) (T := T_RC) (N := 8) hx hb hg in_RC hown hK hP 1 rfl rfl 6 (by decide) (hg _ gw_29) (fun _ h9 => h9) rfl d_RC_readsOnce_16 ?_
    refine lv_iload_n hx hb d_RC_readsOnce_19 rfl (lv_at hl 1 rfl) ?_
    refine bdK hf (fun v9 h10 hf => ?_)
    refine r_iald hx hb hK hP 12 0 rfl rfl h10 d_RC_readsOnce_20 ?_
    refine lv_iload_n hx hb d_RC_readsOnce_21 rfl (lv_at hl 2 rfl) ?_
    refine lv_icmp_ne (tgt := 29) hx hb d_RC_readsOnce_22 (by decide) (fun c11 => ?_) (fun c11 => ?_)
    · replace hf := (if_neg c11).symm.trans hf
      refine lv_iconst (v := (0 : Int32)) hx hb d_RC_readsOnce_29 (by decide) ?_
      refine lv_icmp_eq (tgt := 37) hx hb d_RC_readsOnce_30 (by decide) (fun c12 => ?_) (fun c12 => ?_)
      · replace hf := (if_pos c12).symm.trans hf
        refine lv_iconst (v := (0 : Int32)) hx hb d_RC_readsOnce_37 (by decide) ?_
        exact rr_z hx hb hr hlk (stC_g t) hK hT hP hS (Or.inl rfl) hf d_RC_readsOnce_38
      · replace hf := (if_neg c12).symm.trans hf
        refine lv_iconst (v := (1 : Int32)) hx hb d_RC_readsOnce_33 (by decide) ?_
        refine lv_goto (tgt := 38) hx hb d_RC_readsOnce_34 (by decide) ?_
        exact rr_z hx hb hr hlk (stC_g t) hK hT hP hS (Or.inr rfl) hf d_RC_readsOnce_38
    · replace hf := (if_pos c11).symm.trans hf
      refine lv_iconst (v := (1 : Int32)) hx hb d_RC_readsOnce_25 (by decide) ?_
      refine lv_goto (tgt := 30) hx hb d_RC_readsOnce_26 (by decide) ?_
      refine lv_icmp_eq (tgt := 37) hx hb d_RC_readsOnce_30 (by decide) (fun c13 => ?_) (fun c13 => ?_)
      · replace hf := (if_pos c13).symm.trans hf
        refine lv_iconst (v := (0 : Int32)) hx hb d_RC_readsOnce_37 (by decide) ?_
        exact rr_z hx hb hr hlk (stC_g t) hK hT hP hS (Or.inl rfl) hf d_RC_readsOnce_38
      · replace hf := (if_neg c13).symm.trans hf
        refine lv_iconst (v := (1 : Int32)) hx hb d_RC_readsOnce_33 (by decide) ?_
        refine lv_goto (tgt := 38) hx hb d_RC_readsOnce_34 (by decide) ?_
        exact rr_z hx hb hr hlk (stC_g t) hK hT hP hS (Or.inr rfl) hf d_RC_readsOnce_38
set_option maxHeartbeats 4000000 in
set_option maxRecDepth 100000 in
theorem c_RC_readsOnce (l : Launch) {D : va_G} {a t : Nat → Nat} {cI cZ : ClassId} (ha : aCC a) (x1 x2 : Int32) (σ : SS) (q : Int32 × SS) (hf : f_RC_readsOnce x1 x2 σ = some q) : Met l y_RC_readsOnce ws_RC_readsOnce { frames := 0, cells := 0, slots := 0, locals := 0 } (va_Pc [.ref (a 1), .int x1, .int x2] (pW D (wC a cI cZ) [(cI, .int), (cZ, .boolean)] (stC t) (aC a) σ)) (va_Qi (fun r u => r = q.1 ∧ u = q.2) (pW D (wC a cI cZ) [(cI, .int), (cZ, .boolean)] (stC t) (aC a)) (aC a)) 0 0 (aC a) := by
  refine Met.ofW (cc := b_RC_readsOnce) (maxL := 3) (ret := some .boolean) (by decide) rfl ?_
  intro p e s m args below meth c s₁ B hml hv
  obtain ⟨rfl, hP, hK, hT⟩ := hv
  have hl := lv_entry ([.ref (a 1), .int x1, .int x2]) (n := 3) (Nat.le_of_ble_eq_true rfl)
  rw [lg_entry_eq]
  generalize (lg_sl ([.ref (a 1), .int x1, .int x2]) ++ List.replicate (3 - (lg_sl ([.ref (a 1), .int x1, .int x2])).length) Slot.unset).toArray = ls at hl ⊢
  exact e_RC_readsOnce ha ⟨B.exec, B.bytes, hml, findClass_of_methodNamed B.named, fun w h => atoms_spec (ws := ws_RC_readsOnce) B.pre w (List.mem_cons_of_mem _ h)⟩ B.returns B.notSynchronized hK hT x1 x2 σ q hf s.heap [] hP va_S.rf ls hl
theorem d_RC_reads_0 : decode b_RC_reads 0 = .ok (.aload_n 0, 1) := by decide +kernel
theorem d_RC_reads_1 : decode b_RC_reads 1 = .ok (.getfield 27, 3) := by decide +kernel
theorem d_RC_reads_4 : decode b_RC_reads 4 = .ok (.iload_n 1, 1) := by decide +kernel
theorem d_RC_reads_5 : decode b_RC_reads 5 = .ok (.iaload, 1) := by decide +kernel
theorem d_RC_reads_6 : decode b_RC_reads 6 = .ok (.iload_n 2, 1) := by decide +kernel
theorem d_RC_reads_7 : decode b_RC_reads 7 = .ok (.if_icmp .eq 13, 3) := by decide +kernel
theorem d_RC_reads_10 : decode b_RC_reads 10 = .ok (.aload_n 0, 1) := by decide +kernel
theorem d_RC_reads_11 : decode b_RC_reads 11 = .ok (.getfield 30, 3) := by decide +kernel
theorem d_RC_reads_14 : decode b_RC_reads 14 = .ok (.iload_n 1, 1) := by decide +kernel
theorem d_RC_reads_15 : decode b_RC_reads 15 = .ok (.iaload, 1) := by decide +kernel
theorem d_RC_reads_16 : decode b_RC_reads 16 = .ok (.iload_n 2, 1) := by decide +kernel
theorem d_RC_reads_17 : decode b_RC_reads 17 = .ok (.if_icmp .ne 7, 3) := by decide +kernel
theorem d_RC_reads_20 : decode b_RC_reads 20 = .ok (.iconst 1, 1) := by decide +kernel
theorem d_RC_reads_21 : decode b_RC_reads 21 = .ok (.goto 4, 3) := by decide +kernel
theorem d_RC_reads_24 : decode b_RC_reads 24 = .ok (.iconst 0, 1) := by decide +kernel
theorem d_RC_reads_25 : decode b_RC_reads 25 = .ok (.ireturn, 1) := by decide +kernel
def f_RC_reads (x1 x2 : Int32) (σ : SS) : Option (Int32 × SS) :=
  (ld (σ 5) 40 x1).bind fun v1 => (if v1 = x2 then some ((1 : Int32), σ) else (ld (σ 6) 40 x1).bind fun v4 => (if v4 = x2 then some ((1 : Int32), σ) else some ((0 : Int32), σ)))
set_option maxHeartbeats 4000000 in
set_option maxRecDepth 100000 in
theorem e_RC_reads {p : Program} {l : Launch} {e : Env} {s : State} {m : MethodId} {args : Array Value} {below : List Frame} {meth : Method} {c : Code} {D : va_G} {a t : Nat → Nat} {cI cZ : ClassId} (ha : aCC a) (F : CallFix p m c b_RC_reads 3 s args gt R_RC) (hr : meth.sig.returnType = some .boolean) (hlk : meth.locks = false) (hK : va_K D vwCl [(cI, .int), (cZ, .boolean)] s) (hT : stC t (aC a) s s.heap) :
    ∀ (x1 x2 : Int32) (σ : SS) (q : Int32 × SS), f_RC_reads x1 x2 σ = some q → ∀ (H : Heap) (locs : List Loc), va_P D vwCl ((wC a cI cZ) σ) H → va_S (aC a) s.heap H locs → ∀ (ls : Array Slot), lv_has ls 3 [(0, .ref (a 1)), (1, .int x1), (2, .int x2)] → W p l e { frames := 0, cells := 0, slots := 0, locals := 0 } s m args below meth c H locs 0 0 (MQ below (va_Qi (fun r u => r = q.1 ∧ u = q.2) (pW D (wC a cI cZ) [(cI, .int), (cZ, .boolean)] (stC t) (aC a)) (aC a)) args s 0 0 (aC a)) (F0 m 0 ls []) := by
  obtain ⟨hx, hb, hml, hown, hg⟩ := id F
  intro x1 x2 σ q hf H locs hP hS ls hl
  unfold f_RC_reads at hf
  refine lv_aload_n hx hb d_RC_reads_0 rfl (lv_at hl 0 rfl) ?_
  refine va_get (D := D) (ci := 1) (v := .ref (a 11)) (C := R_RC) (T := T_RC) (N := 8) hx hb hg in_RC hown hK hP 1 rfl rfl 5 (by decide) (hg _ gw_28) (fun _ h9 => h9) rfl d_RC_reads_1 ?_
  refine lv_iload_n hx hb d_RC_reads_4 rfl (lv_at hl 1 rfl) ?_
  refine bdK hf (fun v1 h2 hf => ?_)
  refine r_iald hx hb hK hP 11 0 rfl rfl h2 d_RC_reads_5 ?_
  refine lv_iload_n hx hb d_RC_reads_6 rfl (lv_at hl 2 rfl) ?_
  refine lv_icmp_eq (tgt := 20) hx hb d_RC_reads_7 (by decide) (fun c3 => ?_) (fun c3 => ?_)
  · replace hf := (if_pos c3).symm.trans hf
    refine lv_iconst (v := (1 : Int32)) hx hb d_RC_reads_20 (by decide) ?_
    refine lv_goto (tgt := 25) hx hb d_RC_reads_21 (by decide) ?_
    exact rr_z hx hb hr hlk (stC_g t) hK hT hP hS (Or.inr rfl) hf d_RC_reads_25
  · replace hf := (if_neg c3).symm.trans hf
    refine lv_aload_n hx hb d_RC_reads_10 rfl (lv_at hl 0 rfl) ?_
    refine va_get (D := D) (ci := 1) (v := .ref (a 12)) (C := R_RC) (T := T_RC) (N := 8) hx hb hg in_RC hown hK hP 1 rfl rfl 6 (by decide) (hg _ gw_29) (fun _ h9 => h9) rfl d_RC_reads_11 ?_
    refine lv_iload_n hx hb d_RC_reads_14 rfl (lv_at hl 1 rfl) ?_
    refine bdK hf (fun v4 h5 hf => ?_)
    refine r_iald hx hb hK hP 12 0 rfl rfl h5 d_RC_reads_15 ?_
    refine lv_iload_n hx hb d_RC_reads_16 rfl (lv_at hl 2 rfl) ?_
    refine lv_icmp_ne (tgt := 24) hx hb d_RC_reads_17 (by decide) (fun c6 => ?_) (fun c6 => ?_)
    · replace hf := (if_neg c6).symm.trans hf
      refine lv_iconst (v := (0 : Int32)) hx hb d_RC_reads_24 (by decide) ?_
      exact rr_z hx hb hr hlk (stC_g t) hK hT hP hS (Or.inl rfl) hf d_RC_reads_25
    · replace hf := (if_pos c6).symm.trans hf
      refine lv_iconst (v := (1 : Int32)) hx hb d_RC_reads_20 (by decide) ?_
      refine lv_goto (tgt := 25) hx hb d_RC_reads_21 (by decide) ?_
      exact rr_z hx hb hr hlk (stC_g t) hK hT hP hS (Or.inr rfl) hf d_RC_reads_25
set_option maxHeartbeats 4000000 in
set_option maxRecDepth 100000 in
theorem c_RC_reads (l : Launch) {D : va_G} {a t : Nat → Nat} {cI cZ : ClassId} (ha : aCC a) (x1 x2 : Int32) (σ : SS) (q : Int32 × SS) (hf : f_RC_reads x1 x2 σ = some q) : Met l y_RC_reads ws_RC_reads { frames := 0, cells := 0, slots := 0, locals := 0 } (va_Pc [.ref (a 1), .int x1, .int x2] (pW D (wC a cI cZ) [(cI, .int), (cZ, .boolean)] (stC t) (aC a) σ)) (va_Qi (fun r u => r = q.1 ∧ u = q.2) (pW D (wC a cI cZ) [(cI, .int), (cZ, .boolean)] (stC t) (aC a)) (aC a)) 0 0 (aC a) := by
  refine Met.ofW (cc := b_RC_reads) (maxL := 3) (ret := some .boolean) (by decide) rfl ?_
  intro p e s m args below meth c s₁ B hml hv
  obtain ⟨rfl, hP, hK, hT⟩ := hv
  have hl := lv_entry ([.ref (a 1), .int x1, .int x2]) (n := 3) (Nat.le_of_ble_eq_true rfl)
  rw [lg_entry_eq]
  generalize (lg_sl ([.ref (a 1), .int x1, .int x2]) ++ List.replicate (3 - (lg_sl ([.ref (a 1), .int x1, .int x2])).length) Slot.unset).toArray = ls at hl ⊢
  exact e_RC_reads ha ⟨B.exec, B.bytes, hml, findClass_of_methodNamed B.named, fun w h => atoms_spec (ws := ws_RC_reads) B.pre w (List.mem_cons_of_mem _ h)⟩ B.returns B.notSynchronized hK hT x1 x2 σ q hf s.heap [] hP va_S.rf ls hl
theorem d_FL_liveAfter_0 : decode b_FL_liveAfter 0 = .ok (.aload_n 0, 1) := by decide +kernel
theorem d_FL_liveAfter_1 : decode b_FL_liveAfter 1 = .ok (.getfield 19, 3) := by decide +kernel
theorem d_FL_liveAfter_4 : decode b_FL_liveAfter 4 = .ok (.iload_n 1, 1) := by decide +kernel
theorem d_FL_liveAfter_5 : decode b_FL_liveAfter 5 = .ok (.iaload, 1) := by decide +kernel
theorem d_FL_liveAfter_6 : decode b_FL_liveAfter 6 = .ok (.ireturn, 1) := by decide +kernel
def f_FL_liveAfter (x1 : Int32) (σ : SS) : Option (Int32 × SS) :=
  (ld (σ 9) 40 x1).bind fun v1 => some (v1, σ)
set_option maxHeartbeats 4000000 in
set_option maxRecDepth 100000 in
theorem e_FL_liveAfter {p : Program} {l : Launch} {e : Env} {s : State} {m : MethodId} {args : Array Value} {below : List Frame} {meth : Method} {c : Code} {D : va_G} {a t : Nat → Nat} {cI cZ : ClassId} (ha : aCC a) (F : CallFix p m c b_FL_liveAfter 2 s args gt R_FL) (hr : meth.sig.returnType = some .int) (hlk : meth.locks = false) (hK : va_K D vwCl [(cI, .int), (cZ, .boolean)] s) (hT : stC t (aC a) s s.heap) :
    ∀ (x1 : Int32) (σ : SS) (q : Int32 × SS), f_FL_liveAfter x1 σ = some q → ∀ (H : Heap) (locs : List Loc), va_P D vwCl ((wC a cI cZ) σ) H → va_S (aC a) s.heap H locs → ∀ (ls : Array Slot), lv_has ls 2 [(0, .ref (a 2)), (1, .int x1)] → W p l e { frames := 0, cells := 0, slots := 0, locals := 0 } s m args below meth c H locs 0 0 (MQ below (va_Qi (fun r u => r = q.1 ∧ u = q.2) (pW D (wC a cI cZ) [(cI, .int), (cZ, .boolean)] (stC t) (aC a)) (aC a)) args s 0 0 (aC a)) (F0 m 0 ls []) := by
  obtain ⟨hx, hb, hml, hown, hg⟩ := id F
  intro x1 σ q hf H locs hP hS ls hl
  unfold f_FL_liveAfter at hf
  refine lv_aload_n hx hb d_FL_liveAfter_0 rfl (lv_at hl 0 rfl) ?_
  refine va_get (D := D) (ci := 2) (v := .ref (a 15)) (C := R_FL) (T := T_FL) (N := 4) hx hb hg in_FL hown hK hP 2 rfl rfl 3 (by decide) (hg _ gw_58) (fun _ h9 => h9) rfl d_FL_liveAfter_1 ?_
  refine lv_iload_n hx hb d_FL_liveAfter_4 rfl (lv_at hl 1 rfl) ?_
  refine bdK hf (fun v1 h2 hf => ?_)
  refine r_iald hx hb hK hP 15 0 rfl rfl h2 d_FL_liveAfter_5 ?_
  exact rr_i hx hb hr hlk (stC_g t) hK hT hP hS hf d_FL_liveAfter_6
set_option maxHeartbeats 4000000 in
set_option maxRecDepth 100000 in
theorem c_FL_liveAfter (l : Launch) {D : va_G} {a t : Nat → Nat} {cI cZ : ClassId} (ha : aCC a) (x1 : Int32) (σ : SS) (q : Int32 × SS) (hf : f_FL_liveAfter x1 σ = some q) : Met l y_FL_liveAfter ws_FL_liveAfter { frames := 0, cells := 0, slots := 0, locals := 0 } (va_Pc [.ref (a 2), .int x1] (pW D (wC a cI cZ) [(cI, .int), (cZ, .boolean)] (stC t) (aC a) σ)) (va_Qi (fun r u => r = q.1 ∧ u = q.2) (pW D (wC a cI cZ) [(cI, .int), (cZ, .boolean)] (stC t) (aC a)) (aC a)) 0 0 (aC a) := by
  refine Met.ofW (cc := b_FL_liveAfter) (maxL := 2) (ret := some .int) (by decide) rfl ?_
  intro p e s m args below meth c s₁ B hml hv
  obtain ⟨rfl, hP, hK, hT⟩ := hv
  have hl := lv_entry ([.ref (a 2), .int x1]) (n := 2) (Nat.le_of_ble_eq_true rfl)
  rw [lg_entry_eq]
  generalize (lg_sl ([.ref (a 2), .int x1]) ++ List.replicate (2 - (lg_sl ([.ref (a 2), .int x1])).length) Slot.unset).toArray = ls at hl ⊢
  exact e_FL_liveAfter ha ⟨B.exec, B.bytes, hml, findClass_of_methodNamed B.named, fun w h => atoms_spec (ws := ws_FL_liveAfter) B.pre w (List.mem_cons_of_mem _ h)⟩ B.returns B.notSynchronized hK hT x1 σ q hf s.heap [] hP va_S.rf ls hl
