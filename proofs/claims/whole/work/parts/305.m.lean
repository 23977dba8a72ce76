theorem d_MO_writeTree_0 : decode b_MO_writeTree 0 = .ok (.iconst 1, 1) := by decide +kernel
theorem d_MO_writeTree_1 : decode b_MO_writeTree 1 = .ok (.istore_n 2, 1) := by decide +kernel
theorem d_MO_writeTree_2 : decode b_MO_writeTree 2 = .ok (.aload_n 0, 1) := by decide +kernel
theorem d_MO_writeTree_3 : decode b_MO_writeTree 3 = .ok (.getfield 56, 3) := by decide +kernel
theorem d_MO_writeTree_6 : decode b_MO_writeTree 6 = .ok (.iconst 0, 1) := by decide +kernel
theorem d_MO_writeTree_7 : decode b_MO_writeTree 7 = .ok (.iload_n 1, 1) := by decide +kernel
theorem d_MO_writeTree_8 : decode b_MO_writeTree 8 = .ok (.iastore, 1) := by decide +kernel
theorem d_MO_writeTree_9 : decode b_MO_writeTree 9 = .ok (.iload_n 2, 1) := by decide +kernel
theorem d_MO_writeTree_10 : decode b_MO_writeTree 10 = .ok (.ifCond .le 100, 3) := by decide +kernel
theorem d_MO_writeTree_13 : decode b_MO_writeTree 13 = .ok (.iload_n 2, 1) := by decide +kernel
theorem d_MO_writeTree_14 : decode b_MO_writeTree 14 = .ok (.iconst 1, 1) := by decide +kernel
theorem d_MO_writeTree_15 : decode b_MO_writeTree 15 = .ok (.isub, 1) := by decide +kernel
theorem d_MO_writeTree_16 : decode b_MO_writeTree 16 = .ok (.istore_n 2, 1) := by decide +kernel
theorem d_MO_writeTree_17 : decode b_MO_writeTree 17 = .ok (.aload_n 0, 1) := by decide +kernel
theorem d_MO_writeTree_18 : decode b_MO_writeTree 18 = .ok (.getfield 56, 3) := by decide +kernel
theorem d_MO_writeTree_21 : decode b_MO_writeTree 21 = .ok (.iload_n 2, 1) := by decide +kernel
theorem d_MO_writeTree_22 : decode b_MO_writeTree 22 = .ok (.iaload, 1) := by decide +kernel
theorem d_MO_writeTree_23 : decode b_MO_writeTree 23 = .ok (.istore_n 3, 1) := by decide +kernel
theorem d_MO_writeTree_24 : decode b_MO_writeTree 24 = .ok (.iload_n 3, 1) := by decide +kernel
theorem d_MO_writeTree_25 : decode b_MO_writeTree 25 = .ok (.sipush 300, 3) := by decide +kernel
theorem d_MO_writeTree_28 : decode b_MO_writeTree 28 = .ok (.if_icmp .lt 15, 3) := by decide +kernel
theorem d_MO_writeTree_31 : decode b_MO_writeTree 31 = .ok (.aload_n 0, 1) := by decide +kernel
theorem d_MO_writeTree_32 : decode b_MO_writeTree 32 = .ok (.iload_n 3, 1) := by decide +kernel
theorem d_MO_writeTree_33 : decode b_MO_writeTree 33 = .ok (.sipush 300, 3) := by decide +kernel
theorem d_MO_writeTree_36 : decode b_MO_writeTree 36 = .ok (.isub, 1) := by decide +kernel
theorem d_MO_writeTree_37 : decode b_MO_writeTree 37 = .ok (.invokevirtual 148, 3) := by decide +kernel
theorem d_MO_writeTree_40 : decode b_MO_writeTree 40 = .ok (.goto 67, 3) := by decide +kernel
theorem d_MO_writeTree_43 : decode b_MO_writeTree 43 = .ok (.iload_n 3, 1) := by decide +kernel
theorem d_MO_writeTree_44 : decode b_MO_writeTree 44 = .ok (.sipush 200, 3) := by decide +kernel
theorem d_MO_writeTree_47 : decode b_MO_writeTree 47 = .ok (.if_icmp .ne 12, 3) := by decide +kernel
theorem d_MO_writeTree_50 : decode b_MO_writeTree 50 = .ok (.aload_n 0, 1) := by decide +kernel
theorem d_MO_writeTree_51 : decode b_MO_writeTree 51 = .ok (.iconst 4, 1) := by decide +kernel
theorem d_MO_writeTree_52 : decode b_MO_writeTree 52 = .ok (.iconst 0, 1) := by decide +kernel
theorem d_MO_writeTree_53 : decode b_MO_writeTree 53 = .ok (.invokevirtual 144, 3) := by decide +kernel
theorem d_MO_writeTree_56 : decode b_MO_writeTree 56 = .ok (.goto 51, 3) := by decide +kernel
theorem d_MO_writeTree_59 : decode b_MO_writeTree 59 = .ok (.iload_n 3, 1) := by decide +kernel
theorem d_MO_writeTree_60 : decode b_MO_writeTree 60 = .ok (.bipush 100, 2) := by decide +kernel
theorem d_MO_writeTree_62 : decode b_MO_writeTree 62 = .ok (.if_icmp .lt 15, 3) := by decide +kernel
theorem d_MO_writeTree_65 : decode b_MO_writeTree 65 = .ok (.aload_n 0, 1) := by decide +kernel
theorem d_MO_writeTree_66 : decode b_MO_writeTree 66 = .ok (.iconst 1, 1) := by decide +kernel
theorem d_MO_writeTree_67 : decode b_MO_writeTree 67 = .ok (.iload_n 3, 1) := by decide +kernel
theorem d_MO_writeTree_68 : decode b_MO_writeTree 68 = .ok (.bipush 100, 2) := by decide +kernel
theorem d_MO_writeTree_70 : decode b_MO_writeTree 70 = .ok (.isub, 1) := by decide +kernel
theorem d_MO_writeTree_71 : decode b_MO_writeTree 71 = .ok (.invokevirtual 144, 3) := by decide +kernel
theorem d_MO_writeTree_74 : decode b_MO_writeTree 74 = .ok (.goto 33, 3) := by decide +kernel
theorem d_MO_writeTree_77 : decode b_MO_writeTree 77 = .ok (.aload_n 0, 1) := by decide +kernel
theorem d_MO_writeTree_78 : decode b_MO_writeTree 78 = .ok (.getfield 7, 3) := by decide +kernel
theorem d_MO_writeTree_81 : decode b_MO_writeTree 81 = .ok (.iload_n 3, 1) := by decide +kernel
theorem d_MO_writeTree_82 : decode b_MO_writeTree 82 = .ok (.iaload, 1) := by decide +kernel
theorem d_MO_writeTree_83 : decode b_MO_writeTree 83 = .ok (.ifCond .ne 17, 3) := by decide +kernel
theorem d_MO_writeTree_86 : decode b_MO_writeTree 86 = .ok (.aload_n 0, 1) := by decide +kernel
theorem d_MO_writeTree_87 : decode b_MO_writeTree 87 = .ok (.iconst 0, 1) := by decide +kernel
theorem d_MO_writeTree_88 : decode b_MO_writeTree 88 = .ok (.aload_n 0, 1) := by decide +kernel
theorem d_MO_writeTree_89 : decode b_MO_writeTree 89 = .ok (.getfield 16, 3) := by decide +kernel
theorem d_MO_writeTree_92 : decode b_MO_writeTree 92 = .ok (.iload_n 3, 1) := by decide +kernel
theorem d_MO_writeTree_93 : decode b_MO_writeTree 93 = .ok (.iaload, 1) := by decide +kernel
theorem d_MO_writeTree_94 : decode b_MO_writeTree 94 = .ok (.invokevirtual 144, 3) := by decide +kernel
theorem d_MO_writeTree_97 : decode b_MO_writeTree 97 = .ok (.goto 10, 3) := by decide +kernel
theorem d_MO_writeTree_100 : decode b_MO_writeTree 100 = .ok (.aload_n 0, 1) := by decide +kernel
theorem d_MO_writeTree_101 : decode b_MO_writeTree 101 = .ok (.iload_n 3, 1) := by decide +kernel
theorem d_MO_writeTree_102 : decode b_MO_writeTree 102 = .ok (.iload_n 2, 1) := by decide +kernel
theorem d_MO_writeTree_103 : decode b_MO_writeTree 103 = .ok (.invokevirtual 152, 3) := by decide +kernel
theorem d_MO_writeTree_106 : decode b_MO_writeTree 106 = .ok (.istore_n 2, 1) := by decide +kernel
theorem d_MO_writeTree_107 : decode b_MO_writeTree 107 = .ok (.goto (-98), 3) := by decide +kernel
theorem d_MO_writeTree_110 : decode b_MO_writeTree 110 = .ok (.return_, 1) := by decide +kernel
theorem gc_MO_152 : GoodIn gt (wsV R_MO 152 R_MO y_MO_open ws_MO_open) := gd_V gw_775 gw_777 gs_55 gw_7 gw_778
theorem gc_MO_148 : GoodIn gt (wsV R_MO 148 R_MO y_MO_emitOperation ws_MO_emitOperation) := gd_V gw_767 gw_769 gs_53 gw_7 gw_770
def b_MO_writeTree_9 : Nat → Int32 → SS → Option (SS)
  | 0, _, _ => none
  | n + 1, x2, σ =>
    (if x2 ≤ 0 then some σ else (ld (σ 15) 200 (x2 - (1 : Int32))).bind fun v2 => (if v2 < (300 : Int32) then (if v2 = (200 : Int32) then (f_MO_emit (4 : Int32) (0 : Int32) σ).bind fun σ18 => b_MO_writeTree_9 n (x2 - (1 : Int32)) σ18 else (if v2 < (100 : Int32) then (ld (σ 0) 40 v2).bind fun v7 => (if v7 = 0 then (ld (σ 2) 40 v2).bind fun v12 => (f_MO_emit (0 : Int32) v12 σ).bind fun σ14 => b_MO_writeTree_9 n (x2 - (1 : Int32)) σ14 else (f_MO_open v2 (x2 - (1 : Int32)) σ).bind fun q10 => b_MO_writeTree_9 n q10.1 q10.2) else (f_MO_emit (1 : Int32) (v2 - (100 : Int32)) σ).bind fun σ16 => b_MO_writeTree_9 n (x2 - (1 : Int32)) σ16)) else (f_MO_emitOperation (v2 - (300 : Int32)) σ).bind fun σ20 => b_MO_writeTree_9 n (x2 - (1 : Int32)) σ20))
set_option maxHeartbeats 4000000 in
set_option maxRecDepth 100000 in
theorem k_MO_writeTree_9 {p : Program} {l : Launch} {e : Env} {s : State} {m : MethodId} {args : Array Value} {below : List Frame} {meth : Method} {c : Code} {D : va_G} {a t : Nat → Nat} {cI cZ : ClassId} (ha : aMC a) (F : CallFix p m c b_MO_writeTree 4 s args gt R_MO) (hr : meth.sig.returnType = none) (hlk : meth.locks = false) (hK : va_K D vwCl [(cI, .int), (cZ, .boolean)] s) (hT : stM t (aM a) s s.heap) :
    ∀ (n : Nat) (x2 : Int32) (σ : SS) (q : SS), b_MO_writeTree_9 n x2 σ = some q → ∀ (H : Heap) (locs : List Loc), va_P D vwCl ((wM a cI cZ) σ) H → va_S (aM a) s.heap H locs → ∀ (ls : Array Slot), lv_has ls 4 [(0, .ref (a 0)), (2, .int x2)] → W p l e { frames := 3, cells := 0, slots := 0, locals := 71 } s m args below meth c H locs 0 0 (MQ below (va_Qv (fun u => u = q) (pW D (wM a cI cZ) [(cI, .int), (cZ, .boolean)] (stM t) (aM a)) (aM a)) args s 0 0 (aM a)) (F0 m 9 ls []) := by
  obtain ⟨hx, hb, hml, hown, hg⟩ := id F
  intro n
  induction n with
  | zero =>
    intro x2 σ q hf
    rw [b_MO_writeTree_9] at hf
    cases hf
  | succ n ih =>
    intro x2 σ q hf H locs hP hS ls hl
    rw [b_MO_writeTree_9] at hf
    refine lv_iload_n hx hb d_MO_writeTree_9 rfl (lv_at hl 1 rfl) ?_
    refine lv_if_le (tgt := 110) hx hb d_MO_writeTree_10 (by decide) (fun c1 => ?_) (fun c1 => ?_)
    · replace hf := (if_pos c1).symm.trans hf
      exact rr_v hx hb hr hlk (stM_g t) hK hT hP hS hf d_MO_writeTree_110
    · replace hf := (if_neg c1).symm.trans hf
      refine lv_iload_n hx hb d_MO_writeTree_13 rfl (lv_at hl 1 rfl) ?_
      refine lv_iconst (v := (1 : Int32)) hx hb d_MO_writeTree_14 (by decide) ?_
      refine lv_isub hx hb d_MO_writeTree_15 ?_
      refine lv_istore_n (lv' := [(2, .int (x2 - (1 : Int32))), (0, .ref (a 0))]) hx hb d_MO_writeTree_16 rfl hl (by decide) rfl (fun ls hl => ?_)
      refine lv_aload_n hx hb d_MO_writeTree_17 rfl (lv_at hl 1 rfl) ?_
      refine va_get (D := D) (ci := 6) (v := .ref (a 16)) (C := R_MO) (T := T_MO) (N := 26) hx hb hg in_MO hown hK hP 0 rfl rfl 19 (by decide) (hg _ gw_602) (fun _ h9 => h9) rfl d_MO_writeTree_18 ?_
      refine lv_iload_n hx hb d_MO_writeTree_21 rfl (lv_at hl 0 rfl) ?_
      refine bdK hf (fun v2 h3 hf => ?_)
      refine r_iald hx hb hK hP 16 0 rfl rfl h3 d_MO_writeTree_22 ?_
      refine lv_istore_n (lv' := [(3, .int v2), (2, .int (x2 - (1 : Int32))), (0, .ref (a 0))]) hx hb d_MO_writeTree_23 rfl hl (by decide) rfl (fun ls hl => ?_)
      refine lv_iload_n hx hb d_MO_writeTree_24 rfl (lv_at hl 0 rfl) ?_
      refine lv_sipush (v := (300 : Int32)) hx hb d_MO_writeTree_25 (by decide) ?_
      refine lv_icmp_lt (tgt := 43) hx hb d_MO_writeTree_28 (by decide) (fun c4 => ?_) (fun c4 => ?_)
      · replace hf := (if_pos c4).symm.trans hf
        refine lv_iload_n hx hb d_MO_writeTree_43 rfl (lv_at hl 0 rfl) ?_
        refine lv_sipush (v := (200 : Int32)) hx hb d_MO_writeTree_44 (by decide) ?_
        refine lv_icmp_ne (tgt := 59) hx hb d_MO_writeTree_47 (by decide) (fun c5 => ?_) (fun c5 => ?_)
        · replace hf := (if_neg c5).symm.trans hf
          refine lv_iload_n hx hb d_MO_writeTree_59 rfl (lv_at hl 0 rfl) ?_
          refine lv_bipush (v := (100 : Int32)) hx hb d_MO_writeTree_60 (by decide) ?_
          refine lv_icmp_lt (tgt := 77) hx hb d_MO_writeTree_62 (by decide) (fun c6 => ?_) (fun c6 => ?_)
          · replace hf := (if_pos c6).symm.trans hf
            refine lv_aload_n hx hb d_MO_writeTree_77 rfl (lv_at hl 2 rfl) ?_
            refine va_get (D := D) (ci := 6) (v := .ref (a 1)) (C := R_MO) (T := T_MO) (N := 26) hx hb hg in_MO hown hK hP 0 rfl rfl 2 (by decide) (hg _ gw_585) (fun _ h9 => h9) rfl d_MO_writeTree_78 ?_
            refine lv_iload_n hx hb d_MO_writeTree_81 rfl (lv_at hl 0 rfl) ?_
            refine bdK hf (fun v7 h8 hf => ?_)
            refine r_iald hx hb hK hP 1 0 rfl rfl h8 d_MO_writeTree_82 ?_
            refine lv_if_ne (tgt := 100) hx hb d_MO_writeTree_83 (by decide) (fun c9 => ?_) (fun c9 => ?_)
            · replace hf := (if_neg c9).symm.trans hf
              refine lv_aload_n hx hb d_MO_writeTree_100 rfl (lv_at hl 2 rfl) ?_
              refine lv_iload_n hx hb d_MO_writeTree_101 rfl (lv_at hl 0 rfl) ?_
              refine lv_iload_n hx hb d_MO_writeTree_102 rfl (lv_at hl 1 rfl) ?_
              refine bdK hf (fun q10 h11 hf => ?_)
              refine rc_Vi (As := [.int v2, .int (x2 - (1 : Int32))]) (rest := []) (b := a 0) (stM_g t) F (c_MO_open l ha v2 (x2 - (1 : Int32)) σ q10 h11) (cwV 2 hg gc_MO_152 rfl rfl rfl hs_MO_open ⟨Nat.le_of_ble_eq_true rfl, Nat.le_of_ble_eq_true rfl⟩) hK hT hP hS (va_recv hK hP (ci := 6) (q0 := 0) rfl rfl) rfl hl.1 rfl (Nat.le_of_ble_eq_true rfl) d_MO_writeTree_103 ⟨Nat.zero_le _, Nat.zero_le _⟩ (fun H locs hP hS => ?_)
              refine lv_istore_n (lv' := [(2, .int q10.1), (3, .int v2), (0, .ref (a 0))]) hx hb d_MO_writeTree_106 rfl hl (by decide) rfl (fun ls hl => ?_)
              refine lv_goto (tgt := 9) hx hb d_MO_writeTree_107 (by decide) ?_
              exact ih q10.1 q10.2 q hf _ _ hP hS ls (lv_sub hl [2, 0] rfl)
            · replace hf := (if_pos c9).symm.trans hf
              refine lv_aload_n hx hb d_MO_writeTree_86 rfl (lv_at hl 2 rfl) ?_
              refine lv_iconst (v := (0 : Int32)) hx hb d_MO_writeTree_87 (by decide) ?_
              refine lv_aload_n hx hb d_MO_writeTree_88 rfl (lv_at hl 2 rfl) ?_
              refine va_get (D := D) (ci := 6) (v := .ref (a 3)) (C := R_MO) (T := T_MO) (N := 26) hx hb hg in_MO hown hK hP 0 rfl rfl 4 (by decide) (hg _ gw_587) (fun _ h9 => h9) rfl d_MO_writeTree_89 ?_
              refine lv_iload_n hx hb d_MO_writeTree_92 rfl (lv_at hl 0 rfl) ?_
              refine bdK hf (fun v12 h13 hf => ?_)
              refine r_iald hx hb hK hP 3 0 rfl rfl h13 d_MO_writeTree_93 ?_
              refine bdK hf (fun σ14 h15 hf => ?_)
              refine rc_Vv (As := [.int (0 : Int32), .int v12]) (rest := []) (b := a 0) (stM_g t) F (c_MO_emit l ha (0 : Int32) v12 σ σ14 h15) (cwV 2 hg gc_MO_144 rfl rfl rfl hs_MO_emit ⟨Nat.le_of_ble_eq_true rfl, Nat.le_of_ble_eq_true rfl⟩) hK hT hP hS (va_recv hK hP (ci := 6) (q0 := 0) rfl rfl) rfl hl.1 rfl (Nat.le_of_ble_eq_true rfl) d_MO_writeTree_94 ⟨Nat.zero_le _, Nat.zero_le _⟩ (fun H locs hP hS => ?_)
              refine lv_goto (tgt := 107) hx hb d_MO_writeTree_97 (by decide) ?_
              refine lv_goto (tgt := 9) hx hb d_MO_writeTree_107 (by decide) ?_
              exact ih (x2 - (1 : Int32)) σ14 q hf _ _ hP hS ls (lv_sub hl [2, 1] rfl)
          · replace hf := (if_neg c6).symm.trans hf
            refine lv_aload_n hx hb d_MO_writeTree_65 rfl (lv_at hl 2 rfl) ?_
            refine lv_iconst (v := (1 : Int32)) hx hb d_MO_writeTree_66 (by decide) ?_
            refine lv_iload_n hx hb d_MO_writeTree_67 rfl (lv_at hl 0 rfl) ?_
            refine lv_bipush (v := (100 : Int32)) hx hb d_MO_writeTree_68 (by decide) ?_
            refine lv_isub hx hb d_MO_writeTree_70 ?_
            refine bdK hf (fun σ16 h17 hf => ?_)
            refine rc_Vv (As := [.int (1 : Int32), .int (v2 - (100 : Int32))]) (rest := []) (b := a 0) (stM_g t) F (c_MO_emit l ha (1 : Int32) (v2 - (100 : Int32)) σ σ16 h17) (cwV 2 hg gc_MO_144 rfl rfl rfl hs_MO_emit ⟨Nat.le_of_ble_eq_true rfl, Nat.le_of_ble_eq_true rfl⟩) hK hT hP hS (va_recv hK hP (ci := 6) (q0 := 0) rfl rfl) rfl hl.1 rfl (Nat.le_of_ble_eq_true rfl) d_MO_writeTree_71 ⟨Nat.zero_le _, Nat.zero_le _⟩ (fun H locs hP hS => ?_)
            refine lv_goto (tgt := 107) hx hb d_MO_writeTree_74 (by decide) ?_
            refine lv_goto (tgt := 9) hx hb d_MO_writeTree_107 (by decide) ?_
            exact ih (x2 - (1 : Int32)) σ16 q hf _ _ hP hS ls (lv_sub hl [2, 1] rfl)
        · replace hf := (if_pos c5).symm.trans hf
          refine lv_aload_n hx hb d_MO_writeTree_50 rfl (lv_at hl 2 rfl) ?_
          refine lv_iconst (v := (4 : Int32)) hx hb d_MO_writeTree_51 (by decide) ?_
          refine lv_iconst (v := (0 : Int32)) hx hb d_MO_writeTree_52 (by decide) ?_
          refine bdK hf (fun σ18 h19 hf => ?_)
          refine rc_Vv (As := [.int (4 : Int32), .int (0 : Int32)]) (rest := []) (b := a 0) (stM_g t) F (c_MO_emit l ha (4 : Int32) (0 : Int32) σ σ18 h19) (cwV 2 hg gc_MO_144 rfl rfl rfl hs_MO_emit ⟨Nat.le_of_ble_eq_true rfl, Nat.le_of_ble_eq_true rfl⟩) hK hT hP hS (va_recv hK hP (ci := 6) (q0 := 0) rfl rfl) rfl hl.1 rfl (Nat.le_of_ble_eq_true rfl) d_MO_writeTree_53 ⟨Nat.zero_le _, Nat.zero_le _⟩ (fun H locs hP hS => ?_)
          refine lv_goto (tgt := 107) hx hb d_MO_writeTree_56 (by decide) ?_
          refine lv_goto (tgt := 9) hx hb d_MO_writeTree_107 (by decide) ?_
          exact ih (x2 - (1 : Int32)) σ18 q hf _ _ hP hS ls (lv_sub hl [2, 1] rfl)
      · replace hf := (if_neg c4).symm.trans hf
        refine lv_aload_n hx hb d_MO_writeTree_31 rfl (lv_at hl 2 rfl) ?_
        refine lv_iload_n hx hb d_MO_writeTree_32 rfl (lv_at hl 0 rfl) ?_
        refine lv_sipush (v := (300 : Int32)) hx hb d_MO_writeTree_33 (by decide) ?_
        refine lv_isub hx hb d_MO_writeTree_36 ?_
        refine bdK hf (fun σ20 h21 hf => ?_)
        refine rc_Vv (As := [.int (v2 - (300 : Int32))]) (rest := []) (b := a 0) (stM_g t) F (c_MO_emitOperation l ha (v2 - (300 : Int32)) σ σ20 h21) (cwV 1 hg gc_MO_148 rfl rfl rfl hs_MO_emitOperation ⟨Nat.le_of_ble_eq_true rfl, Nat.le_of_ble_eq_true rfl⟩) hK hT hP hS (va_recv hK hP (ci := 6) (q0 := 0) rfl rfl) rfl hl.1 rfl (Nat.le_of_ble_eq_true rfl) d_MO_writeTree_37 ⟨Nat.zero_le _, Nat.zero_le _⟩ (fun H locs hP hS => ?_)
        refine lv_goto (tgt := 107) hx hb d_MO_writeTree_40 (by decide) ?_
        refine lv_goto (tgt := 9) hx hb d_MO_writeTree_107 (by decide) ?_
        exact ih (x2 - (1 : Int32)) σ20 q hf _ _ hP hS ls (lv_sub hl [2, 1] rfl)
def f_MO_writeTree (x1 : Int32) (σ : SS) : Option (SS) :=
  (sto σ 15 200 (0 : Int32) x1).bind fun σ1 => b_MO_writeTree_9 FU (1 : Int32) σ1
set_option maxHeartbeats 4000000 in
set_option maxRecDepth 100000 in
theorem e_MO_writeTree {p : Program} {l : Launch} {e : Env} {s : State} {m : MethodId} {args : Array Value} {below : List Frame} {meth : Method} {c : Code} {D : va_G} {a t : Nat → Nat} {cI cZ : ClassId} (ha : aMC a) (F : CallFix p m c b_MO_writeTree 4 s args gt R_MO) (hr : meth.sig.returnType = none) (hlk : meth.locks = false) (hK : va_K D vwCl [(cI, .int), (cZ, .boolean)] s) (hT : stM t (aM a) s s.heap) :
    ∀ (x1 : Int32) (σ : SS) (q : SS), f_MO_writeTree x1 σ = some q → ∀ (H : Heap) (locs : List Loc), va_P D vwCl ((wM a cI cZ) σ) H → va_S (aM a) s.heap H locs → ∀ (ls : Array Slot), lv_has ls 4 [(0, .ref (a 0)), (1, .int x1)] → W p l e { frames := 3, cells := 0, slots := 0, locals := 71 } s m args below meth c H locs 0 0 (MQ below (va_Qv (fun u => u = q) (pW D (wM a cI cZ) [(cI, .int), (cZ, .boolean)] (stM t) (aM a)) (aM a)) args s 0 0 (aM a)) (F0 m 0 ls []) := by
  obtain ⟨hx, hb, hml, hown, hg⟩ := id F
  intro x1 σ q hf H locs hP hS ls hl
  unfold f_MO_writeTree at hf
  refine lv_iconst (v := (1 : Int32)) hx hb d_MO_writeTree_0 (by decide) ?_
  refine lv_istore_n (lv' := [(2, .int (1 : Int32)), (0, .ref (a 0)), (1, .int x1)]) hx hb d_MO_writeTree_1 rfl hl (by decide) rfl (fun ls hl => ?_)
  refine lv_aload_n hx hb d_MO_writeTree_2 rfl (lv_at hl 1 rfl) ?_
  refine va_get (D := D) (ci := 6) (v := .ref (a 16)) (C := R_MO) (T := T_MO) (N := 26) hx hb hg in_MO hown hK hP 0 rfl rfl 19 (by decide) (hg _ gw_602) (fun _ h9 => h9) rfl d_MO_writeTree_3 ?_
  refine lv_iconst (v := (0 : Int32)) hx hb d_MO_writeTree_6 (by decide) ?_
  refine lv_iload_n hx hb d_MO_writeTree_7 rfl (lv_at hl 2 rfl) ?_
  refine bdK hf (fun σ1 h2 hf => ?_)
  refine r_iast (wf := (wM a cI cZ)) hx hb hK hP (dM ha σ) hS 16 0 rfl rfl (fun _ _ => rfl) h2 d_MO_writeTree_8 (fun H locs hP hS => ?_)
  exact k_MO_writeTree_9 ha F hr hlk hK hT FU (1 : Int32) σ1 q hf _ _ hP hS ls (lv_sub hl [1, 0] rfl)
set_option maxHeartbeats 4000000 in
set_option maxRecDepth 100000 in
theorem c_MO_writeTree (l : Launch) {D : va_G} {a t : Nat → Nat} {cI cZ : ClassId} (ha : aMC a) (x1 : Int32) (σ : SS) (q : SS) (hf : f_MO_writeTree x1 σ = some q) : Met l y_MO_writeTree ws_MO_writeTree { frames := 3, cells := 0, slots := 0, locals := 71 } (va_Pc [.ref (a 0), .int x1] (pW D (wM a cI cZ) [(cI, .int), (cZ, .boolean)] (stM t) (aM a) σ)) (va_Qv (fun u => u = q) (pW D (wM a cI cZ) [(cI, .int), (cZ, .boolean)] (stM t) (aM a)) (aM a)) 0 0 (aM a) := by
  refine Met.ofW (cc := b_MO_writeTree) (maxL := 4) (ret := none) (by decide) rfl ?_
  intro p e s m args below meth c s₁ B hml hv
  obtain ⟨rfl, hP, hK, hT⟩ := hv
  have hl := lv_entry ([.ref (a 0), .int x1]) (n := 4) (Nat.le_of_ble_eq_true rfl)
  rw [lg_entry_eq]
  generalize (lg_sl ([.ref (a 0), .int x1]) ++ List.replicate (4 - (lg_sl ([.ref (a 0), .int x1])).length) Slot.unset).toArray = ls at hl ⊢
  exact e_MO_writeTree ha ⟨B.exec, B.bytes, hml, findClass_of_methodNamed B.named, fun w h => atoms_spec (ws := ws_MO_writeTree) B.pre w (List.mem_cons_of_mem _ h)⟩ B.returns B.notSynchronized hK hT x1 σ q hf s.heap [] hP va_S.rf ls hl
theorem d_MO_isWanted_0 : decode b_MO_isWanted 0 = .ok (.aload_n 0, 1) := by decide +kernel
theorem d_MO_isWanted_1 : decode b_MO_isWanted 1 = .ok (.iload_n 1, 1) := by decide +kernel
theorem d_MO_isWanted_2 : decode b_MO_isWanted 2 = .ok (.invokevirtual 124, 3) := by decide +kernel
theorem d_MO_isWanted_5 : decode b_MO_isWanted 5 = .ok (.istore_n 2, 1) := by decide +kernel
theorem d_MO_isWanted_6 : decode b_MO_isWanted 6 = .ok (.iload_n 2, 1) := by decide +kernel
theorem d_MO_isWanted_7 : decode b_MO_isWanted 7 = .ok (.ifCond .lt 7, 3) := by decide +kernel
theorem d_MO_isWanted_10 : decode b_MO_isWanted 10 = .ok (.iload_n 2, 1) := by decide +kernel
theorem d_MO_isWanted_11 : decode b_MO_isWanted 11 = .ok (.goto 8, 3) := by decide +kernel
theorem d_MO_isWanted_14 : decode b_MO_isWanted 14 = .ok (.aload_n 0, 1) := by decide +kernel
theorem d_MO_isWanted_15 : decode b_MO_isWanted 15 = .ok (.iload_n 1, 1) := by decide +kernel
theorem d_MO_isWanted_16 : decode b_MO_isWanted 16 = .ok (.invokevirtual 121, 3) := by decide +kernel
theorem d_MO_isWanted_19 : decode b_MO_isWanted 19 = .ok (.istore_n 3, 1) := by decide +kernel
theorem d_MO_isWanted_20 : decode b_MO_isWanted 20 = .ok (.iload_n 2, 1) := by decide +kernel
theorem d_MO_isWanted_21 : decode b_MO_isWanted 21 = .ok (.ifCond .ge 25, 3) := by decide +kernel
theorem d_MO_isWanted_24 : decode b_MO_isWanted 24 = .ok (.aload_n 0, 1) := by decide +kernel
theorem d_MO_isWanted_25 : decode b_MO_isWanted 25 = .ok (.iload_n 3, 1) := by decide +kernel
theorem d_MO_isWanted_26 : decode b_MO_isWanted 26 = .ok (.invokevirtual 114, 3) := by decide +kernel
theorem d_MO_isWanted_29 : decode b_MO_isWanted 29 = .ok (.aload_n 0, 1) := by decide +kernel
theorem d_MO_isWanted_30 : decode b_MO_isWanted 30 = .ok (.getfield 13, 3) := by decide +kernel
theorem d_MO_isWanted_33 : decode b_MO_isWanted 33 = .ok (.iload_n 1, 1) := by decide +kernel
theorem d_MO_isWanted_34 : decode b_MO_isWanted 34 = .ok (.iaload, 1) := by decide +kernel
theorem d_MO_isWanted_35 : decode b_MO_isWanted 35 = .ok (.ishr, 1) := by decide +kernel
theorem d_MO_isWanted_36 : decode b_MO_isWanted 36 = .ok (.iconst 1, 1) := by decide +kernel
theorem d_MO_isWanted_37 : decode b_MO_isWanted 37 = .ok (.iand, 1) := by decide +kernel
theorem d_MO_isWanted_38 : decode b_MO_isWanted 38 = .ok (.iconst 1, 1) := by decide +kernel
theorem d_MO_isWanted_39 : decode b_MO_isWanted 39 = .ok (.if_icmp .ne 7, 3) := by decide +kernel
theorem d_MO_isWanted_42 : decode b_MO_isWanted 42 = .ok (.iconst 1, 1) := by decide +kernel
theorem d_MO_isWanted_43 : decode b_MO_isWanted 43 = .ok (.goto 4, 3) := by decide +kernel
theorem d_MO_isWanted_46 : decode b_MO_isWanted 46 = .ok (.iconst 0, 1) := by decide +kernel
theorem d_MO_isWanted_47 : decode b_MO_isWanted 47 = .ok (.istore 4, 2) := by decide +kernel
theorem d_MO_isWanted_49 : decode b_MO_isWanted 49 = .ok (.iload_n 1, 1) := by decide +kernel
theorem d_MO_isWanted_50 : decode b_MO_isWanted 50 = .ok (.iconst 1, 1) := by decide +kernel
theorem d_MO_isWanted_51 : decode b_MO_isWanted 51 = .ok (.iadd, 1) := by decide +kernel
theorem d_MO_isWanted_52 : decode b_MO_isWanted 52 = .ok (.istore 5, 2) := by decide +kernel
theorem d_MO_isWanted_54 : decode b_MO_isWanted 54 = .ok (.iload 5, 2) := by decide +kernel
theorem d_MO_isWanted_56 : decode b_MO_isWanted 56 = .ok (.iload_n 3, 1) := by decide +kernel
theorem d_MO_isWanted_57 : decode b_MO_isWanted 57 = .ok (.if_icmp .gt 36, 3) := by decide +kernel
theorem d_MO_isWanted_60 : decode b_MO_isWanted 60 = .ok (.iload 4, 2) := by decide +kernel
theorem d_MO_isWanted_62 : decode b_MO_isWanted 62 = .ok (.ifCond .ne 18, 3) := by decide +kernel
theorem d_MO_isWanted_65 : decode b_MO_isWanted 65 = .ok (.aload_n 0, 1) := by decide +kernel
theorem d_MO_isWanted_66 : decode b_MO_isWanted 66 = .ok (.iload 5, 2) := by decide +kernel
theorem d_MO_isWanted_68 : decode b_MO_isWanted 68 = .ok (.aload_n 0, 1) := by decide +kernel
theorem d_MO_isWanted_69 : decode b_MO_isWanted 69 = .ok (.getfield 13, 3) := by decide +kernel
theorem d_MO_isWanted_72 : decode b_MO_isWanted 72 = .ok (.iload_n 1, 1) := by decide +kernel
theorem d_MO_isWanted_73 : decode b_MO_isWanted 73 = .ok (.iaload, 1) := by decide +kernel
theorem d_MO_isWanted_74 : decode b_MO_isWanted 74 = .ok (.invokevirtual 127, 3) := by decide +kernel
theorem d_MO_isWanted_77 : decode b_MO_isWanted 77 = .ok (.ifCond .le 7, 3) := by decide +kernel
theorem d_MO_isWanted_80 : decode b_MO_isWanted 80 = .ok (.iconst 1, 1) := by decide +kernel
theorem d_MO_isWanted_81 : decode b_MO_isWanted 81 = .ok (.goto 4, 3) := by decide +kernel
theorem d_MO_isWanted_84 : decode b_MO_isWanted 84 = .ok (.iconst 0, 1) := by decide +kernel
theorem d_MO_isWanted_85 : decode b_MO_isWanted 85 = .ok (.istore 4, 2) := by decide +kernel
theorem d_MO_isWanted_87 : decode b_MO_isWanted 87 = .ok (.iinc 5 1, 3) := by decide +kernel
theorem d_MO_isWanted_90 : decode b_MO_isWanted 90 = .ok (.goto (-36), 3) := by decide +kernel
theorem d_MO_isWanted_93 : decode b_MO_isWanted 93 = .ok (.iload 4, 2) := by decide +kernel
theorem d_MO_isWanted_95 : decode b_MO_isWanted 95 = .ok (.ireturn, 1) := by decide +kernel
def b_MO_isWanted_54 : Nat → Int32 → Int32 → Int32 → Int32 → SS → Option (Int32 × SS)
  | 0, _, _, _, _, _ => none
  | n + 1, x1, x3, x4, x5, σ =>
    (if x3 < x5 then rz x4 σ else (if x4 = 0 then (ld (σ 1) 40 x1).bind fun v3 => (f_MO_times x5 v3 σ).bind fun q5 => (if q5.1 ≤ 0 then b_MO_isWanted_54 n x1 x3 (0 : Int32) (x5 + (1 : Int32)) q5.2 else b_MO_isWanted_54 n x1 x3 (1 : Int32) (x5 + (1 : Int32)) q5.2) else b_MO_isWanted_54 n x1 x3 (1 : Int32) (x5 + (1 : Int32)) σ))
set_option maxHeartbeats 4000000 in
set_option maxRecDepth 100000 in
theorem k_MO_isWanted_54 {p : Program} {l : Launch} {e : Env} {s : State} {m : MethodId} {args : Array Value} {below : List Frame} {meth : Method} {c : Code} {D : va_G} {a t : Nat → Nat} {cI cZ : ClassId} (ha : aMC a) (F : CallFix p m c b_MO_isWanted 6 s args gt R_MO) (hr : meth.sig.returnType = some .boolean) (hlk : meth.locks = false) (hK : va_K D vwCl [(cI, .int), (cZ, .boolean)] s) (hT : stM t (aM a) s s.heap) :
    ∀ (n : Nat) (x1 x3 x4 x5 : Int32) (σ : SS) (q : Int32 × SS), b_MO_isWanted_54 n x1 x3 x4 x5 σ = some q → ∀ (H : Heap) (locs : List Loc), va_P D vwCl ((wM a cI cZ) σ) H → va_S (aM a) s.heap H locs → ∀ (ls : Array Slot), lv_has ls 6 [(0, .ref (a 0)), (1, .int x1), (3, .int x3), (4, .int x4), (5, .int x5)] → W p l e { frames := 3, cells := 0, slots := 0, locals := 67 } s m args below meth c H locs 0 0 (MQ below (va_Qi (fun r u => r = q.1 ∧ u = q.2) (pW D (wM a cI cZ) [(cI, .int), (cZ, .boolean)] (stM t) (aM a)) (aM a)) args s 0 0 (aM a)) (F0 m 54 ls []) := by
  obtain ⟨hx, hb, hml, hown, hg⟩ := id F
  intro n
  induction n with
  | zero =>
    intro x1 x3 x4 x5 σ q hf
    rw [b_MO_isWanted_54] at hf
    cases hf
  | succ n ih =>
    intro x1 x3 x4 x5 σ q hf H locs hP hS ls hl
    rw [b_MO_isWanted_54] at hf
    refine lv_iload hx hb d_MO_isWanted_54 (lv_at hl 4 rfl) ?_
    refine lv_iload_n hx hb d_MO_isWanted_56 rfl (lv_at hl 2 rfl) ?_
    refine lv_icmp_gt (tgt := 93) hx hb d_MO_isWanted_57 (by decide) (fun c1 => ?_) (fun c1 => ?_)
    · replace hf := (if_pos c1).symm.trans hf
      refine lv_iload hx hb d_MO_isWanted_93 (lv_at hl 3 rfl) ?_
      exact rr_zg hx hb hr hlk (stM_g t) hK hT hP hS hf d_MO_isWanted_95
    · replace hf := (if_neg c1).symm.trans hf
      refine lv_iload hx hb d_MO_isWanted_60 (lv_at hl 3 rfl) ?_
      refine lv_if_ne (tgt := 80) hx hb d_MO_isWanted_62 (by decide) (fun c2 => ?_) (fun c2 => ?_)
      · replace hf := (if_neg c2).symm.trans hf
        refine lv_iconst (v := (1 : Int32)) hx hb d_MO_isWanted_80 (by decide) ?_
        refine lv_goto (tgt := 85) hx hb d_MO_isWanted_81 (by decide) ?_
        refine lv_istore (lv' := [(4, .int (1 : Int32)), (0, .ref (a 0)), (1, .int x1), (3, .int x3), (5, .int x5)]) hx hb d_MO_isWanted_85 hl (by decide) rfl (fun ls hl => ?_)
        refine lv_iinc (v := (x5 + (1 : Int32))) (lv' := [(5, .int (x5 + (1 : Int32))), (4, .int (1 : Int32)), (0, .ref (a 0)), (1, .int x1), (3, .int x3)]) hx hb d_MO_isWanted_87 hl (k := 4) rfl (by rfl) (by decide) rfl (fun ls hl => ?_)
        refine lv_goto (tgt := 54) hx hb d_MO_isWanted_90 (by decide) ?_
        exact ih x1 x3 (1 : Int32) (x5 + (1 : Int32)) σ q hf _ _ hP hS ls (lv_sub hl [2, 3, 4, 1, 0] rfl)
      · replace hf := (if_pos c2).symm.trans hf
        refine lv_aload_n hx hb d_MO_isWanted_65 rfl (lv_at hl 0 rfl) ?_
        refine lv_iload hx hb d_MO_isWanted_66 (lv_at hl 4 rfl) ?_
        refine lv_aload_n hx hb d_MO_isWanted_68 rfl (lv_at hl 0 rfl) ?_
        refine va_get (D := D) (ci := 6) (v := .ref (a 2)) (C := R_MO) (T := T_MO) (N := 26) hx hb hg in_MO hown hK hP 0 rfl rfl 3 (by decide) (hg _ gw_586) (fun _ h9 => h9) rfl d_MO_isWanted_69 ?_
        refine lv_iload_n hx hb d_MO_isWanted_72 rfl (lv_at hl 1 rfl) ?_
        refine bdK hf (fun v3 h4 hf => ?_)
        refine r_iald hx hb hK hP 2 0 rfl rfl h4 d_MO_isWanted_73 ?_
        refine bdK hf (fun q5 h6 hf => ?_)
        refine rc_Vi (As := [.int x5, .int v3]) (rest := []) (b := a 0) (stM_g t) F (c_MO_times l ha x5 v3 σ q5 h6) (cwV 2 hg gc_MO_127 rfl rfl rfl hs_MO_times ⟨Nat.le_of_ble_eq_true rfl, Nat.le_of_ble_eq_true rfl⟩) hK hT hP hS (va_recv hK hP (ci := 6) (q0 := 0) rfl rfl) rfl hl.1 rfl (Nat.le_of_ble_eq_true rfl) d_MO_isWanted_74 ⟨Nat.zero_le _, Nat.zero_le _⟩ (fun H locs hP hS => ?_)
        refine lv_if_le (tgt := 84) hx hb d_MO_isWanted_77 (by decide) (fun c7 => ?_) (fun c7 => ?_)
        · replace hf := (if_pos c7).symm.trans hf
          refine lv_iconst (v := (0 : Int32)) hx hb d_MO_isWanted_84 (by decide) ?_
          refine lv_istore (lv' := [(4, .int (0 : Int32)), (0, .ref (a 0)), (1, .int x1), (3, .int x3), (5, .int x5)]) hx hb d_MO_isWanted_85 hl (by decide) rfl (fun ls hl => ?_)
          refine lv_iinc (v := (x5 + (1 : Int32))) (lv' := [(5, .int (x5 + (1 : Int32))), (4, .int (0 : Int32)), (0, .ref (a 0)), (1, .int x1), (3, .int x3)]) hx hb d_MO_isWanted_87 hl (k := 4) rfl (by rfl) (by decide) rfl (fun ls hl => ?_)
          refine lv_goto (tgt := 54) hx hb d_MO_isWanted_90 (by decide) ?_
          exact ih x1 x3 (0 : Int32) (x5 + (1 : Int32)) q5.2 q hf _ _ hP hS ls (lv_sub hl [2, 3, 4, 1, 0] rfl)
        · replace hf := (if_neg c7).symm.trans hf
          refine lv_iconst (v := (1 : Int32)) hx hb d_MO_isWanted_80 (by decide) ?_
          refine lv_goto (tgt := 85) hx hb d_MO_isWanted_81 (by decide) ?_
          refine lv_istore (lv' := [(4, .int (1 : Int32)), (0, .ref (a 0)), (1, .int x1), (3, .int x3), (5, .int x5)]) hx hb d_MO_isWanted_85 hl (by decide) rfl (fun ls hl => ?_)
          refine lv_iinc (v := (x5 + (1 : Int32))) (lv' := [(5, .int (x5 + (1 : Int32))), (4, .int (1 : Int32)), (0, .ref (a 0)), (1, .int x1), (3, .int x3)]) hx hb d_MO_isWanted_87 hl (k := 4) rfl (by rfl) (by decide) rfl (fun ls hl => ?_)
          refine lv_goto (tgt := 54) hx hb d_MO_isWanted_90 (by decide) ?_
          exact ih x1 x3 (1 : Int32) (x5 + (1 : Int32)) q5.2 q hf _ _ hP hS ls (lv_sub hl [2, 3, 4, 1, 0] rfl)
def b_MO_isWanted_19 (x1 x2 y0 : Int32) (σ : SS) : Option (Int32 × SS) :=
  (if 0 ≤ x2 then b_MO_isWanted_54 FU x1 y0 (0 : Int32) (x1 + (1 : Int32)) σ else (f_MO_behind y0 σ).bind fun q2 => (ld (q2.2 1) 40 x1).bind fun v4 => (if ((q2.1 >>> (v4 &&& 31)) &&& (1 : Int32)) = (1 : Int32) then b_MO_isWanted_54 FU x1 y0 (1 : Int32) (x1 + (1 : Int32)) q2.2 else b_MO_isWanted_54 FU x1 y0 (0 : Int32) (x1 + (1 : Int32)) q2.2))
set_option maxHeartbeats 4000000 in
set_option maxRecDepth 100000 in
theorem k_MO_isWanted_19 {p : Program} {l : Launch} {e : Env} {s : State} {m : MethodId} {args : Array Value} {below : List Frame} {meth : Method} {c : Code} {D : va_G} {a t : Nat → Nat} {cI cZ : ClassId} (ha : aMC a) (F : CallFix p m c b_MO_isWanted 6 s args gt R_MO) (hr : meth.sig.returnType = some .boolean) (hlk : meth.locks = false) (hK : va_K D vwCl [(cI, .int), (cZ, .boolean)] s) (hT : stM t (aM a) s s.heap) :
    ∀ (x1 x2 y0 : Int32) (σ : SS) (q : Int32 × SS), b_MO_isWanted_19 x1 x2 y0 σ = some q → ∀ (H : Heap) (locs : List Loc), va_P D vwCl ((wM a cI cZ) σ) H → va_S (aM a) s.heap H locs → ∀ (ls : Array Slot), lv_has ls 6 [(0, .ref (a 0)), (1, .int x1), (2, .int x2)] → W p l e { frames := 3, cells := 0, slots := 0, locals := 67 } s m args below meth c H locs 0 0 (MQ below (va_Qi (fun r u => r = q.1 ∧ u = q.2) (pW D (wM a cI cZ) [(cI, .int), (cZ, .boolean)] (stM t) (aM a)) (aM a)) args s 0 0 (aM a)) (F0 m 19 ls [.int y0]) := by
  obtain ⟨hx, hb, hml, hown, hg⟩ := id F
  intro x1 x2 y0 σ q hf H locs hP hS ls hl
  unfold b_MO_isWanted_19 at hf
  refine lv_istore_n (lv' := [(3, .int y0), (0, .ref (a 0)), (1, .int x1), (2, .int x2)]) hx hb d_MO_isWanted_19 rfl hl (by decide) rfl (fun ls hl => ?_)
  refine lv_iload_n hx hb d_MO_isWanted_20 rfl (lv_at hl 3 rfl) ?_
  refine lv_if_ge (tgt := 46) hx hb d_MO_isWanted_21 (by decide) (fun c1 => ?_) (fun c1 => ?_)
  · replace hf := (if_pos c1).symm.trans hf
    refine lv_iconst (v := (0 : Int32)) hx hb d_MO_isWanted_46 (by decide) ?_
    refine lv_istore (lv' := [(4, .int (0 : Int32)), (3, .int y0), (0, .ref (a 0)), (1, .int x1), (2, .int x2)]) hx hb d_MO_isWanted_47 hl (by decide) rfl (fun ls hl => ?_)
    refine lv_iload_n hx hb d_MO_isWanted_49 rfl (lv_at hl 3 rfl) ?_
    refine lv_iconst (v := (1 : Int32)) hx hb d_MO_isWanted_50 (by decide) ?_
    refine lv_iadd hx hb d_MO_isWanted_51 ?_
    refine lv_istore (lv' := [(5, .int (x1 + (1 : Int32))), (4, .int (0 : Int32)), (3, .int y0), (0, .ref (a 0)), (1, .int x1), (2, .int x2)]) hx hb d_MO_isWanted_52 hl (by decide) rfl (fun ls hl => ?_)
    exact k_MO_isWanted_54 ha F hr hlk hK hT FU x1 y0 (0 : Int32) (x1 + (1 : Int32)) σ q hf _ _ hP hS ls (lv_sub hl [3, 4, 2, 1, 0] rfl)
  · replace hf := (if_neg c1).symm.trans hf
    refine lv_aload_n hx hb d_MO_isWanted_24 rfl (lv_at hl 1 rfl) ?_
    refine lv_iload_n hx hb d_MO_isWanted_25 rfl (lv_at hl 0 rfl) ?_
    refine bdK hf (fun q2 h3 hf => ?_)
    refine rc_Vi (As := [.int y0]) (rest := []) (b := a 0) (stM_g t) F (c_MO_behind l ha y0 σ q2 h3) (cwV 1 hg gc_MO_114 rfl rfl rfl hs_MO_behind ⟨Nat.le_of_ble_eq_true rfl, Nat.le_of_ble_eq_true rfl⟩) hK hT hP hS (va_recv hK hP (ci := 6) (q0 := 0) rfl rfl) rfl hl.1 rfl (Nat.le_of_ble_eq_true rfl) d_MO_isWanted_26 ⟨Nat.zero_le _, Nat.zero_le _⟩ (fun H locs hP hS => ?_)
    refine lv_aload_n hx hb d_MO_isWanted_29 rfl (lv_at hl 1 rfl) ?_
    refine va_get (D := D) (ci := 6) (v := .ref (a 2)) (C := R_MO) (T := T_MO) (N := 26) hx hb hg in_MO hown hK hP 0 rfl rfl 3 (by decide) (hg _ gw_586) (fun _ h9 => h9) rfl d_MO_isWanted_30 ?_
    refine lv_iload_n hx hb d_MO_isWanted_33 rfl (lv_at hl 2 rfl) ?_
    refine bdK hf (fun v4 h5 hf => ?_)
    refine r_iald hx hb hK hP 2 0 rfl rfl h5 d_MO_isWanted_34 ?_
    refine lv_ishr hx hb d_MO_isWanted_35 ?_
    refine lv_iconst (v := (1 : Int32)) hx hb d_MO_isWanted_36 (by decide) ?_
    refine lv_iand hx hb d_MO_isWanted_37 ?_
    refine lv_iconst (v := (1 : Int32)) hx hb d_MO_isWanted_38 (by decide) ?_
    refine lv_icmp_ne (tgt := 46) hx hb d_MO_isWanted_39 (by decide) (fun c6 => ?_) (fun c6 => ?_)
    · replace hf := (if_neg c6).symm.trans hf
      refine lv_iconst (v := (0 : Int32)) hx hb d_MO_isWanted_46 (by decide) ?_
      refine lv_istore (lv' := [(4, .int (0 : Int32)), (3, .int y0), (0, .ref (a 0)), (1, .int x1), (2, .int x2)]) hx hb d_MO_isWanted_47 hl (by decide) rfl (fun ls hl => ?_)
      refine lv_iload_n hx hb d_MO_isWanted_49 rfl (lv_at hl 3 rfl) ?_
      refine lv_iconst (v := (1 : Int32)) hx hb d_MO_isWanted_50 (by decide) ?_
      refine lv_iadd hx hb d_MO_isWanted_51 ?_
      refine lv_istore (lv' := [(5, .int (x1 + (1 : Int32))), (4, .int (0 : Int32)), (3, .int y0), (0, .ref (a 0)), (1, .int x1), (2, .int x2)]) hx hb d_MO_isWanted_52 hl (by decide) rfl (fun ls hl => ?_)
      exact k_MO_isWanted_54 ha F hr hlk hK hT FU x1 y0 (0 : Int32) (x1 + (1 : Int32)) q2.2 q hf _ _ hP hS ls (lv_sub hl [3, 4, 2, 1, 0] rfl)
    · replace hf := (if_pos c6).symm.trans hf
      refine lv_iconst (v := (1 : Int32)) hx hb d_MO_isWanted_42 (by decide) ?_
      refine lv_goto (tgt := 47) hx hb d_MO_isWanted_43 (by decide) ?_
      refine lv_istore (lv' := [(4, .int (1 : Int32)), (3, .int y0), (0, .ref (a 0)), (1, .int x1), (2, .int x2)]) hx hb d_MO_isWanted_47 hl (by decide) rfl (fun ls hl => ?_)
      refine lv_iload_n hx hb d_MO_isWanted_49 rfl (lv_at hl 3 rfl) ?_
      refine lv_iconst (v := (1 : Int32)) hx hb d_MO_isWanted_50 (by decide) ?_
      refine lv_iadd hx hb d_MO_isWanted_51 ?_
      refine lv_istore (lv' := [(5, .int (x1 + (1 : Int32))), (4, .int (1 : Int32)), (3, .int y0), (0, .ref (a 0)), (1, .int x1), (2, .int x2)]) hx hb d_MO_isWanted_52 hl (by decide) rfl (fun ls hl => ?_)
      exact k_MO_isWanted_54 ha F hr hlk hK hT FU x1 y0 (1 : Int32) (x1 + (1 : Int32)) q2.2 q hf _ _ hP hS ls (lv_sub hl [3, 4, 2, 1, 0] rfl)
def f_MO_isWanted (x1 : Int32) (σ : SS) : Option (Int32 × SS) :=
  (f_MO_nextWriter x1 σ).bind fun q1 => (if q1.1 < 0 then (f_MO_blockEnd x1 q1.2).bind fun q4 => b_MO_isWanted_19 x1 q1.1 q4.1 q4.2 else b_MO_isWanted_19 x1 q1.1 q1.1 q1.2)
set_option maxHeartbeats 4000000 in
set_option maxRecDepth 100000 in
theorem e_MO_isWanted {p : Program} {l : Launch} {e : Env} {s : State} {m : MethodId} {args : Array Value} {below : List Frame} {meth : Method} {c : Code} {D : va_G} {a t : Nat → Nat} {cI cZ : ClassId} (ha : aMC a) (F : CallFix p m c b_MO_isWanted 6 s args gt R_MO) (hr : meth.sig.returnType = some .boolean) (hlk : meth.locks = false) (hK : va_K D vwCl [(cI, .int), (cZ, .boolean)] s) (hT : stM t (aM a) s s.heap) :
    ∀ (x1 : Int32) (σ : SS) (q : Int32 × SS), f_MO_isWanted x1 σ = some q → ∀ (H : Heap) (locs : List Loc), va_P D vwCl ((wM a cI cZ) σ) H → va_S (aM a) s.heap H locs → ∀ (ls : Array Slot), lv_has ls 6 [(0, .ref (a 0)), (1, .int x1)] → W p l e { frames := 3, cells := 0, slots := 0, locals := 67 } s m args below meth c H locs 0 0 (MQ below (va_Qi (fun r u => r = q.1 ∧ u = q.2) (pW D (wM a cI cZ) [(cI, .int), (cZ, .boolean)] (stM t) (aM a)) (aM a)) args s 0 0 (aM a)) (F0 m 0 ls []) := by
  obtain ⟨hx, hb, hml, hown, hg⟩ := id F
  intro x1 σ q hf H locs hP hS ls hl
  unfold f_MO_isWanted at hf
  refine lv_aload_n hx hb d_MO_isWanted_0 rfl (lv_at hl 0 rfl) ?_
  refine lv_iload_n hx hb d_MO_isWanted_1 rfl (lv_at hl 1 rfl) ?_
  refine bdK hf (fun q1 h2 hf => ?_)
  refine rc_Vi (As := [.int x1]) (rest := []) (b := a 0) (stM_g t) F (c_MO_nextWriter l ha x1 σ q1 h2) (cwV 1 hg gc_MO_124 rfl rfl rfl hs_MO_nextWriter ⟨Nat.le_of_ble_eq_true rfl, Nat.le_of_ble_eq_true rfl⟩) hK hT hP hS (va_recv hK hP (ci := 6) (q0 := 0) rfl rfl) rfl hl.1 rfl (Nat.le_of_ble_eq_true rfl) d_MO_isWanted_2 ⟨Nat.zero_le _, Nat.zero_le _⟩ (fun H locs hP hS => ?_)
  refine lv_istore_n (lv' := [(2, .int q1.1), (0, .ref (a 0)), (1, .int x1)]) hx hb d_MO_isWanted_5 rfl hl (by decide) rfl (fun ls hl => ?_)
  refine lv_iload_n hx hb d_MO_isWanted_6 rfl (lv_at hl 0 rfl) ?_
  refine lv_if_lt (tgt := 14) hx hb d_MO_isWanted_7 (by decide) (fun c3 => ?_) (fun c3 => ?_)
  · replace hf := (if_pos c3).symm.trans hf
    refine lv_aload_n hx hb d_MO_isWanted_14 rfl (lv_at hl 1 rfl) ?_
    refine lv_iload_n hx hb d_MO_isWanted_15 rfl (lv_at hl 2 rfl) ?_
    refine bdK hf (fun q4 h5 hf => ?_)
    refine rc_Vi (As := [.int x1]) (rest := []) (b := a 0) (stM_g t) F (c_MO_blockEnd l ha x1 q1.2 q4 h5) (cwV 1 hg gc_MO_121 rfl rfl rfl hs_MO_blockEnd ⟨Nat.le_of_ble_eq_true rfl, Nat.le_of_ble_eq_true rfl⟩) hK hT hP hS (va_recv hK hP (ci := 6) (q0 := 0) rfl rfl) rfl hl.1 rfl (Nat.le_of_ble_eq_true rfl) d_MO_isWanted_16 ⟨Nat.zero_le _, Nat.zero_le _⟩ (fun H locs hP hS => ?_)
    exact k_MO_isWanted_19 ha F hr hlk hK hT x1 q1.1 q4.1 q4.2 q hf _ _ hP hS ls (lv_sub hl [1, 2, 0] rfl)
  · replace hf := (if_neg c3).symm.trans hf
    refine lv_iload_n hx hb d_MO_isWanted_10 rfl (lv_at hl 0 rfl) ?_
    refine lv_goto (tgt := 19) hx hb d_MO_isWanted_11 (by decide) ?_
    exact k_MO_isWanted_19 ha F hr hlk hK hT x1 q1.1 q1.1 q1.2 q hf _ _ hP hS ls (lv_sub hl [1, 2, 0] rfl)
set_option maxHeartbeats 4000000 in
set_option maxRecDepth 100000 in
theorem c_MO_isWanted (l : Launch) {D : va_G} {a t : Nat → Nat} {cI cZ : ClassId} (ha : aMC a) (x1 : Int32) (σ : SS) (q : Int32 × SS) (hf : f_MO_isWanted x1 σ = some q) : Met l y_MO_isWanted ws_MO_isWanted { frames := 3, cells := 0, slots := 0, locals := 67 } (va_Pc [.ref (a 0), .int x1] (pW D (wM a cI cZ) [(cI, .int), (cZ, .boolean)] (stM t) (aM a) σ)) (va_Qi (fun r u => r = q.1 ∧ u = q.2) (pW D (wM a cI cZ) [(cI, .int), (cZ, .boolean)] (stM t) (aM a)) (aM a)) 0 0 (aM a) := by
  refine Met.ofW (cc := b_MO_isWanted) (maxL := 6) (ret := some .boolean) (by decide) rfl ?_
  intro p e s m args below meth c s₁ B hml hv
  obtain ⟨rfl, hP, hK, hT⟩ := hv
  have hl := lv_entry ([.ref (a 0), .int x1]) (n := 6) (Nat.le_of_ble_eq_true rfl)
  rw [lg_entry_eq]
  generalize (lg_sl ([.ref (a 0), .int x1]) ++ List.replicate (6 - (lg_sl ([.ref (a 0), .int x1])).length) Slot.unset).toArray = ls at hl ⊢
  exact e_MO_isWanted ha ⟨B.exec, B.bytes, hml, findClass_of_methodNamed B.named, fun w h => atoms_spec (ws := ws_MO_isWanted) B.pre w (List.mem_cons_of_mem _ h)⟩ B.returns B.notSynchronized hK hT x1 σ q hf s.heap [] hP va_S.rf ls hl
theorem d_MO_work_0 : decode b_MO_work 0 = .ok (.aload_n 0, 1) := by decide +kernel
theorem d_MO_work_1 : decode b_MO_work 1 = .ok (.getfield 83, 3) := by decide +kernel
theorem d_MO_work_4 : decode b_MO_work 4 = .ok (.ifCond .eq 4, 3) := by decide +kernel
theorem d_MO_work_7 : decode b_MO_work 7 = .ok (.return_, 1) := by decide +kernel
theorem d_MO_work_8 : decode b_MO_work 8 = .ok (.aload_n 0, 1) := by decide +kernel
theorem d_MO_work_9 : decode b_MO_work 9 = .ok (.iconst 1, 1) := by decide +kernel
theorem d_MO_work_10 : decode b_MO_work 10 = .ok (.putfield 83, 3) := by decide +kernel
theorem d_MO_work_13 : decode b_MO_work 13 = .ok (.aload_n 0, 1) := by decide +kernel
theorem d_MO_work_14 : decode b_MO_work 14 = .ok (.invokevirtual 155, 3) := by decide +kernel
theorem d_MO_work_17 : decode b_MO_work 17 = .ok (.aload_n 0, 1) := by decide +kernel
theorem d_MO_work_18 : decode b_MO_work 18 = .ok (.invokevirtual 158, 3) := by decide +kernel
theorem d_MO_work_21 : decode b_MO_work 21 = .ok (.iconst 0, 1) := by decide +kernel
theorem d_MO_work_22 : decode b_MO_work 22 = .ok (.istore_n 1, 1) := by decide +kernel
theorem d_MO_work_23 : decode b_MO_work 23 = .ok (.iload_n 1, 1) := by decide +kernel
theorem d_MO_work_24 : decode b_MO_work 24 = .ok (.aload_n 0, 1) := by decide +kernel
theorem d_MO_work_25 : decode b_MO_work 25 = .ok (.getfield 87, 3) := by decide +kernel
theorem d_MO_work_28 : decode b_MO_work 28 = .ok (.if_icmp .ge 14, 3) := by decide +kernel
theorem d_MO_work_31 : decode b_MO_work 31 = .ok (.aload_n 0, 1) := by decide +kernel
theorem d_MO_work_32 : decode b_MO_work 32 = .ok (.iload_n 1, 1) := by decide +kernel
theorem d_MO_work_33 : decode b_MO_work 33 = .ok (.invokevirtual 161, 3) := by decide +kernel
theorem d_MO_work_36 : decode b_MO_work 36 = .ok (.iinc 1 1, 3) := by decide +kernel
theorem d_MO_work_39 : decode b_MO_work 39 = .ok (.goto (-16), 3) := by decide +kernel
theorem d_MO_work_42 : decode b_MO_work 42 = .ok (.aload_n 0, 1) := by decide +kernel
theorem d_MO_work_43 : decode b_MO_work 43 = .ok (.iconst 0, 1) := by decide +kernel
theorem d_MO_work_44 : decode b_MO_work 44 = .ok (.putfield 141, 3) := by decide +kernel
theorem d_MO_work_47 : decode b_MO_work 47 = .ok (.iconst 0, 1) := by decide +kernel
theorem d_MO_work_48 : decode b_MO_work 48 = .ok (.istore_n 1, 1) := by decide +kernel
theorem d_MO_work_49 : decode b_MO_work 49 = .ok (.iload_n 1, 1) := by decide +kernel
theorem d_MO_work_50 : decode b_MO_work 50 = .ok (.aload_n 0, 1) := by decide +kernel
theorem d_MO_work_51 : decode b_MO_work 51 = .ok (.getfield 87, 3) := by decide +kernel
theorem d_MO_work_54 : decode b_MO_work 54 = .ok (.if_icmp .ge 76, 3) := by decide +kernel
theorem d_MO_work_57 : decode b_MO_work 57 = .ok (.aload_n 0, 1) := by decide +kernel
theorem d_MO_work_58 : decode b_MO_work 58 = .ok (.getfield 53, 3) := by decide +kernel
theorem d_MO_work_61 : decode b_MO_work 61 = .ok (.iload_n 1, 1) := by decide +kernel
theorem d_MO_work_62 : decode b_MO_work 62 = .ok (.aload_n 0, 1) := by decide +kernel
theorem d_MO_work_63 : decode b_MO_work 63 = .ok (.getfield 141, 3) := by decide +kernel
theorem d_MO_work_66 : decode b_MO_work 66 = .ok (.iastore, 1) := by decide +kernel
theorem d_MO_work_67 : decode b_MO_work 67 = .ok (.aload_n 0, 1) := by decide +kernel
theorem d_MO_work_68 : decode b_MO_work 68 = .ok (.getfield 29, 3) := by decide +kernel
theorem d_MO_work_71 : decode b_MO_work 71 = .ok (.iload_n 1, 1) := by decide +kernel
theorem d_MO_work_72 : decode b_MO_work 72 = .ok (.iaload, 1) := by decide +kernel
theorem d_MO_work_73 : decode b_MO_work 73 = .ok (.ifCond .ge 51, 3) := by decide +kernel
theorem d_MO_work_76 : decode b_MO_work 76 = .ok (.aload_n 0, 1) := by decide +kernel
theorem d_MO_work_77 : decode b_MO_work 77 = .ok (.iload_n 1, 1) := by decide +kernel
theorem d_MO_work_78 : decode b_MO_work 78 = .ok (.invokevirtual 164, 3) := by decide +kernel
theorem d_MO_work_81 : decode b_MO_work 81 = .ok (.aload_n 0, 1) := by decide +kernel
theorem d_MO_work_82 : decode b_MO_work 82 = .ok (.iload_n 1, 1) := by decide +kernel
theorem d_MO_work_83 : decode b_MO_work 83 = .ok (.invokevirtual 98, 3) := by decide +kernel
theorem d_MO_work_86 : decode b_MO_work 86 = .ok (.ifCond .eq 38, 3) := by decide +kernel
theorem d_MO_work_89 : decode b_MO_work 89 = .ok (.aload_n 0, 1) := by decide +kernel
theorem d_MO_work_90 : decode b_MO_work 90 = .ok (.aload_n 0, 1) := by decide +kernel
theorem d_MO_work_91 : decode b_MO_work 91 = .ok (.iload_n 1, 1) := by decide +kernel
theorem d_MO_work_92 : decode b_MO_work 92 = .ok (.invokevirtual 167, 3) := by decide +kernel
theorem d_MO_work_95 : decode b_MO_work 95 = .ok (.ifCond .eq 7, 3) := by decide +kernel
theorem d_MO_work_98 : decode b_MO_work 98 = .ok (.iconst 2, 1) := by decide +kernel
theorem d_MO_work_99 : decode b_MO_work 99 = .ok (.goto 4, 3) := by decide +kernel
theorem d_MO_work_102 : decode b_MO_work 102 = .ok (.iconst 3, 1) := by decide +kernel
theorem d_MO_work_103 : decode b_MO_work 103 = .ok (.aload_n 0, 1) := by decide +kernel
theorem d_MO_work_104 : decode b_MO_work 104 = .ok (.iload_n 1, 1) := by decide +kernel
theorem d_MO_work_105 : decode b_MO_work 105 = .ok (.invokevirtual 167, 3) := by decide +kernel
theorem d_MO_work_108 : decode b_MO_work 108 = .ok (.ifCond .eq 12, 3) := by decide +kernel
theorem d_MO_work_111 : decode b_MO_work 111 = .ok (.aload_n 0, 1) := by decide +kernel
theorem d_MO_work_112 : decode b_MO_work 112 = .ok (.getfield 13, 3) := by decide +kernel
theorem d_MO_work_115 : decode b_MO_work 115 = .ok (.iload_n 1, 1) := by decide +kernel
theorem d_MO_work_116 : decode b_MO_work 116 = .ok (.iaload, 1) := by decide +kernel
theorem d_MO_work_117 : decode b_MO_work 117 = .ok (.goto 4, 3) := by decide +kernel
theorem d_MO_work_120 : decode b_MO_work 120 = .ok (.iconst 0, 1) := by decide +kernel
theorem d_MO_work_121 : decode b_MO_work 121 = .ok (.invokevirtual 144, 3) := by decide +kernel
theorem d_MO_work_124 : decode b_MO_work 124 = .ok (.iinc 1 1, 3) := by decide +kernel
theorem d_MO_work_127 : decode b_MO_work 127 = .ok (.goto (-78), 3) := by decide +kernel
theorem d_MO_work_130 : decode b_MO_work 130 = .ok (.aload_n 0, 1) := by decide +kernel
theorem d_MO_work_131 : decode b_MO_work 131 = .ok (.getfield 53, 3) := by decide +kernel
theorem d_MO_work_134 : decode b_MO_work 134 = .ok (.aload_n 0, 1) := by decide +kernel
theorem d_MO_work_135 : decode b_MO_work 135 = .ok (.getfield 87, 3) := by decide +kernel
theorem d_MO_work_138 : decode b_MO_work 138 = .ok (.aload_n 0, 1) := by decide +kernel
theorem d_MO_work_139 : decode b_MO_work 139 = .ok (.getfield 141, 3) := by decide +kernel
theorem d_MO_work_142 : decode b_MO_work 142 = .ok (.iastore, 1) := by decide +kernel
theorem d_MO_work_143 : decode b_MO_work 143 = .ok (.aload_n 0, 1) := by decide +kernel
theorem d_MO_work_144 : decode b_MO_work 144 = .ok (.bipush 14, 2) := by decide +kernel
theorem d_MO_work_146 : decode b_MO_work 146 = .ok (.iconst 0, 1) := by decide +kernel
theorem d_MO_work_147 : decode b_MO_work 147 = .ok (.invokevirtual 144, 3) := by decide +kernel
theorem d_MO_work_150 : decode b_MO_work 150 = .ok (.iconst 0, 1) := by decide +kernel
theorem d_MO_work_151 : decode b_MO_work 151 = .ok (.istore_n 1, 1) := by decide +kernel
theorem d_MO_work_152 : decode b_MO_work 152 = .ok (.iload_n 1, 1) := by decide +kernel
theorem d_MO_work_153 : decode b_MO_work 153 = .ok (.aload_n 0, 1) := by decide +kernel
theorem d_MO_work_154 : decode b_MO_work 154 = .ok (.getfield 141, 3) := by decide +kernel
theorem d_MO_work_157 : decode b_MO_work 157 = .ok (.if_icmp .ge 62, 3) := by decide +kernel
theorem d_MO_work_160 : decode b_MO_work 160 = .ok (.aload_n 0, 1) := by decide +kernel
theorem d_MO_work_161 : decode b_MO_work 161 = .ok (.getfield 47, 3) := by decide +kernel
theorem d_MO_work_164 : decode b_MO_work 164 = .ok (.iload_n 1, 1) := by decide +kernel
theorem d_MO_work_165 : decode b_MO_work 165 = .ok (.iaload, 1) := by decide +kernel
theorem d_MO_work_166 : decode b_MO_work 166 = .ok (.bipush 12, 2) := by decide +kernel
theorem d_MO_work_168 : decode b_MO_work 168 = .ok (.bipush 13, 2) := by decide +kernel
theorem d_MO_work_170 : decode b_MO_work 170 = .ok (.invokestatic 75, 3) := by decide +kernel
theorem d_MO_work_173 : decode b_MO_work 173 = .ok (.ifCond .eq 40, 3) := by decide +kernel
theorem d_MO_work_176 : decode b_MO_work 176 = .ok (.aload_n 0, 1) := by decide +kernel
theorem d_MO_work_177 : decode b_MO_work 177 = .ok (.getfield 50, 3) := by decide +kernel
theorem d_MO_work_180 : decode b_MO_work 180 = .ok (.iload_n 1, 1) := by decide +kernel
theorem d_MO_work_181 : decode b_MO_work 181 = .ok (.aload_n 0, 1) := by decide +kernel
theorem d_MO_work_182 : decode b_MO_work 182 = .ok (.getfield 53, 3) := by decide +kernel
theorem d_MO_work_185 : decode b_MO_work 185 = .ok (.aload_n 0, 1) := by decide +kernel
theorem d_MO_work_186 : decode b_MO_work 186 = .ok (.getfield 50, 3) := by decide +kernel
theorem d_MO_work_189 : decode b_MO_work 189 = .ok (.iload_n 1, 1) := by decide +kernel
theorem d_MO_work_190 : decode b_MO_work 190 = .ok (.iaload, 1) := by decide +kernel
theorem d_MO_work_191 : decode b_MO_work 191 = .ok (.aload_n 0, 1) := by decide +kernel
theorem d_MO_work_192 : decode b_MO_work 192 = .ok (.getfield 87, 3) := by decide +kernel
theorem d_MO_work_195 : decode b_MO_work 195 = .ok (.if_icmp .ge 12, 3) := by decide +kernel
theorem d_MO_work_198 : decode b_MO_work 198 = .ok (.aload_n 0, 1) := by decide +kernel
theorem d_MO_work_199 : decode b_MO_work 199 = .ok (.getfield 50, 3) := by decide +kernel
theorem d_MO_work_202 : decode b_MO_work 202 = .ok (.iload_n 1, 1) := by decide +kernel
theorem d_MO_work_203 : decode b_MO_work 203 = .ok (.iaload, 1) := by decide +kernel
theorem d_MO_work_204 : decode b_MO_work 204 = .ok (.goto 7, 3) := by decide +kernel
theorem d_MO_work_207 : decode b_MO_work 207 = .ok (.aload_n 0, 1) := by decide +kernel
theorem d_MO_work_208 : decode b_MO_work 208 = .ok (.getfield 87, 3) := by decide +kernel
theorem d_MO_work_211 : decode b_MO_work 211 = .ok (.iaload, 1) := by decide +kernel
theorem d_MO_work_212 : decode b_MO_work 212 = .ok (.iastore, 1) := by decide +kernel
theorem d_MO_work_213 : decode b_MO_work 213 = .ok (.iinc 1 1, 3) := by decide +kernel
theorem d_MO_work_216 : decode b_MO_work 216 = .ok (.goto (-64), 3) := by decide +kernel
theorem d_MO_work_219 : decode b_MO_work 219 = .ok (.return_, 1) := by decide +kernel
theorem gc_MO_167 : GoodIn gt (wsV R_MO 167 R_MO y_MO_isWanted ws_MO_isWanted) := gd_V gw_779 gw_781 gs_56 gw_7 gw_782
theorem gc_MO_164 : GoodIn gt (wsV R_MO 164 R_MO y_MO_writeTree ws_MO_writeTree) := gd_V gw_763 gw_765 gs_52 gw_7 gw_766
theorem gc_MO_161 : GoodIn gt (wsV R_MO 161 R_MO y_MO_settle ws_MO_settle) := gd_V gw_731 gw_733 gs_44 gw_7 gw_734
theorem gc_MO_155 : GoodIn gt (wsV R_MO 155 R_MO y_MO_findBlocks ws_MO_findBlocks) := gd_V gw_699 gw_701 gs_36 gw_7 gw_702
theorem gc_MO_158 : GoodIn gt (wsV R_MO 158 R_MO y_MO_findAlive ws_MO_findAlive) := gd_V gw_707 gw_709 gs_38 gw_7 gw_710
def b_MO_work_152 : Nat → Int32 → SS → Option (SS)
  | 0, _, _ => none
  | n + 1, x1, σ =>
    (if (σ 23 0) ≤ x1 then some σ else (ld (σ 12) 600 x1).bind fun v2 => (f_MO_in v2 (12 : Int32) (13 : Int32) σ).bind fun q4 => (if q4.1 = 0 then b_MO_work_152 n (x1 + (1 : Int32)) q4.2 else (ld (q4.2 13) 600 x1).bind fun v7 => (if (q4.2 21 0) ≤ v7 then (ld (q4.2 14) 41 (q4.2 21 0)).bind fun v10 => (sto q4.2 13 600 x1 v10).bind fun σ12 => b_MO_work_152 n (x1 + (1 : Int32)) σ12 else (ld (q4.2 13) 600 x1).bind fun v14 => (ld (q4.2 14) 41 v14).bind fun v16 => (sto q4.2 13 600 x1 v16).bind fun σ18 => b_MO_work_152 n (x1 + (1 : Int32)) σ18)))
set_option maxHeartbeats 4000000 in
set_option maxRecDepth 100000 in
theorem k_MO_work_152 {p : Program} {l : Launch} {e : Env} {s : State} {m : MethodId} {args : Array Value} {below : List Frame} {meth : Method} {c : Code} {D : va_G} {a t : Nat → Nat} {cI cZ : ClassId} (ha : aMC a) (F : CallFix p m c b_MO_work 2 s args gt R_MO) (hr : meth.sig.returnType = none) (hlk : meth.locks = false) (hK : va_K D vwCl [(cI, .int), (cZ, .boolean)] s) (hT : stM t (aM a) s s.heap) :
    ∀ (n : Nat) (x1 : Int32) (σ : SS) (q : SS), b_MO_work_152 n x1 σ = some q → ∀ (H : Heap) (locs : List Loc), va_P D vwCl ((wM a cI cZ) σ) H → va_S (aM a) s.heap H locs → ∀ (ls : Array Slot), lv_has ls 2 [(0, .ref (a 0)), (1, .int x1)] → W p l e { frames := 5, cells := 0, slots := 0, locals := 119 } s m args below meth c H locs 0 0 (MQ below (va_Qv (fun u => u = q) (pW D (wM a cI cZ) [(cI, .int), (cZ, .boolean)] (stM t) (aM a)) (aM a)) args s 0 0 (aM a)) (F0 m 152 ls []) := by
  obtain ⟨hx, hb, hml, hown, hg⟩ := id F
  intro n
  induction n with
  | zero =>
    intro x1 σ q hf
    rw [b_MO_work_152] at hf
    cases hf
  | succ n ih =>
    intro x1 σ q hf H locs hP hS ls hl
    rw [b_MO_work_152] at hf
    refine lv_iload_n hx hb d_MO_work_152 rfl (lv_at hl 1 rfl) ?_
    refine lv_aload_n hx hb d_MO_work_153 rfl (lv_at hl 0 rfl) ?_
    refine va_get (D := D) (ci := 6) (v := .int (σ 23 0)) (C := R_MO) (T := T_MO) (N := 26) hx hb hg in_MO hown hK hP 0 rfl rfl 15 (by decide) (hg _ gw_598) (fun _ h9 => h9) rfl d_MO_work_154 ?_
    refine lv_icmp_ge (tgt := 219) hx hb d_MO_work_157 (by decide) (fun c1 => ?_) (fun c1 => ?_)
    · replace hf := (if_pos c1).symm.trans hf
      exact rr_v hx hb hr hlk (stM_g t) hK hT hP hS hf d_MO_work_219
    · replace hf := (if_neg c1).symm.trans hf
      refine lv_aload_n hx hb d_MO_work_160 rfl (lv_at hl 0 rfl) ?_
      refine va_get (D := D) (ci := 6) (v := .ref (a 13)) (C := R_MO) (T := T_MO) (N := 26) hx hb hg in_MO hown hK hP 0 rfl rfl 16 (by decide) (hg _ gw_599) (fun _ h9 => h9) rfl d_MO_work_161 ?_
      refine lv_iload_n hx hb d_MO_work_164 rfl (lv_at hl 1 rfl) ?_
      refine bdK hf (fun v2 h3 hf => ?_)
      refine r_iald hx hb hK hP 13 0 rfl rfl h3 d_MO_work_165 ?_
      refine lv_bipush (v := (12 : Int32)) hx hb d_MO_work_166 (by decide) ?_
      refine lv_bipush (v := (13 : Int32)) hx hb d_MO_work_168 (by decide) ?_
      refine bdK hf (fun q4 h5 hf => ?_)
      refine rc_Si (As := [.int v2, .int (12 : Int32), .int (13 : Int32)]) (rest := []) (stM_g t) F (c_MO_in l ha v2 (12 : Int32) (13 : Int32) σ q4 h5) (cwS 3 hg gc_MO_75 rfl rfl rfl hs_MO_in ⟨Nat.le_of_ble_eq_true rfl, Nat.le_of_ble_eq_true rfl⟩) hK hT hP hS rfl hl.1 rfl (Nat.le_of_ble_eq_true rfl) d_MO_work_170 ⟨Nat.zero_le _, Nat.zero_le _⟩ (fun H locs hP hS => ?_)
      refine lv_if_eq (tgt := 213) hx hb d_MO_work_173 (by decide) (fun c6 => ?_) (fun c6 => ?_)
      · replace hf := (if_pos c6).symm.trans hf
        refine lv_iinc (v := (x1 + (1 : Int32))) (lv' := [(1, .int (x1 + (1 : Int32))), (0, .ref (a 0))]) hx hb d_MO_work_213 hl (k := 1) rfl (by rfl) (by decide) rfl (fun ls hl => ?_)
        refine lv_goto (tgt := 152) hx hb d_MO_work_216 (by decide) ?_
        exact ih (x1 + (1 : Int32)) q4.2 q hf _ _ hP hS ls (lv_sub hl [1, 0] rfl)
      · replace hf := (if_neg c6).symm.trans hf
        refine lv_aload_n hx hb d_MO_work_176 rfl (lv_at hl 0 rfl) ?_
        refine va_get (D := D) (ci := 6) (v := .ref (a 14)) (C := R_MO) (T := T_MO) (N := 26) hx hb hg in_MO hown hK hP 0 rfl rfl 17 (by decide) (hg _ gw_600) (fun _ h9 => h9) rfl d_MO_work_177 ?_
        refine lv_iload_n hx hb d_MO_work_180 rfl (lv_at hl 1 rfl) ?_
        refine lv_aload_n hx hb d_MO_work_181 rfl (lv_at hl 0 rfl) ?_
        refine va_get (D := D) (ci := 6) (v := .ref (a 15)) (C := R_MO) (T := T_MO) (N := 26) hx hb hg in_MO hown hK hP 0 rfl rfl 18 (by decide) (hg _ gw_601) (fun _ h9 => h9) rfl d_MO_work_182 ?_
        refine lv_aload_n hx hb d_MO_work_185 rfl (lv_at hl 0 rfl) ?_
        refine va_get (D := D) (ci := 6) (v := .ref (a 14)) (C := R_MO) (T := T_MO) (N := 26) hx hb hg in_MO hown hK hP 0 rfl rfl 17 (by decide) (hg _ gw_600) (fun _ h9 => h9) rfl d_MO_work_186 ?_
        refine lv_iload_n hx hb d_MO_work_189 rfl (lv_at hl 1 rfl) ?_
        refine bdK hf (fun v7 h8 hf => ?_)
        refine r_iald hx hb hK hP 14 0 rfl rfl h8 d_MO_work_190 ?_
        refine lv_aload_n hx hb d_MO_work_191 rfl (lv_at hl 0 rfl) ?_
        refine va_get (D := D) (ci := 6) (v := .int (q4.2 21 0)) (C := R_MO) (T := T_MO) (N := 26) hx hb hg in_MO hown hK hP 0 rfl rfl 1 (by decide) (hg _ gw_584) (fun _ h9 => h9) rfl d_MO_work_192 ?_
        refine lv_icmp_ge (tgt := 207) hx hb d_MO_work_195 (by decide) (fun c9 => ?_) (fun c9 => ?_)
        · replace hf := (if_pos c9).symm.trans hf
          refine lv_aload_n hx hb d_MO_work_207 rfl (lv_at hl 0 rfl) ?_
          refine va_get (D := D) (ci := 6) (v := .int (q4.2 21 0)) (C := R_MO) (T := T_MO) (N := 26) hx hb hg in_MO hown hK hP 0 rfl rfl 1 (by decide) (hg _ gw_584) (fun _ h9 => h9) rfl d_MO_work_208 ?_
          refine bdK hf (fun v10 h11 hf => ?_)
          refine r_iald hx hb hK hP 15 0 rfl rfl h11 d_MO_work_211 ?_
          refine bdK hf (fun σ12 h13 hf => ?_)
          refine r_iast (wf := (wM a cI cZ)) hx hb hK hP (dM ha q4.2) hS 14 0 rfl rfl (fun _ _ => rfl) h13 d_MO_work_212 (fun H locs hP hS => ?_)
          refine lv_iinc (v := (x1 + (1 : Int32))) (lv' := [(1, .int (x1 + (1 : Int32))), (0, .ref (a 0))]) hx hb d_MO_work_213 hl (k := 1) rfl (by rfl) (by decide) rfl (fun ls hl => ?_)
          refine lv_goto (tgt := 152) hx hb d_MO_work_216 (by decide) ?_
          exact ih (x1 + (1 : Int32)) σ12 q hf _ _ hP hS ls (lv_sub hl [1, 0] rfl)
        · replace hf := (if_neg c9).symm.trans hf
          refine lv_aload_n hx hb d_MO_work_198 rfl (lv_at hl 0 rfl) ?_
          refine va_get (D := D) (ci := 6) (v := .ref (a 14)) (C := R_MO) (T := T_MO) (N := 26) hx hb hg in_MO hown hK hP 0 rfl rfl 17 (by decide) (hg _ gw_600) (fun _ h9 => h9) rfl d_MO_work_199 ?_
          refine lv_iload_n hx hb d_MO_work_202 rfl (lv_at hl 1 rfl) ?_
          refine bdK hf (fun v14 h15 hf => ?_)
          refine r_iald hx hb hK hP 14 0 rfl rfl h15 d_MO_work_203 ?_
          refine lv_goto (tgt := 211) hx hb d_MO_work_204 (by decide) ?_
          refine bdK hf (fun v16 h17 hf => ?_)
          refine r_iald hx hb hK hP 15 0 rfl rfl h17 d_MO_work_211 ?_
          refine bdK hf (fun σ18 h19 hf => ?_)
          refine r_iast (wf := (wM a cI cZ)) hx hb hK hP (dM ha q4.2) hS 14 0 rfl rfl (fun _ _ => rfl) h19 d_MO_work_212 (fun H locs hP hS => ?_)
          refine lv_iinc (v := (x1 + (1 : Int32))) (lv' := [(1, .int (x1 + (1 : Int32))), (0, .ref (a 0))]) hx hb d_MO_work_213 hl (k := 1) rfl (by rfl) (by decide) rfl (fun ls hl => ?_)
          refine lv_goto (tgt := 152) hx hb d_MO_work_216 (by decide) ?_
          exact ih (x1 + (1 : Int32)) σ18 q hf _ _ hP hS ls (lv_sub hl [1, 0] rfl)
def b_MO_work_103 (r49 : Int32 → SS → Option (SS)) (x1 y1 : Int32) (σ : SS) : Option (SS) :=
  (f_MO_isWanted x1 σ).bind fun q1 => (if q1.1 = 0 then (f_MO_emit y1 (0 : Int32) q1.2).bind fun σ4 => r49 (x1 + (1 : Int32)) σ4 else (ld (q1.2 1) 40 x1).bind fun v6 => (f_MO_emit y1 v6 q1.2).bind fun σ8 => r49 (x1 + (1 : Int32)) σ8)
set_option maxHeartbeats 4000000 in
set_option maxRecDepth 100000 in
theorem k_MO_work_103 {p : Program} {l : Launch} {e : Env} {s : State} {m : MethodId} {args : Array Value} {below : List Frame} {meth : Method} {c : Code} {D : va_G} {a t : Nat → Nat} {cI cZ : ClassId} (ha : aMC a) (F : CallFix p m c b_MO_work 2 s args gt R_MO) (hr : meth.sig.returnType = none) (hlk : meth.locks = false) (hK : va_K D vwCl [(cI, .int), (cZ, .boolean)] s) (hT : stM t (aM a) s s.heap) (r49 : Int32 → SS → Option (SS)) (hr49 : ∀ (x1 : Int32) (σ : SS) (q : SS), r49 x1 σ = some q → ∀ (H : Heap) (locs : List Loc), va_P D vwCl ((wM a cI cZ) σ) H → va_S (aM a) s.heap H locs → ∀ (ls : Array Slot), lv_has ls 2 [(0, .ref (a 0)), (1, .int x1)] → W p l e { frames := 5, cells := 0, slots := 0, locals := 119 } s m args below meth c H locs 0 0 (MQ below (va_Qv (fun u => u = q) (pW D (wM a cI cZ) [(cI, .int), (cZ, .boolean)] (stM t) (aM a)) (aM a)) args s 0 0 (aM a)) (F0 m 49 ls [])) :
    ∀ (x1 y1 : Int32) (σ : SS) (q : SS), b_MO_work_103 r49 x1 y1 σ = some q → ∀ (H : Heap) (locs : List Loc), va_P D vwCl ((wM a cI cZ) σ) H → va_S (aM a) s.heap H locs → ∀ (ls : Array Slot), lv_has ls 2 [(0, .ref (a 0)), (1, .int x1)] → W p l e { frames := 5, cells := 0, slots := 0, locals := 119 } s m args below meth c H locs 0 0 (MQ below (va_Qv (fun u => u = q) (pW D (wM a cI cZ) [(cI, .int), (cZ, .boolean)] (stM t) (aM a)) (aM a)) args s 0 0 (aM a)) (F0 m 103 ls [.int y1, .ref (a 0)]) := by
  obtain ⟨hx, hb, hml, hown, hg⟩ := id F
  intro x1 y1 σ q hf H locs hP hS ls hl
  unfold b_MO_work_103 at hf
  refine lv_aload_n hx hb d_MO_work_103 rfl (lv_at hl 0 rfl) ?_
  refine lv_iload_n hx hb d_MO_work_104 rfl (lv_at hl 1 rfl) ?_
  refine bdK hf (fun q1 h2 hf => ?_)
  refine rc_Vi (As := [.int x1]) (rest := [.int y1, .ref (a 0)]) (b := a 0) (stM_g t) F (c_MO_isWanted l ha x1 σ q1 h2) (cwV 1 hg gc_MO_167 rfl rfl rfl hs_MO_isWanted ⟨Nat.le_of_ble_eq_true rfl, Nat.le_of_ble_eq_true rfl⟩) hK hT hP hS (va_recv hK hP (ci := 6) (q0 := 0) rfl rfl) rfl hl.1 rfl (Nat.le_of_ble_eq_true rfl) d_MO_work_105 ⟨Nat.zero_le _, Nat.zero_le _⟩ (fun H locs hP hS => ?_)
  refine lv_if_eq (tgt := 120) hx hb d_MO_work_108 (by decide) (fun c3 => ?_) (fun c3 => ?_)
  · replace hf := (if_pos c3).symm.trans hf
    refine lv_iconst (v := (0 : Int32)) hx hb d_MO_work_120 (by decide) ?_
    refine bdK hf (fun σ4 h5 hf => ?_)
    refine rc_Vv (As := [.int y1, .int (0 : Int32)]) (rest := []) (b := a 0) (stM_g t) F (c_MO_emit l ha y1 (0 : Int32) q1.2 σ4 h5) (cwV 2 hg gc_MO_144 rfl rfl rfl hs_MO_emit ⟨Nat.le_of_ble_eq_true rfl, Nat.le_of_ble_eq_true rfl⟩) hK hT hP hS (va_recv hK hP (ci := 6) (q0 := 0) rfl rfl) rfl hl.1 rfl (Nat.le_of_ble_eq_true rfl) d_MO_work_121 ⟨Nat.zero_le _, Nat.zero_le _⟩ (fun H locs hP hS => ?_)
    refine lv_iinc (v := (x1 + (1 : Int32))) (lv' := [(1, .int (x1 + (1 : Int32))), (0, .ref (a 0))]) hx hb d_MO_work_124 hl (k := 1) rfl (by rfl) (by decide) rfl (fun ls hl => ?_)
    refine lv_goto (tgt := 49) hx hb d_MO_work_127 (by decide) ?_
    exact hr49 (x1 + (1 : Int32)) σ4 q hf _ _ hP hS ls (lv_sub hl [1, 0] rfl)
  · replace hf := (if_neg c3).symm.trans hf
    refine lv_aload_n hx hb d_MO_work_111 rfl (lv_at hl 0 rfl) ?_
    refine va_get (D := D) (ci := 6) (v := .ref (a 2)) (C := R_MO) (T := T_MO) (N := 26) hx hb hg in_MO hown hK hP 0 rfl rfl 3 (by decide) (hg _ gw_586) (fun _ h9 => h9) rfl d_MO_work_112 ?_
    refine lv_iload_n hx hb d_MO_work_115 rfl (lv_at hl 1 rfl) ?_
    refine bdK hf (fun v6 h7 hf => ?_)
    refine r_iald hx hb hK hP 2 0 rfl rfl h7 d_MO_work_116 ?_
    refine lv_goto (tgt := 121) hx hb d_MO_work_117 (by decide) ?_
    refine bdK hf (fun σ8 h9 hf => ?_)
    refine rc_Vv (As := [.int y1, .int v6]) (rest := []) (b := a 0) (stM_g t) F (c_MO_emit l ha y1 v6 q1.2 σ8 h9) (cwV 2 hg gc_MO_144 rfl rfl rfl hs_MO_emit ⟨Nat.le_of_ble_eq_true rfl, Nat.le_of_ble_eq_true rfl⟩) hK hT hP hS (va_recv hK hP (ci := 6) (q0 := 0) rfl rfl) rfl hl.1 rfl (Nat.le_of_ble_eq_true rfl) d_MO_work_121 ⟨Nat.zero_le _, Nat.zero_le _⟩ (fun H locs hP hS => ?_)
    refine lv_iinc (v := (x1 + (1 : Int32))) (lv' := [(1, .int (x1 + (1 : Int32))), (0, .ref (a 0))]) hx hb d_MO_work_124 hl (k := 1) rfl (by rfl) (by decide) rfl (fun ls hl => ?_)
    refine lv_goto (tgt := 49) hx hb d_MO_work_127 (by decide) ?_
    exact hr49 (x1 + (1 : Int32)) σ8 q hf _ _ hP hS ls (lv_sub hl [1, 0] rfl)
def b_MO_work_49 : Nat → Int32 → SS → Option (SS)
  | 0, _, _ => none
  | n + 1, x1, σ =>
    (if (σ 21 0) ≤ x1 then (sto σ 14 41 (σ 21 0) (σ 23 0)).bind fun σ2 => (f_MO_emit (14 : Int32) (0 : Int32) σ2).bind fun σ4 => b_MO_work_152 FU (0 : Int32) σ4 else (sto σ 14 41 x1 (σ 23 0)).bind fun σ6 => (ld (σ6 6) 40 x1).bind fun v8 => (if 0 ≤ v8 then b_MO_work_49 n (x1 + (1 : Int32)) σ6 else (f_MO_writeTree x1 σ6).bind fun σ11 => (f_MO_isWriter x1 σ11).bind fun q13 => (if q13.1 = 0 then b_MO_work_49 n (x1 + (1 : Int32)) q13.2 else (f_MO_isWanted x1 q13.2).bind fun q16 => (if q16.1 = 0 then b_MO_work_103 (b_MO_work_49 n) x1 (3 : Int32) q16.2 else b_MO_work_103 (b_MO_work_49 n) x1 (2 : Int32) q16.2))))
set_option maxHeartbeats 4000000 in
set_option maxRecDepth 100000 in
theorem k_MO_work_49 {p : Program} {l : Launch} {e : Env} {s : State} {m : MethodId} {args : Array Value} {below : List Frame} {meth : Method} {c : Code} {D : va_G} {a t : Nat → Nat} {cI cZ : ClassId} (ha : aMC a) (F : CallFix p m c b_MO_work 2 s args gt R_MO) (hr : meth.sig.returnType = none) (hlk : meth.locks = false) (hK : va_K D vwCl [(cI, .int), (cZ, .boolean)] s) (hT : stM t (aM a) s s.heap) :
    ∀ (n : Nat) (x1 : Int32) (σ : SS) (q : SS), b_MO_work_49 n x1 σ = some q → ∀ (H : Heap) (locs : List Loc), va_P D vwCl ((wM a cI cZ) σ) H → va_S (aM a) s.heap H locs → ∀ (ls : Array Slot), lv_has ls 2 [(0, .ref (a 0)), (1, .int x1)] → W p l e { frames := 5, cells := 0, slots := 0, locals := 119 } s m args below meth c H locs 0 0 (MQ below (va_Qv (fun u => u = q) (pW D (wM a cI cZ) [(cI, .int), (cZ, .boolean)] (stM t) (aM a)) (aM a)) args s 0 0 (aM a)) (F0 m 49 ls []) := by
  obtain ⟨hx, hb, hml, hown, hg⟩ := id F
  intro n
  induction n with
  | zero =>
    intro x1 σ q hf
    rw [b_MO_work_49] at hf
    cases hf
  | succ n ih =>
    intro x1 σ q hf H locs hP hS ls hl
    rw [b_MO_work_49] at hf
    refine lv_iload_n hx hb d_MO_work_49 rfl (lv_at hl 1 rfl) ?_
    refine lv_aload_n hx hb d_MO_work_50 rfl (lv_at hl 0 rfl) ?_
    refine va_get (D := D) (ci := 6) (v := .int (σ 21 0)) (C := R_MO) (T := T_MO) (N := 26) hx hb hg in_MO hown hK hP 0 rfl rfl 1 (by decide) (hg _ gw_584) (fun _ h9 => h9) rfl d_MO_work_51 ?_
    refine lv_icmp_ge (tgt := 130) hx hb d_MO_work_54 (by decide) (fun c1 => ?_) (fun c1 => ?_)
    · replace hf := (if_pos c1).symm.trans hf
      refine lv_aload_n hx hb d_MO_work_130 rfl (lv_at hl 0 rfl) ?_
      refine va_get (D := D) (ci := 6) (v := .ref (a 15)) (C := R_MO) (T := T_MO) (N := 26) hx hb hg in_MO hown hK hP 0 rfl rfl 18 (by decide) (hg _ gw_601) (fun _ h9 => h9) rfl d_MO_work_131 ?_
      refine lv_aload_n hx hb d_MO_work_134 rfl (lv_at hl 0 rfl) ?_
      refine va_get (D := D) (ci := 6) (v := .int (σ 21 0)) (C := R_MO) (T := T_MO) (N := 26) hx hb hg in_MO hown hK hP 0 rfl rfl 1 (by decide) (hg _ gw_584) (fun _ h9 => h9) rfl d_MO_work_135 ?_
      refine lv_aload_n hx hb d_MO_work_138 rfl (lv_at hl 0 rfl) ?_
      refine va_get (D := D) (ci := 6) (v := .int (σ 23 0)) (C := R_MO) (T := T_MO) (N := 26) hx hb hg in_MO hown hK hP 0 rfl rfl 15 (by decide) (hg _ gw_598) (fun _ h9 => h9) rfl d_MO_work_139 ?_
      refine bdK hf (fun σ2 h3 hf => ?_)
      refine r_iast (wf := (wM a cI cZ)) hx hb hK hP (dM ha σ) hS 15 0 rfl rfl (fun _ _ => rfl) h3 d_MO_work_142 (fun H locs hP hS => ?_)
      refine lv_aload_n hx hb d_MO_work_143 rfl (lv_at hl 0 rfl) ?_
      refine lv_bipush (v := (14 : Int32)) hx hb d_MO_work_144 (by decide) ?_
      refine lv_iconst (v := (0 : Int32)) hx hb d_MO_work_146 (by decide) ?_
      refine bdK hf (fun σ4 h5 hf => ?_)
      refine rc_Vv (As := [.int (14 : Int32), .int (0 : Int32)]) (rest := []) (b := a 0) (stM_g t) F (c_MO_emit l ha (14 : Int32) (0 : Int32) σ2 σ4 h5) (cwV 2 hg gc_MO_144 rfl rfl rfl hs_MO_emit ⟨Nat.le_of_ble_eq_true rfl, Nat.le_of_ble_eq_true rfl⟩) hK hT hP hS (va_recv hK hP (ci := 6) (q0 := 0) rfl rfl) rfl hl.1 rfl (Nat.le_of_ble_eq_true rfl) d_MO_work_147 ⟨Nat.zero_le _, Nat.zero_le _⟩ (fun H locs hP hS => ?_)
      refine lv_iconst (v := (0 : Int32)) hx hb d_MO_work_150 (by decide) ?_
      refine lv_istore_n (lv' := [(1, .int (0 : Int32)), (0, .ref (a 0))]) hx hb d_MO_work_151 rfl hl (by decide) rfl (fun ls hl => ?_)
      exact k_MO_work_152 ha F hr hlk hK hT FU (0 : Int32) σ4 q hf _ _ hP hS ls (lv_sub hl [1, 0] rfl)
    · replace hf := (if_neg c1).symm.trans hf
      refine lv_aload_n hx hb d_MO_work_57 rfl (lv_at hl 0 rfl) ?_
      refine va_get (D := D) (ci := 6) (v := .ref (a 15)) (C := R_MO) (T := T_MO) (N := 26) hx hb hg in_MO hown hK hP 0 rfl rfl 18 (by decide) (hg _ gw_601) (fun _ h9 => h9) rfl d_MO_work_58 ?_
      refine lv_iload_n hx hb d_MO_work_61 rfl (lv_at hl 1 rfl) ?_
      refine lv_aload_n hx hb d_MO_work_62 rfl (lv_at hl 0 rfl) ?_
      refine va_get (D := D) (ci := 6) (v := .int (σ 23 0)) (C := R_MO) (T := T_MO) (N := 26) hx hb hg in_MO hown hK hP 0 rfl rfl 15 (by decide) (hg _ gw_598) (fun _ h9 => h9) rfl d_MO_work_63 ?_
      refine bdK hf (fun σ6 h7 hf => ?_)
      refine r_iast (wf := (wM a cI cZ)) hx hb hK hP (dM ha σ) hS 15 0 rfl rfl (fun _ _ => rfl) h7 d_MO_work_66 (fun H locs hP hS => ?_)
      refine lv_aload_n hx hb d_MO_work_67 rfl (lv_at hl 0 rfl) ?_
      refine va_get (D := D) (ci := 6) (v := .ref (a 7)) (C := R_MO) (T := T_MO) (N := 26) hx hb hg in_MO hown hK hP 0 rfl rfl 9 (by decide) (hg _ gw_592) (fun _ h9 => h9) rfl d_MO_work_68 ?_
      refine lv_iload_n hx hb d_MO_work_71 rfl (lv_at hl 1 rfl) ?_
      refine bdK hf (fun v8 h9 hf => ?_)
      refine r_iald hx hb hK hP 7 0 rfl rfl h9 d_MO_work_72 ?_
      refine lv_if_ge (tgt := 124) hx hb d_MO_work_73 (by decide) (fun c10 => ?_) (fun c10 => ?_)
      · replace hf := (if_pos c10).symm.trans hf
        refine lv_iinc (v := (x1 + (1 : Int32))) (lv' := [(1, .int (x1 + (1 : Int32))), (0, .ref (a 0))]) hx hb d_MO_work_124 hl (k := 1) rfl (by rfl) (by decide) rfl (fun ls hl => ?_)
        refine lv_goto (tgt := 49) hx hb d_MO_work_127 (by decide) ?_
        exact ih (x1 + (1 : Int32)) σ6 q hf _ _ hP hS ls (lv_sub hl [1, 0] rfl)
      · replace hf := (if_neg c10).symm.trans hf
        refine lv_aload_n hx hb d_MO_work_76 rfl (lv_at hl 0 rfl) ?_
        refine lv_iload_n hx hb d_MO_work_77 rfl (lv_at hl 1 rfl) ?_
        refine bdK hf (fun σ11 h12 hf => ?_)
        refine rc_Vv (As := [.int x1]) (rest := []) (b := a 0) (stM_g t) F (c_MO_writeTree l ha x1 σ6 σ11 h12) (cwV 1 hg gc_MO_164 rfl rfl rfl hs_MO_writeTree ⟨Nat.le_of_ble_eq_true rfl, Nat.le_of_ble_eq_true rfl⟩) hK hT hP hS (va_recv hK hP (ci := 6) (q0 := 0) rfl rfl) rfl hl.1 rfl (Nat.le_of_ble_eq_true rfl) d_MO_work_78 ⟨Nat.zero_le _, Nat.zero_le _⟩ (fun H locs hP hS => ?_)
        refine lv_aload_n hx hb d_MO_work_81 rfl (lv_at hl 0 rfl) ?_
        refine lv_iload_n hx hb d_MO_work_82 rfl (lv_at hl 1 rfl) ?_
        refine bdK hf (fun q13 h14 hf => ?_)
        refine rc_Vi (As := [.int x1]) (rest := []) (b := a 0) (stM_g t) F (c_MO_isWriter l ha x1 σ11 q13 h14) (cwV 1 hg gc_MO_98 rfl rfl rfl hs_MO_isWriter ⟨Nat.le_of_ble_eq_true rfl, Nat.le_of_ble_eq_true rfl⟩) hK hT hP hS (va_recv hK hP (ci := 6) (q0 := 0) rfl rfl) rfl hl.1 rfl (Nat.le_of_ble_eq_true rfl) d_MO_work_83 ⟨Nat.zero_le _, Nat.zero_le _⟩ (fun H locs hP hS => ?_)
        refine lv_if_eq (tgt := 124) hx hb d_MO_work_86 (by decide) (fun c15 => ?_) (fun c15 => ?_)
        · replace hf := (if_pos c15).symm.trans hf
          refine lv_iinc (v := (x1 + (1 : Int32))) (lv' := [(1, .int (x1 + (1 : Int32))), (0, .ref (a 0))]) hx hb d_MO_work_124 hl (k := 1) rfl (by rfl) (by decide) rfl (fun ls hl => ?_)
          refine lv_goto (tgt := 49) hx hb d_MO_work_127 (by decide) ?_
          exact ih (x1 + (1 : Int32)) q13.2 q hf _ _ hP hS ls (lv_sub hl [1, 0] rfl)
        · replace hf := (if_neg c15).symm.trans hf
          refine lv_aload_n hx hb d_MO_work_89 rfl (lv_at hl 0 rfl) ?_
          refine lv_aload_n hx hb d_MO_work_90 rfl (lv_at hl 0 rfl) ?_
          refine lv_iload_n hx hb d_MO_work_91 rfl (lv_at hl 1 rfl) ?_
          refine bdK hf (fun q16 h17 hf => ?_)
          refine rc_Vi (As := [.int x1]) (rest := [.ref (a 0)]) (b := a 0) (stM_g t) F (c_MO_isWanted l ha x1 q13.2 q16 h17) (cwV 1 hg gc_MO_167 rfl rfl rfl hs_MO_isWanted ⟨Nat.le_of_ble_eq_true rfl, Nat.le_of_ble_eq_true rfl⟩) hK hT hP hS (va_recv hK hP (ci := 6) (q0 := 0) rfl rfl) rfl hl.1 rfl (Nat.le_of_ble_eq_true rfl) d_MO_work_92 ⟨Nat.zero_le _, Nat.zero_le _⟩ (fun H locs hP hS => ?_)
          refine lv_if_eq (tgt := 102) hx hb d_MO_work_95 (by decide) (fun c18 => ?_) (fun c18 => ?_)
          · replace hf := (if_pos c18).symm.trans hf
            refine lv_iconst (v := (3 : Int32)) hx hb d_MO_work_102 (by decide) ?_
            exact k_MO_work_103 ha F hr hlk hK hT (b_MO_work_49 n) ih x1 (3 : Int32) q16.2 q hf _ _ hP hS ls (lv_sub hl [0, 1] rfl)
          · replace hf := (if_neg c18).symm.trans hf
            refine lv_iconst (v := (2 : Int32)) hx hb d_MO_work_98 (by decide) ?_
            refine lv_goto (tgt := 103) hx hb d_MO_work_99 (by decide) ?_
            exact k_MO_work_103 ha F hr hlk hK hT (b_MO_work_49 n) ih x1 (2 : Int32) q16.2 q hf _ _ hP hS ls (lv_sub hl [0, 1] rfl)
def b_MO_work_23 : Nat → Int32 → SS → Option (SS)
  | 0, _, _ => none
  | n + 1, x1, σ =>
    (if (σ 21 0) ≤ x1 then (sf σ 23 (0 : Int32)).bind fun σ2 => b_MO_work_49 FU (0 : Int32) σ2 else (f_MO_settle x1 σ).bind fun σ4 => b_MO_work_23 n (x1 + (1 : Int32)) σ4)
set_option maxHeartbeats 4000000 in
set_option maxRecDepth 100000 in
theorem k_MO_work_23 {p : Program} {l : Launch} {e : Env} {s : State} {m : MethodId} {args : Array Value} {below : List Frame} {meth : Method} {c : Code} {D : va_G} {a t : Nat → Nat} {cI cZ : ClassId} (ha : aMC a) (F : CallFix p m c b_MO_work 2 s args gt R_MO) (hr : meth.sig.returnType = none) (hlk : meth.locks = false) (hK : va_K D vwCl [(cI, .int), (cZ, .boolean)] s) (hT : stM t (aM a) s s.heap) :
    ∀ (n : Nat) (x1 : Int32) (σ : SS) (q : SS), b_MO_work_23 n x1 σ = some q → ∀ (H : Heap) (locs : List Loc), va_P D vwCl ((wM a cI cZ) σ) H → va_S (aM a) s.heap H locs → ∀ (ls : Array Slot), lv_has ls 2 [(0, .ref (a 0)), (1, .int x1)] → W p l e { frames := 5, cells := 0, slots := 0, locals := 119 } s m args below meth c H locs 0 0 (MQ below (va_Qv (fun u => u = q) (pW D (wM a cI cZ) [(cI, .int), (cZ, .boolean)] (stM t) (aM a)) (aM a)) args s 0 0 (aM a)) (F0 m 23 ls []) := by
  obtain ⟨hx, hb, hml, hown, hg⟩ := id F
  intro n
  induction n with
  | zero =>
    intro x1 σ q hf
    rw [b_MO_work_23] at hf
    cases hf
  | succ n ih =>
    intro x1 σ q hf H locs hP hS ls hl
    rw [b_MO_work_23] at hf
    refine lv_iload_n hx hb d_MO_work_23 rfl (lv_at hl 1 rfl) ?_
    refine lv_aload_n hx hb d_MO_work_24 rfl (lv_at hl 0 rfl) ?_
    refine va_get (D := D) (ci := 6) (v := .int (σ 21 0)) (C := R_MO) (T := T_MO) (N := 26) hx hb hg in_MO hown hK hP 0 rfl rfl 1 (by decide) (hg _ gw_584) (fun _ h9 => h9) rfl d_MO_work_25 ?_
    refine lv_icmp_ge (tgt := 42) hx hb d_MO_work_28 (by decide) (fun c1 => ?_) (fun c1 => ?_)
    · replace hf := (if_pos c1).symm.trans hf
      refine lv_aload_n hx hb d_MO_work_42 rfl (lv_at hl 0 rfl) ?_
      refine lv_iconst (v := (0 : Int32)) hx hb d_MO_work_43 (by decide) ?_
      refine bdK hf (fun σ2 h3 hf => ?_)
      refine va_put (D := D) (ci := 6) (v := .int (0 : Int32)) (ty := .int) (C := R_MO) (T := T_MO) (N := 26) hx hb hg in_MO t_MO t_MO_ok n_MO hown hK hP (dM ha σ) hS 0 rfl rfl 15 (by decide) (hg _ gw_598) (fun _ h9 => h9) rfl (by decide +kernel) rfl rfl (Nat.le_of_ble_eq_true rfl) d_MO_work_44 (fun H locs hP _ hS => ?_)
      replace hP := sf_P (wf := (wM a cI cZ)) h3 hP rfl
      refine lv_iconst (v := (0 : Int32)) hx hb d_MO_work_47 (by decide) ?_
      refine lv_istore_n (lv' := [(1, .int (0 : Int32)), (0, .ref (a 0))]) hx hb d_MO_work_48 rfl hl (by decide) rfl (fun ls hl => ?_)
      exact k_MO_work_49 ha F hr hlk hK hT FU (0 : Int32) σ2 q hf _ _ hP hS ls (lv_sub hl [1, 0] rfl)
    · replace hf := (if_neg c1).symm.trans hf
      refine lv_aload_n hx hb d_MO_work_31 rfl (lv_at hl 0 rfl) ?_
      refine lv_iload_n hx hb d_MO_work_32 rfl (lv_at hl 1 rfl) ?_
      refine bdK hf (fun σ4 h5 hf => ?_)
      refine rc_Vv (As := [.int x1]) (rest := []) (b := a 0) (stM_g t) F (c_MO_settle l ha x1 σ σ4 h5) (cwV 1 hg gc_MO_161 rfl rfl rfl hs_MO_settle ⟨Nat.le_of_ble_eq_true rfl, Nat.le_of_ble_eq_true rfl⟩) hK hT hP hS (va_recv hK hP (ci := 6) (q0 := 0) rfl rfl) rfl hl.1 rfl (Nat.le_of_ble_eq_true rfl) d_MO_work_33 ⟨Nat.zero_le _, Nat.zero_le _⟩ (fun H locs hP hS => ?_)
      refine lv_iinc (v := (x1 + (1 : Int32))) (lv' := [(1, .int (x1 + (1 : Int32))), (0, .ref (a 0))]) hx hb d_MO_work_36 hl (k := 1) rfl (by rfl) (by decide) rfl (fun ls hl => ?_)
      refine lv_goto (tgt := 23) hx hb d_MO_work_39 (by decide) ?_
      exact ih (x1 + (1 : Int32)) σ4 q hf _ _ hP hS ls (lv_sub hl [1, 0] rfl)
def f_MO_work (σ : SS) : Option (SS) :=
  (if (σ 22 0) = 0 then (sf σ 22 (1 : Int32)).bind fun σ2 => (f_MO_findBlocks σ2).bind fun σ4 => (f_MO_findAlive σ4).bind fun σ6 => b_MO_work_23 FU (0 : Int32) σ6 else some σ)
set_option maxHeartbeats 4000000 in
set_option maxRecDepth 100000 in
theorem e_MO_work {p : Program} {l : Launch} {e : Env} {s : State} {m : MethodId} {args : Array Value} {below : List Frame} {meth : Method} {c : Code} {D : va_G} {a t : Nat → Nat} {cI cZ : ClassId} (ha : aMC a) (F : CallFix p m c b_MO_work 2 s args gt R_MO) (hr : meth.sig.returnType = none) (hlk : meth.locks = false) (hK : va_K D vwCl [(cI, .int), (cZ, .boolean)] s) (hT : stM t (aM a) s s.heap) :
    ∀ (σ : SS) (q : SS), f_MO_work σ = some q → ∀ (H : Heap) (locs : List Loc), va_P D vwCl ((wM a cI cZ) σ) H → va_S (aM a) s.heap H locs → ∀ (ls : Array Slot), lv_has ls 2 [(0, .ref (a 0))] → W p l e { frames := 5, cells := 0, slots := 0, locals := 119 } s m args below meth c H locs 0 0 (MQ below (va_Qv (fun u => u = q) (pW D (wM a cI cZ) [(cI, .int), (cZ, .boolean)] (stM t) (aM a)) (aM a)) args s 0 0 (aM a)) (F0 m 0 ls []) := by
  obtain ⟨hx, hb, hml, hown, hg⟩ := id F
  intro σ q hf H locs hP hS ls hl
  unfold f_MO_work at hf
  refine lv_aload_n hx hb d_MO_work_0 rfl (lv_at hl 0 rfl) ?_
  refine va_get (D := D) (ci := 6) (v := .int (σ 22 0)) (C := R_MO) (T := T_MO) (N := 26) hx hb hg in_MO hown hK hP 0 rfl rfl 6 (by decide) (hg _ gw_589) (fun _ h9 => h9) rfl d_MO_work_1 ?_
  refine lv_if_eq (tgt := 8) hx hb d_MO_work_4 (by decide) (fun c1 => ?_) (fun c1 => ?_)
  · replace hf := (if_pos c1).symm.trans hf
    refine lv_aload_n hx hb d_MO_work_8 rfl (lv_at hl 0 rfl) ?_
    refine lv_iconst (v := (1 : Int32)) hx hb d_MO_work_9 (by decide) ?_
    refine bdK hf (fun σ2 h3 hf => ?_)
    refine va_put (D := D) (ci := 6) (v := .int (1 : Int32)) (ty := .boolean) (C := R_MO) (T := T_MO) (N := 26) hx hb hg in_MO t_MO t_MO_ok n_MO hown hK hP (dM ha σ) hS 0 rfl rfl 6 (by decide) (hg _ gw_589) (fun _ h9 => h9) rfl (by decide +kernel) rfl rfl (Nat.le_of_ble_eq_true rfl) d_MO_work_10 (fun H locs hP _ hS => ?_)
    replace hP := sf_P (wf := (wM a cI cZ)) h3 hP rfl
    refine lv_aload_n hx hb d_MO_work_13 rfl (lv_at hl 0 rfl) ?_
    refine bdK hf (fun σ4 h5 hf => ?_)
    refine rc_Vv (As := []) (rest := []) (b := a 0) (stM_g t) F (c_MO_findBlocks l ha σ2 σ4 h5) (cwV 0 hg gc_MO_155 rfl rfl rfl hs_MO_findBlocks ⟨Nat.le_of_ble_eq_true rfl, Nat.le_of_ble_eq_true rfl⟩) hK hT hP hS (va_recv hK hP (ci := 6) (q0 := 0) rfl rfl) rfl hl.1 rfl (Nat.le_of_ble_eq_true rfl) d_MO_work_14 ⟨Nat.zero_le _, Nat.zero_le _⟩ (fun H locs hP hS => ?_)
    refine lv_aload_n hx hb d_MO_work_17 rfl (lv_at hl 0 rfl) ?_
    refine bdK hf (fun σ6 h7 hf => ?_)
    refine rc_Vv (As := []) (rest := []) (b := a 0) (stM_g t) F (c_MO_findAlive l ha σ4 σ6 h7) (cwV 0 hg gc_MO_158 rfl rfl rfl hs_MO_findAlive ⟨Nat.le_of_ble_eq_true rfl, Nat.le_of_ble_eq_true rfl⟩) hK hT hP hS (va_recv hK hP (ci := 6) (q0 := 0) rfl rfl) rfl hl.1 rfl (Nat.le_of_ble_eq_true rfl) d_MO_work_18 ⟨Nat.zero_le _, Nat.zero_le _⟩ (fun H locs hP hS => ?_)
    refine lv_iconst (v := (0 : Int32)) hx hb d_MO_work_21 (by decide) ?_
    refine lv_istore_n (lv' := [(1, .int (0 : Int32)), (0, .ref (a 0))]) hx hb d_MO_work_22 rfl hl (by decide) rfl (fun ls hl => ?_)
    exact k_MO_work_23 ha F hr hlk hK hT FU (0 : Int32) σ6 q hf _ _ hP hS ls (lv_sub hl [1, 0] rfl)
  · replace hf := (if_neg c1).symm.trans hf
    exact rr_v hx hb hr hlk (stM_g t) hK hT hP hS hf d_MO_work_7
set_option maxHeartbeats 4000000 in
set_option maxRecDepth 100000 in
theorem c_MO_work (l : Launch) {D : va_G} {a t : Nat → Nat} {cI cZ : ClassId} (ha : aMC a) (σ : SS) (q : SS) (hf : f_MO_work σ = some q) : Met l y_MO_work ws_MO_work { frames := 5, cells := 0, slots := 0, locals := 119 } (va_Pc [.ref (a 0)] (pW D (wM a cI cZ) [(cI, .int), (cZ, .boolean)] (stM t) (aM a) σ)) (va_Qv (fun u => u = q) (pW D (wM a cI cZ) [(cI, .int), (cZ, .boolean)] (stM t) (aM a)) (aM a)) 0 0 (aM a) := by
  refine Met.ofW (cc := b_MO_work) (maxL := 2) (ret := none) (by decide) rfl ?_
  intro p e s m args below meth c s₁ B hml hv
  obtain ⟨rfl, hP, hK, hT⟩ := hv
  have hl := lv_entry ([.ref (a 0)]) (n := 2) (Nat.le_of_ble_eq_true rfl)
  rw [lg_entry_eq]
  generalize (lg_sl ([.ref (a 0)]) ++ List.replicate (2 - (lg_sl ([.ref (a 0)])).length) Slot.unset).toArray = ls at hl ⊢
  exact e_MO_work ha ⟨B.exec, B.bytes, hml, findClass_of_methodNamed B.named, fun w h => atoms_spec (ws := ws_MO_work) B.pre w (List.mem_cons_of_mem _ h)⟩ B.returns B.notSynchronized hK hT σ q hf s.heap [] hP va_S.rf ls hl
