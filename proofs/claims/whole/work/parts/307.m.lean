theorem d_MO_runRegisters_0 : decode b_MO_runRegisters 0 = .ok (.iconst 0, 1) := by decide +kernel
theorem d_MO_runRegisters_1 : decode b_MO_runRegisters 1 = .ok (.istore_n 1, 1) := by decide +kernel
theorem d_MO_runRegisters_2 : decode b_MO_runRegisters 2 = .ok (.iload_n 1, 1) := by decide +kernel
theorem d_MO_runRegisters_3 : decode b_MO_runRegisters 3 = .ok (.aload_n 0, 1) := by decide +kernel
theorem d_MO_runRegisters_4 : decode b_MO_runRegisters 4 = .ok (.getfield 87, 3) := by decide +kernel
theorem d_MO_runRegisters_7 : decode b_MO_runRegisters 7 = .ok (.if_icmp .ge 32, 3) := by decide +kernel
theorem d_MO_runRegisters_10 : decode b_MO_runRegisters 10 = .ok (.aload_n 0, 1) := by decide +kernel
theorem d_MO_runRegisters_11 : decode b_MO_runRegisters 11 = .ok (.getfield 182, 3) := by decide +kernel
theorem d_MO_runRegisters_14 : decode b_MO_runRegisters 14 = .ok (.sipush 300, 3) := by decide +kernel
theorem d_MO_runRegisters_17 : decode b_MO_runRegisters 17 = .ok (.if_icmp .ge 22, 3) := by decide +kernel
theorem d_MO_runRegisters_20 : decode b_MO_runRegisters 20 = .ok (.aload_n 0, 1) := by decide +kernel
theorem d_MO_runRegisters_21 : decode b_MO_runRegisters 21 = .ok (.iload_n 1, 1) := by decide +kernel
theorem d_MO_runRegisters_22 : decode b_MO_runRegisters 22 = .ok (.invokevirtual 185, 3) := by decide +kernel
theorem d_MO_runRegisters_25 : decode b_MO_runRegisters 25 = .ok (.istore_n 1, 1) := by decide +kernel
theorem d_MO_runRegisters_26 : decode b_MO_runRegisters 26 = .ok (.aload_n 0, 1) := by decide +kernel
theorem d_MO_runRegisters_27 : decode b_MO_runRegisters 27 = .ok (.aload_n 0, 1) := by decide +kernel
theorem d_MO_runRegisters_28 : decode b_MO_runRegisters 28 = .ok (.getfield 182, 3) := by decide +kernel
theorem d_MO_runRegisters_31 : decode b_MO_runRegisters 31 = .ok (.iconst 1, 1) := by decide +kernel
theorem d_MO_runRegisters_32 : decode b_MO_runRegisters 32 = .ok (.iadd, 1) := by decide +kernel
theorem d_MO_runRegisters_33 : decode b_MO_runRegisters 33 = .ok (.putfield 182, 3) := by decide +kernel
theorem d_MO_runRegisters_36 : decode b_MO_runRegisters 36 = .ok (.goto (-34), 3) := by decide +kernel
theorem d_MO_runRegisters_39 : decode b_MO_runRegisters 39 = .ok (.return_, 1) := by decide +kernel
theorem gc_MO_185 : GoodIn gt (wsV R_MO 185 R_MO y_MO_instruct ws_MO_instruct) := gd_V gw_815 gw_817 gs_58 gw_7 gw_818
def b_MO_runRegisters_2 : Nat → Int32 → SS → Option (SS)
  | 0, _, _ => none
  | n + 1, x1, σ =>
    (if (σ 21 0) ≤ x1 then some σ else (if (300 : Int32) ≤ (σ 25 0) then some σ else (f_MO_instruct x1 σ).bind fun q3 => (sf q3.2 25 ((q3.2 25 0) + (1 : Int32))).bind fun σ5 => b_MO_runRegisters_2 n q3.1 σ5))
set_option maxHeartbeats 4000000 in
set_option maxRecDepth 100000 in
theorem k_MO_runRegisters_2 {p : Program} {l : Launch} {e : Env} {s : State} {m : MethodId} {args : Array Value} {below : List Frame} {meth : Method} {c : Code} {D : va_G} {a t : Nat → Nat} {cI cZ : ClassId} (ha : aMC a) (F : CallFix p m c b_MO_runRegisters 2 s args gt R_MO) (hr : meth.sig.returnType = none) (hlk : meth.locks = false) (hK : va_K D vwCl [(cI, .int), (cZ, .boolean)] s) (hT : stM t (aM a) s s.heap) :
    ∀ (n : Nat) (x1 : Int32) (σ : SS) (q : SS), b_MO_runRegisters_2 n x1 σ = some q → ∀ (H : Heap) (locs : List Loc), va_P D vwCl ((wM a cI cZ) σ) H → va_S (aM a) s.heap H locs → ∀ (ls : Array Slot), lv_has ls 2 [(0, .ref (a 0)), (1, .int x1)] → W p l e { frames := 3, cells := 0, slots := 0, locals := 67 } s m args below meth c H locs 0 0 (MQ below (va_Qv (fun u => u = q) (pW D (wM a cI cZ) [(cI, .int), (cZ, .boolean)] (stM t) (aM a)) (aM a)) args s 0 0 (aM a)) (F0 m 2 ls []) := by
  obtain ⟨hx, hb, hml, hown, hg⟩ := id F
  intro n
  induction n with
  | zero =>
    intro x1 σ q hf
    rw [b_MO_runRegisters_2] at hf
    cases hf
  | succ n ih =>
    intro x1 σ q hf H locs hP hS ls hl
    rw [b_MO_runRegisters_2] at hf
    refine lv_iload_n hx hb d_MO_runRegisters_2 rfl (lv_at hl 1 rfl) ?_
    refine lv_aload_n hx hb d_MO_runRegisters_3 rfl (lv_at hl 0 rfl) ?_
    refine va_get (D := D) (ci := 6) (v := .int (σ 21 0)) (C := R_MO) (T := T_MO) (N := 26) hx hb hg in_MO hown hK hP 0 rfl rfl 1 (by decide) (hg _ gw_584) (fun _ h9 => h9) rfl d_MO_runRegisters_4 ?_
    refine lv_icmp_ge (tgt := 39) hx hb d_MO_runRegisters_7 (by decide) (fun c1 => ?_) (fun c1 => ?_)
    · replace hf := (if_pos c1).symm.trans hf
      exact rr_v hx hb hr hlk (stM_g t) hK hT hP hS hf d_MO_runRegisters_39
    · replace hf := (if_neg c1).symm.trans hf
      refine lv_aload_n hx hb d_MO_runRegisters_10 rfl (lv_at hl 0 rfl) ?_
      refine va_get (D := D) (ci := 6) (v := .int (σ 25 0)) (C := R_MO) (T := T_MO) (N := 26) hx hb hg in_MO hown hK hP 0 rfl rfl 22 (by decide) (hg _ gw_605) (fun _ h9 => h9) rfl d_MO_runRegisters_11 ?_
      refine lv_sipush (v := (300 : Int32)) hx hb d_MO_runRegisters_14 (by decide) ?_
      refine lv_icmp_ge (tgt := 39) hx hb d_MO_runRegisters_17 (by decide) (fun c2 => ?_) (fun c2 => ?_)
      · replace hf := (if_pos c2).symm.trans hf
        exact rr_v hx hb hr hlk (stM_g t) hK hT hP hS hf d_MO_runRegisters_39
      · replace hf := (if_neg c2).symm.trans hf
        refine lv_aload_n hx hb d_MO_runRegisters_20 rfl (lv_at hl 0 rfl) ?_
        refine lv_iload_n hx hb d_MO_runRegisters_21 rfl (lv_at hl 1 rfl) ?_
        refine bdK hf (fun q3 h4 hf => ?_)
        refine rc_Vi (As := [.int x1]) (rest := []) (b := a 0) (stM_g t) F (c_MO_instruct l ha x1 σ q3 h4) (cwV 1 hg gc_MO_185 rfl rfl rfl hs_MO_instruct ⟨Nat.le_of_ble_eq_true rfl, Nat.le_of_ble_eq_true rfl⟩) hK hT hP hS (va_recv hK hP (ci := 6) (q0 := 0) rfl rfl) rfl hl.1 rfl (Nat.le_of_ble_eq_true rfl) d_MO_runRegisters_22 ⟨Nat.zero_le _, Nat.zero_le _⟩ (fun H locs hP hS => ?_)
        refine lv_istore_n (lv' := [(1, .int q3.1), (0, .ref (a 0))]) hx hb d_MO_runRegisters_25 rfl hl (by decide) rfl (fun ls hl => ?_)
        refine lv_aload_n hx hb d_MO_runRegisters_26 rfl (lv_at hl 1 rfl) ?_
        refine lv_aload_n hx hb d_MO_runRegisters_27 rfl (lv_at hl 1 rfl) ?_
        refine va_get (D := D) (ci := 6) (v := .int (q3.2 25 0)) (C := R_MO) (T := T_MO) (N := 26) hx hb hg in_MO hown hK hP 0 rfl rfl 22 (by decide) (hg _ gw_605) (fun _ h9 => h9) rfl d_MO_runRegisters_28 ?_
        refine lv_iconst (v := (1 : Int32)) hx hb d_MO_runRegisters_31 (by decide) ?_
        refine lv_iadd hx hb d_MO_runRegisters_32 ?_
        refine bdK hf (fun σ5 h6 hf => ?_)
        refine va_put (D := D) (ci := 6) (v := .int ((q3.2 25 0) + (1 : Int32))) (ty := .int) (C := R_MO) (T := T_MO) (N := 26) hx hb hg in_MO t_MO t_MO_ok n_MO hown hK hP (dM ha q3.2) hS 0 rfl rfl 22 (by decide) (hg _ gw_605) (fun _ h9 => h9) rfl (by decide +kernel) rfl rfl (Nat.le_of_ble_eq_true rfl) d_MO_runRegisters_33 (fun H locs hP _ hS => ?_)
        replace hP := sf_P (wf := (wM a cI cZ)) h6 hP rfl
        refine lv_goto (tgt := 2) hx hb d_MO_runRegisters_36 (by decide) ?_
        exact ih q3.1 σ5 q hf _ _ hP hS ls (lv_sub hl [1, 0] rfl)
def f_MO_runRegisters (σ : SS) : Option (SS) :=
  b_MO_runRegisters_2 FU (0 : Int32) σ
set_option maxHeartbeats 4000000 in
set_option maxRecDepth 100000 in
theorem e_MO_runRegisters {p : Program} {l : Launch} {e : Env} {s : State} {m : MethodId} {args : Array Value} {below : List Frame} {meth : Method} {c : Code} {D : va_G} {a t : Nat → Nat} {cI cZ : ClassId} (ha : aMC a) (F : CallFix p m c b_MO_runRegisters 2 s args gt R_MO) (hr : meth.sig.returnType = none) (hlk : meth.locks = false) (hK : va_K D vwCl [(cI, .int), (cZ, .boolean)] s) (hT : stM t (aM a) s s.heap) :
    ∀ (σ : SS) (q : SS), f_MO_runRegisters σ = some q → ∀ (H : Heap) (locs : List Loc), va_P D vwCl ((wM a cI cZ) σ) H → va_S (aM a) s.heap H locs → ∀ (ls : Array Slot), lv_has ls 2 [(0, .ref (a 0))] → W p l e { frames := 3, cells := 0, slots := 0, locals := 67 } s m args below meth c H locs 0 0 (MQ below (va_Qv (fun u => u = q) (pW D (wM a cI cZ) [(cI, .int), (cZ, .boolean)] (stM t) (aM a)) (aM a)) args s 0 0 (aM a)) (F0 m 0 ls []) := by
  obtain ⟨hx, hb, hml, hown, hg⟩ := id F
  intro σ q hf H locs hP hS ls hl
  unfold f_MO_runRegisters at hf
  refine lv_iconst (v := (0 : Int32)) hx hb d_MO_runRegisters_0 (by decide) ?_
  refine lv_istore_n (lv' := [(1, .int (0 : Int32)), (0, .ref (a 0))]) hx hb d_MO_runRegisters_1 rfl hl (by decide) rfl (fun ls hl => ?_)
  exact k_MO_runRegisters_2 ha F hr hlk hK hT FU (0 : Int32) σ q hf _ _ hP hS ls (lv_sub hl [1, 0] rfl)
set_option maxHeartbeats 4000000 in
set_option maxRecDepth 100000 in
theorem c_MO_runRegisters (l : Launch) {D : va_G} {a t : Nat → Nat} {cI cZ : ClassId} (ha : aMC a) (σ : SS) (q : SS) (hf : f_MO_runRegisters σ = some q) : Met l y_MO_runRegisters ws_MO_runRegisters { frames := 3, cells := 0, slots := 0, locals := 67 } (va_Pc [.ref (a 0)] (pW D (wM a cI cZ) [(cI, .int), (cZ, .boolean)] (stM t) (aM a) σ)) (va_Qv (fun u => u = q) (pW D (wM a cI cZ) [(cI, .int), (cZ, .boolean)] (stM t) (aM a)) (aM a)) 0 0 (aM a) := by
  refine Met.ofW (cc := b_MO_runRegisters) (maxL := 2) (ret := none) (by decide) rfl ?_
  intro p e s m args below meth c s₁ B hml hv
  obtain ⟨rfl, hP, hK, hT⟩ := hv
  have hl := lv_entry ([.ref (a 0)]) (n := 2) (Nat.le_of_ble_eq_true rfl)
  rw [lg_entry_eq]
  generalize (lg_sl ([.ref (a 0)]) ++ List.replicate (2 - (lg_sl ([.ref (a 0)])).length) Slot.unset).toArray = ls at hl ⊢
  exact e_MO_runRegisters ha ⟨B.exec, B.bytes, hml, findClass_of_methodNamed B.named, fun w h => atoms_spec (ws := ws_MO_runRegisters) B.pre w (List.mem_cons_of_mem _ h)⟩ B.returns B.notSynchronized hK hT σ q hf s.heap [] hP va_S.rf ls hl
theorem d_MO_runStack_0 : decode b_MO_runStack 0 = .ok (.iconst 0, 1) := by decide +kernel
theorem d_MO_runStack_1 : decode b_MO_runStack 1 = .ok (.istore_n 1, 1) := by decide +kernel
theorem d_MO_runStack_2 : decode b_MO_runStack 2 = .ok (.iconst 0, 1) := by decide +kernel
theorem d_MO_runStack_3 : decode b_MO_runStack 3 = .ok (.istore_n 2, 1) := by decide +kernel
theorem d_MO_runStack_4 : decode b_MO_runStack 4 = .ok (.iload_n 1, 1) := by decide +kernel
theorem d_MO_runStack_5 : decode b_MO_runStack 5 = .ok (.aload_n 0, 1) := by decide +kernel
theorem d_MO_runStack_6 : decode b_MO_runStack 6 = .ok (.getfield 141, 3) := by decide +kernel
theorem d_MO_runStack_9 : decode b_MO_runStack 9 = .ok (.if_icmp .ge 347, 3) := by decide +kernel
theorem d_MO_runStack_12 : decode b_MO_runStack 12 = .ok (.aload_n 0, 1) := by decide +kernel
theorem d_MO_runStack_13 : decode b_MO_runStack 13 = .ok (.getfield 182, 3) := by decide +kernel
theorem d_MO_runStack_16 : decode b_MO_runStack 16 = .ok (.sipush 2000, 3) := by decide +kernel
theorem d_MO_runStack_19 : decode b_MO_runStack 19 = .ok (.if_icmp .ge 337, 3) := by decide +kernel
theorem d_MO_runStack_22 : decode b_MO_runStack 22 = .ok (.aload_n 0, 1) := by decide +kernel
theorem d_MO_runStack_23 : decode b_MO_runStack 23 = .ok (.getfield 47, 3) := by decide +kernel
theorem d_MO_runStack_26 : decode b_MO_runStack 26 = .ok (.iload_n 1, 1) := by decide +kernel
theorem d_MO_runStack_27 : decode b_MO_runStack 27 = .ok (.iaload, 1) := by decide +kernel
theorem d_MO_runStack_28 : decode b_MO_runStack 28 = .ok (.istore_n 3, 1) := by decide +kernel
theorem d_MO_runStack_29 : decode b_MO_runStack 29 = .ok (.aload_n 0, 1) := by decide +kernel
theorem d_MO_runStack_30 : decode b_MO_runStack 30 = .ok (.getfield 50, 3) := by decide +kernel
theorem d_MO_runStack_33 : decode b_MO_runStack 33 = .ok (.iload_n 1, 1) := by decide +kernel
theorem d_MO_runStack_34 : decode b_MO_runStack 34 = .ok (.iaload, 1) := by decide +kernel
theorem d_MO_runStack_35 : decode b_MO_runStack 35 = .ok (.istore 4, 2) := by decide +kernel
theorem d_MO_runStack_37 : decode b_MO_runStack 37 = .ok (.iload_n 1, 1) := by decide +kernel
theorem d_MO_runStack_38 : decode b_MO_runStack 38 = .ok (.iconst 1, 1) := by decide +kernel
theorem d_MO_runStack_39 : decode b_MO_runStack 39 = .ok (.iadd, 1) := by decide +kernel
theorem d_MO_runStack_40 : decode b_MO_runStack 40 = .ok (.istore 5, 2) := by decide +kernel
theorem d_MO_runStack_42 : decode b_MO_runStack 42 = .ok (.aload_n 0, 1) := by decide +kernel
theorem d_MO_runStack_43 : decode b_MO_runStack 43 = .ok (.aload_n 0, 1) := by decide +kernel
theorem d_MO_runStack_44 : decode b_MO_runStack 44 = .ok (.getfield 182, 3) := by decide +kernel
theorem d_MO_runStack_47 : decode b_MO_runStack 47 = .ok (.iconst 1, 1) := by decide +kernel
theorem d_MO_runStack_48 : decode b_MO_runStack 48 = .ok (.iadd, 1) := by decide +kernel
theorem d_MO_runStack_49 : decode b_MO_runStack 49 = .ok (.putfield 182, 3) := by decide +kernel
theorem d_MO_runStack_52 : decode b_MO_runStack 52 = .ok (.iload_n 3, 1) := by decide +kernel
theorem d_MO_runStack_53 : decode b_MO_runStack 53 = .ok (.ifCond .eq 8, 3) := by decide +kernel
theorem d_MO_runStack_56 : decode b_MO_runStack 56 = .ok (.iload_n 3, 1) := by decide +kernel
theorem d_MO_runStack_57 : decode b_MO_runStack 57 = .ok (.iconst 1, 1) := by decide +kernel
theorem d_MO_runStack_58 : decode b_MO_runStack 58 = .ok (.if_icmp .ne 32, 3) := by decide +kernel
theorem d_MO_runStack_61 : decode b_MO_runStack 61 = .ok (.aload_n 0, 1) := by decide +kernel
theorem d_MO_runStack_62 : decode b_MO_runStack 62 = .ok (.getfield 68, 3) := by decide +kernel
theorem d_MO_runStack_65 : decode b_MO_runStack 65 = .ok (.iload_n 2, 1) := by decide +kernel
theorem d_MO_runStack_66 : decode b_MO_runStack 66 = .ok (.iload_n 3, 1) := by decide +kernel
theorem d_MO_runStack_67 : decode b_MO_runStack 67 = .ok (.ifCond .ne 8, 3) := by decide +kernel
theorem d_MO_runStack_70 : decode b_MO_runStack 70 = .ok (.iload 4, 2) := by decide +kernel
theorem d_MO_runStack_72 : decode b_MO_runStack 72 = .ok (.goto 10, 3) := by decide +kernel
theorem d_MO_runStack_75 : decode b_MO_runStack 75 = .ok (.aload_n 0, 1) := by decide +kernel
theorem d_MO_runStack_76 : decode b_MO_runStack 76 = .ok (.getfield 65, 3) := by decide +kernel
theorem d_MO_runStack_79 : decode b_MO_runStack 79 = .ok (.iload 4, 2) := by decide +kernel
theorem d_MO_runStack_81 : decode b_MO_runStack 81 = .ok (.iaload, 1) := by decide +kernel
theorem d_MO_runStack_82 : decode b_MO_runStack 82 = .ok (.iastore, 1) := by decide +kernel
theorem d_MO_runStack_83 : decode b_MO_runStack 83 = .ok (.iload_n 2, 1) := by decide +kernel
theorem d_MO_runStack_84 : decode b_MO_runStack 84 = .ok (.iconst 1, 1) := by decide +kernel
theorem d_MO_runStack_85 : decode b_MO_runStack 85 = .ok (.iadd, 1) := by decide +kernel
theorem d_MO_runStack_86 : decode b_MO_runStack 86 = .ok (.istore_n 2, 1) := by decide +kernel
theorem d_MO_runStack_87 : decode b_MO_runStack 87 = .ok (.goto 263, 3) := by decide +kernel
theorem d_MO_runStack_90 : decode b_MO_runStack 90 = .ok (.iload_n 3, 1) := by decide +kernel
theorem d_MO_runStack_91 : decode b_MO_runStack 91 = .ok (.iconst 4, 1) := by decide +kernel
theorem d_MO_runStack_92 : decode b_MO_runStack 92 = .ok (.if_icmp .ne 42, 3) := by decide +kernel
theorem d_MO_runStack_95 : decode b_MO_runStack 95 = .ok (.aload_n 0, 1) := by decide +kernel
theorem d_MO_runStack_96 : decode b_MO_runStack 96 = .ok (.getfield 68, 3) := by decide +kernel
theorem d_MO_runStack_99 : decode b_MO_runStack 99 = .ok (.iload_n 2, 1) := by decide +kernel
theorem d_MO_runStack_100 : decode b_MO_runStack 100 = .ok (.iconst 1, 1) := by decide +kernel
theorem d_MO_runStack_101 : decode b_MO_runStack 101 = .ok (.isub, 1) := by decide +kernel
theorem d_MO_runStack_102 : decode b_MO_runStack 102 = .ok (.iaload, 1) := by decide +kernel
theorem d_MO_runStack_103 : decode b_MO_runStack 103 = .ok (.istore 6, 2) := by decide +kernel
theorem d_MO_runStack_105 : decode b_MO_runStack 105 = .ok (.aload_n 0, 1) := by decide +kernel
theorem d_MO_runStack_106 : decode b_MO_runStack 106 = .ok (.getfield 68, 3) := by decide +kernel
theorem d_MO_runStack_109 : decode b_MO_runStack 109 = .ok (.iload_n 2, 1) := by decide +kernel
theorem d_MO_runStack_110 : decode b_MO_runStack 110 = .ok (.iconst 1, 1) := by decide +kernel
theorem d_MO_runStack_111 : decode b_MO_runStack 111 = .ok (.isub, 1) := by decide +kernel
theorem d_MO_runStack_112 : decode b_MO_runStack 112 = .ok (.aload_n 0, 1) := by decide +kernel
theorem d_MO_runStack_113 : decode b_MO_runStack 113 = .ok (.getfield 68, 3) := by decide +kernel
theorem d_MO_runStack_116 : decode b_MO_runStack 116 = .ok (.iload_n 2, 1) := by decide +kernel
theorem d_MO_runStack_117 : decode b_MO_runStack 117 = .ok (.iconst 2, 1) := by decide +kernel
theorem d_MO_runStack_118 : decode b_MO_runStack 118 = .ok (.isub, 1) := by decide +kernel
theorem d_MO_runStack_119 : decode b_MO_runStack 119 = .ok (.iaload, 1) := by decide +kernel
theorem d_MO_runStack_120 : decode b_MO_runStack 120 = .ok (.iastore, 1) := by decide +kernel
theorem d_MO_runStack_121 : decode b_MO_runStack 121 = .ok (.aload_n 0, 1) := by decide +kernel
theorem d_MO_runStack_122 : decode b_MO_runStack 122 = .ok (.getfield 68, 3) := by decide +kernel
theorem d_MO_runStack_125 : decode b_MO_runStack 125 = .ok (.iload_n 2, 1) := by decide +kernel
theorem d_MO_runStack_126 : decode b_MO_runStack 126 = .ok (.iconst 2, 1) := by decide +kernel
theorem d_MO_runStack_127 : decode b_MO_runStack 127 = .ok (.isub, 1) := by decide +kernel
theorem d_MO_runStack_128 : decode b_MO_runStack 128 = .ok (.iload 6, 2) := by decide +kernel
theorem d_MO_runStack_130 : decode b_MO_runStack 130 = .ok (.iastore, 1) := by decide +kernel
theorem d_MO_runStack_131 : decode b_MO_runStack 131 = .ok (.goto 219, 3) := by decide +kernel
theorem d_MO_runStack_134 : decode b_MO_runStack 134 = .ok (.iload_n 3, 1) := by decide +kernel
theorem d_MO_runStack_135 : decode b_MO_runStack 135 = .ok (.iconst 5, 1) := by decide +kernel
theorem d_MO_runStack_136 : decode b_MO_runStack 136 = .ok (.bipush 8, 2) := by decide +kernel
theorem d_MO_runStack_138 : decode b_MO_runStack 138 = .ok (.invokestatic 75, 3) := by decide +kernel
theorem d_MO_runStack_141 : decode b_MO_runStack 141 = .ok (.ifCond .eq 40, 3) := by decide +kernel
theorem d_MO_runStack_144 : decode b_MO_runStack 144 = .ok (.aload_n 0, 1) := by decide +kernel
theorem d_MO_runStack_145 : decode b_MO_runStack 145 = .ok (.getfield 68, 3) := by decide +kernel
theorem d_MO_runStack_148 : decode b_MO_runStack 148 = .ok (.iload_n 2, 1) := by decide +kernel
theorem d_MO_runStack_149 : decode b_MO_runStack 149 = .ok (.iconst 2, 1) := by decide +kernel
theorem d_MO_runStack_150 : decode b_MO_runStack 150 = .ok (.isub, 1) := by decide +kernel
theorem d_MO_runStack_151 : decode b_MO_runStack 151 = .ok (.iload_n 3, 1) := by decide +kernel
theorem d_MO_runStack_152 : decode b_MO_runStack 152 = .ok (.iconst 3, 1) := by decide +kernel
theorem d_MO_runStack_153 : decode b_MO_runStack 153 = .ok (.isub, 1) := by decide +kernel
theorem d_MO_runStack_154 : decode b_MO_runStack 154 = .ok (.aload_n 0, 1) := by decide +kernel
theorem d_MO_runStack_155 : decode b_MO_runStack 155 = .ok (.getfield 68, 3) := by decide +kernel
theorem d_MO_runStack_158 : decode b_MO_runStack 158 = .ok (.iload_n 2, 1) := by decide +kernel
theorem d_MO_runStack_159 : decode b_MO_runStack 159 = .ok (.iconst 2, 1) := by decide +kernel
theorem d_MO_runStack_160 : decode b_MO_runStack 160 = .ok (.isub, 1) := by decide +kernel
theorem d_MO_runStack_161 : decode b_MO_runStack 161 = .ok (.iaload, 1) := by decide +kernel
theorem d_MO_runStack_162 : decode b_MO_runStack 162 = .ok (.aload_n 0, 1) := by decide +kernel
theorem d_MO_runStack_163 : decode b_MO_runStack 163 = .ok (.getfield 68, 3) := by decide +kernel
theorem d_MO_runStack_166 : decode b_MO_runStack 166 = .ok (.iload_n 2, 1) := by decide +kernel
theorem d_MO_runStack_167 : decode b_MO_runStack 167 = .ok (.iconst 1, 1) := by decide +kernel
theorem d_MO_runStack_168 : decode b_MO_runStack 168 = .ok (.isub, 1) := by decide +kernel
theorem d_MO_runStack_169 : decode b_MO_runStack 169 = .ok (.iaload, 1) := by decide +kernel
theorem d_MO_runStack_170 : decode b_MO_runStack 170 = .ok (.invokestatic 179, 3) := by decide +kernel
theorem d_MO_runStack_173 : decode b_MO_runStack 173 = .ok (.iastore, 1) := by decide +kernel
theorem d_MO_runStack_174 : decode b_MO_runStack 174 = .ok (.iload_n 2, 1) := by decide +kernel
theorem d_MO_runStack_175 : decode b_MO_runStack 175 = .ok (.iconst 1, 1) := by decide +kernel
theorem d_MO_runStack_176 : decode b_MO_runStack 176 = .ok (.isub, 1) := by decide +kernel
theorem d_MO_runStack_177 : decode b_MO_runStack 177 = .ok (.istore_n 2, 1) := by decide +kernel
theorem d_MO_runStack_178 : decode b_MO_runStack 178 = .ok (.goto 172, 3) := by decide +kernel
theorem d_MO_runStack_181 : decode b_MO_runStack 181 = .ok (.iload_n 3, 1) := by decide +kernel
theorem d_MO_runStack_182 : decode b_MO_runStack 182 = .ok (.bipush 9, 2) := by decide +kernel
theorem d_MO_runStack_184 : decode b_MO_runStack 184 = .ok (.if_icmp .ne 30, 3) := by decide +kernel
theorem d_MO_runStack_187 : decode b_MO_runStack 187 = .ok (.aload_n 0, 1) := by decide +kernel
theorem d_MO_runStack_188 : decode b_MO_runStack 188 = .ok (.getfield 68, 3) := by decide +kernel
theorem d_MO_runStack_191 : decode b_MO_runStack 191 = .ok (.iload_n 2, 1) := by decide +kernel
theorem d_MO_runStack_192 : decode b_MO_runStack 192 = .ok (.iconst 1, 1) := by decide +kernel
theorem d_MO_runStack_193 : decode b_MO_runStack 193 = .ok (.isub, 1) := by decide +kernel
theorem d_MO_runStack_194 : decode b_MO_runStack 194 = .ok (.aload_n 0, 1) := by decide +kernel
theorem d_MO_runStack_195 : decode b_MO_runStack 195 = .ok (.getfield 62, 3) := by decide +kernel
theorem d_MO_runStack_198 : decode b_MO_runStack 198 = .ok (.aload_n 0, 1) := by decide +kernel
theorem d_MO_runStack_199 : decode b_MO_runStack 199 = .ok (.getfield 68, 3) := by decide +kernel
theorem d_MO_runStack_202 : decode b_MO_runStack 202 = .ok (.iload_n 2, 1) := by decide +kernel
theorem d_MO_runStack_203 : decode b_MO_runStack 203 = .ok (.iconst 1, 1) := by decide +kernel
theorem d_MO_runStack_204 : decode b_MO_runStack 204 = .ok (.isub, 1) := by decide +kernel
theorem d_MO_runStack_205 : decode b_MO_runStack 205 = .ok (.iaload, 1) := by decide +kernel
theorem d_MO_runStack_206 : decode b_MO_runStack 206 = .ok (.bipush 15, 2) := by decide +kernel
theorem d_MO_runStack_208 : decode b_MO_runStack 208 = .ok (.iand, 1) := by decide +kernel
theorem d_MO_runStack_209 : decode b_MO_runStack 209 = .ok (.iaload, 1) := by decide +kernel
theorem d_MO_runStack_210 : decode b_MO_runStack 210 = .ok (.iastore, 1) := by decide +kernel
theorem d_MO_runStack_211 : decode b_MO_runStack 211 = .ok (.goto 139, 3) := by decide +kernel
theorem d_MO_runStack_214 : decode b_MO_runStack 214 = .ok (.iload_n 3, 1) := by decide +kernel
theorem d_MO_runStack_215 : decode b_MO_runStack 215 = .ok (.bipush 10, 2) := by decide +kernel
theorem d_MO_runStack_217 : decode b_MO_runStack 217 = .ok (.if_icmp .ne 34, 3) := by decide +kernel
theorem d_MO_runStack_220 : decode b_MO_runStack 220 = .ok (.aload_n 0, 1) := by decide +kernel
theorem d_MO_runStack_221 : decode b_MO_runStack 221 = .ok (.getfield 62, 3) := by decide +kernel
theorem d_MO_runStack_224 : decode b_MO_runStack 224 = .ok (.aload_n 0, 1) := by decide +kernel
theorem d_MO_runStack_225 : decode b_MO_runStack 225 = .ok (.getfield 68, 3) := by decide +kernel
theorem d_MO_runStack_228 : decode b_MO_runStack 228 = .ok (.iload_n 2, 1) := by decide +kernel
theorem d_MO_runStack_229 : decode b_MO_runStack 229 = .ok (.iconst 2, 1) := by decide +kernel
theorem d_MO_runStack_230 : decode b_MO_runStack 230 = .ok (.isub, 1) := by decide +kernel
theorem d_MO_runStack_231 : decode b_MO_runStack 231 = .ok (.iaload, 1) := by decide +kernel
theorem d_MO_runStack_232 : decode b_MO_runStack 232 = .ok (.bipush 15, 2) := by decide +kernel
theorem d_MO_runStack_234 : decode b_MO_runStack 234 = .ok (.iand, 1) := by decide +kernel
theorem d_MO_runStack_235 : decode b_MO_runStack 235 = .ok (.aload_n 0, 1) := by decide +kernel
theorem d_MO_runStack_236 : decode b_MO_runStack 236 = .ok (.getfield 68, 3) := by decide +kernel
theorem d_MO_runStack_239 : decode b_MO_runStack 239 = .ok (.iload_n 2, 1) := by decide +kernel
theorem d_MO_runStack_240 : decode b_MO_runStack 240 = .ok (.iconst 1, 1) := by decide +kernel
theorem d_MO_runStack_241 : decode b_MO_runStack 241 = .ok (.isub, 1) := by decide +kernel
theorem d_MO_runStack_242 : decode b_MO_runStack 242 = .ok (.iaload, 1) := by decide +kernel
theorem d_MO_runStack_243 : decode b_MO_runStack 243 = .ok (.iastore, 1) := by decide +kernel
theorem d_MO_runStack_244 : decode b_MO_runStack 244 = .ok (.iload_n 2, 1) := by decide +kernel
theorem d_MO_runStack_245 : decode b_MO_runStack 245 = .ok (.iconst 2, 1) := by decide +kernel
theorem d_MO_runStack_246 : decode b_MO_runStack 246 = .ok (.isub, 1) := by decide +kernel
theorem d_MO_runStack_247 : decode b_MO_runStack 247 = .ok (.istore_n 2, 1) := by decide +kernel
theorem d_MO_runStack_248 : decode b_MO_runStack 248 = .ok (.goto 102, 3) := by decide +kernel
theorem d_MO_runStack_251 : decode b_MO_runStack 251 = .ok (.iload_n 3, 1) := by decide +kernel
theorem d_MO_runStack_252 : decode b_MO_runStack 252 = .ok (.iconst 2, 1) := by decide +kernel
theorem d_MO_runStack_253 : decode b_MO_runStack 253 = .ok (.if_icmp .eq 20, 3) := by decide +kernel
theorem d_MO_runStack_256 : decode b_MO_runStack 256 = .ok (.iload_n 3, 1) := by decide +kernel
theorem d_MO_runStack_257 : decode b_MO_runStack 257 = .ok (.iconst 3, 1) := by decide +kernel
theorem d_MO_runStack_258 : decode b_MO_runStack 258 = .ok (.if_icmp .eq 15, 3) := by decide +kernel
theorem d_MO_runStack_261 : decode b_MO_runStack 261 = .ok (.iload_n 3, 1) := by decide +kernel
theorem d_MO_runStack_262 : decode b_MO_runStack 262 = .ok (.bipush 11, 2) := by decide +kernel
theorem d_MO_runStack_264 : decode b_MO_runStack 264 = .ok (.if_icmp .eq 9, 3) := by decide +kernel
theorem d_MO_runStack_267 : decode b_MO_runStack 267 = .ok (.iload_n 3, 1) := by decide +kernel
theorem d_MO_runStack_268 : decode b_MO_runStack 268 = .ok (.bipush 13, 2) := by decide +kernel
theorem d_MO_runStack_270 : decode b_MO_runStack 270 = .ok (.if_icmp .ne 63, 3) := by decide +kernel
theorem d_MO_runStack_273 : decode b_MO_runStack 273 = .ok (.iload_n 2, 1) := by decide +kernel
theorem d_MO_runStack_274 : decode b_MO_runStack 274 = .ok (.iconst 1, 1) := by decide +kernel
theorem d_MO_runStack_275 : decode b_MO_runStack 275 = .ok (.isub, 1) := by decide +kernel
theorem d_MO_runStack_276 : decode b_MO_runStack 276 = .ok (.istore_n 2, 1) := by decide +kernel
theorem d_MO_runStack_277 : decode b_MO_runStack 277 = .ok (.iload_n 3, 1) := by decide +kernel
theorem d_MO_runStack_278 : decode b_MO_runStack 278 = .ok (.iconst 2, 1) := by decide +kernel
theorem d_MO_runStack_279 : decode b_MO_runStack 279 = .ok (.if_icmp .ne 16, 3) := by decide +kernel
theorem d_MO_runStack_282 : decode b_MO_runStack 282 = .ok (.aload_n 0, 1) := by decide +kernel
theorem d_MO_runStack_283 : decode b_MO_runStack 283 = .ok (.getfield 65, 3) := by decide +kernel
theorem d_MO_runStack_286 : decode b_MO_runStack 286 = .ok (.iload 4, 2) := by decide +kernel
theorem d_MO_runStack_288 : decode b_MO_runStack 288 = .ok (.aload_n 0, 1) := by decide +kernel
theorem d_MO_runStack_289 : decode b_MO_runStack 289 = .ok (.getfield 68, 3) := by decide +kernel
theorem d_MO_runStack_292 : decode b_MO_runStack 292 = .ok (.iload_n 2, 1) := by decide +kernel
theorem d_MO_runStack_293 : decode b_MO_runStack 293 = .ok (.iaload, 1) := by decide +kernel
theorem d_MO_runStack_294 : decode b_MO_runStack 294 = .ok (.iastore, 1) := by decide +kernel
theorem d_MO_runStack_295 : decode b_MO_runStack 295 = .ok (.iload_n 3, 1) := by decide +kernel
theorem d_MO_runStack_296 : decode b_MO_runStack 296 = .ok (.bipush 11, 2) := by decide +kernel
theorem d_MO_runStack_298 : decode b_MO_runStack 298 = .ok (.if_icmp .ne 13, 3) := by decide +kernel
theorem d_MO_runStack_301 : decode b_MO_runStack 301 = .ok (.aload_n 0, 1) := by decide +kernel
theorem d_MO_runStack_302 : decode b_MO_runStack 302 = .ok (.aload_n 0, 1) := by decide +kernel
theorem d_MO_runStack_303 : decode b_MO_runStack 303 = .ok (.getfield 68, 3) := by decide +kernel
theorem d_MO_runStack_306 : decode b_MO_runStack 306 = .ok (.iload_n 2, 1) := by decide +kernel
theorem d_MO_runStack_307 : decode b_MO_runStack 307 = .ok (.iaload, 1) := by decide +kernel
theorem d_MO_runStack_308 : decode b_MO_runStack 308 = .ok (.invokevirtual 176, 3) := by decide +kernel
theorem d_MO_runStack_311 : decode b_MO_runStack 311 = .ok (.iload_n 3, 1) := by decide +kernel
theorem d_MO_runStack_312 : decode b_MO_runStack 312 = .ok (.bipush 13, 2) := by decide +kernel
theorem d_MO_runStack_314 : decode b_MO_runStack 314 = .ok (.if_icmp .ne 36, 3) := by decide +kernel
theorem d_MO_runStack_317 : decode b_MO_runStack 317 = .ok (.aload_n 0, 1) := by decide +kernel
theorem d_MO_runStack_318 : decode b_MO_runStack 318 = .ok (.getfield 68, 3) := by decide +kernel
theorem d_MO_runStack_321 : decode b_MO_runStack 321 = .ok (.iload_n 2, 1) := by decide +kernel
theorem d_MO_runStack_322 : decode b_MO_runStack 322 = .ok (.iaload, 1) := by decide +kernel
theorem d_MO_runStack_323 : decode b_MO_runStack 323 = .ok (.ifCond .ne 27, 3) := by decide +kernel
theorem d_MO_runStack_326 : decode b_MO_runStack 326 = .ok (.iload 4, 2) := by decide +kernel
theorem d_MO_runStack_328 : decode b_MO_runStack 328 = .ok (.istore 5, 2) := by decide +kernel
theorem d_MO_runStack_330 : decode b_MO_runStack 330 = .ok (.goto 20, 3) := by decide +kernel
theorem d_MO_runStack_333 : decode b_MO_runStack 333 = .ok (.iload_n 3, 1) := by decide +kernel
theorem d_MO_runStack_334 : decode b_MO_runStack 334 = .ok (.bipush 14, 2) := by decide +kernel
theorem d_MO_runStack_336 : decode b_MO_runStack 336 = .ok (.if_icmp .ne 10, 3) := by decide +kernel
theorem d_MO_runStack_339 : decode b_MO_runStack 339 = .ok (.aload_n 0, 1) := by decide +kernel
theorem d_MO_runStack_340 : decode b_MO_runStack 340 = .ok (.getfield 141, 3) := by decide +kernel
theorem d_MO_runStack_343 : decode b_MO_runStack 343 = .ok (.goto 5, 3) := by decide +kernel
theorem d_MO_runStack_346 : decode b_MO_runStack 346 = .ok (.iload 4, 2) := by decide +kernel
theorem d_MO_runStack_348 : decode b_MO_runStack 348 = .ok (.istore 5, 2) := by decide +kernel
theorem d_MO_runStack_350 : decode b_MO_runStack 350 = .ok (.iload 5, 2) := by decide +kernel
theorem d_MO_runStack_352 : decode b_MO_runStack 352 = .ok (.istore_n 1, 1) := by decide +kernel
theorem d_MO_runStack_353 : decode b_MO_runStack 353 = .ok (.goto (-349), 3) := by decide +kernel
theorem d_MO_runStack_356 : decode b_MO_runStack 356 = .ok (.return_, 1) := by decide +kernel
def b_MO_runStack_350 (r4 : Int32 → Int32 → SS → Option (SS)) (x2 x5 : Int32) (σ : SS) : Option (SS) :=
  r4 x5 x2 σ
set_option maxHeartbeats 4000000 in
set_option maxRecDepth 100000 in
theorem k_MO_runStack_350 {p : Program} {l : Launch} {e : Env} {s : State} {m : MethodId} {args : Array Value} {below : List Frame} {meth : Method} {c : Code} {D : va_G} {a t : Nat → Nat} {cI cZ : ClassId} (ha : aMC a) (F : CallFix p m c b_MO_runStack 7 s args gt R_MO) (hr : meth.sig.returnType = none) (hlk : meth.locks = false) (hK : va_K D vwCl [(cI, .int), (cZ, .boolean)] s) (hT : stM t (aM a) s s.heap) (r4 : Int32 → Int32 → SS → Option (SS)) (hr4 : ∀ (x1 x2 : Int32) (σ : SS) (q : SS), r4 x1 x2 σ = some q → ∀ (H : Heap) (locs : List Loc), va_P D vwCl ((wM a cI cZ) σ) H → va_S (aM a) s.heap H locs → ∀ (ls : Array Slot), lv_has ls 7 [(0, .ref (a 0)), (1, .int x1), (2, .int x2)] → W p l e { frames := 1, cells := 0, slots := 0, locals := 22 } s m args below meth c H locs 0 0 (MQ below (va_Qv (fun u => u = q) (pW D (wM a cI cZ) [(cI, .int), (cZ, .boolean)] (stM t) (aM a)) (aM a)) args s 0 0 (aM a)) (F0 m 4 ls [])) :
    ∀ (x2 x5 : Int32) (σ : SS) (q : SS), b_MO_runStack_350 r4 x2 x5 σ = some q → ∀ (H : Heap) (locs : List Loc), va_P D vwCl ((wM a cI cZ) σ) H → va_S (aM a) s.heap H locs → ∀ (ls : Array Slot), lv_has ls 7 [(0, .ref (a 0)), (2, .int x2), (5, .int x5)] → W p l e { frames := 1, cells := 0, slots := 0, locals := 22 } s m args below meth c H locs 0 0 (MQ below (va_Qv (fun u => u = q) (pW D (wM a cI cZ) [(cI, .int), (cZ, .boolean)] (stM t) (aM a)) (aM a)) args s 0 0 (aM a)) (F0 m 350 ls []) := by
  obtain ⟨hx, hb, hml, hown, hg⟩ := id F
  intro x2 x5 σ q hf H locs hP hS ls hl
  unfold b_MO_runStack_350 at hf
  refine lv_iload hx hb d_MO_runStack_350 (lv_at hl 2 rfl) ?_
  refine lv_istore_n (lv' := [(1, .int x5), (0, .ref (a 0)), (2, .int x2), (5, .int x5)]) hx hb d_MO_runStack_352 rfl hl (by decide) rfl (fun ls hl => ?_)
  refine lv_goto (tgt := 4) hx hb d_MO_runStack_353 (by decide) ?_
  exact hr4 x5 x2 σ q hf _ _ hP hS ls (lv_sub hl [1, 0, 2] rfl)
def b_MO_runStack_295 (r4 : Int32 → Int32 → SS → Option (SS)) (x2 x3 x4 x5 : Int32) (σ : SS) : Option (SS) :=
  (if x3 = (11 : Int32) then (ld (σ 19) 200 x2).bind fun v6 => (f_MO_print v6 σ).bind fun σ8 => (if x3 = (13 : Int32) then (ld (σ8 19) 200 x2).bind fun v11 => (if v11 = 0 then b_MO_runStack_350 r4 x2 x4 σ8 else b_MO_runStack_350 r4 x2 x5 σ8) else b_MO_runStack_350 r4 x2 x5 σ8) else (if x3 = (13 : Int32) then (ld (σ 19) 200 x2).bind fun v3 => (if v3 = 0 then b_MO_runStack_350 r4 x2 x4 σ else b_MO_runStack_350 r4 x2 x5 σ) else b_MO_runStack_350 r4 x2 x5 σ))
set_option maxHeartbeats 4000000 in
set_option maxRecDepth 100000 in
theorem k_MO_runStack_295 {p : Program} {l : Launch} {e : Env} {s : State} {m : MethodId} {args : Array Value} {below : List Frame} {meth : Method} {c : Code} {D : va_G} {a t : Nat → Nat} {cI cZ : ClassId} (ha : aMC a) (F : CallFix p m c b_MO_runStack 7 s args gt R_MO) (hr : meth.sig.returnType = none) (hlk : meth.locks = false) (hK : va_K D vwCl [(cI, .int), (cZ, .boolean)] s) (hT : stM t (aM a) s s.heap) (r4 : Int32 → Int32 → SS → Option (SS)) (hr4 : ∀ (x1 x2 : Int32) (σ : SS) (q : SS), r4 x1 x2 σ = some q → ∀ (H : Heap) (locs : List Loc), va_P D vwCl ((wM a cI cZ) σ) H → va_S (aM a) s.heap H locs → ∀ (ls : Array Slot), lv_has ls 7 [(0, .ref (a 0)), (1, .int x1), (2, .int x2)] → W p l e { frames := 1, cells := 0, slots := 0, locals := 22 } s m args below meth c H locs 0 0 (MQ below (va_Qv (fun u => u = q) (pW D (wM a cI cZ) [(cI, .int), (cZ, .boolean)] (stM t) (aM a)) (aM a)) args s 0 0 (aM a)) (F0 m 4 ls [])) :
    ∀ (x2 x3 x4 x5 : Int32) (σ : SS) (q : SS), b_MO_runStack_295 r4 x2 x3 x4 x5 σ = some q → ∀ (H : Heap) (locs : List Loc), va_P D vwCl ((wM a cI cZ) σ) H → va_S (aM a) s.heap H locs → ∀ (ls : Array Slot), lv_has ls 7 [(0, .ref (a 0)), (2, .int x2), (3, .int x3), (4, .int x4), (5, .int x5)] → W p l e { frames := 1, cells := 0, slots := 0, locals := 22 } s m args below meth c H locs 0 0 (MQ below (va_Qv (fun u => u = q) (pW D (wM a cI cZ) [(cI, .int), (cZ, .boolean)] (stM t) (aM a)) (aM a)) args s 0 0 (aM a)) (F0 m 295 ls []) := by
  obtain ⟨hx, hb, hml, hown, hg⟩ := id F
  intro x2 x3 x4 x5 σ q hf H locs hP hS ls hl
  unfold b_MO_runStack_295 at hf
  refine lv_iload_n hx hb d_MO_runStack_295 rfl (lv_at hl 2 rfl) ?_
  refine lv_bipush (v := (11 : Int32)) hx hb d_MO_runStack_296 (by decide) ?_
  refine lv_icmp_ne (tgt := 311) hx hb d_MO_runStack_298 (by decide) (fun c1 => ?_) (fun c1 => ?_)
  · replace hf := (if_neg c1).symm.trans hf
    refine lv_iload_n hx hb d_MO_runStack_311 rfl (lv_at hl 2 rfl) ?_
    refine lv_bipush (v := (13 : Int32)) hx hb d_MO_runStack_312 (by decide) ?_
    refine lv_icmp_ne (tgt := 350) hx hb d_MO_runStack_314 (by decide) (fun c2 => ?_) (fun c2 => ?_)
    · replace hf := (if_neg c2).symm.trans hf
      exact k_MO_runStack_350 ha F hr hlk hK hT r4 hr4 x2 x5 σ q hf _ _ hP hS ls (lv_sub hl [0, 1, 4] rfl)
    · replace hf := (if_pos c2).symm.trans hf
      refine lv_aload_n hx hb d_MO_runStack_317 rfl (lv_at hl 0 rfl) ?_
      refine va_get (D := D) (ci := 6) (v := .ref (a 20)) (C := R_MO) (T := T_MO) (N := 26) hx hb hg in_MO hown hK hP 0 rfl rfl 25 (by decide) (hg _ gw_608) (fun _ h9 => h9) rfl d_MO_runStack_318 ?_
      refine lv_iload_n hx hb d_MO_runStack_321 rfl (lv_at hl 1 rfl) ?_
      refine bdK hf (fun v3 h4 hf => ?_)
      refine r_iald hx hb hK hP 20 0 rfl rfl h4 d_MO_runStack_322 ?_
      refine lv_if_ne (tgt := 350) hx hb d_MO_runStack_323 (by decide) (fun c5 => ?_) (fun c5 => ?_)
      · replace hf := (if_neg c5).symm.trans hf
        exact k_MO_runStack_350 ha F hr hlk hK hT r4 hr4 x2 x5 σ q hf _ _ hP hS ls (lv_sub hl [0, 1, 4] rfl)
      · replace hf := (if_pos c5).symm.trans hf
        refine lv_iload hx hb d_MO_runStack_326 (lv_at hl 3 rfl) ?_
        refine lv_istore (lv' := [(5, .int x4), (0, .ref (a 0)), (2, .int x2), (3, .int x3), (4, .int x4)]) hx hb d_MO_runStack_328 hl (by decide) rfl (fun ls hl => ?_)
        refine lv_goto (tgt := 350) hx hb d_MO_runStack_330 (by decide) ?_
        exact k_MO_runStack_350 ha F hr hlk hK hT r4 hr4 x2 x4 σ q hf _ _ hP hS ls (lv_sub hl [1, 2, 0] rfl)
  · replace hf := (if_pos c1).symm.trans hf
    refine lv_aload_n hx hb d_MO_runStack_301 rfl (lv_at hl 0 rfl) ?_
    refine lv_aload_n hx hb d_MO_runStack_302 rfl (lv_at hl 0 rfl) ?_
    refine va_get (D := D) (ci := 6) (v := .ref (a 20)) (C := R_MO) (T := T_MO) (N := 26) hx hb hg in_MO hown hK hP 0 rfl rfl 25 (by decide) (hg _ gw_608) (fun _ h9 => h9) rfl d_MO_runStack_303 ?_
    refine lv_iload_n hx hb d_MO_runStack_306 rfl (lv_at hl 1 rfl) ?_
    refine bdK hf (fun v6 h7 hf => ?_)
    refine r_iald hx hb hK hP 20 0 rfl rfl h7 d_MO_runStack_307 ?_
    refine bdK hf (fun σ8 h9 hf => ?_)
    refine rc_Vv (As := [.int v6]) (rest := []) (b := a 0) (stM_g t) F (c_MO_print l ha v6 σ σ8 h9) (cwV 1 hg gc_MO_176 rfl rfl rfl hs_MO_print ⟨Nat.le_of_ble_eq_true rfl, Nat.le_of_ble_eq_true rfl⟩) hK hT hP hS (va_recv hK hP (ci := 6) (q0 := 0) rfl rfl) rfl hl.1 rfl (Nat.le_of_ble_eq_true rfl) d_MO_runStack_308 ⟨Nat.zero_le _, Nat.zero_le _⟩ (fun H locs hP hS => ?_)
    refine lv_iload_n hx hb d_MO_runStack_311 rfl (lv_at hl 2 rfl) ?_
    refine lv_bipush (v := (13 : Int32)) hx hb d_MO_runStack_312 (by decide) ?_
    refine lv_icmp_ne (tgt := 350) hx hb d_MO_runStack_314 (by decide) (fun c10 => ?_) (fun c10 => ?_)
    · replace hf := (if_neg c10).symm.trans hf
      exact k_MO_runStack_350 ha F hr hlk hK hT r4 hr4 x2 x5 σ8 q hf _ _ hP hS ls (lv_sub hl [0, 1, 4] rfl)
    · replace hf := (if_pos c10).symm.trans hf
      refine lv_aload_n hx hb d_MO_runStack_317 rfl (lv_at hl 0 rfl) ?_
      refine va_get (D := D) (ci := 6) (v := .ref (a 20)) (C := R_MO) (T := T_MO) (N := 26) hx hb hg in_MO hown hK hP 0 rfl rfl 25 (by decide) (hg _ gw_608) (fun _ h9 => h9) rfl d_MO_runStack_318 ?_
      refine lv_iload_n hx hb d_MO_runStack_321 rfl (lv_at hl 1 rfl) ?_
      refine bdK hf (fun v11 h12 hf => ?_)
      refine r_iald hx hb hK hP 20 0 rfl rfl h12 d_MO_runStack_322 ?_
      refine lv_if_ne (tgt := 350) hx hb d_MO_runStack_323 (by decide) (fun c13 => ?_) (fun c13 => ?_)
      · replace hf := (if_neg c13).symm.trans hf
        exact k_MO_runStack_350 ha F hr hlk hK hT r4 hr4 x2 x5 σ8 q hf _ _ hP hS ls (lv_sub hl [0, 1, 4] rfl)
      · replace hf := (if_pos c13).symm.trans hf
        refine lv_iload hx hb d_MO_runStack_326 (lv_at hl 3 rfl) ?_
        refine lv_istore (lv' := [(5, .int x4), (0, .ref (a 0)), (2, .int x2), (3, .int x3), (4, .int x4)]) hx hb d_MO_runStack_328 hl (by decide) rfl (fun ls hl => ?_)
        refine lv_goto (tgt := 350) hx hb d_MO_runStack_330 (by decide) ?_
        exact k_MO_runStack_350 ha F hr hlk hK hT r4 hr4 x2 x4 σ8 q hf _ _ hP hS ls (lv_sub hl [1, 2, 0] rfl)
def b_MO_runStack_273 (r4 : Int32 → Int32 → SS → Option (SS)) (x2 x3 x4 x5 : Int32) (σ : SS) : Option (SS) :=
  (if x3 = (2 : Int32) then (ld (σ 19) 200 (x2 - (1 : Int32))).bind fun v2 => (sto σ 18 10 x4 v2).bind fun σ4 => b_MO_runStack_295 r4 (x2 - (1 : Int32)) x3 x4 x5 σ4 else b_MO_runStack_295 r4 (x2 - (1 : Int32)) x3 x4 x5 σ)
set_option maxHeartbeats 4000000 in
set_option maxRecDepth 100000 in
theorem k_MO_runStack_273 {p : Program} {l : Launch} {e : Env} {s : State} {m : MethodId} {args : Array Value} {below : List Frame} {meth : Method} {c : Code} {D : va_G} {a t : Nat → Nat} {cI cZ : ClassId} (ha : aMC a) (F : CallFix p m c b_MO_runStack 7 s args gt R_MO) (hr : meth.sig.returnType = none) (hlk : meth.locks = false) (hK : va_K D vwCl [(cI, .int), (cZ, .boolean)] s) (hT : stM t (aM a) s s.heap) (r4 : Int32 → Int32 → SS → Option (SS)) (hr4 : ∀ (x1 x2 : Int32) (σ : SS) (q : SS), r4 x1 x2 σ = some q → ∀ (H : Heap) (locs : List Loc), va_P D vwCl ((wM a cI cZ) σ) H → va_S (aM a) s.heap H locs → ∀ (ls : Array Slot), lv_has ls 7 [(0, .ref (a 0)), (1, .int x1), (2, .int x2)] → W p l e { frames := 1, cells := 0, slots := 0, locals := 22 } s m args below meth c H locs 0 0 (MQ below (va_Qv (fun u => u = q) (pW D (wM a cI cZ) [(cI, .int), (cZ, .boolean)] (stM t) (aM a)) (aM a)) args s 0 0 (aM a)) (F0 m 4 ls [])) :
    ∀ (x2 x3 x4 x5 : Int32) (σ : SS) (q : SS), b_MO_runStack_273 r4 x2 x3 x4 x5 σ = some q → ∀ (H : Heap) (locs : List Loc), va_P D vwCl ((wM a cI cZ) σ) H → va_S (aM a) s.heap H locs → ∀ (ls : Array Slot), lv_has ls 7 [(0, .ref (a 0)), (2, .int x2), (3, .int x3), (4, .int x4), (5, .int x5)] → W p l e { frames := 1, cells := 0, slots := 0, locals := 22 } s m args below meth c H locs 0 0 (MQ below (va_Qv (fun u => u = q) (pW D (wM a cI cZ) [(cI, .int), (cZ, .boolean)] (stM t) (aM a)) (aM a)) args s 0 0 (aM a)) (F0 m 273 ls []) := by
  obtain ⟨hx, hb, hml, hown, hg⟩ := id F
  intro x2 x3 x4 x5 σ q hf H locs hP hS ls hl
  unfold b_MO_runStack_273 at hf
  refine lv_iload_n hx hb d_MO_runStack_273 rfl (lv_at hl 1 rfl) ?_
  refine lv_iconst (v := (1 : Int32)) hx hb d_MO_runStack_274 (by decide) ?_
  refine lv_isub hx hb d_MO_runStack_275 ?_
  refine lv_istore_n (lv' := [(2, .int (x2 - (1 : Int32))), (0, .ref (a 0)), (3, .int x3), (4, .int x4), (5, .int x5)]) hx hb d_MO_runStack_276 rfl hl (by decide) rfl (fun ls hl => ?_)
  refine lv_iload_n hx hb d_MO_runStack_277 rfl (lv_at hl 2 rfl) ?_
  refine lv_iconst (v := (2 : Int32)) hx hb d_MO_runStack_278 (by decide) ?_
  refine lv_icmp_ne (tgt := 295) hx hb d_MO_runStack_279 (by decide) (fun c1 => ?_) (fun c1 => ?_)
  · replace hf := (if_neg c1).symm.trans hf
    exact k_MO_runStack_295 ha F hr hlk hK hT r4 hr4 (x2 - (1 : Int32)) x3 x4 x5 σ q hf _ _ hP hS ls (lv_sub hl [1, 0, 2, 3, 4] rfl)
  · replace hf := (if_pos c1).symm.trans hf
    refine lv_aload_n hx hb d_MO_runStack_282 rfl (lv_at hl 1 rfl) ?_
    refine va_get (D := D) (ci := 6) (v := .ref (a 19)) (C := R_MO) (T := T_MO) (N := 26) hx hb hg in_MO hown hK hP 0 rfl rfl 24 (by decide) (hg _ gw_607) (fun _ h9 => h9) rfl d_MO_runStack_283 ?_
    refine lv_iload hx hb d_MO_runStack_286 (lv_at hl 3 rfl) ?_
    refine lv_aload_n hx hb d_MO_runStack_288 rfl (lv_at hl 1 rfl) ?_
    refine va_get (D := D) (ci := 6) (v := .ref (a 20)) (C := R_MO) (T := T_MO) (N := 26) hx hb hg in_MO hown hK hP 0 rfl rfl 25 (by decide) (hg _ gw_608) (fun _ h9 => h9) rfl d_MO_runStack_289 ?_
    refine lv_iload_n hx hb d_MO_runStack_292 rfl (lv_at hl 0 rfl) ?_
    refine bdK hf (fun v2 h3 hf => ?_)
    refine r_iald hx hb hK hP 20 0 rfl rfl h3 d_MO_runStack_293 ?_
    refine bdK hf (fun σ4 h5 hf => ?_)
    refine r_iast (wf := (wM a cI cZ)) hx hb hK hP (dM ha σ) hS 19 0 rfl rfl (fun _ _ => rfl) h5 d_MO_runStack_294 (fun H locs hP hS => ?_)
    exact k_MO_runStack_295 ha F hr hlk hK hT r4 hr4 (x2 - (1 : Int32)) x3 x4 x5 σ4 q hf _ _ hP hS ls (lv_sub hl [1, 0, 2, 3, 4] rfl)
def b_MO_runStack_61 (r4 : Int32 → Int32 → SS → Option (SS)) (x2 x3 x4 x5 : Int32) (σ : SS) : Option (SS) :=
  (if x3 = 0 then (sto σ 19 200 x2 x4).bind fun σ6 => b_MO_runStack_350 r4 (x2 + (1 : Int32)) x5 σ6 else (ld (σ 18) 10 x4).bind fun v2 => (sto σ 19 200 x2 v2).bind fun σ4 => b_MO_runStack_350 r4 (x2 + (1 : Int32)) x5 σ4)
set_option maxHeartbeats 4000000 in
set_option maxRecDepth 100000 in
theorem k_MO_runStack_61 {p : Program} {l : Launch} {e : Env} {s : State} {m : MethodId} {args : Array Value} {below : List Frame} {meth : Method} {c : Code} {D : va_G} {a t : Nat → Nat} {cI cZ : ClassId} (ha : aMC a) (F : CallFix p m c b_MO_runStack 7 s args gt R_MO) (hr : meth.sig.returnType = none) (hlk : meth.locks = false) (hK : va_K D vwCl [(cI, .int), (cZ, .boolean)] s) (hT : stM t (aM a) s s.heap) (r4 : Int32 → Int32 → SS → Option (SS)) (hr4 : ∀ (x1 x2 : Int32) (σ : SS) (q : SS), r4 x1 x2 σ = some q → ∀ (H : Heap) (locs : List Loc), va_P D vwCl ((wM a cI cZ) σ) H → va_S (aM a) s.heap H locs → ∀ (ls : Array Slot), lv_has ls 7 [(0, .ref (a 0)), (1, .int x1), (2, .int x2)] → W p l e { frames := 1, cells := 0, slots := 0, locals := 22 } s m args below meth c H locs 0 0 (MQ below (va_Qv (fun u => u = q) (pW D (wM a cI cZ) [(cI, .int), (cZ, .boolean)] (stM t) (aM a)) (aM a)) args s 0 0 (aM a)) (F0 m 4 ls [])) :
    ∀ (x2 x3 x4 x5 : Int32) (σ : SS) (q : SS), b_MO_runStack_61 r4 x2 x3 x4 x5 σ = some q → ∀ (H : Heap) (locs : List Loc), va_P D vwCl ((wM a cI cZ) σ) H → va_S (aM a) s.heap H locs → ∀ (ls : Array Slot), lv_has ls 7 [(0, .ref (a 0)), (2, .int x2), (3, .int x3), (4, .int x4), (5, .int x5)] → W p l e { frames := 1, cells := 0, slots := 0, locals := 22 } s m args below meth c H locs 0 0 (MQ below (va_Qv (fun u => u = q) (pW D (wM a cI cZ) [(cI, .int), (cZ, .boolean)] (stM t) (aM a)) (aM a)) args s 0 0 (aM a)) (F0 m 61 ls []) := by
  obtain ⟨hx, hb, hml, hown, hg⟩ := id F
  intro x2 x3 x4 x5 σ q hf H locs hP hS ls hl
  unfold b_MO_runStack_61 at hf
  refine lv_aload_n hx hb d_MO_runStack_61 rfl (lv_at hl 0 rfl) ?_
  refine va_get (D := D) (ci := 6) (v := .ref (a 20)) (C := R_MO) (T := T_MO) (N := 26) hx hb hg in_MO hown hK hP 0 rfl rfl 25 (by decide) (hg _ gw_608) (fun _ h9 => h9) rfl d_MO_runStack_62 ?_
  refine lv_iload_n hx hb d_MO_runStack_65 rfl (lv_at hl 1 rfl) ?_
  refine lv_iload_n hx hb d_MO_runStack_66 rfl (lv_at hl 2 rfl) ?_
  refine lv_if_ne (tgt := 75) hx hb d_MO_runStack_67 (by decide) (fun c1 => ?_) (fun c1 => ?_)
  · replace hf := (if_neg c1).symm.trans hf
    refine lv_aload_n hx hb d_MO_runStack_75 rfl (lv_at hl 0 rfl) ?_
    refine va_get (D := D) (ci := 6) (v := .ref (a 19)) (C := R_MO) (T := T_MO) (N := 26) hx hb hg in_MO hown hK hP 0 rfl rfl 24 (by decide) (hg _ gw_607) (fun _ h9 => h9) rfl d_MO_runStack_76 ?_
    refine lv_iload hx hb d_MO_runStack_79 (lv_at hl 3 rfl) ?_
    refine bdK hf (fun v2 h3 hf => ?_)
    refine r_iald hx hb hK hP 19 0 rfl rfl h3 d_MO_runStack_81 ?_
    refine bdK hf (fun σ4 h5 hf => ?_)
    refine r_iast (wf := (wM a cI cZ)) hx hb hK hP (dM ha σ) hS 20 0 rfl rfl (fun _ _ => rfl) h5 d_MO_runStack_82 (fun H locs hP hS => ?_)
    refine lv_iload_n hx hb d_MO_runStack_83 rfl (lv_at hl 1 rfl) ?_
    refine lv_iconst (v := (1 : Int32)) hx hb d_MO_runStack_84 (by decide) ?_
    refine lv_iadd hx hb d_MO_runStack_85 ?_
    refine lv_istore_n (lv' := [(2, .int (x2 + (1 : Int32))), (0, .ref (a 0)), (3, .int x3), (4, .int x4), (5, .int x5)]) hx hb d_MO_runStack_86 rfl hl (by decide) rfl (fun ls hl => ?_)
    refine lv_goto (tgt := 350) hx hb d_MO_runStack_87 (by decide) ?_
    exact k_MO_runStack_350 ha F hr hlk hK hT r4 hr4 (x2 + (1 : Int32)) x5 σ4 q hf _ _ hP hS ls (lv_sub hl [1, 0, 4] rfl)
  · replace hf := (if_pos c1).symm.trans hf
    refine lv_iload hx hb d_MO_runStack_70 (lv_at hl 3 rfl) ?_
    refine lv_goto (tgt := 82) hx hb d_MO_runStack_72 (by decide) ?_
    refine bdK hf (fun σ6 h7 hf => ?_)
    refine r_iast (wf := (wM a cI cZ)) hx hb hK hP (dM ha σ) hS 20 0 rfl rfl (fun _ _ => rfl) h7 d_MO_runStack_82 (fun H locs hP hS => ?_)
    refine lv_iload_n hx hb d_MO_runStack_83 rfl (lv_at hl 1 rfl) ?_
    refine lv_iconst (v := (1 : Int32)) hx hb d_MO_runStack_84 (by decide) ?_
    refine lv_iadd hx hb d_MO_runStack_85 ?_
    refine lv_istore_n (lv' := [(2, .int (x2 + (1 : Int32))), (0, .ref (a 0)), (3, .int x3), (4, .int x4), (5, .int x5)]) hx hb d_MO_runStack_86 rfl hl (by decide) rfl (fun ls hl => ?_)
    refine lv_goto (tgt := 350) hx hb d_MO_runStack_87 (by decide) ?_
    exact k_MO_runStack_350 ha F hr hlk hK hT r4 hr4 (x2 + (1 : Int32)) x5 σ6 q hf _ _ hP hS ls (lv_sub hl [1, 0, 4] rfl)
def b_MO_runStack_4 : Nat → Int32 → Int32 → SS → Option (SS)
  | 0, _, _, _ => none
  | n + 1, x1, x2, σ =>
    (if (σ 23 0) ≤ x1 then some σ else (if (2000 : Int32) ≤ (σ 25 0) then some σ else (ld (σ 12) 600 x1).bind fun v3 => (ld (σ 13) 600 x1).bind fun v5 => (sf σ 25 ((σ 25 0) + (1 : Int32))).bind fun σ7 => (if v3 = 0 then b_MO_runStack_61 (b_MO_runStack_4 n) x2 v3 v5 (x1 + (1 : Int32)) σ7 else (if v3 = (1 : Int32) then b_MO_runStack_61 (b_MO_runStack_4 n) x2 v3 v5 (x1 + (1 : Int32)) σ7 else (if v3 = (4 : Int32) then (ld (σ7 19) 200 (x2 - (1 : Int32))).bind fun v42 => (ld (σ7 19) 200 (x2 - (2 : Int32))).bind fun v44 => (sto σ7 19 200 (x2 - (1 : Int32)) v44).bind fun σ46 => (sto σ46 19 200 (x2 - (2 : Int32)) v42).bind fun σ48 => b_MO_runStack_350 (b_MO_runStack_4 n) x2 (x1 + (1 : Int32)) σ48 else (f_MO_in v3 (5 : Int32) (8 : Int32) σ7).bind fun q12 => (if q12.1 = 0 then (if v3 = (9 : Int32) then (ld (q12.2 19) 200 (x2 - (1 : Int32))).bind fun v28 => (ld (q12.2 17) 16 (v28 &&& (15 : Int32))).bind fun v30 => (sto q12.2 19 200 (x2 - (1 : Int32)) v30).bind fun σ32 => b_MO_runStack_350 (b_MO_runStack_4 n) x2 (x1 + (1 : Int32)) σ32 else (if v3 = (10 : Int32) then (ld (q12.2 19) 200 (x2 - (2 : Int32))).bind fun v22 => (ld (q12.2 19) 200 (x2 - (1 : Int32))).bind fun v24 => (sto q12.2 17 16 (v22 &&& (15 : Int32)) v24).bind fun σ26 => b_MO_runStack_350 (b_MO_runStack_4 n) (x2 - (2 : Int32)) (x1 + (1 : Int32)) σ26 else (if v3 = (2 : Int32) then b_MO_runStack_273 (b_MO_runStack_4 n) x2 v3 v5 (x1 + (1 : Int32)) q12.2 else (if v3 = (3 : Int32) then b_MO_runStack_273 (b_MO_runStack_4 n) x2 v3 v5 (x1 + (1 : Int32)) q12.2 else (if v3 = (11 : Int32) then b_MO_runStack_273 (b_MO_runStack_4 n) x2 v3 v5 (x1 + (1 : Int32)) q12.2 else (if v3 = (13 : Int32) then b_MO_runStack_273 (b_MO_runStack_4 n) x2 v3 v5 (x1 + (1 : Int32)) q12.2 else (if v3 = (14 : Int32) then b_MO_runStack_350 (b_MO_runStack_4 n) x2 (q12.2 23 0) q12.2 else b_MO_runStack_350 (b_MO_runStack_4 n) x2 v5 q12.2))))))) else (ld (q12.2 19) 200 (x2 - (2 : Int32))).bind fun v34 => (ld (q12.2 19) 200 (x2 - (1 : Int32))).bind fun v36 => (f_MO_combine (v3 - (3 : Int32)) v34 v36 q12.2).bind fun q38 => (sto q38.2 19 200 (x2 - (2 : Int32)) q38.1).bind fun σ40 => b_MO_runStack_350 (b_MO_runStack_4 n) (x2 - (1 : Int32)) (x1 + (1 : Int32)) σ40))))))
set_option maxHeartbeats 4000000 in
set_option maxRecDepth 100000 in
theorem k_MO_runStack_4 {p : Program} {l : Launch} {e : Env} {s : State} {m : MethodId} {args : Array Value} {below : List Frame} {meth : Method} {c : Code} {D : va_G} {a t : Nat → Nat} {cI cZ : ClassId} (ha : aMC a) (F : CallFix p m c b_MO_runStack 7 s args gt R_MO) (hr : meth.sig.returnType = none) (hlk : meth.locks = false) (hK : va_K D vwCl [(cI, .int), (cZ, .boolean)] s) (hT : stM t (aM a) s s.heap) :
    ∀ (n : Nat) (x1 x2 : Int32) (σ : SS) (q : SS), b_MO_runStack_4 n x1 x2 σ = some q → ∀ (H : Heap) (locs : List Loc), va_P D vwCl ((wM a cI cZ) σ) H → va_S (aM a) s.heap H locs → ∀ (ls : Array Slot), lv_has ls 7 [(0, .ref (a 0)), (1, .int x1), (2, .int x2)] → W p l e { frames := 1, cells := 0, slots := 0, locals := 22 } s m args below meth c H locs 0 0 (MQ below (va_Qv (fun u => u = q) (pW D (wM a cI cZ) [(cI, .int), (cZ, .boolean)] (stM t) (aM a)) (aM a)) args s 0 0 (aM a)) (F0 m 4 ls []) := by
  obtain ⟨hx, hb, hml, hown, hg⟩ := id F
  intro n
  induction n with
  | zero =>
    intro x1 x2 σ q hf
    rw [b_MO_runStack_4] at hf
    cases hf
  | succ n ih =>
    intro x1 x2 σ q hf H locs hP hS ls hl
    rw [b_MO_runStack_4] at hf
    refine lv_iload_n hx hb d_MO_runStack_4 rfl (lv_at hl 1 rfl) ?_
    refine lv_aload_n hx hb d_MO_runStack_5 rfl (lv_at hl 0 rfl) ?_
    refine va_get (D := D) (ci := 6) (v := .int (σ 23 0)) (C := R_MO) (T := T_MO) (N := 26) hx hb hg in_MO hown hK hP 0 rfl rfl 15 (by decide) (hg _ gw_598) (fun _ h9 => h9) rfl d_MO_runStack_6 ?_
    refine lv_icmp_ge (tgt := 356) hx hb d_MO_runStack_9 (by decide) (fun c1 => ?_) (fun c1 => ?_)
    · replace hf := (if_pos c1).symm.trans hf
      exact rr_v hx hb hr hlk (stM_g t) hK hT hP hS hf d_MO_runStack_356
    · replace hf := (if_neg c1).symm.trans hf
      refine lv_aload_n hx hb d_MO_runStack_12 rfl (lv_at hl 0 rfl) ?_
      refine va_get (D := D) (ci := 6) (v := .int (σ 25 0)) (C := R_MO) (T := T_MO) (N := 26) hx hb hg in_MO hown hK hP 0 rfl rfl 22 (by decide) (hg _ gw_605) (fun _ h9 => h9) rfl d_MO_runStack_13 ?_
      refine lv_sipush (v := (2000 : Int32)) hx hb d_MO_runStack_16 (by decide) ?_
      refine lv_icmp_ge (tgt := 356) hx hb d_MO_runStack_19 (by decide) (fun c2 => ?_) (fun c2 => ?_)
      · replace hf := (if_pos c2).symm.trans hf
        exact rr_v hx hb hr hlk (stM_g t) hK hT hP hS hf d_MO_runStack_356
      · replace hf := (if_neg c2).symm.trans hf
        refine lv_aload_n hx hb d_MO_runStack_22 rfl (lv_at hl 0 rfl) ?_
        refine va_get (D := D) (ci := 6) (v := .ref (a 13)) (C := R_MO) (T := T_MO) (N := 26) hx hb hg in_MO hown hK hP 0 rfl rfl 16 (by decide) (hg _ gw_599) (fun _ h9 => h9) rfl d_MO_runStack_23 ?_
        refine lv_iload_n hx hb d_MO_runStack_26 rfl (lv_at hl 1 rfl) ?_
        refine bdK hf (fun v3 h4 hf => ?_)
        refine r_iald hx hb hK hP 13 0 rfl rfl h4 d_MO_runStack_27 ?_
        refine lv_istore_n (lv' := [(3, .int v3), (0, .ref (a 0)), (1, .int x1), (2, .int x2)]) hx hb d_MO_runStack_28 rfl hl (by decide) rfl (fun ls hl => ?_)
        refine lv_aload_n hx hb d_MO_runStack_29 rfl (lv_at hl 1 rfl) ?_
        refine va_get (D := D) (ci := 6) (v := .ref (a 14)) (C := R_MO) (T := T_MO) (N := 26) hx hb hg in_MO hown hK hP 0 rfl rfl 17 (by decide) (hg _ gw_600) (fun _ h9 => h9) rfl d_MO_runStack_30 ?_
        refine lv_iload_n hx hb d_MO_runStack_33 rfl (lv_at hl 2 rfl) ?_
        refine bdK hf (fun v5 h6 hf => ?_)
        refine r_iald hx hb hK hP 14 0 rfl rfl h6 d_MO_runStack_34 ?_
        refine lv_istore (lv' := [(4, .int v5), (3, .int v3), (0, .ref (a 0)), (1, .int x1), (2, .int x2)]) hx hb d_MO_runStack_35 hl (by decide) rfl (fun ls hl => ?_)
        refine lv_iload_n hx hb d_MO_runStack_37 rfl (lv_at hl 3 rfl) ?_
        refine lv_iconst (v := (1 : Int32)) hx hb d_MO_runStack_38 (by decide) ?_
        refine lv_iadd hx hb d_MO_runStack_39 ?_
        refine lv_istore (lv' := [(5, .int (x1 + (1 : Int32))), (4, .int v5), (3, .int v3), (0, .ref (a 0)), (1, .int x1), (2, .int x2)]) hx hb d_MO_runStack_40 hl (by decide) rfl (fun ls hl => ?_)
        refine lv_aload_n hx hb d_MO_runStack_42 rfl (lv_at hl 3 rfl) ?_
        refine lv_aload_n hx hb d_MO_runStack_43 rfl (lv_at hl 3 rfl) ?_
        refine va_get (D := D) (ci := 6) (v := .int (σ 25 0)) (C := R_MO) (T := T_MO) (N := 26) hx hb hg in_MO hown hK hP 0 rfl rfl 22 (by decide) (hg _ gw_605) (fun _ h9 => h9) rfl d_MO_runStack_44 ?_
        refine lv_iconst (v := (1 : Int32)) hx hb d_MO_runStack_47 (by decide) ?_
        refine lv_iadd hx hb d_MO_runStack_48 ?_
        refine bdK hf (fun σ7 h8 hf => ?_)
        refine va_put (D := D) (ci := 6) (v := .int ((σ 25 0) + (1 : Int32))) (ty := .int) (C := R_MO) (T := T_MO) (N := 26) hx hb hg in_MO t_MO t_MO_ok n_MO hown hK hP (dM ha σ) hS 0 rfl rfl 22 (by decide) (hg _ gw_605) (fun _ h9 => h9) rfl (by decide +kernel) rfl rfl (Nat.le_of_ble_eq_true rfl) d_MO_runStack_49 (fun H locs hP _ hS => ?_)
        replace hP := sf_P (wf := (wM a cI cZ)) h8 hP rfl
        refine lv_iload_n hx hb d_MO_runStack_52 rfl (lv_at hl 2 rfl) ?_
        refine lv_if_eq (tgt := 61) hx hb d_MO_runStack_53 (by decide) (fun c9 => ?_) (fun c9 => ?_)
        · replace hf := (if_pos c9).symm.trans hf
          exact k_MO_runStack_61 ha F hr hlk hK hT (b_MO_runStack_4 n) ih x2 v3 v5 (x1 + (1 : Int32)) σ7 q hf _ _ hP hS ls (lv_sub hl [3, 5, 2, 1, 0] rfl)
        · replace hf := (if_neg c9).symm.trans hf
          refine lv_iload_n hx hb d_MO_runStack_56 rfl (lv_at hl 2 rfl) ?_
          refine lv_iconst (v := (1 : Int32)) hx hb d_MO_runStack_57 (by decide) ?_
          refine lv_icmp_ne (tgt := 90) hx hb d_MO_runStack_58 (by decide) (fun c10 => ?_) (fun c10 => ?_)
          · replace hf := (if_neg c10).symm.trans hf
            refine lv_iload_n hx hb d_MO_runStack_90 rfl (lv_at hl 2 rfl) ?_
            refine lv_iconst (v := (4 : Int32)) hx hb d_MO_runStack_91 (by decide) ?_
            refine lv_icmp_ne (tgt := 134) hx hb d_MO_runStack_92 (by decide) (fun c11 => ?_) (fun c11 => ?_)
            · replace hf := (if_neg c11).symm.trans hf
              refine lv_iload_n hx hb d_MO_runStack_134 rfl (lv_at hl 2 rfl) ?_
              refine lv_iconst (v := (5 : Int32)) hx hb d_MO_runStack_135 (by decide) ?_
              refine lv_bipush (v := (8 : Int32)) hx hb d_MO_runStack_136 (by decide) ?_
              refine bdK hf (fun q12 h13 hf => ?_)
              refine rc_Si (As := [.int v3, .int (5 : Int32), .int (8 : Int32)]) (rest := []) (stM_g t) F (c_MO_in l ha v3 (5 : Int32) (8 : Int32) σ7 q12 h13) (cwS 3 hg gc_MO_75 rfl rfl rfl hs_MO_in ⟨Nat.le_of_ble_eq_true rfl, Nat.le_of_ble_eq_true rfl⟩) hK hT hP hS rfl hl.1 rfl (Nat.le_of_ble_eq_true rfl) d_MO_runStack_138 ⟨Nat.zero_le _, Nat.zero_le _⟩ (fun H locs hP hS => ?_)
              refine lv_if_eq (tgt := 181) hx hb d_MO_runStack_141 (by decide) (fun c14 => ?_) (fun c14 => ?_)
              · replace hf := (if_pos c14).symm.trans hf
                refine lv_iload_n hx hb d_MO_runStack_181 rfl (lv_at hl 2 rfl) ?_
                refine lv_bipush (v := (9 : Int32)) hx hb d_MO_runStack_182 (by decide) ?_
                refine lv_icmp_ne (tgt := 214) hx hb d_MO_runStack_184 (by decide) (fun c15 => ?_) (fun c15 => ?_)
                · replace hf := (if_neg c15).symm.trans hf
                  refine lv_iload_n hx hb d_MO_runStack_214 rfl (lv_at hl 2 rfl) ?_
                  refine lv_bipush (v := (10 : Int32)) hx hb d_MO_runStack_215 (by decide) ?_
                  refine lv_icmp_ne (tgt := 251) hx hb d_MO_runStack_217 (by decide) (fun c16 => ?_) (fun c16 => ?_)
                  · replace hf := (if_neg c16).symm.trans hf
                    refine lv_iload_n hx hb d_MO_runStack_251 rfl (lv_at hl 2 rfl) ?_
                    refine lv_iconst (v := (2 : Int32)) hx hb d_MO_runStack_252 (by decide) ?_
                    refine lv_icmp_eq (tgt := 273) hx hb d_MO_runStack_253 (by decide) (fun c17 => ?_) (fun c17 => ?_)
                    · replace hf := (if_pos c17).symm.trans hf
                      exact k_MO_runStack_273 ha F hr hlk hK hT (b_MO_runStack_4 n) ih x2 v3 v5 (x1 + (1 : Int32)) q12.2 q hf _ _ hP hS ls (lv_sub hl [3, 5, 2, 1, 0] rfl)
                    · replace hf := (if_neg c17).symm.trans hf
                      refine lv_iload_n hx hb d_MO_runStack_256 rfl (lv_at hl 2 rfl) ?_
                      refine lv_iconst (v := (3 : Int32)) hx hb d_MO_runStack_257 (by decide) ?_
                      refine lv_icmp_eq (tgt := 273) hx hb d_MO_runStack_258 (by decide) (fun c18 => ?_) (fun c18 => ?_)
                      · replace hf := (if_pos c18).symm.trans hf
                        exact k_MO_runStack_273 ha F hr hlk hK hT (b_MO_runStack_4 n) ih x2 v3 v5 (x1 + (1 : Int32)) q12.2 q hf _ _ hP hS ls (lv_sub hl [3, 5, 2, 1, 0] rfl)
                      · replace hf := (if_neg c18).symm.trans hf
                        refine lv_iload_n hx hb d_MO_runStack_261 rfl (lv_at hl 2 rfl) ?_
                        refine lv_bipush (v := (11 : Int32)) hx hb d_MO_runStack_262 (by decide) ?_
                        refine lv_icmp_eq (tgt := 273) hx hb d_MO_runStack_264 (by decide) (fun c19 => ?_) (fun c19 => ?_)
                        · replace hf := (if_pos c19).symm.trans hf
                          exact k_MO_runStack_273 ha F hr hlk hK hT (b_MO_runStack_4 n) ih x2 v3 v5 (x1 + (1 : Int32)) q12.2 q hf _ _ hP hS ls (lv_sub hl [3, 5, 2, 1, 0] rfl)
                        · replace hf := (if_neg c19).symm.trans hf
                          refine lv_iload_n hx hb d_MO_runStack_267 rfl (lv_at hl 2 rfl) ?_
                          refine lv_bipush (v := (13 : Int32)) hx hb d_MO_runStack_268 (by decide) ?_
                          refine lv_icmp_ne (tgt := 333) hx hb d_MO_runStack_270 (by decide) (fun c20 => ?_) (fun c20 => ?_)
                          · replace hf := (if_neg c20).symm.trans hf
                            refine lv_iload_n hx hb d_MO_runStack_333 rfl (lv_at hl 2 rfl) ?_
                            refine lv_bipush (v := (14 : Int32)) hx hb d_MO_runStack_334 (by decide) ?_
                            refine lv_icmp_ne (tgt := 346) hx hb d_MO_runStack_336 (by decide) (fun c21 => ?_) (fun c21 => ?_)
                            · replace hf := (if_neg c21).symm.trans hf
                              refine lv_iload hx hb d_MO_runStack_346 (lv_at hl 1 rfl) ?_
                              refine lv_istore (lv' := [(5, .int v5), (4, .int v5), (3, .int v3), (0, .ref (a 0)), (1, .int x1), (2, .int x2)]) hx hb d_MO_runStack_348 hl (by decide) rfl (fun ls hl => ?_)
                              exact k_MO_runStack_350 ha F hr hlk hK hT (b_MO_runStack_4 n) ih x2 v5 q12.2 q hf _ _ hP hS ls (lv_sub hl [3, 5, 0] rfl)
                            · replace hf := (if_pos c21).symm.trans hf
                              refine lv_aload_n hx hb d_MO_runStack_339 rfl (lv_at hl 3 rfl) ?_
                              refine va_get (D := D) (ci := 6) (v := .int (q12.2 23 0)) (C := R_MO) (T := T_MO) (N := 26) hx hb hg in_MO hown hK hP 0 rfl rfl 15 (by decide) (hg _ gw_598) (fun _ h9 => h9) rfl d_MO_runStack_340 ?_
                              refine lv_goto (tgt := 348) hx hb d_MO_runStack_343 (by decide) ?_
                              refine lv_istore (lv' := [(5, .int (q12.2 23 0)), (4, .int v5), (3, .int v3), (0, .ref (a 0)), (1, .int x1), (2, .int x2)]) hx hb d_MO_runStack_348 hl (by decide) rfl (fun ls hl => ?_)
                              exact k_MO_runStack_350 ha F hr hlk hK hT (b_MO_runStack_4 n) ih x2 (q12.2 23 0) q12.2 q hf _ _ hP hS ls (lv_sub hl [3, 5, 0] rfl)
                          · replace hf := (if_pos c20).symm.trans hf
                            exact k_MO_runStack_273 ha F hr hlk hK hT (b_MO_runStack_4 n) ih x2 v3 v5 (x1 + (1 : Int32)) q12.2 q hf _ _ hP hS ls (lv_sub hl [3, 5, 2, 1, 0] rfl)
                  · replace hf := (if_pos c16).symm.trans hf
                    refine lv_aload_n hx hb d_MO_runStack_220 rfl (lv_at hl 3 rfl) ?_
                    refine va_get (D := D) (ci := 6) (v := .ref (a 18)) (C := R_MO) (T := T_MO) (N := 26) hx hb hg in_MO hown hK hP 0 rfl rfl 23 (by decide) (hg _ gw_606) (fun _ h9 => h9) rfl d_MO_runStack_221 ?_
                    refine lv_aload_n hx hb d_MO_runStack_224 rfl (lv_at hl 3 rfl) ?_
                    refine va_get (D := D) (ci := 6) (v := .ref (a 20)) (C := R_MO) (T := T_MO) (N := 26) hx hb hg in_MO hown hK hP 0 rfl rfl 25 (by decide) (hg _ gw_608) (fun _ h9 => h9) rfl d_MO_runStack_225 ?_
                    refine lv_iload_n hx hb d_MO_runStack_228 rfl (lv_at hl 5 rfl) ?_
                    refine lv_iconst (v := (2 : Int32)) hx hb d_MO_runStack_229 (by decide) ?_
                    refine lv_isub hx hb d_MO_runStack_230 ?_
                    refine bdK hf (fun v22 h23 hf => ?_)
                    refine r_iald hx hb hK hP 20 0 rfl rfl h23 d_MO_runStack_231 ?_
                    refine lv_bipush (v := (15 : Int32)) hx hb d_MO_runStack_232 (by decide) ?_
                    refine lv_iand hx hb d_MO_runStack_234 ?_
                    refine lv_aload_n hx hb d_MO_runStack_235 rfl (lv_at hl 3 rfl) ?_
                    refine va_get (D := D) (ci := 6) (v := .ref (a 20)) (C := R_MO) (T := T_MO) (N := 26) hx hb hg in_MO hown hK hP 0 rfl rfl 25 (by decide) (hg _ gw_608) (fun _ h9 => h9) rfl d_MO_runStack_236 ?_
                    refine lv_iload_n hx hb d_MO_runStack_239 rfl (lv_at hl 5 rfl) ?_
                    refine lv_iconst (v := (1 : Int32)) hx hb d_MO_runStack_240 (by decide) ?_
                    refine lv_isub hx hb d_MO_runStack_241 ?_
                    refine bdK hf (fun v24 h25 hf => ?_)
                    refine r_iald hx hb hK hP 20 0 rfl rfl h25 d_MO_runStack_242 ?_
                    refine bdK hf (fun σ26 h27 hf => ?_)
                    refine r_iast (wf := (wM a cI cZ)) hx hb hK hP (dM ha q12.2) hS 18 0 rfl rfl (fun _ _ => rfl) h27 d_MO_runStack_243 (fun H locs hP hS => ?_)
                    refine lv_iload_n hx hb d_MO_runStack_244 rfl (lv_at hl 5 rfl) ?_
                    refine lv_iconst (v := (2 : Int32)) hx hb d_MO_runStack_245 (by decide) ?_
                    refine lv_isub hx hb d_MO_runStack_246 ?_
                    refine lv_istore_n (lv' := [(2, .int (x2 - (2 : Int32))), (5, .int (x1 + (1 : Int32))), (4, .int v5), (3, .int v3), (0, .ref (a 0)), (1, .int x1)]) hx hb d_MO_runStack_247 rfl hl (by decide) rfl (fun ls hl => ?_)
                    refine lv_goto (tgt := 350) hx hb d_MO_runStack_248 (by decide) ?_
                    exact k_MO_runStack_350 ha F hr hlk hK hT (b_MO_runStack_4 n) ih (x2 - (2 : Int32)) (x1 + (1 : Int32)) σ26 q hf _ _ hP hS ls (lv_sub hl [4, 0, 1] rfl)
                · replace hf := (if_pos c15).symm.trans hf
                  refine lv_aload_n hx hb d_MO_runStack_187 rfl (lv_at hl 3 rfl) ?_
                  refine va_get (D := D) (ci := 6) (v := .ref (a 20)) (C := R_MO) (T := T_MO) (N := 26) hx hb hg in_MO hown hK hP 0 rfl rfl 25 (by decide) (hg _ gw_608) (fun _ h9 => h9) rfl d_MO_runStack_188 ?_
                  refine lv_iload_n hx hb d_MO_runStack_191 rfl (lv_at hl 5 rfl) ?_
                  refine lv_iconst (v := (1 : Int32)) hx hb d_MO_runStack_192 (by decide) ?_
                  refine lv_isub hx hb d_MO_runStack_193 ?_
                  refine lv_aload_n hx hb d_MO_runStack_194 rfl (lv_at hl 3 rfl) ?_
                  refine va_get (D := D) (ci := 6) (v := .ref (a 18)) (C := R_MO) (T := T_MO) (N := 26) hx hb hg in_MO hown hK hP 0 rfl rfl 23 (by decide) (hg _ gw_606) (fun _ h9 => h9) rfl d_MO_runStack_195 ?_
                  refine lv_aload_n hx hb d_MO_runStack_198 rfl (lv_at hl 3 rfl) ?_
                  refine va_get (D := D) (ci := 6) (v := .ref (a 20)) (C := R_MO) (T := T_MO) (N := 26) hx hb hg in_MO hown hK hP 0 rfl rfl 25 (by decide) (hg _ gw_608) (fun _ h9 => h9) rfl d_MO_runStack_199 ?_
                  refine lv_iload_n hx hb d_MO_runStack_202 rfl (lv_at hl 5 rfl) ?_
                  refine lv_iconst (v := (1 : Int32)) hx hb d_MO_runStack_203 (by decide) ?_
                  refine lv_isub hx hb d_MO_runStack_204 ?_
                  refine bdK hf (fun v28 h29 hf => ?_)
                  refine r_iald hx hb hK hP 20 0 rfl rfl h29 d_MO_runStack_205 ?_
                  refine lv_bipush (v := (15 : Int32)) hx hb d_MO_runStack_206 (by decide) ?_
                  refine lv_iand hx hb d_MO_runStack_208 ?_
                  refine bdK hf (fun v30 h31 hf => ?_)
                  refine r_iald hx hb hK hP 18 0 rfl rfl h31 d_MO_runStack_209 ?_
                  refine bdK hf (fun σ32 h33 hf => ?_)
                  refine r_iast (wf := (wM a cI cZ)) hx hb hK hP (dM ha q12.2) hS 20 0 rfl rfl (fun _ _ => rfl) h33 d_MO_runStack_210 (fun H locs hP hS => ?_)
                  refine lv_goto (tgt := 350) hx hb d_MO_runStack_211 (by decide) ?_
                  exact k_MO_runStack_350 ha F hr hlk hK hT (b_MO_runStack_4 n) ih x2 (x1 + (1 : Int32)) σ32 q hf _ _ hP hS ls (lv_sub hl [3, 5, 0] rfl)
              · replace hf := (if_neg c14).symm.trans hf
                refine lv_aload_n hx hb d_MO_runStack_144 rfl (lv_at hl 3 rfl) ?_
                refine va_get (D := D) (ci := 6) (v := .ref (a 20)) (C := R_MO) (T := T_MO) (N := 26) hx hb hg in_MO hown hK hP 0 rfl rfl 25 (by decide) (hg _ gw_608) (fun _ h9 => h9) rfl d_MO_runStack_145 ?_
                refine lv_iload_n hx hb d_MO_runStack_148 rfl (lv_at hl 5 rfl) ?_
                refine lv_iconst (v := (2 : Int32)) hx hb d_MO_runStack_149 (by decide) ?_
                refine lv_isub hx hb d_MO_runStack_150 ?_
                refine lv_iload_n hx hb d_MO_runStack_151 rfl (lv_at hl 2 rfl) ?_
                refine lv_iconst (v := (3 : Int32)) hx hb d_MO_runStack_152 (by decide) ?_
                refine lv_isub hx hb d_MO_runStack_153 ?_
                refine lv_aload_n hx hb d_MO_runStack_154 rfl (lv_at hl 3 rfl) ?_
                refine va_get (D := D) (ci := 6) (v := .ref (a 20)) (C := R_MO) (T := T_MO) (N := 26) hx hb hg in_MO hown hK hP 0 rfl rfl 25 (by decide) (hg _ gw_608) (fun _ h9 => h9) rfl d_MO_runStack_155 ?_
                refine lv_iload_n hx hb d_MO_runStack_158 rfl (lv_at hl 5 rfl) ?_
                refine lv_iconst (v := (2 : Int32)) hx hb d_MO_runStack_159 (by decide) ?_
                refine lv_isub hx hb d_MO_runStack_160 ?_
                refine bdK hf (fun v34 h35 hf => ?_)
                refine r_iald hx hb hK hP 20 0 rfl rfl h35 d_MO_runStack_161 ?_
                refine lv_aload_n hx hb d_MO_runStack_162 rfl (lv_at hl 3 rfl) ?_
                refine va_get (D := D) (ci := 6) (v := .ref (a 20)) (C := R_MO) (T := T_MO) (N := 26) hx hb hg in_MO hown hK hP 0 rfl rfl 25 (by decide) (hg _ gw_608) (fun _ h9 => h9) rfl d_MO_runStack_163 ?_
                refine lv_iload_n hx hb d_MO_runStack_166 rfl (lv_at hl 5 rfl) ?_
                refine lv_iconst (v := (1 : Int32)) hx hb d_MO_runStack_167 (by decide) ?_
                refine lv_isub hx hb d_MO_runStack_168 ?_
                refine bdK hf (fun v36 h37 hf => ?_)
                refine r_iald hx hb hK hP 20 0 rfl rfl h37 d_MO_runStack_169 ?_
                refine bdK hf (fun q38 h39 hf => ?_)
                refine rc_Si (As := [.int (v3 - (3 : Int32)), .int v34, .int v36]) (rest := [.int (x2 - (2 : Int32)), .ref (a 20)]) (stM_g t) F (c_MO_combine l ha (v3 - (3 : Int32)) v34 v36 q12.2 q38 h39) (cwS 3 hg gc_MO_179 rfl rfl rfl hs_MO_combine ⟨Nat.le_of_ble_eq_true rfl, Nat.le_of_ble_eq_true rfl⟩) hK hT hP hS rfl hl.1 rfl (Nat.le_of_ble_eq_true rfl) d_MO_runStack_170 ⟨Nat.zero_le _, Nat.zero_le _⟩ (fun H locs hP hS => ?_)
                refine bdK hf (fun σ40 h41 hf => ?_)
                refine r_iast (wf := (wM a cI cZ)) hx hb hK hP (dM ha q38.2) hS 20 0 rfl rfl (fun _ _ => rfl) h41 d_MO_runStack_173 (fun H locs hP hS => ?_)
                refine lv_iload_n hx hb d_MO_runStack_174 rfl (lv_at hl 5 rfl) ?_
                refine lv_iconst (v := (1 : Int32)) hx hb d_MO_runStack_175 (by decide) ?_
                refine lv_isub hx hb d_MO_runStack_176 ?_
                refine lv_istore_n (lv' := [(2, .int (x2 - (1 : Int32))), (5, .int (x1 + (1 : Int32))), (4, .int v5), (3, .int v3), (0, .ref (a 0)), (1, .int x1)]) hx hb d_MO_runStack_177 rfl hl (by decide) rfl (fun ls hl => ?_)
                refine lv_goto (tgt := 350) hx hb d_MO_runStack_178 (by decide) ?_
                exact k_MO_runStack_350 ha F hr hlk hK hT (b_MO_runStack_4 n) ih (x2 - (1 : Int32)) (x1 + (1 : Int32)) σ40 q hf _ _ hP hS ls (lv_sub hl [4, 0, 1] rfl)
            · replace hf := (if_pos c11).symm.trans hf
              refine lv_aload_n hx hb d_MO_runStack_95 rfl (lv_at hl 3 rfl) ?_
              refine va_get (D := D) (ci := 6) (v := .ref (a 20)) (C := R_MO) (T := T_MO) (N := 26) hx hb hg in_MO hown hK hP 0 rfl rfl 25 (by decide) (hg _ gw_608) (fun _ h9 => h9) rfl d_MO_runStack_96 ?_
              refine lv_iload_n hx hb d_MO_runStack_99 rfl (lv_at hl 5 rfl) ?_
              refine lv_iconst (v := (1 : Int32)) hx hb d_MO_runStack_100 (by decide) ?_
              refine lv_isub hx hb d_MO_runStack_101 ?_
              refine bdK hf (fun v42 h43 hf => ?_)
              refine r_iald hx hb hK hP 20 0 rfl rfl h43 d_MO_runStack_102 ?_
              refine lv_istore (lv' := [(6, .int v42), (5, .int (x1 + (1 : Int32))), (4, .int v5), (3, .int v3), (0, .ref (a 0)), (1, .int x1), (2, .int x2)]) hx hb d_MO_runStack_103 hl (by decide) rfl (fun ls hl => ?_)
              refine lv_aload_n hx hb d_MO_runStack_105 rfl (lv_at hl 4 rfl) ?_
              refine va_get (D := D) (ci := 6) (v := .ref (a 20)) (C := R_MO) (T := T_MO) (N := 26) hx hb hg in_MO hown hK hP 0 rfl rfl 25 (by decide) (hg _ gw_608) (fun _ h9 => h9) rfl d_MO_runStack_106 ?_
              refine lv_iload_n hx hb d_MO_runStack_109 rfl (lv_at hl 6 rfl) ?_
              refine lv_iconst (v := (1 : Int32)) hx hb d_MO_runStack_110 (by decide) ?_
              refine lv_isub hx hb d_MO_runStack_111 ?_
              refine lv_aload_n hx hb d_MO_runStack_112 rfl (lv_at hl 4 rfl) ?_
              refine va_get (D := D) (ci := 6) (v := .ref (a 20)) (C := R_MO) (T := T_MO) (N := 26) hx hb hg in_MO hown hK hP 0 rfl rfl 25 (by decide) (hg _ gw_608) (fun _ h9 => h9) rfl d_MO_runStack_113 ?_
              refine lv_iload_n hx hb d_MO_runStack_116 rfl (lv_at hl 6 rfl) ?_
              refine lv_iconst (v := (2 : Int32)) hx hb d_MO_runStack_117 (by decide) ?_
              refine lv_isub hx hb d_MO_runStack_118 ?_
              refine bdK hf (fun v44 h45 hf => ?_)
              refine r_iald hx hb hK hP 20 0 rfl rfl h45 d_MO_runStack_119 ?_
              refine bdK hf (fun σ46 h47 hf => ?_)
              refine r_iast (wf := (wM a cI cZ)) hx hb hK hP (dM ha σ7) hS 20 0 rfl rfl (fun _ _ => rfl) h47 d_MO_runStack_120 (fun H locs hP hS => ?_)
              refine lv_aload_n hx hb d_MO_runStack_121 rfl (lv_at hl 4 rfl) ?_
              refine va_get (D := D) (ci := 6) (v := .ref (a 20)) (C := R_MO) (T := T_MO) (N := 26) hx hb hg in_MO hown hK hP 0 rfl rfl 25 (by decide) (hg _ gw_608) (fun _ h9 => h9) rfl d_MO_runStack_122 ?_
              refine lv_iload_n hx hb d_MO_runStack_125 rfl (lv_at hl 6 rfl) ?_
              refine lv_iconst (v := (2 : Int32)) hx hb d_MO_runStack_126 (by decide) ?_
              refine lv_isub hx hb d_MO_runStack_127 ?_
              refine lv_iload hx hb d_MO_runStack_128 (lv_at hl 0 rfl) ?_
              refine bdK hf (fun σ48 h49 hf => ?_)
              refine r_iast (wf := (wM a cI cZ)) hx hb hK hP (dM ha σ46) hS 20 0 rfl rfl (fun _ _ => rfl) h49 d_MO_runStack_130 (fun H locs hP hS => ?_)
              refine lv_goto (tgt := 350) hx hb d_MO_runStack_131 (by decide) ?_
              exact k_MO_runStack_350 ha F hr hlk hK hT (b_MO_runStack_4 n) ih x2 (x1 + (1 : Int32)) σ48 q hf _ _ hP hS ls (lv_sub hl [4, 6, 1] rfl)
          · replace hf := (if_pos c10).symm.trans hf
            exact k_MO_runStack_61 ha F hr hlk hK hT (b_MO_runStack_4 n) ih x2 v3 v5 (x1 + (1 : Int32)) σ7 q hf _ _ hP hS ls (lv_sub hl [3, 5, 2, 1, 0] rfl)
def f_MO_runStack (σ : SS) : Option (SS) :=
  b_MO_runStack_4 FU (0 : Int32) (0 : Int32) σ
set_option maxHeartbeats 4000000 in
set_option maxRecDepth 100000 in
theorem e_MO_runStack {p : Program} {l : Launch} {e : Env} {s : State} {m : MethodId} {args : Array Value} {below : List Frame} {meth : Method} {c : Code} {D : va_G} {a t : Nat → Nat} {cI cZ : ClassId} (ha : aMC a) (F : CallFix p m c b_MO_runStack 7 s args gt R_MO) (hr : meth.sig.returnType = none) (hlk : meth.locks = false) (hK : va_K D vwCl [(cI, .int), (cZ, .boolean)] s) (hT : stM t (aM a) s s.heap) :
    ∀ (σ : SS) (q : SS), f_MO_runStack σ = some q → ∀ (H : Heap) (locs : List Loc), va_P D vwCl ((wM a cI cZ) σ) H → va_S (aM a) s.heap H locs → ∀ (ls : Array Slot), lv_has ls 7 [(0, .ref (a 0))] → W p l e { frames := 1, cells := 0, slots := 0, locals := 22 } s m args below meth c H locs 0 0 (MQ below (va_Qv (fun u => u = q) (pW D (wM a cI cZ) [(cI, .int), (cZ, .boolean)] (stM t) (aM a)) (aM a)) args s 0 0 (aM a)) (F0 m 0 ls []) := by
  obtain ⟨hx, hb, hml, hown, hg⟩ := id F
  intro σ q hf H locs hP hS ls hl
  unfold f_MO_runStack at hf
  refine lv_iconst (v := (0 : Int32)) hx hb d_MO_runStack_0 (by decide) ?_
  refine lv_istore_n (lv' := [(1, .int (0 : Int32)), (0, .ref (a 0))]) hx hb d_MO_runStack_1 rfl hl (by decide) rfl (fun ls hl => ?_)
  refine lv_iconst (v := (0 : Int32)) hx hb d_MO_runStack_2 (by decide) ?_
  refine lv_istore_n (lv' := [(2, .int (0 : Int32)), (1, .int (0 : Int32)), (0, .ref (a 0))]) hx hb d_MO_runStack_3 rfl hl (by decide) rfl (fun ls hl => ?_)
  exact k_MO_runStack_4 ha F hr hlk hK hT FU (0 : Int32) (0 : Int32) σ q hf _ _ hP hS ls (lv_sub hl [2, 1, 0] rfl)
set_option maxHeartbeats 4000000 in
set_option maxRecDepth 100000 in
theorem c_MO_runStack (l : Launch) {D : va_G} {a t : Nat → Nat} {cI cZ : ClassId} (ha : aMC a) (σ : SS) (q : SS) (hf : f_MO_runStack σ = some q) : Met l y_MO_runStack ws_MO_runStack { frames := 1, cells := 0, slots := 0, locals := 22 } (va_Pc [.ref (a 0)] (pW D (wM a cI cZ) [(cI, .int), (cZ, .boolean)] (stM t) (aM a) σ)) (va_Qv (fun u => u = q) (pW D (wM a cI cZ) [(cI, .int), (cZ, .boolean)] (stM t) (aM a)) (aM a)) 0 0 (aM a) := by
  refine Met.ofW (cc := b_MO_runStack) (maxL := 7) (ret := none) (by decide) rfl ?_
  intro p e s m args below meth c s₁ B hml hv
  obtain ⟨rfl, hP, hK, hT⟩ := hv
  have hl := lv_entry ([.ref (a 0)]) (n := 7) (Nat.le_of_ble_eq_true rfl)
  rw [lg_entry_eq]
  generalize (lg_sl ([.ref (a 0)]) ++ List.replicate (7 - (lg_sl ([.ref (a 0)])).length) Slot.unset).toArray = ls at hl ⊢
  exact e_MO_runStack ha ⟨B.exec, B.bytes, hml, findClass_of_methodNamed B.named, fun w h => atoms_spec (ws := ws_MO_runStack) B.pre w (List.mem_cons_of_mem _ h)⟩ B.returns B.notSynchronized hK hT σ q hf s.heap [] hP va_S.rf ls hl
theorem d_MO_run_0 : decode b_MO_run 0 = .ok (.iload_n 1, 1) := by decide +kernel
theorem d_MO_run_1 : decode b_MO_run 1 = .ok (.iconst 0, 1) := by decide +kernel
theorem d_MO_run_2 : decode b_MO_run 2 = .ok (.iconst 1, 1) := by decide +kernel
theorem d_MO_run_3 : decode b_MO_run 3 = .ok (.invokestatic 75, 3) := by decide +kernel
theorem d_MO_run_6 : decode b_MO_run 6 = .ok (.ifCond .ne 5, 3) := by decide +kernel
theorem d_MO_run_9 : decode b_MO_run 9 = .ok (.iconst (-1), 1) := by decide +kernel
theorem d_MO_run_10 : decode b_MO_run 10 = .ok (.ireturn, 1) := by decide +kernel
theorem d_MO_run_11 : decode b_MO_run 11 = .ok (.aload_n 0, 1) := by decide +kernel
theorem d_MO_run_12 : decode b_MO_run 12 = .ok (.invokevirtual 170, 3) := by decide +kernel
theorem d_MO_run_15 : decode b_MO_run 15 = .ok (.aload_n 0, 1) := by decide +kernel
theorem d_MO_run_16 : decode b_MO_run 16 = .ok (.iconst 0, 1) := by decide +kernel
theorem d_MO_run_17 : decode b_MO_run 17 = .ok (.putfield 173, 3) := by decide +kernel
theorem d_MO_run_20 : decode b_MO_run 20 = .ok (.aload_n 0, 1) := by decide +kernel
theorem d_MO_run_21 : decode b_MO_run 21 = .ok (.iconst 0, 1) := by decide +kernel
theorem d_MO_run_22 : decode b_MO_run 22 = .ok (.putfield 182, 3) := by decide +kernel
theorem d_MO_run_25 : decode b_MO_run 25 = .ok (.iconst 0, 1) := by decide +kernel
theorem d_MO_run_26 : decode b_MO_run 26 = .ok (.istore_n 2, 1) := by decide +kernel
theorem d_MO_run_27 : decode b_MO_run 27 = .ok (.iload_n 2, 1) := by decide +kernel
theorem d_MO_run_28 : decode b_MO_run 28 = .ok (.bipush 16, 2) := by decide +kernel
theorem d_MO_run_30 : decode b_MO_run 30 = .ok (.if_icmp .ge 16, 3) := by decide +kernel
theorem d_MO_run_33 : decode b_MO_run 33 = .ok (.aload_n 0, 1) := by decide +kernel
theorem d_MO_run_34 : decode b_MO_run 34 = .ok (.getfield 62, 3) := by decide +kernel
theorem d_MO_run_37 : decode b_MO_run 37 = .ok (.iload_n 2, 1) := by decide +kernel
theorem d_MO_run_38 : decode b_MO_run 38 = .ok (.iconst 0, 1) := by decide +kernel
theorem d_MO_run_39 : decode b_MO_run 39 = .ok (.iastore, 1) := by decide +kernel
theorem d_MO_run_40 : decode b_MO_run 40 = .ok (.iinc 2 1, 3) := by decide +kernel
theorem d_MO_run_43 : decode b_MO_run 43 = .ok (.goto (-16), 3) := by decide +kernel
theorem d_MO_run_46 : decode b_MO_run 46 = .ok (.iconst 0, 1) := by decide +kernel
theorem d_MO_run_47 : decode b_MO_run 47 = .ok (.istore_n 2, 1) := by decide +kernel
theorem d_MO_run_48 : decode b_MO_run 48 = .ok (.iload_n 2, 1) := by decide +kernel
theorem d_MO_run_49 : decode b_MO_run 49 = .ok (.bipush 10, 2) := by decide +kernel
theorem d_MO_run_51 : decode b_MO_run 51 = .ok (.if_icmp .ge 16, 3) := by decide +kernel
theorem d_MO_run_54 : decode b_MO_run 54 = .ok (.aload_n 0, 1) := by decide +kernel
theorem d_MO_run_55 : decode b_MO_run 55 = .ok (.getfield 65, 3) := by decide +kernel
theorem d_MO_run_58 : decode b_MO_run 58 = .ok (.iload_n 2, 1) := by decide +kernel
theorem d_MO_run_59 : decode b_MO_run 59 = .ok (.iconst 0, 1) := by decide +kernel
theorem d_MO_run_60 : decode b_MO_run 60 = .ok (.iastore, 1) := by decide +kernel
theorem d_MO_run_61 : decode b_MO_run 61 = .ok (.iinc 2 1, 3) := by decide +kernel
theorem d_MO_run_64 : decode b_MO_run 64 = .ok (.goto (-16), 3) := by decide +kernel
theorem d_MO_run_67 : decode b_MO_run 67 = .ok (.iload_n 1, 1) := by decide +kernel
theorem d_MO_run_68 : decode b_MO_run 68 = .ok (.ifCond .ne 10, 3) := by decide +kernel
theorem d_MO_run_71 : decode b_MO_run 71 = .ok (.aload_n 0, 1) := by decide +kernel
theorem d_MO_run_72 : decode b_MO_run 72 = .ok (.invokevirtual 188, 3) := by decide +kernel
theorem d_MO_run_75 : decode b_MO_run 75 = .ok (.goto 7, 3) := by decide +kernel
theorem d_MO_run_78 : decode b_MO_run 78 = .ok (.aload_n 0, 1) := by decide +kernel
theorem d_MO_run_79 : decode b_MO_run 79 = .ok (.invokevirtual 191, 3) := by decide +kernel
theorem d_MO_run_82 : decode b_MO_run 82 = .ok (.aload_n 0, 1) := by decide +kernel
theorem d_MO_run_83 : decode b_MO_run 83 = .ok (.getfield 173, 3) := by decide +kernel
theorem d_MO_run_86 : decode b_MO_run 86 = .ok (.ireturn, 1) := by decide +kernel
theorem gc_MO_191 : GoodIn gt (wsV R_MO 191 R_MO y_MO_runStack ws_MO_runStack) := gd_V gw_826 gw_828 gs_60 gw_7 gw_829
theorem gc_MO_188 : GoodIn gt (wsV R_MO 188 R_MO y_MO_runRegisters ws_MO_runRegisters) := gd_V gw_811 gw_813 gs_57 gw_7 gw_814
def b_MO_run_48 : Nat → Int32 → Int32 → SS → Option (Int32 × SS)
  | 0, _, _, _ => none
  | n + 1, x1, x2, σ =>
    (if (10 : Int32) ≤ x2 then (if x1 = 0 then (f_MO_runRegisters σ).bind fun σ5 => some ((σ5 24 0), σ5) else (f_MO_runStack σ).bind fun σ3 => some ((σ3 24 0), σ3)) else (sto σ 18 10 x2 (0 : Int32)).bind fun σ7 => b_MO_run_48 n x1 (x2 + (1 : Int32)) σ7)
set_option maxHeartbeats 4000000 in
set_option maxRecDepth 100000 in
theorem k_MO_run_48 {p : Program} {l : Launch} {e : Env} {s : State} {m : MethodId} {args : Array Value} {below : List Frame} {meth : Method} {c : Code} {D : va_G} {a t : Nat → Nat} {cI cZ : ClassId} (ha : aMC a) (F : CallFix p m c b_MO_run 3 s args gt R_MO) (hr : meth.sig.returnType = some .int) (hlk : meth.locks = false) (hK : va_K D vwCl [(cI, .int), (cZ, .boolean)] s) (hT : stM t (aM a) s s.heap) :
    ∀ (n : Nat) (x1 x2 : Int32) (σ : SS) (q : Int32 × SS), b_MO_run_48 n x1 x2 σ = some q → ∀ (H : Heap) (locs : List Loc), va_P D vwCl ((wM a cI cZ) σ) H → va_S (aM a) s.heap H locs → ∀ (ls : Array Slot), lv_has ls 3 [(0, .ref (a 0)), (1, .int x1), (2, .int x2)] → W p l e { frames := 6, cells := 0, slots := 0, locals := 140 } s m args below meth c H locs 0 0 (MQ below (va_Qi (fun r u => r = q.1 ∧ u = q.2) (pW D (wM a cI cZ) [(cI, .int), (cZ, .boolean)] (stM t) (aM a)) (aM a)) args s 0 0 (aM a)) (F0 m 48 ls []) := by
  obtain ⟨hx, hb, hml, hown, hg⟩ := id F
  intro n
  induction n with
  | zero =>
    intro x1 x2 σ q hf
    rw [b_MO_run_48] at hf
    cases hf
  | succ n ih =>
    intro x1 x2 σ q hf H locs hP hS ls hl
    rw [b_MO_run_48] at hf
    refine lv_iload_n hx hb d_MO_run_48 rfl (lv_at hl 2 rfl) ?_
    refine lv_bipush (v := (10 : Int32)) hx hb d_MO_run_49 (by decide) ?_
    refine lv_icmp_ge (tgt := 67) hx hb d_MO_run_51 (by decide) (fun c1 => ?_) (fun c1 => ?_)
    · replace hf := (if_pos c1).symm.trans hf
      refine lv_iload_n hx hb d_MO_run_67 rfl (lv_at hl 1 rfl) ?_
      refine lv_if_ne (tgt := 78) hx hb d_MO_run_68 (by decide) (fun c2 => ?_) (fun c2 => ?_)
      · replace hf := (if_neg c2).symm.trans hf
        refine lv_aload_n hx hb d_MO_run_78 rfl (lv_at hl 0 rfl) ?_
        refine bdK hf (fun σ3 h4 hf => ?_)
        refine rc_Vv (As := []) (rest := []) (b := a 0) (stM_g t) F (c_MO_runStack l ha σ σ3 h4) (cwV 0 hg gc_MO_191 rfl rfl rfl hs_MO_runStack ⟨Nat.le_of_ble_eq_true rfl, Nat.le_of_ble_eq_true rfl⟩) hK hT hP hS (va_recv hK hP (ci := 6) (q0 := 0) rfl rfl) rfl hl.1 rfl (Nat.le_of_ble_eq_true rfl) d_MO_run_79 ⟨Nat.zero_le _, Nat.zero_le _⟩ (fun H locs hP hS => ?_)
        refine lv_aload_n hx hb d_MO_run_82 rfl (lv_at hl 0 rfl) ?_
        refine va_get (D := D) (ci := 6) (v := .int (σ3 24 0)) (C := R_MO) (T := T_MO) (N := 26) hx hb hg in_MO hown hK hP 0 rfl rfl 20 (by decide) (hg _ gw_603) (fun _ h9 => h9) rfl d_MO_run_83 ?_
        exact rr_i hx hb hr hlk (stM_g t) hK hT hP hS hf d_MO_run_86
      · replace hf := (if_pos c2).symm.trans hf
        refine lv_aload_n hx hb d_MO_run_71 rfl (lv_at hl 0 rfl) ?_
        refine bdK hf (fun σ5 h6 hf => ?_)
        refine rc_Vv (As := []) (rest := []) (b := a 0) (stM_g t) F (c_MO_runRegisters l ha σ σ5 h6) (cwV 0 hg gc_MO_188 rfl rfl rfl hs_MO_runRegisters ⟨Nat.le_of_ble_eq_true rfl, Nat.le_of_ble_eq_true rfl⟩) hK hT hP hS (va_recv hK hP (ci := 6) (q0 := 0) rfl rfl) rfl hl.1 rfl (Nat.le_of_ble_eq_true rfl) d_MO_run_72 ⟨Nat.zero_le _, Nat.zero_le _⟩ (fun H locs hP hS => ?_)
        refine lv_goto (tgt := 82) hx hb d_MO_run_75 (by decide) ?_
        refine lv_aload_n hx hb d_MO_run_82 rfl (lv_at hl 0 rfl) ?_
        refine va_get (D := D) (ci := 6) (v := .int (σ5 24 0)) (C := R_MO) (T := T_MO) (N := 26) hx hb hg in_MO hown hK hP 0 rfl rfl 20 (by decide) (hg _ gw_603) (fun _ h9 => h9) rfl d_MO_run_83 ?_
        exact rr_i hx hb hr hlk (stM_g t) hK hT hP hS hf d_MO_run_86
    · replace hf := (if_neg c1).symm.trans hf
      refine lv_aload_n hx hb d_MO_run_54 rfl (lv_at hl 0 rfl) ?_
      refine va_get (D := D) (ci := 6) (v := .ref (a 19)) (C := R_MO) (T := T_MO) (N := 26) hx hb hg in_MO hown hK hP 0 rfl rfl 24 (by decide) (hg _ gw_607) (fun _ h9 => h9) rfl d_MO_run_55 ?_
      refine lv_iload_n hx hb d_MO_run_58 rfl (lv_at hl 2 rfl) ?_
      refine lv_iconst (v := (0 : Int32)) hx hb d_MO_run_59 (by decide) ?_
      refine bdK hf (fun σ7 h8 hf => ?_)
      refine r_iast (wf := (wM a cI cZ)) hx hb hK hP (dM ha σ) hS 19 0 rfl rfl (fun _ _ => rfl) h8 d_MO_run_60 (fun H locs hP hS => ?_)
      refine lv_iinc (v := (x2 + (1 : Int32))) (lv' := [(2, .int (x2 + (1 : Int32))), (0, .ref (a 0)), (1, .int x1)]) hx hb d_MO_run_61 hl (k := 2) rfl (by rfl) (by decide) rfl (fun ls hl => ?_)
      refine lv_goto (tgt := 48) hx hb d_MO_run_64 (by decide) ?_
      exact ih x1 (x2 + (1 : Int32)) σ7 q hf _ _ hP hS ls (lv_sub hl [1, 2, 0] rfl)
def b_MO_run_27 : Nat → Int32 → Int32 → SS → Option (Int32 × SS)
  | 0, _, _, _ => none
  | n + 1, x1, x2, σ =>
    (if (16 : Int32) ≤ x2 then b_MO_run_48 FU x1 (0 : Int32) σ else (sto σ 17 16 x2 (0 : Int32)).bind fun σ2 => b_MO_run_27 n x1 (x2 + (1 : Int32)) σ2)
set_option maxHeartbeats 4000000 in
set_option maxRecDepth 100000 in
theorem k_MO_run_27 {p : Program} {l : Launch} {e : Env} {s : State} {m : MethodId} {args : Array Value} {below : List Frame} {meth : Method} {c : Code} {D : va_G} {a t : Nat → Nat} {cI cZ : ClassId} (ha : aMC a) (F : CallFix p m c b_MO_run 3 s args gt R_MO) (hr : meth.sig.returnType = some .int) (hlk : meth.locks = false) (hK : va_K D vwCl [(cI, .int), (cZ, .boolean)] s) (hT : stM t (aM a) s s.heap) :
    ∀ (n : Nat) (x1 x2 : Int32) (σ : SS) (q : Int32 × SS), b_MO_run_27 n x1 x2 σ = some q → ∀ (H : Heap) (locs : List Loc), va_P D vwCl ((wM a cI cZ) σ) H → va_S (aM a) s.heap H locs → ∀ (ls : Array Slot), lv_has ls 3 [(0, .ref (a 0)), (1, .int x1), (2, .int x2)] → W p l e { frames := 6, cells := 0, slots := 0, locals := 140 } s m args below meth c H locs 0 0 (MQ below (va_Qi (fun r u => r = q.1 ∧ u = q.2) (pW D (wM a cI cZ) [(cI, .int), (cZ, .boolean)] (stM t) (aM a)) (aM a)) args s 0 0 (aM a)) (F0 m 27 ls []) := by
  obtain ⟨hx, hb, hml, hown, hg⟩ := id F
  intro n
  induction n with
  | zero =>
    intro x1 x2 σ q hf
    rw [b_MO_run_27] at hf
    cases hf
  | succ n ih =>
    intro x1 x2 σ q hf H locs hP hS ls hl
    rw [b_MO_run_27] at hf
    refine lv_iload_n hx hb d_MO_run_27 rfl (lv_at hl 2 rfl) ?_
    refine lv_bipush (v := (16 : Int32)) hx hb d_MO_run_28 (by decide) ?_
    refine lv_icmp_ge (tgt := 46) hx hb d_MO_run_30 (by decide) (fun c1 => ?_) (fun c1 => ?_)
    · replace hf := (if_pos c1).symm.trans hf
      refine lv_iconst (v := (0 : Int32)) hx hb d_MO_run_46 (by decide) ?_
      refine lv_istore_n (lv' := [(2, .int (0 : Int32)), (0, .ref (a 0)), (1, .int x1)]) hx hb d_MO_run_47 rfl hl (by decide) rfl (fun ls hl => ?_)
      exact k_MO_run_48 ha F hr hlk hK hT FU x1 (0 : Int32) σ q hf _ _ hP hS ls (lv_sub hl [1, 2, 0] rfl)
    · replace hf := (if_neg c1).symm.trans hf
      refine lv_aload_n hx hb d_MO_run_33 rfl (lv_at hl 0 rfl) ?_
      refine va_get (D := D) (ci := 6) (v := .ref (a 18)) (C := R_MO) (T := T_MO) (N := 26) hx hb hg in_MO hown hK hP 0 rfl rfl 23 (by decide) (hg _ gw_606) (fun _ h9 => h9) rfl d_MO_run_34 ?_
      refine lv_iload_n hx hb d_MO_run_37 rfl (lv_at hl 2 rfl) ?_
      refine lv_iconst (v := (0 : Int32)) hx hb d_MO_run_38 (by decide) ?_
      refine bdK hf (fun σ2 h3 hf => ?_)
      refine r_iast (wf := (wM a cI cZ)) hx hb hK hP (dM ha σ) hS 18 0 rfl rfl (fun _ _ => rfl) h3 d_MO_run_39 (fun H locs hP hS => ?_)
      refine lv_iinc (v := (x2 + (1 : Int32))) (lv' := [(2, .int (x2 + (1 : Int32))), (0, .ref (a 0)), (1, .int x1)]) hx hb d_MO_run_40 hl (k := 2) rfl (by rfl) (by decide) rfl (fun ls hl => ?_)
      refine lv_goto (tgt := 27) hx hb d_MO_run_43 (by decide) ?_
      exact ih x1 (x2 + (1 : Int32)) σ2 q hf _ _ hP hS ls (lv_sub hl [1, 2, 0] rfl)
def f_MO_run (x1 : Int32) (σ : SS) : Option (Int32 × SS) :=
  (f_MO_in x1 (0 : Int32) (1 : Int32) σ).bind fun q1 => (if q1.1 = 0 then some ((-1 : Int32), q1.2) else (f_MO_work q1.2).bind fun σ4 => (sf σ4 24 (0 : Int32)).bind fun σ6 => (sf σ6 25 (0 : Int32)).bind fun σ8 => b_MO_run_27 FU x1 (0 : Int32) σ8)
set_option maxHeartbeats 4000000 in
set_option maxRecDepth 100000 in
theorem e_MO_run {p : Program} {l : Launch} {e : Env} {s : State} {m : MethodId} {args : Array Value} {below : List Frame} {meth : Method} {c : Code} {D : va_G} {a t : Nat → Nat} {cI cZ : ClassId} (ha : aMC a) (F : CallFix p m c b_MO_run 3 s args gt R_MO) (hr : meth.sig.returnType = some .int) (hlk : meth.locks = false) (hK : va_K D vwCl [(cI, .int), (cZ, .boolean)] s) (hT : stM t (aM a) s s.heap) :
    ∀ (x1 : Int32) (σ : SS) (q : Int32 × SS), f_MO_run x1 σ = some q → ∀ (H : Heap) (locs : List Loc), va_P D vwCl ((wM a cI cZ) σ) H → va_S (aM a) s.heap H locs → ∀ (ls : Array Slot), lv_has ls 3 [(0, .ref (a 0)), (1, .int x1)] → W p l e { frames := 6, cells := 0, slots := 0, locals := 140 } s m args below meth c H locs 0 0 (MQ below (va_Qi (fun r u => r = q.1 ∧ u = q.2) (pW D (wM a cI cZ) [(cI, .int), (cZ, .boolean)] (stM t) (aM a)) (aM a)) args s 0 0 (aM a)) (F0 m 0 ls []) := by
  obtain ⟨hx, hb, hml, hown, hg⟩ := id F
  intro x1 σ q hf H locs hP hS ls hl
  unfold f_MO_run at hf
  refine lv_iload_n hx hb d_MO_run_0 rfl (lv_at hl 1 rfl) ?_
  refine lv_iconst (v := (0 : Int32)) hx hb d_MO_run_1 (by decide) ?_
  refine lv_iconst (v := (1 : Int32)) hx hb d_MO_run_2 (by decide) ?_
  refine bdK hf (fun q1 h2 hf => ?_)
  refine rc_Si (As := [.int x1, .int (0 : Int32), .int (1 : Int32)]) (rest := []) (stM_g t) F (c_MO_in l ha x1 (0 : Int32) (1 : Int32) σ q1 h2) (cwS 3 hg gc_MO_75 rfl rfl rfl hs_MO_in ⟨Nat.le_of_ble_eq_true rfl, Nat.le_of_ble_eq_true rfl⟩) hK hT hP hS rfl hl.1 rfl (Nat.le_of_ble_eq_true rfl) d_MO_run_3 ⟨Nat.zero_le _, Nat.zero_le _⟩ (fun H locs hP hS => ?_)
  refine lv_if_ne (tgt := 11) hx hb d_MO_run_6 (by decide) (fun c3 => ?_) (fun c3 => ?_)
  · replace hf := (if_neg c3).symm.trans hf
    refine lv_aload_n hx hb d_MO_run_11 rfl (lv_at hl 0 rfl) ?_
    refine bdK hf (fun σ4 h5 hf => ?_)
    refine rc_Vv (As := []) (rest := []) (b := a 0) (stM_g t) F (c_MO_work l ha q1.2 σ4 h5) (cwV 0 hg gc_MO_170 rfl rfl rfl hs_MO_work ⟨Nat.le_of_ble_eq_true rfl, Nat.le_of_ble_eq_true rfl⟩) hK hT hP hS (va_recv hK hP (ci := 6) (q0 := 0) rfl rfl) rfl hl.1 rfl (Nat.le_of_ble_eq_true rfl) d_MO_run_12 ⟨Nat.zero_le _, Nat.zero_le _⟩ (fun H locs hP hS => ?_)
    refine lv_aload_n hx hb d_MO_run_15 rfl (lv_at hl 0 rfl) ?_
    refine lv_iconst (v := (0 : Int32)) hx hb d_MO_run_16 (by decide) ?_
    refine bdK hf (fun σ6 h7 hf => ?_)
    refine va_put (D := D) (ci := 6) (v := .int (0 : Int32)) (ty := .int) (C := R_MO) (T := T_MO) (N := 26) hx hb hg in_MO t_MO t_MO_ok n_MO hown hK hP (dM ha σ4) hS 0 rfl rfl 20 (by decide) (hg _ gw_603) (fun _ h9 => h9) rfl (by decide +kernel) rfl rfl (Nat.le_of_ble_eq_true rfl) d_MO_run_17 (fun H locs hP _ hS => ?_)
    replace hP := sf_P (wf := (wM a cI cZ)) h7 hP rfl
    refine lv_aload_n hx hb d_MO_run_20 rfl (lv_at hl 0 rfl) ?_
    refine lv_iconst (v := (0 : Int32)) hx hb d_MO_run_21 (by decide) ?_
    refine bdK hf (fun σ8 h9 hf => ?_)
    refine va_put (D := D) (ci := 6) (v := .int (0 : Int32)) (ty := .int) (C := R_MO) (T := T_MO) (N := 26) hx hb hg in_MO t_MO t_MO_ok n_MO hown hK hP (dM ha σ6) hS 0 rfl rfl 22 (by decide) (hg _ gw_605) (fun _ h9 => h9) rfl (by decide +kernel) rfl rfl (Nat.le_of_ble_eq_true rfl) d_MO_run_22 (fun H locs hP _ hS => ?_)
    replace hP := sf_P (wf := (wM a cI cZ)) h9 hP rfl
    refine lv_iconst (v := (0 : Int32)) hx hb d_MO_run_25 (by decide) ?_
    refine lv_istore_n (lv' := [(2, .int (0 : Int32)), (0, .ref (a 0)), (1, .int x1)]) hx hb d_MO_run_26 rfl hl (by decide) rfl (fun ls hl => ?_)
    exact k_MO_run_27 ha F hr hlk hK hT FU x1 (0 : Int32) σ8 q hf _ _ hP hS ls (lv_sub hl [1, 2, 0] rfl)
  · replace hf := (if_pos c3).symm.trans hf
    refine lv_iconst (v := (-1 : Int32)) hx hb d_MO_run_9 (by decide) ?_
    exact rr_i hx hb hr hlk (stM_g t) hK hT hP hS hf d_MO_run_10
set_option maxHeartbeats 4000000 in
set_option maxRecDepth 100000 in
theorem c_MO_run (l : Launch) {D : va_G} {a t : Nat → Nat} {cI cZ : ClassId} (ha : aMC a) (x1 : Int32) (σ : SS) (q : Int32 × SS) (hf : f_MO_run x1 σ = some q) : Met l y_MO_run ws_MO_run { frames := 6, cells := 0, slots := 0, locals := 140 } (va_Pc [.ref (a 0), .int x1] (pW D (wM a cI cZ) [(cI, .int), (cZ, .boolean)] (stM t) (aM a) σ)) (va_Qi (fun r u => r = q.1 ∧ u = q.2) (pW D (wM a cI cZ) [(cI, .int), (cZ, .boolean)] (stM t) (aM a)) (aM a)) 0 0 (aM a) := by
  refine Met.ofW (cc := b_MO_run) (maxL := 3) (ret := some .int) (by decide) rfl ?_
  intro p e s m args below meth c s₁ B hml hv
  obtain ⟨rfl, hP, hK, hT⟩ := hv
  have hl := lv_entry ([.ref (a 0), .int x1]) (n := 3) (Nat.le_of_ble_eq_true rfl)
  rw [lg_entry_eq]
  generalize (lg_sl ([.ref (a 0), .int x1]) ++ List.replicate (3 - (lg_sl ([.ref (a 0), .int x1])).length) Slot.unset).toArray = ls at hl ⊢
  exact e_MO_run ha ⟨B.exec, B.bytes, hml, findClass_of_methodNamed B.named, fun w h => atoms_spec (ws := ws_MO_run) B.pre w (List.mem_cons_of_mem _ h)⟩ B.returns B.notSynchronized hK hT x1 σ q hf s.heap [] hP va_S.rf ls hl
