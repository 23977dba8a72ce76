theorem d_MO_emit_0 : decode b_MO_emit 0 = .ok (.aload_n 0, 1) := by decide +kernel
theorem d_MO_emit_1 : decode b_MO_emit 1 = .ok (.getfield 47, 3) := by decide +kernel
theorem d_MO_emit_4 : decode b_MO_emit 4 = .ok (.aload_n 0, 1) := by decide +kernel
theorem d_MO_emit_5 : decode b_MO_emit 5 = .ok (.getfield 141, 3) := by decide +kernel
theorem d_MO_emit_8 : decode b_MO_emit 8 = .ok (.iload_n 1, 1) := by decide +kernel
theorem d_MO_emit_9 : decode b_MO_emit 9 = .ok (.iastore, 1) := by decide +kernel
theorem d_MO_emit_10 : decode b_MO_emit 10 = .ok (.aload_n 0, 1) := by decide +kernel
theorem d_MO_emit_11 : decode b_MO_emit 11 = .ok (.getfield 50, 3) := by decide +kernel
theorem d_MO_emit_14 : decode b_MO_emit 14 = .ok (.aload_n 0, 1) := by decide +kernel
theorem d_MO_emit_15 : decode b_MO_emit 15 = .ok (.getfield 141, 3) := by decide +kernel
theorem d_MO_emit_18 : decode b_MO_emit 18 = .ok (.iload_n 2, 1) := by decide +kernel
theorem d_MO_emit_19 : decode b_MO_emit 19 = .ok (.iastore, 1) := by decide +kernel
theorem d_MO_emit_20 : decode b_MO_emit 20 = .ok (.aload_n 0, 1) := by decide +kernel
theorem d_MO_emit_21 : decode b_MO_emit 21 = .ok (.aload_n 0, 1) := by decide +kernel
theorem d_MO_emit_22 : decode b_MO_emit 22 = .ok (.getfield 141, 3) := by decide +kernel
theorem d_MO_emit_25 : decode b_MO_emit 25 = .ok (.iconst 1, 1) := by decide +kernel
theorem d_MO_emit_26 : decode b_MO_emit 26 = .ok (.iadd, 1) := by decide +kernel
theorem d_MO_emit_27 : decode b_MO_emit 27 = .ok (.putfield 141, 3) := by decide +kernel
theorem d_MO_emit_30 : decode b_MO_emit 30 = .ok (.return_, 1) := by decide +kernel
def f_MO_emit (x1 x2 : Int32) (σ : SS) : Option (SS) :=
  (sto σ 12 600 (σ 23 0) x1).bind fun σ1 => (sto σ1 13 600 (σ1 23 0) x2).bind fun σ3 => (sf σ3 23 ((σ3 23 0) + (1 : Int32))).bind fun σ5 => some σ5
set_option maxHeartbeats 4000000 in
set_option maxRecDepth 100000 in
theorem e_MO_emit {p : Program} {l : Launch} {e : Env} {s : State} {m : MethodId} {args : Array Value} {below : List Frame} {meth : Method} {c : Code} {D : va_G} {a t : Nat → Nat} {cI cZ : ClassId} (ha : aMC a) (F : CallFix p m c b_MO_emit 3 s args gt R_MO) (hr : meth.sig.returnType = none) (hlk : meth.locks = false) (hK : va_K D vwCl [(cI, .int), (cZ, .boolean)] s) (hT : stM t (aM a) s s.heap) :
    ∀ (x1 x2 : Int32) (σ : SS) (q : SS), f_MO_emit x1 x2 σ = some q → ∀ (H : Heap) (locs : List Loc), va_P D vwCl ((wM a cI cZ) σ) H → va_S (aM a) s.heap H locs → ∀ (ls : Array Slot), lv_has ls 3 [(0, .ref (a 0)), (1, .int x1), (2, .int x2)] → W p l e { frames := 0, cells := 0, slots := 0, locals := 0 } s m args below meth c H locs 0 0 (MQ below (va_Qv (fun u => u = q) (pW D (wM a cI cZ) [(cI, .int), (cZ, .boolean)] (stM t) (aM a)) (aM a)) args s 0 0 (aM a)) (F0 m 0 ls []) := by
  obtain ⟨hx, hb, hml, hown, hg⟩ := id F
  intro x1 x2 σ q hf H locs hP hS ls hl
  unfold f_MO_emit at hf
  refine lv_aload_n hx hb d_MO_emit_0 rfl (lv_at hl 0 rfl) ?_
  refine va_get (D := D) (ci := 6) (v := .ref (a 13)) (C := R_MO) (T := T_MO) (N := 26) hx hb hg in_MO hown hK hP 0 rfl rfl 16 (by decide) (hg _ gw_599) (fun _ h9 => h9) rfl d_MO_emit_1 ?_
  refine lv_aload_n hx hb d_MO_emit_4 rfl (lv_at hl 0 rfl) ?_
  refine va_get (D := D) (ci := 6) (v := .int (σ 23 0)) (C := R_MO) (T := T_MO) (N := 26) hx hb hg in_MO hown hK hP 0 rfl rfl 15 (by decide) (hg _ gw_598) (fun _ h9 => h9) rfl d_MO_emit_5 ?_
  refine lv_iload_n hx hb d_MO_emit_8 rfl (lv_at hl 1 rfl) ?_
  refine bdK hf (fun σ1 h2 hf => ?_)
  refine r_iast (wf := (wM a cI cZ)) hx hb hK hP (dM ha σ) hS 13 0 rfl rfl (fun _ _ => rfl) h2 d_MO_emit_9 (fun H locs hP hS => ?_)
  refine lv_aload_n hx hb d_MO_emit_10 rfl (lv_at hl 0 rfl) ?_
  refine va_get (D := D) (ci := 6) (v := .ref (a 14)) (C := R_MO) (T := T_MO) (N := 26) hx hb hg in_MO hown hK hP 0 rfl rfl 17 (by decide) (hg _ gw_600) (fun _ h9 => h9) rfl d_MO_emit_11 ?_
  refine lv_aload_n hx hb d_MO_emit_14 rfl (lv_at hl 0 rfl) ?_
  refine va_get (D := D) (ci := 6) (v := .int (σ1 23 0)) (C := R_MO) (T := T_MO) (N := 26) hx hb hg in_MO hown hK hP 0 rfl rfl 15 (by decide) (hg _ gw_598) (fun _ h9 => h9) rfl d_MO_emit_15 ?_
  refine lv_iload_n hx hb d_MO_emit_18 rfl (lv_at hl 2 rfl) ?_
  refine bdK hf (fun σ3 h4 hf => ?_)
  refine r_iast (wf := (wM a cI cZ)) hx hb hK hP (dM ha σ1) hS 14 0 rfl rfl (fun _ _ => rfl) h4 d_MO_emit_19 (fun H locs hP hS => ?_)
  refine lv_aload_n hx hb d_MO_emit_20 rfl (lv_at hl 0 rfl) ?_
  refine lv_aload_n hx hb d_MO_emit_21 rfl (lv_at hl 0 rfl) ?_
  refine va_get (D := D) (ci := 6) (v := .int (σ3 23 0)) (C := R_MO) (T := T_MO) (N := 26) hx hb hg in_MO hown hK hP 0 rfl rfl 15 (by decide) (hg _ gw_598) (fun _ h9 => h9) rfl d_MO_emit_22 ?_
  refine lv_iconst (v := (1 : Int32)) hx hb d_MO_emit_25 (by decide) ?_
  refine lv_iadd hx hb d_MO_emit_26 ?_
  refine bdK hf (fun σ5 h6 hf => ?_)
  refine va_put (D := D) (ci := 6) (v := .int ((σ3 23 0) + (1 : Int32))) (ty := .int) (C := R_MO) (T := T_MO) (N := 26) hx hb hg in_MO t_MO t_MO_ok n_MO hown hK hP (dM ha σ3) hS 0 rfl rfl 15 (by decide) (hg _ gw_598) (fun _ h9 => h9) rfl (by decide +kernel) rfl rfl (Nat.le_of_ble_eq_true rfl) d_MO_emit_27 (fun H locs hP _ hS => ?_)
  replace hP := sf_P (wf := (wM a cI cZ)) h6 hP rfl
  exact rr_v hx hb hr hlk (stM_g t) hK hT hP hS hf d_MO_emit_30
set_option maxHeartbeats 4000000 in
set_option maxRecDepth 100000 in
theorem c_MO_emit (l : Launch) {D : va_G} {a t : Nat → Nat} {cI cZ : ClassId} (ha : aMC a) (x1 x2 : Int32) (σ : SS) (q : SS) (hf : f_MO_emit x1 x2 σ = some q) : Met l y_MO_emit ws_MO_emit { frames := 0, cells := 0, slots := 0, locals := 0 } (va_Pc [.ref (a 0), .int x1, .int x2] (pW D (wM a cI cZ) [(cI, .int), (cZ, .boolean)] (stM t) (aM a) σ)) (va_Qv (fun u => u = q) (pW D (wM a cI cZ) [(cI, .int), (cZ, .boolean)] (stM t) (aM a)) (aM a)) 0 0 (aM a) := by
  refine Met.ofW (cc := b_MO_emit) (maxL := 3) (ret := none) (by decide) rfl ?_
  intro p e s m args below meth c s₁ B hml hv
  obtain ⟨rfl, hP, hK, hT⟩ := hv
  have hl := lv_entry ([.ref (a 0), .int x1, .int x2]) (n := 3) (Nat.le_of_ble_eq_true rfl)
  rw [lg_entry_eq]
  generalize (lg_sl ([.ref (a 0), .int x1, .int x2]) ++ List.replicate (3 - (lg_sl ([.ref (a 0), .int x1, .int x2])).length) Slot.unset).toArray = ls at hl ⊢
  exact e_MO_emit ha ⟨B.exec, B.bytes, hml, findClass_of_methodNamed B.named, fun w h => atoms_spec (ws := ws_MO_emit) B.pre w (List.mem_cons_of_mem _ h)⟩ B.returns B.notSynchronized hK hT x1 x2 σ q hf s.heap [] hP va_S.rf ls hl
theorem d_MO_emitOperation_0 : decode b_MO_emitOperation 0 = .ok (.aload_n 0, 1) := by decide +kernel
theorem d_MO_emitOperation_1 : decode b_MO_emitOperation 1 = .ok (.getfield 7, 3) := by decide +kernel
theorem d_MO_emitOperation_4 : decode b_MO_emitOperation 4 = .ok (.iload_n 1, 1) := by decide +kernel
theorem d_MO_emitOperation_5 : decode b_MO_emitOperation 5 = .ok (.iaload, 1) := by decide +kernel
theorem d_MO_emitOperation_6 : decode b_MO_emitOperation 6 = .ok (.istore_n 2, 1) := by decide +kernel
theorem d_MO_emitOperation_7 : decode b_MO_emitOperation 7 = .ok (.iload_n 2, 1) := by decide +kernel
theorem d_MO_emitOperation_8 : decode b_MO_emitOperation 8 = .ok (.iconst 2, 1) := by decide +kernel
theorem d_MO_emitOperation_9 : decode b_MO_emitOperation 9 = .ok (.iconst 5, 1) := by decide +kernel
theorem d_MO_emitOperation_10 : decode b_MO_emitOperation 10 = .ok (.invokestatic 75, 3) := by decide +kernel
theorem d_MO_emitOperation_13 : decode b_MO_emitOperation 13 = .ok (.ifCond .eq 11, 3) := by decide +kernel
theorem d_MO_emitOperation_16 : decode b_MO_emitOperation 16 = .ok (.aload_n 0, 1) := by decide +kernel
theorem d_MO_emitOperation_17 : decode b_MO_emitOperation 17 = .ok (.iload_n 2, 1) := by decide +kernel
theorem d_MO_emitOperation_18 : decode b_MO_emitOperation 18 = .ok (.iconst 3, 1) := by decide +kernel
theorem d_MO_emitOperation_19 : decode b_MO_emitOperation 19 = .ok (.iadd, 1) := by decide +kernel
theorem d_MO_emitOperation_20 : decode b_MO_emitOperation 20 = .ok (.iconst 0, 1) := by decide +kernel
theorem d_MO_emitOperation_21 : decode b_MO_emitOperation 21 = .ok (.invokevirtual 144, 3) := by decide +kernel
theorem d_MO_emitOperation_24 : decode b_MO_emitOperation 24 = .ok (.iload_n 2, 1) := by decide +kernel
theorem d_MO_emitOperation_25 : decode b_MO_emitOperation 25 = .ok (.bipush 6, 2) := by decide +kernel
theorem d_MO_emitOperation_27 : decode b_MO_emitOperation 27 = .ok (.if_icmp .ne 10, 3) := by decide +kernel
theorem d_MO_emitOperation_30 : decode b_MO_emitOperation 30 = .ok (.aload_n 0, 1) := by decide +kernel
theorem d_MO_emitOperation_31 : decode b_MO_emitOperation 31 = .ok (.bipush 9, 2) := by decide +kernel
theorem d_MO_emitOperation_33 : decode b_MO_emitOperation 33 = .ok (.iconst 0, 1) := by decide +kernel
theorem d_MO_emitOperation_34 : decode b_MO_emitOperation 34 = .ok (.invokevirtual 144, 3) := by decide +kernel
theorem d_MO_emitOperation_37 : decode b_MO_emitOperation 37 = .ok (.iload_n 2, 1) := by decide +kernel
theorem d_MO_emitOperation_38 : decode b_MO_emitOperation 38 = .ok (.bipush 7, 2) := by decide +kernel
theorem d_MO_emitOperation_40 : decode b_MO_emitOperation 40 = .ok (.if_icmp .ne 10, 3) := by decide +kernel
theorem d_MO_emitOperation_43 : decode b_MO_emitOperation 43 = .ok (.aload_n 0, 1) := by decide +kernel
theorem d_MO_emitOperation_44 : decode b_MO_emitOperation 44 = .ok (.bipush 10, 2) := by decide +kernel
theorem d_MO_emitOperation_46 : decode b_MO_emitOperation 46 = .ok (.iconst 0, 1) := by decide +kernel
theorem d_MO_emitOperation_47 : decode b_MO_emitOperation 47 = .ok (.invokevirtual 144, 3) := by decide +kernel
theorem d_MO_emitOperation_50 : decode b_MO_emitOperation 50 = .ok (.iload_n 2, 1) := by decide +kernel
theorem d_MO_emitOperation_51 : decode b_MO_emitOperation 51 = .ok (.bipush 8, 2) := by decide +kernel
theorem d_MO_emitOperation_53 : decode b_MO_emitOperation 53 = .ok (.if_icmp .ne 10, 3) := by decide +kernel
theorem d_MO_emitOperation_56 : decode b_MO_emitOperation 56 = .ok (.aload_n 0, 1) := by decide +kernel
theorem d_MO_emitOperation_57 : decode b_MO_emitOperation 57 = .ok (.bipush 11, 2) := by decide +kernel
theorem d_MO_emitOperation_59 : decode b_MO_emitOperation 59 = .ok (.iconst 0, 1) := by decide +kernel
theorem d_MO_emitOperation_60 : decode b_MO_emitOperation 60 = .ok (.invokevirtual 144, 3) := by decide +kernel
theorem d_MO_emitOperation_63 : decode b_MO_emitOperation 63 = .ok (.iload_n 2, 1) := by decide +kernel
theorem d_MO_emitOperation_64 : decode b_MO_emitOperation 64 = .ok (.bipush 9, 2) := by decide +kernel
theorem d_MO_emitOperation_66 : decode b_MO_emitOperation 66 = .ok (.if_icmp .ne 15, 3) := by decide +kernel
theorem d_MO_emitOperation_69 : decode b_MO_emitOperation 69 = .ok (.aload_n 0, 1) := by decide +kernel
theorem d_MO_emitOperation_70 : decode b_MO_emitOperation 70 = .ok (.bipush 12, 2) := by decide +kernel
theorem d_MO_emitOperation_72 : decode b_MO_emitOperation 72 = .ok (.aload_n 0, 1) := by decide +kernel
theorem d_MO_emitOperation_73 : decode b_MO_emitOperation 73 = .ok (.getfield 16, 3) := by decide +kernel
theorem d_MO_emitOperation_76 : decode b_MO_emitOperation 76 = .ok (.iload_n 1, 1) := by decide +kernel
theorem d_MO_emitOperation_77 : decode b_MO_emitOperation 77 = .ok (.iaload, 1) := by decide +kernel
theorem d_MO_emitOperation_78 : decode b_MO_emitOperation 78 = .ok (.invokevirtual 144, 3) := by decide +kernel
theorem d_MO_emitOperation_81 : decode b_MO_emitOperation 81 = .ok (.iload_n 2, 1) := by decide +kernel
theorem d_MO_emitOperation_82 : decode b_MO_emitOperation 82 = .ok (.bipush 10, 2) := by decide +kernel
theorem d_MO_emitOperation_84 : decode b_MO_emitOperation 84 = .ok (.if_icmp .ne 15, 3) := by decide +kernel
theorem d_MO_emitOperation_87 : decode b_MO_emitOperation 87 = .ok (.aload_n 0, 1) := by decide +kernel
theorem d_MO_emitOperation_88 : decode b_MO_emitOperation 88 = .ok (.bipush 13, 2) := by decide +kernel
theorem d_MO_emitOperation_90 : decode b_MO_emitOperation 90 = .ok (.aload_n 0, 1) := by decide +kernel
theorem d_MO_emitOperation_91 : decode b_MO_emitOperation 91 = .ok (.getfield 19, 3) := by decide +kernel
theorem d_MO_emitOperation_94 : decode b_MO_emitOperation 94 = .ok (.iload_n 1, 1) := by decide +kernel
theorem d_MO_emitOperation_95 : decode b_MO_emitOperation 95 = .ok (.iaload, 1) := by decide +kernel
theorem d_MO_emitOperation_96 : decode b_MO_emitOperation 96 = .ok (.invokevirtual 144, 3) := by decide +kernel
theorem d_MO_emitOperation_99 : decode b_MO_emitOperation 99 = .ok (.iload_n 2, 1) := by decide +kernel
theorem d_MO_emitOperation_100 : decode b_MO_emitOperation 100 = .ok (.bipush 11, 2) := by decide +kernel
theorem d_MO_emitOperation_102 : decode b_MO_emitOperation 102 = .ok (.if_icmp .ne 10, 3) := by decide +kernel
theorem d_MO_emitOperation_105 : decode b_MO_emitOperation 105 = .ok (.aload_n 0, 1) := by decide +kernel
theorem d_MO_emitOperation_106 : decode b_MO_emitOperation 106 = .ok (.bipush 14, 2) := by decide +kernel
theorem d_MO_emitOperation_108 : decode b_MO_emitOperation 108 = .ok (.iconst 0, 1) := by decide +kernel
theorem d_MO_emitOperation_109 : decode b_MO_emitOperation 109 = .ok (.invokevirtual 144, 3) := by decide +kernel
theorem d_MO_emitOperation_112 : decode b_MO_emitOperation 112 = .ok (.return_, 1) := by decide +kernel
theorem gc_MO_144 : GoodIn gt (wsV R_MO 144 R_MO y_MO_emit ws_MO_emit) := gd_V gw_771 gw_773 gs_54 gw_7 gw_774
def b_MO_emitOperation_81 (x1 x2 : Int32) (σ : SS) : Option (SS) :=
  (if x2 = (10 : Int32) then (ld (σ 3) 40 x1).bind fun v5 => (f_MO_emit (13 : Int32) v5 σ).bind fun σ7 => (if x2 = (11 : Int32) then (f_MO_emit (14 : Int32) (0 : Int32) σ7).bind fun σ10 => some σ10 else some σ7) else (if x2 = (11 : Int32) then (f_MO_emit (14 : Int32) (0 : Int32) σ).bind fun σ3 => some σ3 else some σ))
set_option maxHeartbeats 4000000 in
set_option maxRecDepth 100000 in
theorem k_MO_emitOperation_81 {p : Program} {l : Launch} {e : Env} {s : State} {m : MethodId} {args : Array Value} {below : List Frame} {meth : Method} {c : Code} {D : va_G} {a t : Nat → Nat} {cI cZ : ClassId} (ha : aMC a) (F : CallFix p m c b_MO_emitOperation 3 s args gt R_MO) (hr : meth.sig.returnType = none) (hlk : meth.locks = false) (hK : va_K D vwCl [(cI, .int), (cZ, .boolean)] s) (hT : stM t (aM a) s s.heap) :
    ∀ (x1 x2 : Int32) (σ : SS) (q : SS), b_MO_emitOperation_81 x1 x2 σ = some q → ∀ (H : Heap) (locs : List Loc), va_P D vwCl ((wM a cI cZ) σ) H → va_S (aM a) s.heap H locs → ∀ (ls : Array Slot), lv_has ls 3 [(0, .ref (a 0)), (1, .int x1), (2, .int x2)] → W p l e { frames := 1, cells := 0, slots := 0, locals := 22 } s m args below meth c H locs 0 0 (MQ below (va_Qv (fun u => u = q) (pW D (wM a cI cZ) [(cI, .int), (cZ, .boolean)] (stM t) (aM a)) (aM a)) args s 0 0 (aM a)) (F0 m 81 ls []) := by
  obtain ⟨hx, hb, hml, hown, hg⟩ := id F
  intro x1 x2 σ q hf H locs hP hS ls hl
  unfold b_MO_emitOperation_81 at hf
  refine lv_iload_n hx hb d_MO_emitOperation_81 rfl (lv_at hl 2 rfl) ?_
  refine lv_bipush (v := (10 : Int32)) hx hb d_MO_emitOperation_82 (by decide) ?_
  refine lv_icmp_ne (tgt := 99) hx hb d_MO_emitOperation_84 (by decide) (fun c1 => ?_) (fun c1 => ?_)
  · replace hf := (if_neg c1).symm.trans hf
    refine lv_iload_n hx hb d_MO_emitOperation_99 rfl (lv_at hl 2 rfl) ?_
    refine lv_bipush (v := (11 : Int32)) hx hb d_MO_emitOperation_100 (by decide) ?_
    refine lv_icmp_ne (tgt := 112) hx hb d_MO_emitOperation_102 (by decide) (fun c2 => ?_) (fun c2 => ?_)
    · replace hf := (if_neg c2).symm.trans hf
      exact rr_v hx hb hr hlk (stM_g t) hK hT hP hS hf d_MO_emitOperation_112
    · replace hf := (if_pos c2).symm.trans hf
      refine lv_aload_n hx hb d_MO_emitOperation_105 rfl (lv_at hl 0 rfl) ?_
      refine lv_bipush (v := (14 : Int32)) hx hb d_MO_emitOperation_106 (by decide) ?_
      refine lv_iconst (v := (0 : Int32)) hx hb d_MO_emitOperation_108 (by decide) ?_
      refine bdK hf (fun σ3 h4 hf => ?_)
      refine rc_Vv (As := [.int (14 : Int32), .int (0 : Int32)]) (rest := []) (b := a 0) (stM_g t) F (c_MO_emit l ha (14 : Int32) (0 : Int32) σ σ3 h4) (cwV 2 hg gc_MO_144 rfl rfl rfl hs_MO_emit ⟨Nat.le_of_ble_eq_true rfl, Nat.le_of_ble_eq_true rfl⟩) hK hT hP hS (va_recv hK hP (ci := 6) (q0 := 0) rfl rfl) rfl hl.1 rfl (Nat.le_of_ble_eq_true rfl) d_MO_emitOperation_109 ⟨Nat.zero_le _, Nat.zero_le _⟩ (fun H locs hP hS => ?_)
      exact rr_v hx hb hr hlk (stM_g t) hK hT hP hS hf d_MO_emitOperation_112
  · replace hf := (if_pos c1).symm.trans hf
    refine lv_aload_n hx hb d_MO_emitOperation_87 rfl (lv_at hl 0 rfl) ?_
    refine lv_bipush (v := (13 : Int32)) hx hb d_MO_emitOperation_88 (by decide) ?_
    refine lv_aload_n hx hb d_MO_emitOperation_90 rfl (lv_at hl 0 rfl) ?_
    refine va_get (D := D) (ci := 6) (v := .ref (a 4)) (C := R_MO) (T := T_MO) (N := 26) hx hb hg in_MO hown hK hP 0 rfl rfl 5 (by decide) (hg _ gw_588) (fun _ h9 => h9) rfl d_MO_emitOperation_91 ?_
    refine lv_iload_n hx hb d_MO_emitOperation_94 rfl (lv_at hl 1 rfl) ?_
    refine bdK hf (fun v5 h6 hf => ?_)
    refine r_iald hx hb hK hP 4 0 rfl rfl h6 d_MO_emitOperation_95 ?_
    refine bdK hf (fun σ7 h8 hf => ?_)
    refine rc_Vv (As := [.int (13 : Int32), .int v5]) (rest := []) (b := a 0) (stM_g t) F (c_MO_emit l ha (13 : Int32) v5 σ σ7 h8) (cwV 2 hg gc_MO_144 rfl rfl rfl hs_MO_emit ⟨Nat.le_of_ble_eq_true rfl, Nat.le_of_ble_eq_true rfl⟩) hK hT hP hS (va_recv hK hP (ci := 6) (q0 := 0) rfl rfl) rfl hl.1 rfl (Nat.le_of_ble_eq_true rfl) d_MO_emitOperation_96 ⟨Nat.zero_le _, Nat.zero_le _⟩ (fun H locs hP hS => ?_)
    refine lv_iload_n hx hb d_MO_emitOperation_99 rfl (lv_at hl 2 rfl) ?_
    refine lv_bipush (v := (11 : Int32)) hx hb d_MO_emitOperation_100 (by decide) ?_
    refine lv_icmp_ne (tgt := 112) hx hb d_MO_emitOperation_102 (by decide) (fun c9 => ?_) (fun c9 => ?_)
    · replace hf := (if_neg c9).symm.trans hf
      exact rr_v hx hb hr hlk (stM_g t) hK hT hP hS hf d_MO_emitOperation_112
    · replace hf := (if_pos c9).symm.trans hf
      refine lv_aload_n hx hb d_MO_emitOperation_105 rfl (lv_at hl 0 rfl) ?_
      refine lv_bipush (v := (14 : Int32)) hx hb d_MO_emitOperation_106 (by decide) ?_
      refine lv_iconst (v := (0 : Int32)) hx hb d_MO_emitOperation_108 (by decide) ?_
      refine bdK hf (fun σ10 h11 hf => ?_)
      refine rc_Vv (As := [.int (14 : Int32), .int (0 : Int32)]) (rest := []) (b := a 0) (stM_g t) F (c_MO_emit l ha (14 : Int32) (0 : Int32) σ7 σ10 h11) (cwV 2 hg gc_MO_144 rfl rfl rfl hs_MO_emit ⟨Nat.le_of_ble_eq_true rfl, Nat.le_of_ble_eq_true rfl⟩) hK hT hP hS (va_recv hK hP (ci := 6) (q0 := 0) rfl rfl) rfl hl.1 rfl (Nat.le_of_ble_eq_true rfl) d_MO_emitOperation_109 ⟨Nat.zero_le _, Nat.zero_le _⟩ (fun H locs hP hS => ?_)
      exact rr_v hx hb hr hlk (stM_g t) hK hT hP hS hf d_MO_emitOperation_112
def b_MO_emitOperation_63 (x1 x2 : Int32) (σ : SS) : Option (SS) :=
  (if x2 = (9 : Int32) then (ld (σ 2) 40 x1).bind fun v2 => (f_MO_emit (12 : Int32) v2 σ).bind fun σ4 => b_MO_emitOperation_81 x1 x2 σ4 else b_MO_emitOperation_81 x1 x2 σ)
set_option maxHeartbeats 4000000 in
set_option maxRecDepth 100000 in
theorem k_MO_emitOperation_63 {p : Program} {l : Launch} {e : Env} {s : State} {m : MethodId} {args : Array Value} {below : List Frame} {meth : Method} {c : Code} {D : va_G} {a t : Nat → Nat} {cI cZ : ClassId} (ha : aMC a) (F : CallFix p m c b_MO_emitOperation 3 s args gt R_MO) (hr : meth.sig.returnType = none) (hlk : meth.locks = false) (hK : va_K D vwCl [(cI, .int), (cZ, .boolean)] s) (hT : stM t (aM a) s s.heap) :
    ∀ (x1 x2 : Int32) (σ : SS) (q : SS), b_MO_emitOperation_63 x1 x2 σ = some q → ∀ (H : Heap) (locs : List Loc), va_P D vwCl ((wM a cI cZ) σ) H → va_S (aM a) s.heap H locs → ∀ (ls : Array Slot), lv_has ls 3 [(0, .ref (a 0)), (1, .int x1), (2, .int x2)] → W p l e { frames := 1, cells := 0, slots := 0, locals := 22 } s m args below meth c H locs 0 0 (MQ below (va_Qv (fun u => u = q) (pW D (wM a cI cZ) [(cI, .int), (cZ, .boolean)] (stM t) (aM a)) (aM a)) args s 0 0 (aM a)) (F0 m 63 ls []) := by
  obtain ⟨hx, hb, hml, hown, hg⟩ := id F
  intro x1 x2 σ q hf H locs hP hS ls hl
  unfold b_MO_emitOperation_63 at hf
  refine lv_iload_n hx hb d_MO_emitOperation_63 rfl (lv_at hl 2 rfl) ?_
  refine lv_bipush (v := (9 : Int32)) hx hb d_MO_emitOperation_64 (by decide) ?_
  refine lv_icmp_ne (tgt := 81) hx hb d_MO_emitOperation_66 (by decide) (fun c1 => ?_) (fun c1 => ?_)
  · replace hf := (if_neg c1).symm.trans hf
    exact k_MO_emitOperation_81 ha F hr hlk hK hT x1 x2 σ q hf _ _ hP hS ls (lv_sub hl [0, 1, 2] rfl)
  · replace hf := (if_pos c1).symm.trans hf
    refine lv_aload_n hx hb d_MO_emitOperation_69 rfl (lv_at hl 0 rfl) ?_
    refine lv_bipush (v := (12 : Int32)) hx hb d_MO_emitOperation_70 (by decide) ?_
    refine lv_aload_n hx hb d_MO_emitOperation_72 rfl (lv_at hl 0 rfl) ?_
    refine va_get (D := D) (ci := 6) (v := .ref (a 3)) (C := R_MO) (T := T_MO) (N := 26) hx hb hg in_MO hown hK hP 0 rfl rfl 4 (by decide) (hg _ gw_587) (fun _ h9 => h9) rfl d_MO_emitOperation_73 ?_
    refine lv_iload_n hx hb d_MO_emitOperation_76 rfl (lv_at hl 1 rfl) ?_
    refine bdK hf (fun v2 h3 hf => ?_)
    refine r_iald hx hb hK hP 3 0 rfl rfl h3 d_MO_emitOperation_77 ?_
    refine bdK hf (fun σ4 h5 hf => ?_)
    refine rc_Vv (As := [.int (12 : Int32), .int v2]) (rest := []) (b := a 0) (stM_g t) F (c_MO_emit l ha (12 : Int32) v2 σ σ4 h5) (cwV 2 hg gc_MO_144 rfl rfl rfl hs_MO_emit ⟨Nat.le_of_ble_eq_true rfl, Nat.le_of_ble_eq_true rfl⟩) hK hT hP hS (va_recv hK hP (ci := 6) (q0 := 0) rfl rfl) rfl hl.1 rfl (Nat.le_of_ble_eq_true rfl) d_MO_emitOperation_78 ⟨Nat.zero_le _, Nat.zero_le _⟩ (fun H locs hP hS => ?_)
    exact k_MO_emitOperation_81 ha F hr hlk hK hT x1 x2 σ4 q hf _ _ hP hS ls (lv_sub hl [0, 1, 2] rfl)
def b_MO_emitOperation_37 (x1 x2 : Int32) (σ : SS) : Option (SS) :=
  (if x2 = (7 : Int32) then (f_MO_emit (10 : Int32) (0 : Int32) σ).bind fun σ5 => (if x2 = (8 : Int32) then (f_MO_emit (11 : Int32) (0 : Int32) σ5).bind fun σ8 => b_MO_emitOperation_63 x1 x2 σ8 else b_MO_emitOperation_63 x1 x2 σ5) else (if x2 = (8 : Int32) then (f_MO_emit (11 : Int32) (0 : Int32) σ).bind fun σ3 => b_MO_emitOperation_63 x1 x2 σ3 else b_MO_emitOperation_63 x1 x2 σ))
set_option maxHeartbeats 4000000 in
set_option maxRecDepth 100000 in
theorem k_MO_emitOperation_37 {p : Program} {l : Launch} {e : Env} {s : State} {m : MethodId} {args : Array Value} {below : List Frame} {meth : Method} {c : Code} {D : va_G} {a t : Nat → Nat} {cI cZ : ClassId} (ha : aMC a) (F : CallFix p m c b_MO_emitOperation 3 s args gt R_MO) (hr : meth.sig.returnType = none) (hlk : meth.locks = false) (hK : va_K D vwCl [(cI, .int), (cZ, .boolean)] s) (hT : stM t (aM a) s s.heap) :
    ∀ (x1 x2 : Int32) (σ : SS) (q : SS), b_MO_emitOperation_37 x1 x2 σ = some q → ∀ (H : Heap) (locs : List Loc), va_P D vwCl ((wM a cI cZ) σ) H → va_S (aM a) s.heap H locs → ∀ (ls : Array Slot), lv_has ls 3 [(0, .ref (a 0)), (1, .int x1), (2, .int x2)] → W p l e { frames := 1, cells := 0, slots := 0, locals := 22 } s m args below meth c H locs 0 0 (MQ below (va_Qv (fun u => u = q) (pW D (wM a cI cZ) [(cI, .int), (cZ, .boolean)] (stM t) (aM a)) (aM a)) args s 0 0 (aM a)) (F0 m 37 ls []) := by
  obtain ⟨hx, hb, hml, hown, hg⟩ := id F
  intro x1 x2 σ q hf H locs hP hS ls hl
  unfold b_MO_emitOperation_37 at hf
  refine lv_iload_n hx hb d_MO_emitOperation_37 rfl (lv_at hl 2 rfl) ?_
  refine lv_bipush (v := (7 : Int32)) hx hb d_MO_emitOperation_38 (by decide) ?_
  refine lv_icmp_ne (tgt := 50) hx hb d_MO_emitOperation_40 (by decide) (fun c1 => ?_) (fun c1 => ?_)
  · replace hf := (if_neg c1).symm.trans hf
    refine lv_iload_n hx hb d_MO_emitOperation_50 rfl (lv_at hl 2 rfl) ?_
    refine lv_bipush (v := (8 : Int32)) hx hb d_MO_emitOperation_51 (by decide) ?_
    refine lv_icmp_ne (tgt := 63) hx hb d_MO_emitOperation_53 (by decide) (fun c2 => ?_) (fun c2 => ?_)
    · replace hf := (if_neg c2).symm.trans hf
      exact k_MO_emitOperation_63 ha F hr hlk hK hT x1 x2 σ q hf _ _ hP hS ls (lv_sub hl [0, 1, 2] rfl)
    · replace hf := (if_pos c2).symm.trans hf
      refine lv_aload_n hx hb d_MO_emitOperation_56 rfl (lv_at hl 0 rfl) ?_
      refine lv_bipush (v := (11 : Int32)) hx hb d_MO_emitOperation_57 (by decide) ?_
      refine lv_iconst (v := (0 : Int32)) hx hb d_MO_emitOperation_59 (by decide) ?_
      refine bdK hf (fun σ3 h4 hf => ?_)
      refine rc_Vv (As := [.int (11 : Int32), .int (0 : Int32)]) (rest := []) (b := a 0) (stM_g t) F (c_MO_emit l ha (11 : Int32) (0 : Int32) σ σ3 h4) (cwV 2 hg gc_MO_144 rfl rfl rfl hs_MO_emit ⟨Nat.le_of_ble_eq_true rfl, Nat.le_of_ble_eq_true rfl⟩) hK hT hP hS (va_recv hK hP (ci := 6) (q0 := 0) rfl rfl) rfl hl.1 rfl (Nat.le_of_ble_eq_true rfl) d_MO_emitOperation_60 ⟨Nat.zero_le _, Nat.zero_le _⟩ (fun H locs hP hS => ?_)
      exact k_MO_emitOperation_63 ha F hr hlk hK hT x1 x2 σ3 q hf _ _ hP hS ls (lv_sub hl [0, 1, 2] rfl)
  · replace hf := (if_pos c1).symm.trans hf
    refine lv_aload_n hx hb d_MO_emitOperation_43 rfl (lv_at hl 0 rfl) ?_
    refine lv_bipush (v := (10 : Int32)) hx hb d_MO_emitOperation_44 (by decide) ?_
    refine lv_iconst (v := (0 : Int32)) hx hb d_MO_emitOperation_46 (by decide) ?_
    refine bdK hf (fun σ5 h6 hf => ?_)
    refine rc_Vv (As := [.int (10 : Int32), .int (0 : Int32)]) (rest := []) (b := a 0) (stM_g t) F (c_MO_emit l ha (10 : Int32) (0 : Int32) σ σ5 h6) (cwV 2 hg gc_MO_144 rfl rfl rfl hs_MO_emit ⟨Nat.le_of_ble_eq_true rfl, Nat.le_of_ble_eq_true rfl⟩) hK hT hP hS (va_recv hK hP (ci := 6) (q0 := 0) rfl rfl) rfl hl.1 rfl (Nat.le_of_ble_eq_true rfl) d_MO_emitOperation_47 ⟨Nat.zero_le _, Nat.zero_le _⟩ (fun H locs hP hS => ?_)
    refine lv_iload_n hx hb d_MO_emitOperation_50 rfl (lv_at hl 2 rfl) ?_
    refine lv_bipush (v := (8 : Int32)) hx hb d_MO_emitOperation_51 (by decide) ?_
    refine lv_icmp_ne (tgt := 63) hx hb d_MO_emitOperation_53 (by decide) (fun c7 => ?_) (fun c7 => ?_)
    · replace hf := (if_neg c7).symm.trans hf
      exact k_MO_emitOperation_63 ha F hr hlk hK hT x1 x2 σ5 q hf _ _ hP hS ls (lv_sub hl [0, 1, 2] rfl)
    · replace hf := (if_pos c7).symm.trans hf
      refine lv_aload_n hx hb d_MO_emitOperation_56 rfl (lv_at hl 0 rfl) ?_
      refine lv_bipush (v := (11 : Int32)) hx hb d_MO_emitOperation_57 (by decide) ?_
      refine lv_iconst (v := (0 : Int32)) hx hb d_MO_emitOperation_59 (by decide) ?_
      refine bdK hf (fun σ8 h9 hf => ?_)
      refine rc_Vv (As := [.int (11 : Int32), .int (0 : Int32)]) (rest := []) (b := a 0) (stM_g t) F (c_MO_emit l ha (11 : Int32) (0 : Int32) σ5 σ8 h9) (cwV 2 hg gc_MO_144 rfl rfl rfl hs_MO_emit ⟨Nat.le_of_ble_eq_true rfl, Nat.le_of_ble_eq_true rfl⟩) hK hT hP hS (va_recv hK hP (ci := 6) (q0 := 0) rfl rfl) rfl hl.1 rfl (Nat.le_of_ble_eq_true rfl) d_MO_emitOperation_60 ⟨Nat.zero_le _, Nat.zero_le _⟩ (fun H locs hP hS => ?_)
      exact k_MO_emitOperation_63 ha F hr hlk hK hT x1 x2 σ8 q hf _ _ hP hS ls (lv_sub hl [0, 1, 2] rfl)
def f_MO_emitOperation (x1 : Int32) (σ : SS) : Option (SS) :=
  (ld (σ 0) 40 x1).bind fun v1 => (f_MO_in v1 (2 : Int32) (5 : Int32) σ).bind fun q3 => (if q3.1 = 0 then (if v1 = (6 : Int32) then (f_MO_emit (9 : Int32) (0 : Int32) q3.2).bind fun σ7 => b_MO_emitOperation_37 x1 v1 σ7 else b_MO_emitOperation_37 x1 v1 q3.2) else (f_MO_emit (v1 + (3 : Int32)) (0 : Int32) q3.2).bind fun σ9 => (if v1 = (6 : Int32) then (f_MO_emit (9 : Int32) (0 : Int32) σ9).bind fun σ12 => b_MO_emitOperation_37 x1 v1 σ12 else b_MO_emitOperation_37 x1 v1 σ9))
set_option maxHeartbeats 4000000 in
set_option maxRecDepth 100000 in
theorem e_MO_emitOperation {p : Program} {l : Launch} {e : Env} {s : State} {m : MethodId} {args : Array Value} {below : List Frame} {meth : Method} {c : Code} {D : va_G} {a t : Nat → Nat} {cI cZ : ClassId} (ha : aMC a) (F : CallFix p m c b_MO_emitOperation 3 s args gt R_MO) (hr : meth.sig.returnType = none) (hlk : meth.locks = false) (hK : va_K D vwCl [(cI, .int), (cZ, .boolean)] s) (hT : stM t (aM a) s s.heap) :
    ∀ (x1 : Int32) (σ : SS) (q : SS), f_MO_emitOperation x1 σ = some q → ∀ (H : Heap) (locs : List Loc), va_P D vwCl ((wM a cI cZ) σ) H → va_S (aM a) s.heap H locs → ∀ (ls : Array Slot), lv_has ls 3 [(0, .ref (a 0)), (1, .int x1)] → W p l e { frames := 1, cells := 0, slots := 0, locals := 22 } s m args below meth c H locs 0 0 (MQ below (va_Qv (fun u => u = q) (pW D (wM a cI cZ) [(cI, .int), (cZ, .boolean)] (stM t) (aM a)) (aM a)) args s 0 0 (aM a)) (F0 m 0 ls []) := by
  obtain ⟨hx, hb, hml, hown, hg⟩ := id F
  intro x1 σ q hf H locs hP hS ls hl
  unfold f_MO_emitOperation at hf
  refine lv_aload_n hx hb d_MO_emitOperation_0 rfl (lv_at hl 0 rfl) ?_
  refine va_get (D := D) (ci := 6) (v := .ref (a 1)) (C := R_MO) (T := T_MO) (N := 26) hx hb hg in_MO hown hK hP 0 rfl rfl 2 (by decide) (hg _ gw_585) (fun _ h9 => h9) rfl d_MO_emitOperation_1 ?_
  refine lv_iload_n hx hb d_MO_emitOperation_4 rfl (lv_at hl 1 rfl) ?_
  refine bdK hf (fun v1 h2 hf => ?_)
  refine r_iald hx hb hK hP 1 0 rfl rfl h2 d_MO_emitOperation_5 ?_
  refine lv_istore_n (lv' := [(2, .int v1), (0, .ref (a 0)), (1, .int x1)]) hx hb d_MO_emitOperation_6 rfl hl (by decide) rfl (fun ls hl => ?_)
  refine lv_iload_n hx hb d_MO_emitOperation_7 rfl (lv_at hl 0 rfl) ?_
  refine lv_iconst (v := (2 : Int32)) hx hb d_MO_emitOperation_8 (by decide) ?_
  refine lv_iconst (v := (5 : Int32)) hx hb d_MO_emitOperation_9 (by decide) ?_
  refine bdK hf (fun q3 h4 hf => ?_)
  refine rc_Si (As := [.int v1, .int (2 : Int32), .int (5 : Int32)]) (rest := []) (stM_g t) F (c_MO_in l ha v1 (2 : Int32) (5 : Int32) σ q3 h4) (cwS 3 hg gc_MO_75 rfl rfl rfl hs_MO_in ⟨Nat.le_of_ble_eq_true rfl, Nat.le_of_ble_eq_true rfl⟩) hK hT hP hS rfl hl.1 rfl (Nat.le_of_ble_eq_true rfl) d_MO_emitOperation_10 ⟨Nat.zero_le _, Nat.zero_le _⟩ (fun H locs hP hS => ?_)
  refine lv_if_eq (tgt := 24) hx hb d_MO_emitOperation_13 (by decide) (fun c5 => ?_) (fun c5 => ?_)
  · replace hf := (if_pos c5).symm.trans hf
    refine lv_iload_n hx hb d_MO_emitOperation_24 rfl (lv_at hl 0 rfl) ?_
    refine lv_bipush (v := (6 : Int32)) hx hb d_MO_emitOperation_25 (by decide) ?_
    refine lv_icmp_ne (tgt := 37) hx hb d_MO_emitOperation_27 (by decide) (fun c6 => ?_) (fun c6 => ?_)
    · replace hf := (if_neg c6).symm.trans hf
      exact k_MO_emitOperation_37 ha F hr hlk hK hT x1 v1 q3.2 q hf _ _ hP hS ls (lv_sub hl [1, 2, 0] rfl)
    · replace hf := (if_pos c6).symm.trans hf
      refine lv_aload_n hx hb d_MO_emitOperation_30 rfl (lv_at hl 1 rfl) ?_
      refine lv_bipush (v := (9 : Int32)) hx hb d_MO_emitOperation_31 (by decide) ?_
      refine lv_iconst (v := (0 : Int32)) hx hb d_MO_emitOperation_33 (by decide) ?_
      refine bdK hf (fun σ7 h8 hf => ?_)
      refine rc_Vv (As := [.int (9 : Int32), .int (0 : Int32)]) (rest := []) (b := a 0) (stM_g t) F (c_MO_emit l ha (9 : Int32) (0 : Int32) q3.2 σ7 h8) (cwV 2 hg gc_MO_144 rfl rfl rfl hs_MO_emit ⟨Nat.le_of_ble_eq_true rfl, Nat.le_of_ble_eq_true rfl⟩) hK hT hP hS (va_recv hK hP (ci := 6) (q0 := 0) rfl rfl) rfl hl.1 rfl (Nat.le_of_ble_eq_true rfl) d_MO_emitOperation_34 ⟨Nat.zero_le _, Nat.zero_le _⟩ (fun H locs hP hS => ?_)
      exact k_MO_emitOperation_37 ha F hr hlk hK hT x1 v1 σ7 q hf _ _ hP hS ls (lv_sub hl [1, 2, 0] rfl)
  · replace hf := (if_neg c5).symm.trans hf
    refine lv_aload_n hx hb d_MO_emitOperation_16 rfl (lv_at hl 1 rfl) ?_
    refine lv_iload_n hx hb d_MO_emitOperation_17 rfl (lv_at hl 0 rfl) ?_
    refine lv_iconst (v := (3 : Int32)) hx hb d_MO_emitOperation_18 (by decide) ?_
    refine lv_iadd hx hb d_MO_emitOperation_19 ?_
    refine lv_iconst (v := (0 : Int32)) hx hb d_MO_emitOperation_20 (by decide) ?_
    refine bdK hf (fun σ9 h10 hf => ?_)
    refine rc_Vv (As := [.int (v1 + (3 : Int32)), .int (0 : Int32)]) (rest := []) (b := a 0) (stM_g t) F (c_MO_emit l ha (v1 + (3 : Int32)) (0 : Int32) q3.2 σ9 h10) (cwV 2 hg gc_MO_144 rfl rfl rfl hs_MO_emit ⟨Nat.le_of_ble_eq_true rfl, Nat.le_of_ble_eq_true rfl⟩) hK hT hP hS (va_recv hK hP (ci := 6) (q0 := 0) rfl rfl) rfl hl.1 rfl (Nat.le_of_ble_eq_true rfl) d_MO_emitOperation_21 ⟨Nat.zero_le _, Nat.zero_le _⟩ (fun H locs hP hS => ?_)
    refine lv_iload_n hx hb d_MO_emitOperation_24 rfl (lv_at hl 0 rfl) ?_
    refine lv_bipush (v := (6 : Int32)) hx hb d_MO_emitOperation_25 (by decide) ?_
    refine lv_icmp_ne (tgt := 37) hx hb d_MO_emitOperation_27 (by decide) (fun c11 => ?_) (fun c11 => ?_)
    · replace hf := (if_neg c11).symm.trans hf
      exact k_MO_emitOperation_37 ha F hr hlk hK hT x1 v1 σ9 q hf _ _ hP hS ls (lv_sub hl [1, 2, 0] rfl)
    · replace hf := (if_pos c11).symm.trans hf
      refine lv_aload_n hx hb d_MO_emitOperation_30 rfl (lv_at hl 1 rfl) ?_
      refine lv_bipush (v := (9 : Int32)) hx hb d_MO_emitOperation_31 (by decide) ?_
      refine lv_iconst (v := (0 : Int32)) hx hb d_MO_emitOperation_33 (by decide) ?_
      refine bdK hf (fun σ12 h13 hf => ?_)
      refine rc_Vv (As := [.int (9 : Int32), .int (0 : Int32)]) (rest := []) (b := a 0) (stM_g t) F (c_MO_emit l ha (9 : Int32) (0 : Int32) σ9 σ12 h13) (cwV 2 hg gc_MO_144 rfl rfl rfl hs_MO_emit ⟨Nat.le_of_ble_eq_true rfl, Nat.le_of_ble_eq_true rfl⟩) hK hT hP hS (va_recv hK hP (ci := 6) (q0 := 0) rfl rfl) rfl hl.1 rfl (Nat.le_of_ble_eq_true rfl) d_MO_emitOperation_34 ⟨Nat.zero_le _, Nat.zero_le _⟩ (fun H locs hP hS => ?_)
      exact k_MO_emitOperation_37 ha F hr hlk hK hT x1 v1 σ12 q hf _ _ hP hS ls (lv_sub hl [1, 2, 0] rfl)
set_option maxHeartbeats 4000000 in
set_option maxRecDepth 100000 in
theorem c_MO_emitOperation (l : Launch) {D : va_G} {a t : Nat → Nat} {cI cZ : ClassId} (ha : aMC a) (x1 : Int32) (σ : SS) (q : SS) (hf : f_MO_emitOperation x1 σ = some q) : Met l y_MO_emitOperation ws_MO_emitOperation { frames := 1, cells := 0, slots := 0, locals := 22 } (va_Pc [.ref (a 0), .int x1] (pW D (wM a cI cZ) [(cI, .int), (cZ, .boolean)] (stM t) (aM a) σ)) (va_Qv (fun u => u = q) (pW D (wM a cI cZ) [(cI, .int), (cZ, .boolean)] (stM t) (aM a)) (aM a)) 0 0 (aM a) := by
  refine Met.ofW (cc := b_MO_emitOperation) (maxL := 3) (ret := none) (by decide) rfl ?_
  intro p e s m args below meth c s₁ B hml hv
  obtain ⟨rfl, hP, hK, hT⟩ := hv
  have hl := lv_entry ([.ref (a 0), .int x1]) (n := 3) (Nat.le_of_ble_eq_true rfl)
  rw [lg_entry_eq]
  generalize (lg_sl ([.ref (a 0), .int x1]) ++ List.replicate (3 - (lg_sl ([.ref (a 0), .int x1])).length) Slot.unset).toArray = ls at hl ⊢
  exact e_MO_emitOperation ha ⟨B.exec, B.bytes, hml, findClass_of_methodNamed B.named, fun w h => atoms_spec (ws := ws_MO_emitOperation) B.pre w (List.mem_cons_of_mem _ h)⟩ B.returns B.notSynchronized hK hT x1 σ q hf s.heap [] hP va_S.rf ls hl
theorem d_MO_open_0 : decode b_MO_open 0 = .ok (.iload_n 2, 1) := by decide +kernel
theorem d_MO_open_1 : decode b_MO_open 1 = .ok (.istore_n 3, 1) := by decide +kernel
theorem d_MO_open_2 : decode b_MO_open 2 = .ok (.aload_n 0, 1) := by decide +kernel
theorem d_MO_open_3 : decode b_MO_open 3 = .ok (.getfield 32, 3) := by decide +kernel
theorem d_MO_open_6 : decode b_MO_open 6 = .ok (.iload_n 1, 1) := by decide +kernel
theorem d_MO_open_7 : decode b_MO_open 7 = .ok (.iaload, 1) := by decide +kernel
theorem d_MO_open_8 : decode b_MO_open 8 = .ok (.ifCond .lt 12, 3) := by decide +kernel
theorem d_MO_open_11 : decode b_MO_open 11 = .ok (.aload_n 0, 1) := by decide +kernel
theorem d_MO_open_12 : decode b_MO_open 12 = .ok (.getfield 32, 3) := by decide +kernel
theorem d_MO_open_15 : decode b_MO_open 15 = .ok (.iload_n 1, 1) := by decide +kernel
theorem d_MO_open_16 : decode b_MO_open 16 = .ok (.iaload, 1) := by decide +kernel
theorem d_MO_open_17 : decode b_MO_open 17 = .ok (.goto 12, 3) := by decide +kernel
theorem d_MO_open_20 : decode b_MO_open 20 = .ok (.bipush 100, 2) := by decide +kernel
theorem d_MO_open_22 : decode b_MO_open 22 = .ok (.aload_n 0, 1) := by decide +kernel
theorem d_MO_open_23 : decode b_MO_open 23 = .ok (.getfield 16, 3) := by decide +kernel
theorem d_MO_open_26 : decode b_MO_open 26 = .ok (.iload_n 1, 1) := by decide +kernel
theorem d_MO_open_27 : decode b_MO_open 27 = .ok (.iaload, 1) := by decide +kernel
theorem d_MO_open_28 : decode b_MO_open 28 = .ok (.iadd, 1) := by decide +kernel
theorem d_MO_open_29 : decode b_MO_open 29 = .ok (.istore 4, 2) := by decide +kernel
theorem d_MO_open_31 : decode b_MO_open 31 = .ok (.aload_n 0, 1) := by decide +kernel
theorem d_MO_open_32 : decode b_MO_open 32 = .ok (.getfield 35, 3) := by decide +kernel
theorem d_MO_open_35 : decode b_MO_open 35 = .ok (.iload_n 1, 1) := by decide +kernel
theorem d_MO_open_36 : decode b_MO_open 36 = .ok (.iaload, 1) := by decide +kernel
theorem d_MO_open_37 : decode b_MO_open 37 = .ok (.ifCond .lt 12, 3) := by decide +kernel
theorem d_MO_open_40 : decode b_MO_open 40 = .ok (.aload_n 0, 1) := by decide +kernel
theorem d_MO_open_41 : decode b_MO_open 41 = .ok (.getfield 35, 3) := by decide +kernel
theorem d_MO_open_44 : decode b_MO_open 44 = .ok (.iload_n 1, 1) := by decide +kernel
theorem d_MO_open_45 : decode b_MO_open 45 = .ok (.iaload, 1) := by decide +kernel
theorem d_MO_open_46 : decode b_MO_open 46 = .ok (.goto 12, 3) := by decide +kernel
theorem d_MO_open_49 : decode b_MO_open 49 = .ok (.bipush 100, 2) := by decide +kernel
theorem d_MO_open_51 : decode b_MO_open 51 = .ok (.aload_n 0, 1) := by decide +kernel
theorem d_MO_open_52 : decode b_MO_open 52 = .ok (.getfield 19, 3) := by decide +kernel
theorem d_MO_open_55 : decode b_MO_open 55 = .ok (.iload_n 1, 1) := by decide +kernel
theorem d_MO_open_56 : decode b_MO_open 56 = .ok (.iaload, 1) := by decide +kernel
theorem d_MO_open_57 : decode b_MO_open 57 = .ok (.iadd, 1) := by decide +kernel
theorem d_MO_open_58 : decode b_MO_open 58 = .ok (.istore 5, 2) := by decide +kernel
theorem d_MO_open_60 : decode b_MO_open 60 = .ok (.aload_n 0, 1) := by decide +kernel
theorem d_MO_open_61 : decode b_MO_open 61 = .ok (.getfield 32, 3) := by decide +kernel
theorem d_MO_open_64 : decode b_MO_open 64 = .ok (.iload_n 1, 1) := by decide +kernel
theorem d_MO_open_65 : decode b_MO_open 65 = .ok (.iaload, 1) := by decide +kernel
theorem d_MO_open_66 : decode b_MO_open 66 = .ok (.ifCond .lt 17, 3) := by decide +kernel
theorem d_MO_open_69 : decode b_MO_open 69 = .ok (.aload_n 0, 1) := by decide +kernel
theorem d_MO_open_70 : decode b_MO_open 70 = .ok (.getfield 38, 3) := by decide +kernel
theorem d_MO_open_73 : decode b_MO_open 73 = .ok (.aload_n 0, 1) := by decide +kernel
theorem d_MO_open_74 : decode b_MO_open 74 = .ok (.getfield 32, 3) := by decide +kernel
theorem d_MO_open_77 : decode b_MO_open 77 = .ok (.iload_n 1, 1) := by decide +kernel
theorem d_MO_open_78 : decode b_MO_open 78 = .ok (.iaload, 1) := by decide +kernel
theorem d_MO_open_79 : decode b_MO_open 79 = .ok (.iaload, 1) := by decide +kernel
theorem d_MO_open_80 : decode b_MO_open 80 = .ok (.goto 4, 3) := by decide +kernel
theorem d_MO_open_83 : decode b_MO_open 83 = .ok (.iconst 1, 1) := by decide +kernel
theorem d_MO_open_84 : decode b_MO_open 84 = .ok (.istore 6, 2) := by decide +kernel
theorem d_MO_open_86 : decode b_MO_open 86 = .ok (.aload_n 0, 1) := by decide +kernel
theorem d_MO_open_87 : decode b_MO_open 87 = .ok (.getfield 35, 3) := by decide +kernel
theorem d_MO_open_90 : decode b_MO_open 90 = .ok (.iload_n 1, 1) := by decide +kernel
theorem d_MO_open_91 : decode b_MO_open 91 = .ok (.iaload, 1) := by decide +kernel
theorem d_MO_open_92 : decode b_MO_open 92 = .ok (.ifCond .lt 17, 3) := by decide +kernel
theorem d_MO_open_95 : decode b_MO_open 95 = .ok (.aload_n 0, 1) := by decide +kernel
theorem d_MO_open_96 : decode b_MO_open 96 = .ok (.getfield 38, 3) := by decide +kernel
theorem d_MO_open_99 : decode b_MO_open 99 = .ok (.aload_n 0, 1) := by decide +kernel
theorem d_MO_open_100 : decode b_MO_open 100 = .ok (.getfield 35, 3) := by decide +kernel
theorem d_MO_open_103 : decode b_MO_open 103 = .ok (.iload_n 1, 1) := by decide +kernel
theorem d_MO_open_104 : decode b_MO_open 104 = .ok (.iaload, 1) := by decide +kernel
theorem d_MO_open_105 : decode b_MO_open 105 = .ok (.iaload, 1) := by decide +kernel
theorem d_MO_open_106 : decode b_MO_open 106 = .ok (.goto 4, 3) := by decide +kernel
theorem d_MO_open_109 : decode b_MO_open 109 = .ok (.iconst 1, 1) := by decide +kernel
theorem d_MO_open_110 : decode b_MO_open 110 = .ok (.istore 7, 2) := by decide +kernel
theorem d_MO_open_112 : decode b_MO_open 112 = .ok (.aload_n 0, 1) := by decide +kernel
theorem d_MO_open_113 : decode b_MO_open 113 = .ok (.iload_n 1, 1) := by decide +kernel
theorem d_MO_open_114 : decode b_MO_open 114 = .ok (.invokevirtual 104, 3) := by decide +kernel
theorem d_MO_open_117 : decode b_MO_open 117 = .ok (.ifCond .eq 14, 3) := by decide +kernel
theorem d_MO_open_120 : decode b_MO_open 120 = .ok (.iload 7, 2) := by decide +kernel
theorem d_MO_open_122 : decode b_MO_open 122 = .ok (.iload 6, 2) := by decide +kernel
theorem d_MO_open_124 : decode b_MO_open 124 = .ok (.if_icmp .le 7, 3) := by decide +kernel
theorem d_MO_open_127 : decode b_MO_open 127 = .ok (.iconst 1, 1) := by decide +kernel
theorem d_MO_open_128 : decode b_MO_open 128 = .ok (.goto 4, 3) := by decide +kernel
theorem d_MO_open_131 : decode b_MO_open 131 = .ok (.iconst 0, 1) := by decide +kernel
theorem d_MO_open_132 : decode b_MO_open 132 = .ok (.istore 8, 2) := by decide +kernel
theorem d_MO_open_134 : decode b_MO_open 134 = .ok (.aload_n 0, 1) := by decide +kernel
theorem d_MO_open_135 : decode b_MO_open 135 = .ok (.getfield 56, 3) := by decide +kernel
theorem d_MO_open_138 : decode b_MO_open 138 = .ok (.iload_n 3, 1) := by decide +kernel
theorem d_MO_open_139 : decode b_MO_open 139 = .ok (.sipush 300, 3) := by decide +kernel
theorem d_MO_open_142 : decode b_MO_open 142 = .ok (.iload_n 1, 1) := by decide +kernel
theorem d_MO_open_143 : decode b_MO_open 143 = .ok (.iadd, 1) := by decide +kernel
theorem d_MO_open_144 : decode b_MO_open 144 = .ok (.iastore, 1) := by decide +kernel
theorem d_MO_open_145 : decode b_MO_open 145 = .ok (.iload_n 3, 1) := by decide +kernel
theorem d_MO_open_146 : decode b_MO_open 146 = .ok (.iconst 1, 1) := by decide +kernel
theorem d_MO_open_147 : decode b_MO_open 147 = .ok (.iadd, 1) := by decide +kernel
theorem d_MO_open_148 : decode b_MO_open 148 = .ok (.istore_n 3, 1) := by decide +kernel
theorem d_MO_open_149 : decode b_MO_open 149 = .ok (.iload 8, 2) := by decide +kernel
theorem d_MO_open_151 : decode b_MO_open 151 = .ok (.ifCond .eq 47, 3) := by decide +kernel
theorem d_MO_open_154 : decode b_MO_open 154 = .ok (.aload_n 0, 1) := by decide +kernel
theorem d_MO_open_155 : decode b_MO_open 155 = .ok (.getfield 7, 3) := by decide +kernel
theorem d_MO_open_158 : decode b_MO_open 158 = .ok (.iload_n 1, 1) := by decide +kernel
theorem d_MO_open_159 : decode b_MO_open 159 = .ok (.iaload, 1) := by decide +kernel
theorem d_MO_open_160 : decode b_MO_open 160 = .ok (.iconst 3, 1) := by decide +kernel
theorem d_MO_open_161 : decode b_MO_open 161 = .ok (.if_icmp .eq 24, 3) := by decide +kernel
theorem d_MO_open_164 : decode b_MO_open 164 = .ok (.aload_n 0, 1) := by decide +kernel
theorem d_MO_open_165 : decode b_MO_open 165 = .ok (.getfield 7, 3) := by decide +kernel
theorem d_MO_open_168 : decode b_MO_open 168 = .ok (.iload_n 1, 1) := by decide +kernel
theorem d_MO_open_169 : decode b_MO_open 169 = .ok (.iaload, 1) := by decide +kernel
theorem d_MO_open_170 : decode b_MO_open 170 = .ok (.iconst 5, 1) := by decide +kernel
theorem d_MO_open_171 : decode b_MO_open 171 = .ok (.if_icmp .eq 14, 3) := by decide +kernel
theorem d_MO_open_174 : decode b_MO_open 174 = .ok (.aload_n 0, 1) := by decide +kernel
theorem d_MO_open_175 : decode b_MO_open 175 = .ok (.getfield 7, 3) := by decide +kernel
theorem d_MO_open_178 : decode b_MO_open 178 = .ok (.iload_n 1, 1) := by decide +kernel
theorem d_MO_open_179 : decode b_MO_open 179 = .ok (.iaload, 1) := by decide +kernel
theorem d_MO_open_180 : decode b_MO_open 180 = .ok (.bipush 7, 2) := by decide +kernel
theorem d_MO_open_182 : decode b_MO_open 182 = .ok (.if_icmp .ne 16, 3) := by decide +kernel
theorem d_MO_open_185 : decode b_MO_open 185 = .ok (.aload_n 0, 1) := by decide +kernel
theorem d_MO_open_186 : decode b_MO_open 186 = .ok (.getfield 56, 3) := by decide +kernel
theorem d_MO_open_189 : decode b_MO_open 189 = .ok (.iload_n 3, 1) := by decide +kernel
theorem d_MO_open_190 : decode b_MO_open 190 = .ok (.sipush 200, 3) := by decide +kernel
theorem d_MO_open_193 : decode b_MO_open 193 = .ok (.iastore, 1) := by decide +kernel
theorem d_MO_open_194 : decode b_MO_open 194 = .ok (.iload_n 3, 1) := by decide +kernel
theorem d_MO_open_195 : decode b_MO_open 195 = .ok (.iconst 1, 1) := by decide +kernel
theorem d_MO_open_196 : decode b_MO_open 196 = .ok (.iadd, 1) := by decide +kernel
theorem d_MO_open_197 : decode b_MO_open 197 = .ok (.istore_n 3, 1) := by decide +kernel
theorem d_MO_open_198 : decode b_MO_open 198 = .ok (.aload_n 0, 1) := by decide +kernel
theorem d_MO_open_199 : decode b_MO_open 199 = .ok (.iload_n 1, 1) := by decide +kernel
theorem d_MO_open_200 : decode b_MO_open 200 = .ok (.invokevirtual 104, 3) := by decide +kernel
theorem d_MO_open_203 : decode b_MO_open 203 = .ok (.ifCond .eq 25, 3) := by decide +kernel
theorem d_MO_open_206 : decode b_MO_open 206 = .ok (.aload_n 0, 1) := by decide +kernel
theorem d_MO_open_207 : decode b_MO_open 207 = .ok (.getfield 56, 3) := by decide +kernel
theorem d_MO_open_210 : decode b_MO_open 210 = .ok (.iload_n 3, 1) := by decide +kernel
theorem d_MO_open_211 : decode b_MO_open 211 = .ok (.iload 8, 2) := by decide +kernel
theorem d_MO_open_213 : decode b_MO_open 213 = .ok (.ifCond .eq 8, 3) := by decide +kernel
theorem d_MO_open_216 : decode b_MO_open 216 = .ok (.iload 4, 2) := by decide +kernel
theorem d_MO_open_218 : decode b_MO_open 218 = .ok (.goto 5, 3) := by decide +kernel
theorem d_MO_open_221 : decode b_MO_open 221 = .ok (.iload 5, 2) := by decide +kernel
theorem d_MO_open_223 : decode b_MO_open 223 = .ok (.iastore, 1) := by decide +kernel
theorem d_MO_open_224 : decode b_MO_open 224 = .ok (.iload_n 3, 1) := by decide +kernel
theorem d_MO_open_225 : decode b_MO_open 225 = .ok (.iconst 1, 1) := by decide +kernel
theorem d_MO_open_226 : decode b_MO_open 226 = .ok (.iadd, 1) := by decide +kernel
theorem d_MO_open_227 : decode b_MO_open 227 = .ok (.istore_n 3, 1) := by decide +kernel
theorem d_MO_open_228 : decode b_MO_open 228 = .ok (.aload_n 0, 1) := by decide +kernel
theorem d_MO_open_229 : decode b_MO_open 229 = .ok (.iload_n 1, 1) := by decide +kernel
theorem d_MO_open_230 : decode b_MO_open 230 = .ok (.invokevirtual 101, 3) := by decide +kernel
theorem d_MO_open_233 : decode b_MO_open 233 = .ok (.ifCond .eq 25, 3) := by decide +kernel
theorem d_MO_open_236 : decode b_MO_open 236 = .ok (.aload_n 0, 1) := by decide +kernel
theorem d_MO_open_237 : decode b_MO_open 237 = .ok (.getfield 56, 3) := by decide +kernel
theorem d_MO_open_240 : decode b_MO_open 240 = .ok (.iload_n 3, 1) := by decide +kernel
theorem d_MO_open_241 : decode b_MO_open 241 = .ok (.iload 8, 2) := by decide +kernel
theorem d_MO_open_243 : decode b_MO_open 243 = .ok (.ifCond .eq 8, 3) := by decide +kernel
theorem d_MO_open_246 : decode b_MO_open 246 = .ok (.iload 5, 2) := by decide +kernel
theorem d_MO_open_248 : decode b_MO_open 248 = .ok (.goto 5, 3) := by decide +kernel
theorem d_MO_open_251 : decode b_MO_open 251 = .ok (.iload 4, 2) := by decide +kernel
theorem d_MO_open_253 : decode b_MO_open 253 = .ok (.iastore, 1) := by decide +kernel
theorem d_MO_open_254 : decode b_MO_open 254 = .ok (.iload_n 3, 1) := by decide +kernel
theorem d_MO_open_255 : decode b_MO_open 255 = .ok (.iconst 1, 1) := by decide +kernel
theorem d_MO_open_256 : decode b_MO_open 256 = .ok (.iadd, 1) := by decide +kernel
theorem d_MO_open_257 : decode b_MO_open 257 = .ok (.istore_n 3, 1) := by decide +kernel
theorem d_MO_open_258 : decode b_MO_open 258 = .ok (.iload_n 3, 1) := by decide +kernel
theorem d_MO_open_259 : decode b_MO_open 259 = .ok (.ireturn, 1) := by decide +kernel
def b_MO_open_228 (x1 x3 x4 x5 x8 : Int32) (σ : SS) : Option (Int32 × SS) :=
  (f_MO_readsA x1 σ).bind fun q1 => (if q1.1 = 0 then some (x3, q1.2) else (if x8 = 0 then (sto q1.2 15 200 x3 x4).bind fun σ5 => some ((x3 + (1 : Int32)), σ5) else (sto q1.2 15 200 x3 x5).bind fun σ7 => some ((x3 + (1 : Int32)), σ7)))
set_option maxHeartbeats 4000000 in
set_option maxRecDepth 100000 in
theorem k_MO_open_228 {p : Program} {l : Launch} {e : Env} {s : State} {m : MethodId} {args : Array Value} {below : List Frame} {meth : Method} {c : Code} {D : va_G} {a t : Nat → Nat} {cI cZ : ClassId} (ha : aMC a) (F : CallFix p m c b_MO_open 9 s args gt R_MO) (hr : meth.sig.returnType = some .int) (hlk : meth.locks = false) (hK : va_K D vwCl [(cI, .int), (cZ, .boolean)] s) (hT : stM t (aM a) s s.heap) :
    ∀ (x1 x3 x4 x5 x8 : Int32) (σ : SS) (q : Int32 × SS), b_MO_open_228 x1 x3 x4 x5 x8 σ = some q → ∀ (H : Heap) (locs : List Loc), va_P D vwCl ((wM a cI cZ) σ) H → va_S (aM a) s.heap H locs → ∀ (ls : Array Slot), lv_has ls 9 [(0, .ref (a 0)), (1, .int x1), (3, .int x3), (4, .int x4), (5, .int x5), (8, .int x8)] → W p l e { frames := 2, cells := 0, slots := 0, locals := 43 } s m args below meth c H locs 0 0 (MQ below (va_Qi (fun r u => r = q.1 ∧ u = q.2) (pW D (wM a cI cZ) [(cI, .int), (cZ, .boolean)] (stM t) (aM a)) (aM a)) args s 0 0 (aM a)) (F0 m 228 ls []) := by
  obtain ⟨hx, hb, hml, hown, hg⟩ := id F
  intro x1 x3 x4 x5 x8 σ q hf H locs hP hS ls hl
  unfold b_MO_open_228 at hf
  refine lv_aload_n hx hb d_MO_open_228 rfl (lv_at hl 0 rfl) ?_
  refine lv_iload_n hx hb d_MO_open_229 rfl (lv_at hl 1 rfl) ?_
  refine bdK hf (fun q1 h2 hf => ?_)
  refine rc_Vi (As := [.int x1]) (rest := []) (b := a 0) (stM_g t) F (c_MO_readsA l ha x1 σ q1 h2) (cwV 1 hg gc_MO_101 rfl rfl rfl hs_MO_readsA ⟨Nat.le_of_ble_eq_true rfl, Nat.le_of_ble_eq_true rfl⟩) hK hT hP hS (va_recv hK hP (ci := 6) (q0 := 0) rfl rfl) rfl hl.1 rfl (Nat.le_of_ble_eq_true rfl) d_MO_open_230 ⟨Nat.zero_le _, Nat.zero_le _⟩ (fun H locs hP hS => ?_)
  refine lv_if_eq (tgt := 258) hx hb d_MO_open_233 (by decide) (fun c3 => ?_) (fun c3 => ?_)
  · replace hf := (if_pos c3).symm.trans hf
    refine lv_iload_n hx hb d_MO_open_258 rfl (lv_at hl 2 rfl) ?_
    exact rr_i hx hb hr hlk (stM_g t) hK hT hP hS hf d_MO_open_259
  · replace hf := (if_neg c3).symm.trans hf
    refine lv_aload_n hx hb d_MO_open_236 rfl (lv_at hl 0 rfl) ?_
    refine va_get (D := D) (ci := 6) (v := .ref (a 16)) (C := R_MO) (T := T_MO) (N := 26) hx hb hg in_MO hown hK hP 0 rfl rfl 19 (by decide) (hg _ gw_602) (fun _ h9 => h9) rfl d_MO_open_237 ?_
    refine lv_iload_n hx hb d_MO_open_240 rfl (lv_at hl 2 rfl) ?_
    refine lv_iload hx hb d_MO_open_241 (lv_at hl 5 rfl) ?_
    refine lv_if_eq (tgt := 251) hx hb d_MO_open_243 (by decide) (fun c4 => ?_) (fun c4 => ?_)
    · replace hf := (if_pos c4).symm.trans hf
      refine lv_iload hx hb d_MO_open_251 (lv_at hl 3 rfl) ?_
      refine bdK hf (fun σ5 h6 hf => ?_)
      refine r_iast (wf := (wM a cI cZ)) hx hb hK hP (dM ha q1.2) hS 16 0 rfl rfl (fun _ _ => rfl) h6 d_MO_open_253 (fun H locs hP hS => ?_)
      refine lv_iload_n hx hb d_MO_open_254 rfl (lv_at hl 2 rfl) ?_
      refine lv_iconst (v := (1 : Int32)) hx hb d_MO_open_255 (by decide) ?_
      refine lv_iadd hx hb d_MO_open_256 ?_
      refine lv_istore_n (lv' := [(3, .int (x3 + (1 : Int32))), (0, .ref (a 0)), (1, .int x1), (4, .int x4), (5, .int x5), (8, .int x8)]) hx hb d_MO_open_257 rfl hl (by decide) rfl (fun ls hl => ?_)
      refine lv_iload_n hx hb d_MO_open_258 rfl (lv_at hl 0 rfl) ?_
      exact rr_i hx hb hr hlk (stM_g t) hK hT hP hS hf d_MO_open_259
    · replace hf := (if_neg c4).symm.trans hf
      refine lv_iload hx hb d_MO_open_246 (lv_at hl 4 rfl) ?_
      refine lv_goto (tgt := 253) hx hb d_MO_open_248 (by decide) ?_
      refine bdK hf (fun σ7 h8 hf => ?_)
      refine r_iast (wf := (wM a cI cZ)) hx hb hK hP (dM ha q1.2) hS 16 0 rfl rfl (fun _ _ => rfl) h8 d_MO_open_253 (fun H locs hP hS => ?_)
      refine lv_iload_n hx hb d_MO_open_254 rfl (lv_at hl 2 rfl) ?_
      refine lv_iconst (v := (1 : Int32)) hx hb d_MO_open_255 (by decide) ?_
      refine lv_iadd hx hb d_MO_open_256 ?_
      refine lv_istore_n (lv' := [(3, .int (x3 + (1 : Int32))), (0, .ref (a 0)), (1, .int x1), (4, .int x4), (5, .int x5), (8, .int x8)]) hx hb d_MO_open_257 rfl hl (by decide) rfl (fun ls hl => ?_)
      refine lv_iload_n hx hb d_MO_open_258 rfl (lv_at hl 0 rfl) ?_
      exact rr_i hx hb hr hlk (stM_g t) hK hT hP hS hf d_MO_open_259
def b_MO_open_198 (x1 x3 x4 x5 x8 : Int32) (σ : SS) : Option (Int32 × SS) :=
  (f_MO_readsB x1 σ).bind fun q1 => (if q1.1 = 0 then b_MO_open_228 x1 x3 x4 x5 x8 q1.2 else (if x8 = 0 then (sto q1.2 15 200 x3 x5).bind fun σ5 => b_MO_open_228 x1 (x3 + (1 : Int32)) x4 x5 x8 σ5 else (sto q1.2 15 200 x3 x4).bind fun σ7 => b_MO_open_228 x1 (x3 + (1 : Int32)) x4 x5 x8 σ7))
set_option maxHeartbeats 4000000 in
set_option maxRecDepth 100000 in
theorem k_MO_open_198 {p : Program} {l : Launch} {e : Env} {s : State} {m : MethodId} {args : Array Value} {below : List Frame} {meth : Method} {c : Code} {D : va_G} {a t : Nat → Nat} {cI cZ : ClassId} (ha : aMC a) (F : CallFix p m c b_MO_open 9 s args gt R_MO) (hr : meth.sig.returnType = some .int) (hlk : meth.locks = false) (hK : va_K D vwCl [(cI, .int), (cZ, .boolean)] s) (hT : stM t (aM a) s s.heap) :
    ∀ (x1 x3 x4 x5 x8 : Int32) (σ : SS) (q : Int32 × SS), b_MO_open_198 x1 x3 x4 x5 x8 σ = some q → ∀ (H : Heap) (locs : List Loc), va_P D vwCl ((wM a cI cZ) σ) H → va_S (aM a) s.heap H locs → ∀ (ls : Array Slot), lv_has ls 9 [(0, .ref (a 0)), (1, .int x1), (3, .int x3), (4, .int x4), (5, .int x5), (8, .int x8)] → W p l e { frames := 2, cells := 0, slots := 0, locals := 43 } s m args below meth c H locs 0 0 (MQ below (va_Qi (fun r u => r = q.1 ∧ u = q.2) (pW D (wM a cI cZ) [(cI, .int), (cZ, .boolean)] (stM t) (aM a)) (aM a)) args s 0 0 (aM a)) (F0 m 198 ls []) := by
  obtain ⟨hx, hb, hml, hown, hg⟩ := id F
  intro x1 x3 x4 x5 x8 σ q hf H locs hP hS ls hl
  unfold b_MO_open_198 at hf
  refine lv_aload_n hx hb d_MO_open_198 rfl (lv_at hl 0 rfl) ?_
  refine lv_iload_n hx hb d_MO_open_199 rfl (lv_at hl 1 rfl) ?_
  refine bdK hf (fun q1 h2 hf => ?_)
  refine rc_Vi (As := [.int x1]) (rest := []) (b := a 0) (stM_g t) F (c_MO_readsB l ha x1 σ q1 h2) (cwV 1 hg gc_MO_104 rfl rfl rfl hs_MO_readsB ⟨Nat.le_of_ble_eq_true rfl, Nat.le_of_ble_eq_true rfl⟩) hK hT hP hS (va_recv hK hP (ci := 6) (q0 := 0) rfl rfl) rfl hl.1 rfl (Nat.le_of_ble_eq_true rfl) d_MO_open_200 ⟨Nat.zero_le _, Nat.zero_le _⟩ (fun H locs hP hS => ?_)
  refine lv_if_eq (tgt := 228) hx hb d_MO_open_203 (by decide) (fun c3 => ?_) (fun c3 => ?_)
  · replace hf := (if_pos c3).symm.trans hf
    exact k_MO_open_228 ha F hr hlk hK hT x1 x3 x4 x5 x8 q1.2 q hf _ _ hP hS ls (lv_sub hl [0, 1, 2, 3, 4, 5] rfl)
  · replace hf := (if_neg c3).symm.trans hf
    refine lv_aload_n hx hb d_MO_open_206 rfl (lv_at hl 0 rfl) ?_
    refine va_get (D := D) (ci := 6) (v := .ref (a 16)) (C := R_MO) (T := T_MO) (N := 26) hx hb hg in_MO hown hK hP 0 rfl rfl 19 (by decide) (hg _ gw_602) (fun _ h9 => h9) rfl d_MO_open_207 ?_
    refine lv_iload_n hx hb d_MO_open_210 rfl (lv_at hl 2 rfl) ?_
    refine lv_iload hx hb d_MO_open_211 (lv_at hl 5 rfl) ?_
    refine lv_if_eq (tgt := 221) hx hb d_MO_open_213 (by decide) (fun c4 => ?_) (fun c4 => ?_)
    · replace hf := (if_pos c4).symm.trans hf
      refine lv_iload hx hb d_MO_open_221 (lv_at hl 4 rfl) ?_
      refine bdK hf (fun σ5 h6 hf => ?_)
      refine r_iast (wf := (wM a cI cZ)) hx hb hK hP (dM ha q1.2) hS 16 0 rfl rfl (fun _ _ => rfl) h6 d_MO_open_223 (fun H locs hP hS => ?_)
      refine lv_iload_n hx hb d_MO_open_224 rfl (lv_at hl 2 rfl) ?_
      refine lv_iconst (v := (1 : Int32)) hx hb d_MO_open_225 (by decide) ?_
      refine lv_iadd hx hb d_MO_open_226 ?_
      refine lv_istore_n (lv' := [(3, .int (x3 + (1 : Int32))), (0, .ref (a 0)), (1, .int x1), (4, .int x4), (5, .int x5), (8, .int x8)]) hx hb d_MO_open_227 rfl hl (by decide) rfl (fun ls hl => ?_)
      exact k_MO_open_228 ha F hr hlk hK hT x1 (x3 + (1 : Int32)) x4 x5 x8 σ5 q hf _ _ hP hS ls (lv_sub hl [1, 2, 0, 3, 4, 5] rfl)
    · replace hf := (if_neg c4).symm.trans hf
      refine lv_iload hx hb d_MO_open_216 (lv_at hl 3 rfl) ?_
      refine lv_goto (tgt := 223) hx hb d_MO_open_218 (by decide) ?_
      refine bdK hf (fun σ7 h8 hf => ?_)
      refine r_iast (wf := (wM a cI cZ)) hx hb hK hP (dM ha q1.2) hS 16 0 rfl rfl (fun _ _ => rfl) h8 d_MO_open_223 (fun H locs hP hS => ?_)
      refine lv_iload_n hx hb d_MO_open_224 rfl (lv_at hl 2 rfl) ?_
      refine lv_iconst (v := (1 : Int32)) hx hb d_MO_open_225 (by decide) ?_
      refine lv_iadd hx hb d_MO_open_226 ?_
      refine lv_istore_n (lv' := [(3, .int (x3 + (1 : Int32))), (0, .ref (a 0)), (1, .int x1), (4, .int x4), (5, .int x5), (8, .int x8)]) hx hb d_MO_open_227 rfl hl (by decide) rfl (fun ls hl => ?_)
      exact k_MO_open_228 ha F hr hlk hK hT x1 (x3 + (1 : Int32)) x4 x5 x8 σ7 q hf _ _ hP hS ls (lv_sub hl [1, 2, 0, 3, 4, 5] rfl)
def b_MO_open_185 (x1 x3 x4 x5 x8 : Int32) (σ : SS) : Option (Int32 × SS) :=
  (sto σ 15 200 x3 (200 : Int32)).bind fun σ1 => b_MO_open_198 x1 (x3 + (1 : Int32)) x4 x5 x8 σ1
set_option maxHeartbeats 4000000 in
set_option maxRecDepth 100000 in
theorem k_MO_open_185 {p : Program} {l : Launch} {e : Env} {s : State} {m : MethodId} {args : Array Value} {below : List Frame} {meth : Method} {c : Code} {D : va_G} {a t : Nat → Nat} {cI cZ : ClassId} (ha : aMC a) (F : CallFix p m c b_MO_open 9 s args gt R_MO) (hr : meth.sig.returnType = some .int) (hlk : meth.locks = false) (hK : va_K D vwCl [(cI, .int), (cZ, .boolean)] s) (hT : stM t (aM a) s s.heap) :
    ∀ (x1 x3 x4 x5 x8 : Int32) (σ : SS) (q : Int32 × SS), b_MO_open_185 x1 x3 x4 x5 x8 σ = some q → ∀ (H : Heap) (locs : List Loc), va_P D vwCl ((wM a cI cZ) σ) H → va_S (aM a) s.heap H locs → ∀ (ls : Array Slot), lv_has ls 9 [(0, .ref (a 0)), (1, .int x1), (3, .int x3), (4, .int x4), (5, .int x5), (8, .int x8)] → W p l e { frames := 2, cells := 0, slots := 0, locals := 43 } s m args below meth c H locs 0 0 (MQ below (va_Qi (fun r u => r = q.1 ∧ u = q.2) (pW D (wM a cI cZ) [(cI, .int), (cZ, .boolean)] (stM t) (aM a)) (aM a)) args s 0 0 (aM a)) (F0 m 185 ls []) := by
  obtain ⟨hx, hb, hml, hown, hg⟩ := id F
  intro x1 x3 x4 x5 x8 σ q hf H locs hP hS ls hl
  unfold b_MO_open_185 at hf
  refine lv_aload_n hx hb d_MO_open_185 rfl (lv_at hl 0 rfl) ?_
  refine va_get (D := D) (ci := 6) (v := .ref (a 16)) (C := R_MO) (T := T_MO) (N := 26) hx hb hg in_MO hown hK hP 0 rfl rfl 19 (by decide) (hg _ gw_602) (fun _ h9 => h9) rfl d_MO_open_186 ?_
  refine lv_iload_n hx hb d_MO_open_189 rfl (lv_at hl 2 rfl) ?_
  refine lv_sipush (v := (200 : Int32)) hx hb d_MO_open_190 (by decide) ?_
  refine bdK hf (fun σ1 h2 hf => ?_)
  refine r_iast (wf := (wM a cI cZ)) hx hb hK hP (dM ha σ) hS 16 0 rfl rfl (fun _ _ => rfl) h2 d_MO_open_193 (fun H locs hP hS => ?_)
  refine lv_iload_n hx hb d_MO_open_194 rfl (lv_at hl 2 rfl) ?_
  refine lv_iconst (v := (1 : Int32)) hx hb d_MO_open_195 (by decide) ?_
  refine lv_iadd hx hb d_MO_open_196 ?_
  refine lv_istore_n (lv' := [(3, .int (x3 + (1 : Int32))), (0, .ref (a 0)), (1, .int x1), (4, .int x4), (5, .int x5), (8, .int x8)]) hx hb d_MO_open_197 rfl hl (by decide) rfl (fun ls hl => ?_)
  exact k_MO_open_198 ha F hr hlk hK hT x1 (x3 + (1 : Int32)) x4 x5 x8 σ1 q hf _ _ hP hS ls (lv_sub hl [1, 2, 0, 3, 4, 5] rfl)
def b_MO_open_132 (x1 x3 x4 x5 y0 : Int32) (σ : SS) : Option (Int32 × SS) :=
  (sto σ 15 200 x3 ((300 : Int32) + x1)).bind fun σ1 => (if y0 = 0 then b_MO_open_198 x1 (x3 + (1 : Int32)) x4 x5 y0 σ1 else (ld (σ1 0) 40 x1).bind fun v4 => (if v4 = (3 : Int32) then b_MO_open_185 x1 (x3 + (1 : Int32)) x4 x5 y0 σ1 else (ld (σ1 0) 40 x1).bind fun v7 => (if v7 = (5 : Int32) then b_MO_open_185 x1 (x3 + (1 : Int32)) x4 x5 y0 σ1 else (ld (σ1 0) 40 x1).bind fun v10 => (if v10 = (7 : Int32) then b_MO_open_185 x1 (x3 + (1 : Int32)) x4 x5 y0 σ1 else b_MO_open_198 x1 (x3 + (1 : Int32)) x4 x5 y0 σ1))))
set_option maxHeartbeats 4000000 in
set_option maxRecDepth 100000 in
theorem k_MO_open_132 {p : Program} {l : Launch} {e : Env} {s : State} {m : MethodId} {args : Array Value} {below : List Frame} {meth : Method} {c : Code} {D : va_G} {a t : Nat → Nat} {cI cZ : ClassId} (ha : aMC a) (F : CallFix p m c b_MO_open 9 s args gt R_MO) (hr : meth.sig.returnType = some .int) (hlk : meth.locks = false) (hK : va_K D vwCl [(cI, .int), (cZ, .boolean)] s) (hT : stM t (aM a) s s.heap) :
    ∀ (x1 x3 x4 x5 y0 : Int32) (σ : SS) (q : Int32 × SS), b_MO_open_132 x1 x3 x4 x5 y0 σ = some q → ∀ (H : Heap) (locs : List Loc), va_P D vwCl ((wM a cI cZ) σ) H → va_S (aM a) s.heap H locs → ∀ (ls : Array Slot), lv_has ls 9 [(0, .ref (a 0)), (1, .int x1), (3, .int x3), (4, .int x4), (5, .int x5)] → W p l e { frames := 2, cells := 0, slots := 0, locals := 43 } s m args below meth c H locs 0 0 (MQ below (va_Qi (fun r u => r = q.1 ∧ u = q.2) (pW D (wM a cI cZ) [(cI, .int), (cZ, .boolean)] (stM t) (aM a)) (aM a)) args s 0 0 (aM a)) (F0 m 132 ls [.int y0]) := by
  obtain ⟨hx, hb, hml, hown, hg⟩ := id F
  intro x1 x3 x4 x5 y0 σ q hf H locs hP hS ls hl
  unfold b_MO_open_132 at hf
  refine lv_istore (lv' := [(8, .int y0), (0, .ref (a 0)), (1, .int x1), (3, .int x3), (4, .int x4), (5, .int x5)]) hx hb d_MO_open_132 hl (by decide) rfl (fun ls hl => ?_)
  refine lv_aload_n hx hb d_MO_open_134 rfl (lv_at hl 1 rfl) ?_
  refine va_get (D := D) (ci := 6) (v := .ref (a 16)) (C := R_MO) (T := T_MO) (N := 26) hx hb hg in_MO hown hK hP 0 rfl rfl 19 (by decide) (hg _ gw_602) (fun _ h9 => h9) rfl d_MO_open_135 ?_
  refine lv_iload_n hx hb d_MO_open_138 rfl (lv_at hl 3 rfl) ?_
  refine lv_sipush (v := (300 : Int32)) hx hb d_MO_open_139 (by decide) ?_
  refine lv_iload_n hx hb d_MO_open_142 rfl (lv_at hl 2 rfl) ?_
  refine lv_iadd hx hb d_MO_open_143 ?_
  refine bdK hf (fun σ1 h2 hf => ?_)
  refine r_iast (wf := (wM a cI cZ)) hx hb hK hP (dM ha σ) hS 16 0 rfl rfl (fun _ _ => rfl) h2 d_MO_open_144 (fun H locs hP hS => ?_)
  refine lv_iload_n hx hb d_MO_open_145 rfl (lv_at hl 3 rfl) ?_
  refine lv_iconst (v := (1 : Int32)) hx hb d_MO_open_146 (by decide) ?_
  refine lv_iadd hx hb d_MO_open_147 ?_
  refine lv_istore_n (lv' := [(3, .int (x3 + (1 : Int32))), (8, .int y0), (0, .ref (a 0)), (1, .int x1), (4, .int x4), (5, .int x5)]) hx hb d_MO_open_148 rfl hl (by decide) rfl (fun ls hl => ?_)
  refine lv_iload hx hb d_MO_open_149 (lv_at hl 1 rfl) ?_
  refine lv_if_eq (tgt := 198) hx hb d_MO_open_151 (by decide) (fun c3 => ?_) (fun c3 => ?_)
  · replace hf := (if_pos c3).symm.trans hf
    exact k_MO_open_198 ha F hr hlk hK hT x1 (x3 + (1 : Int32)) x4 x5 y0 σ1 q hf _ _ hP hS ls (lv_sub hl [2, 3, 0, 4, 5, 1] rfl)
  · replace hf := (if_neg c3).symm.trans hf
    refine lv_aload_n hx hb d_MO_open_154 rfl (lv_at hl 2 rfl) ?_
    refine va_get (D := D) (ci := 6) (v := .ref (a 1)) (C := R_MO) (T := T_MO) (N := 26) hx hb hg in_MO hown hK hP 0 rfl rfl 2 (by decide) (hg _ gw_585) (fun _ h9 => h9) rfl d_MO_open_155 ?_
    refine lv_iload_n hx hb d_MO_open_158 rfl (lv_at hl 3 rfl) ?_
    refine bdK hf (fun v4 h5 hf => ?_)
    refine r_iald hx hb hK hP 1 0 rfl rfl h5 d_MO_open_159 ?_
    refine lv_iconst (v := (3 : Int32)) hx hb d_MO_open_160 (by decide) ?_
    refine lv_icmp_eq (tgt := 185) hx hb d_MO_open_161 (by decide) (fun c6 => ?_) (fun c6 => ?_)
    · replace hf := (if_pos c6).symm.trans hf
      exact k_MO_open_185 ha F hr hlk hK hT x1 (x3 + (1 : Int32)) x4 x5 y0 σ1 q hf _ _ hP hS ls (lv_sub hl [2, 3, 0, 4, 5, 1] rfl)
    · replace hf := (if_neg c6).symm.trans hf
      refine lv_aload_n hx hb d_MO_open_164 rfl (lv_at hl 2 rfl) ?_
      refine va_get (D := D) (ci := 6) (v := .ref (a 1)) (C := R_MO) (T := T_MO) (N := 26) hx hb hg in_MO hown hK hP 0 rfl rfl 2 (by decide) (hg _ gw_585) (fun _ h9 => h9) rfl d_MO_open_165 ?_
      refine lv_iload_n hx hb d_MO_open_168 rfl (lv_at hl 3 rfl) ?_
      refine bdK hf (fun v7 h8 hf => ?_)
      refine r_iald hx hb hK hP 1 0 rfl rfl h8 d_MO_open_169 ?_
      refine lv_iconst (v := (5 : Int32)) hx hb d_MO_open_170 (by decide) ?_
      refine lv_icmp_eq (tgt := 185) hx hb d_MO_open_171 (by decide) (fun c9 => ?_) (fun c9 => ?_)
      · replace hf := (if_pos c9).symm.trans hf
        exact k_MO_open_185 ha F hr hlk hK hT x1 (x3 + (1 : Int32)) x4 x5 y0 σ1 q hf _ _ hP hS ls (lv_sub hl [2, 3, 0, 4, 5, 1] rfl)
      · replace hf := (if_neg c9).symm.trans hf
        refine lv_aload_n hx hb d_MO_open_174 rfl (lv_at hl 2 rfl) ?_
        refine va_get (D := D) (ci := 6) (v := .ref (a 1)) (C := R_MO) (T := T_MO) (N := 26) hx hb hg in_MO hown hK hP 0 rfl rfl 2 (by decide) (hg _ gw_585) (fun _ h9 => h9) rfl d_MO_open_175 ?_
        refine lv_iload_n hx hb d_MO_open_178 rfl (lv_at hl 3 rfl) ?_
        refine bdK hf (fun v10 h11 hf => ?_)
        refine r_iald hx hb hK hP 1 0 rfl rfl h11 d_MO_open_179 ?_
        refine lv_bipush (v := (7 : Int32)) hx hb d_MO_open_180 (by decide) ?_
        refine lv_icmp_ne (tgt := 198) hx hb d_MO_open_182 (by decide) (fun c12 => ?_) (fun c12 => ?_)
        · replace hf := (if_neg c12).symm.trans hf
          exact k_MO_open_198 ha F hr hlk hK hT x1 (x3 + (1 : Int32)) x4 x5 y0 σ1 q hf _ _ hP hS ls (lv_sub hl [2, 3, 0, 4, 5, 1] rfl)
        · replace hf := (if_pos c12).symm.trans hf
          exact k_MO_open_185 ha F hr hlk hK hT x1 (x3 + (1 : Int32)) x4 x5 y0 σ1 q hf _ _ hP hS ls (lv_sub hl [2, 3, 0, 4, 5, 1] rfl)
def b_MO_open_110 (x1 x3 x4 x5 x6 y0 : Int32) (σ : SS) : Option (Int32 × SS) :=
  (f_MO_readsB x1 σ).bind fun q1 => (if q1.1 = 0 then b_MO_open_132 x1 x3 x4 x5 (0 : Int32) q1.2 else (if y0 ≤ x6 then b_MO_open_132 x1 x3 x4 x5 (0 : Int32) q1.2 else b_MO_open_132 x1 x3 x4 x5 (1 : Int32) q1.2))
set_option maxHeartbeats 4000000 in
set_option maxRecDepth 100000 in
theorem k_MO_open_110 {p : Program} {l : Launch} {e : Env} {s : State} {m : MethodId} {args : Array Value} {below : List Frame} {meth : Method} {c : Code} {D : va_G} {a t : Nat → Nat} {cI cZ : ClassId} (ha : aMC a) (F : CallFix p m c b_MO_open 9 s args gt R_MO) (hr : meth.sig.returnType = some .int) (hlk : meth.locks = false) (hK : va_K D vwCl [(cI, .int), (cZ, .boolean)] s) (hT : stM t (aM a) s s.heap) :
    ∀ (x1 x3 x4 x5 x6 y0 : Int32) (σ : SS) (q : Int32 × SS), b_MO_open_110 x1 x3 x4 x5 x6 y0 σ = some q → ∀ (H : Heap) (locs : List Loc), va_P D vwCl ((wM a cI cZ) σ) H → va_S (aM a) s.heap H locs → ∀ (ls : Array Slot), lv_has ls 9 [(0, .ref (a 0)), (1, .int x1), (3, .int x3), (4, .int x4), (5, .int x5), (6, .int x6)] → W p l e { frames := 2, cells := 0, slots := 0, locals := 43 } s m args below meth c H locs 0 0 (MQ below (va_Qi (fun r u => r = q.1 ∧ u = q.2) (pW D (wM a cI cZ) [(cI, .int), (cZ, .boolean)] (stM t) (aM a)) (aM a)) args s 0 0 (aM a)) (F0 m 110 ls [.int y0]) := by
  obtain ⟨hx, hb, hml, hown, hg⟩ := id F
  intro x1 x3 x4 x5 x6 y0 σ q hf H locs hP hS ls hl
  unfold b_MO_open_110 at hf
  refine lv_istore (lv' := [(7, .int y0), (0, .ref (a 0)), (1, .int x1), (3, .int x3), (4, .int x4), (5, .int x5), (6, .int x6)]) hx hb d_MO_open_110 hl (by decide) rfl (fun ls hl => ?_)
  refine lv_aload_n hx hb d_MO_open_112 rfl (lv_at hl 1 rfl) ?_
  refine lv_iload_n hx hb d_MO_open_113 rfl (lv_at hl 2 rfl) ?_
  refine bdK hf (fun q1 h2 hf => ?_)
  refine rc_Vi (As := [.int x1]) (rest := []) (b := a 0) (stM_g t) F (c_MO_readsB l ha x1 σ q1 h2) (cwV 1 hg gc_MO_104 rfl rfl rfl hs_MO_readsB ⟨Nat.le_of_ble_eq_true rfl, Nat.le_of_ble_eq_true rfl⟩) hK hT hP hS (va_recv hK hP (ci := 6) (q0 := 0) rfl rfl) rfl hl.1 rfl (Nat.le_of_ble_eq_true rfl) d_MO_open_114 ⟨Nat.zero_le _, Nat.zero_le _⟩ (fun H locs hP hS => ?_)
  refine lv_if_eq (tgt := 131) hx hb d_MO_open_117 (by decide) (fun c3 => ?_) (fun c3 => ?_)
  · replace hf := (if_pos c3).symm.trans hf
    refine lv_iconst (v := (0 : Int32)) hx hb d_MO_open_131 (by decide) ?_
    exact k_MO_open_132 ha F hr hlk hK hT x1 x3 x4 x5 (0 : Int32) q1.2 q hf _ _ hP hS ls (lv_sub hl [1, 2, 3, 4, 5] rfl)
  · replace hf := (if_neg c3).symm.trans hf
    refine lv_iload hx hb d_MO_open_120 (lv_at hl 0 rfl) ?_
    refine lv_iload hx hb d_MO_open_122 (lv_at hl 6 rfl) ?_
    refine lv_icmp_le (tgt := 131) hx hb d_MO_open_124 (by decide) (fun c4 => ?_) (fun c4 => ?_)
    · replace hf := (if_pos c4).symm.trans hf
      refine lv_iconst (v := (0 : Int32)) hx hb d_MO_open_131 (by decide) ?_
      exact k_MO_open_132 ha F hr hlk hK hT x1 x3 x4 x5 (0 : Int32) q1.2 q hf _ _ hP hS ls (lv_sub hl [1, 2, 3, 4, 5] rfl)
    · replace hf := (if_neg c4).symm.trans hf
      refine lv_iconst (v := (1 : Int32)) hx hb d_MO_open_127 (by decide) ?_
      refine lv_goto (tgt := 132) hx hb d_MO_open_128 (by decide) ?_
      exact k_MO_open_132 ha F hr hlk hK hT x1 x3 x4 x5 (1 : Int32) q1.2 q hf _ _ hP hS ls (lv_sub hl [1, 2, 3, 4, 5] rfl)
def b_MO_open_84 (x1 x3 x4 x5 y0 : Int32) (σ : SS) : Option (Int32 × SS) :=
  (ld (σ 8) 40 x1).bind fun v1 => (if v1 < 0 then b_MO_open_110 x1 x3 x4 x5 y0 (1 : Int32) σ else (ld (σ 8) 40 x1).bind fun v4 => (ld (σ 9) 40 v4).bind fun v6 => b_MO_open_110 x1 x3 x4 x5 y0 v6 σ)
set_option maxHeartbeats 4000000 in
set_option maxRecDepth 100000 in
theorem k_MO_open_84 {p : Program} {l : Launch} {e : Env} {s : State} {m : MethodId} {args : Array Value} {below : List Frame} {meth : Method} {c : Code} {D : va_G} {a t : Nat → Nat} {cI cZ : ClassId} (ha : aMC a) (F : CallFix p m c b_MO_open 9 s args gt R_MO) (hr : meth.sig.returnType = some .int) (hlk : meth.locks = false) (hK : va_K D vwCl [(cI, .int), (cZ, .boolean)] s) (hT : stM t (aM a) s s.heap) :
    ∀ (x1 x3 x4 x5 y0 : Int32) (σ : SS) (q : Int32 × SS), b_MO_open_84 x1 x3 x4 x5 y0 σ = some q → ∀ (H : Heap) (locs : List Loc), va_P D vwCl ((wM a cI cZ) σ) H → va_S (aM a) s.heap H locs → ∀ (ls : Array Slot), lv_has ls 9 [(0, .ref (a 0)), (1, .int x1), (3, .int x3), (4, .int x4), (5, .int x5)] → W p l e { frames := 2, cells := 0, slots := 0, locals := 43 } s m args below meth c H locs 0 0 (MQ below (va_Qi (fun r u => r = q.1 ∧ u = q.2) (pW D (wM a cI cZ) [(cI, .int), (cZ, .boolean)] (stM t) (aM a)) (aM a)) args s 0 0 (aM a)) (F0 m 84 ls [.int y0]) := by
  obtain ⟨hx, hb, hml, hown, hg⟩ := id F
  intro x1 x3 x4 x5 y0 σ q hf H locs hP hS ls hl
  unfold b_MO_open_84 at hf
  refine lv_istore (lv' := [(6, .int y0), (0, .ref (a 0)), (1, .int x1), (3, .int x3), (4, .int x4), (5, .int x5)]) hx hb d_MO_open_84 hl (by decide) rfl (fun ls hl => ?_)
  refine lv_aload_n hx hb d_MO_open_86 rfl (lv_at hl 1 rfl) ?_
  refine va_get (D := D) (ci := 6) (v := .ref (a 9)) (C := R_MO) (T := T_MO) (N := 26) hx hb hg in_MO hown hK hP 0 rfl rfl 11 (by decide) (hg _ gw_594) (fun _ h9 => h9) rfl d_MO_open_87 ?_
  refine lv_iload_n hx hb d_MO_open_90 rfl (lv_at hl 2 rfl) ?_
  refine bdK hf (fun v1 h2 hf => ?_)
  refine r_iald hx hb hK hP 9 0 rfl rfl h2 d_MO_open_91 ?_
  refine lv_if_lt (tgt := 109) hx hb d_MO_open_92 (by decide) (fun c3 => ?_) (fun c3 => ?_)
  · replace hf := (if_pos c3).symm.trans hf
    refine lv_iconst (v := (1 : Int32)) hx hb d_MO_open_109 (by decide) ?_
    exact k_MO_open_110 ha F hr hlk hK hT x1 x3 x4 x5 y0 (1 : Int32) σ q hf _ _ hP hS ls (lv_sub hl [1, 2, 3, 4, 5, 0] rfl)
  · replace hf := (if_neg c3).symm.trans hf
    refine lv_aload_n hx hb d_MO_open_95 rfl (lv_at hl 1 rfl) ?_
    refine va_get (D := D) (ci := 6) (v := .ref (a 10)) (C := R_MO) (T := T_MO) (N := 26) hx hb hg in_MO hown hK hP 0 rfl rfl 12 (by decide) (hg _ gw_595) (fun _ h9 => h9) rfl d_MO_open_96 ?_
    refine lv_aload_n hx hb d_MO_open_99 rfl (lv_at hl 1 rfl) ?_
    refine va_get (D := D) (ci := 6) (v := .ref (a 9)) (C := R_MO) (T := T_MO) (N := 26) hx hb hg in_MO hown hK hP 0 rfl rfl 11 (by decide) (hg _ gw_594) (fun _ h9 => h9) rfl d_MO_open_100 ?_
    refine lv_iload_n hx hb d_MO_open_103 rfl (lv_at hl 2 rfl) ?_
    refine bdK hf (fun v4 h5 hf => ?_)
    refine r_iald hx hb hK hP 9 0 rfl rfl h5 d_MO_open_104 ?_
    refine bdK hf (fun v6 h7 hf => ?_)
    refine r_iald hx hb hK hP 10 0 rfl rfl h7 d_MO_open_105 ?_
    refine lv_goto (tgt := 110) hx hb d_MO_open_106 (by decide) ?_
    exact k_MO_open_110 ha F hr hlk hK hT x1 x3 x4 x5 y0 v6 σ q hf _ _ hP hS ls (lv_sub hl [1, 2, 3, 4, 5, 0] rfl)
def b_MO_open_58 (x1 x3 x4 y0 : Int32) (σ : SS) : Option (Int32 × SS) :=
  (ld (σ 7) 40 x1).bind fun v1 => (if v1 < 0 then b_MO_open_84 x1 x3 x4 y0 (1 : Int32) σ else (ld (σ 7) 40 x1).bind fun v4 => (ld (σ 9) 40 v4).bind fun v6 => b_MO_open_84 x1 x3 x4 y0 v6 σ)
set_option maxHeartbeats 4000000 in
set_option maxRecDepth 100000 in
theorem k_MO_open_58 {p : Program} {l : Launch} {e : Env} {s : State} {m : MethodId} {args : Array Value} {below : List Frame} {meth : Method} {c : Code} {D : va_G} {a t : Nat → Nat} {cI cZ : ClassId} (ha : aMC a) (F : CallFix p m c b_MO_open 9 s args gt R_MO) (hr : meth.sig.returnType = some .int) (hlk : meth.locks = false) (hK : va_K D vwCl [(cI, .int), (cZ, .boolean)] s) (hT : stM t (aM a) s s.heap) :
    ∀ (x1 x3 x4 y0 : Int32) (σ : SS) (q : Int32 × SS), b_MO_open_58 x1 x3 x4 y0 σ = some q → ∀ (H : Heap) (locs : List Loc), va_P D vwCl ((wM a cI cZ) σ) H → va_S (aM a) s.heap H locs → ∀ (ls : Array Slot), lv_has ls 9 [(0, .ref (a 0)), (1, .int x1), (3, .int x3), (4, .int x4)] → W p l e { frames := 2, cells := 0, slots := 0, locals := 43 } s m args below meth c H locs 0 0 (MQ below (va_Qi (fun r u => r = q.1 ∧ u = q.2) (pW D (wM a cI cZ) [(cI, .int), (cZ, .boolean)] (stM t) (aM a)) (aM a)) args s 0 0 (aM a)) (F0 m 58 ls [.int y0]) := by
  obtain ⟨hx, hb, hml, hown, hg⟩ := id F
  intro x1 x3 x4 y0 σ q hf H locs hP hS ls hl
  unfold b_MO_open_58 at hf
  refine lv_istore (lv' := [(5, .int y0), (0, .ref (a 0)), (1, .int x1), (3, .int x3), (4, .int x4)]) hx hb d_MO_open_58 hl (by decide) rfl (fun ls hl => ?_)
  refine lv_aload_n hx hb d_MO_open_60 rfl (lv_at hl 1 rfl) ?_
  refine va_get (D := D) (ci := 6) (v := .ref (a 8)) (C := R_MO) (T := T_MO) (N := 26) hx hb hg in_MO hown hK hP 0 rfl rfl 10 (by decide) (hg _ gw_593) (fun _ h9 => h9) rfl d_MO_open_61 ?_
  refine lv_iload_n hx hb d_MO_open_64 rfl (lv_at hl 2 rfl) ?_
  refine bdK hf (fun v1 h2 hf => ?_)
  refine r_iald hx hb hK hP 8 0 rfl rfl h2 d_MO_open_65 ?_
  refine lv_if_lt (tgt := 83) hx hb d_MO_open_66 (by decide) (fun c3 => ?_) (fun c3 => ?_)
  · replace hf := (if_pos c3).symm.trans hf
    refine lv_iconst (v := (1 : Int32)) hx hb d_MO_open_83 (by decide) ?_
    exact k_MO_open_84 ha F hr hlk hK hT x1 x3 x4 y0 (1 : Int32) σ q hf _ _ hP hS ls (lv_sub hl [1, 2, 3, 4, 0] rfl)
  · replace hf := (if_neg c3).symm.trans hf
    refine lv_aload_n hx hb d_MO_open_69 rfl (lv_at hl 1 rfl) ?_
    refine va_get (D := D) (ci := 6) (v := .ref (a 10)) (C := R_MO) (T := T_MO) (N := 26) hx hb hg in_MO hown hK hP 0 rfl rfl 12 (by decide) (hg _ gw_595) (fun _ h9 => h9) rfl d_MO_open_70 ?_
    refine lv_aload_n hx hb d_MO_open_73 rfl (lv_at hl 1 rfl) ?_
    refine va_get (D := D) (ci := 6) (v := .ref (a 8)) (C := R_MO) (T := T_MO) (N := 26) hx hb hg in_MO hown hK hP 0 rfl rfl 10 (by decide) (hg _ gw_593) (fun _ h9 => h9) rfl d_MO_open_74 ?_
    refine lv_iload_n hx hb d_MO_open_77 rfl (lv_at hl 2 rfl) ?_
    refine bdK hf (fun v4 h5 hf => ?_)
    refine r_iald hx hb hK hP 8 0 rfl rfl h5 d_MO_open_78 ?_
    refine bdK hf (fun v6 h7 hf => ?_)
    refine r_iald hx hb hK hP 10 0 rfl rfl h7 d_MO_open_79 ?_
    refine lv_goto (tgt := 84) hx hb d_MO_open_80 (by decide) ?_
    exact k_MO_open_84 ha F hr hlk hK hT x1 x3 x4 y0 v6 σ q hf _ _ hP hS ls (lv_sub hl [1, 2, 3, 4, 0] rfl)
def b_MO_open_29 (x1 x3 y0 : Int32) (σ : SS) : Option (Int32 × SS) :=
  (ld (σ 8) 40 x1).bind fun v1 => (if v1 < 0 then (ld (σ 3) 40 x1).bind fun v4 => b_MO_open_58 x1 x3 y0 ((100 : Int32) + v4) σ else (ld (σ 8) 40 x1).bind fun v6 => b_MO_open_58 x1 x3 y0 v6 σ)
set_option maxHeartbeats 4000000 in
set_option maxRecDepth 100000 in
theorem k_MO_open_29 {p : Program} {l : Launch} {e : Env} {s : State} {m : MethodId} {args : Array Value} {below : List Frame} {meth : Method} {c : Code} {D : va_G} {a t : Nat → Nat} {cI cZ : ClassId} (ha : aMC a) (F : CallFix p m c b_MO_open 9 s args gt R_MO) (hr : meth.sig.returnType = some .int) (hlk : meth.locks = false) (hK : va_K D vwCl [(cI, .int), (cZ, .boolean)] s) (hT : stM t (aM a) s s.heap) :
    ∀ (x1 x3 y0 : Int32) (σ : SS) (q : Int32 × SS), b_MO_open_29 x1 x3 y0 σ = some q → ∀ (H : Heap) (locs : List Loc), va_P D vwCl ((wM a cI cZ) σ) H → va_S (aM a) s.heap H locs → ∀ (ls : Array Slot), lv_has ls 9 [(0, .ref (a 0)), (1, .int x1), (3, .int x3)] → W p l e { frames := 2, cells := 0, slots := 0, locals := 43 } s m args below meth c H locs 0 0 (MQ below (va_Qi (fun r u => r = q.1 ∧ u = q.2) (pW D (wM a cI cZ) [(cI, .int), (cZ, .boolean)] (stM t) (aM a)) (aM a)) args s 0 0 (aM a)) (F0 m 29 ls [.int y0]) := by
  obtain ⟨hx, hb, hml, hown, hg⟩ := id F
  intro x1 x3 y0 σ q hf H locs hP hS ls hl
  unfold b_MO_open_29 at hf
  refine lv_istore (lv' := [(4, .int y0), (0, .ref (a 0)), (1, .int x1), (3, .int x3)]) hx hb d_MO_open_29 hl (by decide) rfl (fun ls hl => ?_)
  refine lv_aload_n hx hb d_MO_open_31 rfl (lv_at hl 1 rfl) ?_
  refine va_get (D := D) (ci := 6) (v := .ref (a 9)) (C := R_MO) (T := T_MO) (N := 26) hx hb hg in_MO hown hK hP 0 rfl rfl 11 (by decide) (hg _ gw_594) (fun _ h9 => h9) rfl d_MO_open_32 ?_
  refine lv_iload_n hx hb d_MO_open_35 rfl (lv_at hl 2 rfl) ?_
  refine bdK hf (fun v1 h2 hf => ?_)
  refine r_iald hx hb hK hP 9 0 rfl rfl h2 d_MO_open_36 ?_
  refine lv_if_lt (tgt := 49) hx hb d_MO_open_37 (by decide) (fun c3 => ?_) (fun c3 => ?_)
  · replace hf := (if_pos c3).symm.trans hf
    refine lv_bipush (v := (100 : Int32)) hx hb d_MO_open_49 (by decide) ?_
    refine lv_aload_n hx hb d_MO_open_51 rfl (lv_at hl 1 rfl) ?_
    refine va_get (D := D) (ci := 6) (v := .ref (a 4)) (C := R_MO) (T := T_MO) (N := 26) hx hb hg in_MO hown hK hP 0 rfl rfl 5 (by decide) (hg _ gw_588) (fun _ h9 => h9) rfl d_MO_open_52 ?_
    refine lv_iload_n hx hb d_MO_open_55 rfl (lv_at hl 2 rfl) ?_
    refine bdK hf (fun v4 h5 hf => ?_)
    refine r_iald hx hb hK hP 4 0 rfl rfl h5 d_MO_open_56 ?_
    refine lv_iadd hx hb d_MO_open_57 ?_
    exact k_MO_open_58 ha F hr hlk hK hT x1 x3 y0 ((100 : Int32) + v4) σ q hf _ _ hP hS ls (lv_sub hl [1, 2, 3, 0] rfl)
  · replace hf := (if_neg c3).symm.trans hf
    refine lv_aload_n hx hb d_MO_open_40 rfl (lv_at hl 1 rfl) ?_
    refine va_get (D := D) (ci := 6) (v := .ref (a 9)) (C := R_MO) (T := T_MO) (N := 26) hx hb hg in_MO hown hK hP 0 rfl rfl 11 (by decide) (hg _ gw_594) (fun _ h9 => h9) rfl d_MO_open_41 ?_
    refine lv_iload_n hx hb d_MO_open_44 rfl (lv_at hl 2 rfl) ?_
    refine bdK hf (fun v6 h7 hf => ?_)
    refine r_iald hx hb hK hP 9 0 rfl rfl h7 d_MO_open_45 ?_
    refine lv_goto (tgt := 58) hx hb d_MO_open_46 (by decide) ?_
    exact k_MO_open_58 ha F hr hlk hK hT x1 x3 y0 v6 σ q hf _ _ hP hS ls (lv_sub hl [1, 2, 3, 0] rfl)
def f_MO_open (x1 x2 : Int32) (σ : SS) : Option (Int32 × SS) :=
  (ld (σ 7) 40 x1).bind fun v1 => (if v1 < 0 then (ld (σ 2) 40 x1).bind fun v4 => b_MO_open_29 x1 x2 ((100 : Int32) + v4) σ else (ld (σ 7) 40 x1).bind fun v6 => b_MO_open_29 x1 x2 v6 σ)
set_option maxHeartbeats 4000000 in
set_option maxRecDepth 100000 in
theorem e_MO_open {p : Program} {l : Launch} {e : Env} {s : State} {m : MethodId} {args : Array Value} {below : List Frame} {meth : Method} {c : Code} {D : va_G} {a t : Nat → Nat} {cI cZ : ClassId} (ha : aMC a) (F : CallFix p m c b_MO_open 9 s args gt R_MO) (hr : meth.sig.returnType = some .int) (hlk : meth.locks = false) (hK : va_K D vwCl [(cI, .int), (cZ, .boolean)] s) (hT : stM t (aM a) s s.heap) :
    ∀ (x1 x2 : Int32) (σ : SS) (q : Int32 × SS), f_MO_open x1 x2 σ = some q → ∀ (H : Heap) (locs : List Loc), va_P D vwCl ((wM a cI cZ) σ) H → va_S (aM a) s.heap H locs → ∀ (ls : Array Slot), lv_has ls 9 [(0, .ref (a 0)), (1, .int x1), (2, .int x2)] → W p l e { frames := 2, cells := 0, slots := 0, locals := 43 } s m args below meth c H locs 0 0 (MQ below (va_Qi (fun r u => r = q.1 ∧ u = q.2) (pW D (wM a cI cZ) [(cI, .int), (cZ, .boolean)] (stM t) (aM a)) (aM a)) args s 0 0 (aM a)) (F0 m 0 ls []) := by
  obtain ⟨hx, hb, hml, hown, hg⟩ := id F
  intro x1 x2 σ q hf H locs hP hS ls hl
  unfold f_MO_open at hf
  refine lv_iload_n hx hb d_MO_open_0 rfl (lv_at hl 2 rfl) ?_
  refine lv_istore_n (lv' := [(3, .int x2), (0, .ref (a 0)), (1, .int x1), (2, .int x2)]) hx hb d_MO_open_1 rfl hl (by decide) rfl (fun ls hl => ?_)
  refine lv_aload_n hx hb d_MO_open_2 rfl (lv_at hl 1 rfl) ?_
  refine va_get (D := D) (ci := 6) (v := .ref (a 8)) (C := R_MO) (T := T_MO) (N := 26) hx hb hg in_MO hown hK hP 0 rfl rfl 10 (by decide) (hg _ gw_593) (fun _ h9 => h9) rfl d_MO_open_3 ?_
  refine lv_iload_n hx hb d_MO_open_6 rfl (lv_at hl 2 rfl) ?_
  refine bdK hf (fun v1 h2 hf => ?_)
  refine r_iald hx hb hK hP 8 0 rfl rfl h2 d_MO_open_7 ?_
  refine lv_if_lt (tgt := 20) hx hb d_MO_open_8 (by decide) (fun c3 => ?_) (fun c3 => ?_)
  · replace hf := (if_pos c3).symm.trans hf
    refine lv_bipush (v := (100 : Int32)) hx hb d_MO_open_20 (by decide) ?_
    refine lv_aload_n hx hb d_MO_open_22 rfl (lv_at hl 1 rfl) ?_
    refine va_get (D := D) (ci := 6) (v := .ref (a 3)) (C := R_MO) (T := T_MO) (N := 26) hx hb hg in_MO hown hK hP 0 rfl rfl 4 (by decide) (hg _ gw_587) (fun _ h9 => h9) rfl d_MO_open_23 ?_
    refine lv_iload_n hx hb d_MO_open_26 rfl (lv_at hl 2 rfl) ?_
    refine bdK hf (fun v4 h5 hf => ?_)
    refine r_iald hx hb hK hP 3 0 rfl rfl h5 d_MO_open_27 ?_
    refine lv_iadd hx hb d_MO_open_28 ?_
    exact k_MO_open_29 ha F hr hlk hK hT x1 x2 ((100 : Int32) + v4) σ q hf _ _ hP hS ls (lv_sub hl [1, 2, 0] rfl)
  · replace hf := (if_neg c3).symm.trans hf
    refine lv_aload_n hx hb d_MO_open_11 rfl (lv_at hl 1 rfl) ?_
    refine va_get (D := D) (ci := 6) (v := .ref (a 8)) (C := R_MO) (T := T_MO) (N := 26) hx hb hg in_MO hown hK hP 0 rfl rfl 10 (by decide) (hg _ gw_593) (fun _ h9 => h9) rfl d_MO_open_12 ?_
    refine lv_iload_n hx hb d_MO_open_15 rfl (lv_at hl 2 rfl) ?_
    refine bdK hf (fun v6 h7 hf => ?_)
    refine r_iald hx hb hK hP 8 0 rfl rfl h7 d_MO_open_16 ?_
    refine lv_goto (tgt := 29) hx hb d_MO_open_17 (by decide) ?_
    exact k_MO_open_29 ha F hr hlk hK hT x1 x2 v6 σ q hf _ _ hP hS ls (lv_sub hl [1, 2, 0] rfl)
set_option maxHeartbeats 4000000 in
set_option maxRecDepth 100000 in
theorem c_MO_open (l : Launch) {D : va_G} {a t : Nat → Nat} {cI cZ : ClassId} (ha : aMC a) (x1 x2 : Int32) (σ : SS) (q : Int32 × SS) (hf : f_MO_open x1 x2 σ = some q) : Met l y_MO_open ws_MO_open { frames := 2, cells := 0, slots := 0, locals := 43 } (va_Pc [.ref (a 0), .int x1, .int x2] (pW D (wM a cI cZ) [(cI, .int), (cZ, .boolean)] (stM t) (aM a) σ)) (va_Qi (fun r u => r = q.1 ∧ u = q.2) (pW D (wM a cI cZ) [(cI, .int), (cZ, .boolean)] (stM t) (aM a)) (aM a)) 0 0 (aM a) := by
  refine Met.ofW (cc := b_MO_open) (maxL := 9) (ret := some .int) (by decide) rfl ?_
  intro p e s m args below meth c s₁ B hml hv
  obtain ⟨rfl, hP, hK, hT⟩ := hv
  have hl := lv_entry ([.ref (a 0), .int x1, .int x2]) (n := 9) (Nat.le_of_ble_eq_true rfl)
  rw [lg_entry_eq]
  generalize (lg_sl ([.ref (a 0), .int x1, .int x2]) ++ List.replicate (9 - (lg_sl ([.ref (a 0), .int x1, .int x2])).length) Slot.unset).toArray = ls at hl ⊢
  exact e_MO_open ha ⟨B.exec, B.bytes, hml, findClass_of_methodNamed B.named, fun w h => atoms_spec (ws := ws_MO_open) B.pre w (List.mem_cons_of_mem _ h)⟩ B.returns B.notSynchronized hK hT x1 x2 σ q hf s.heap [] hP va_S.rf ls hl
