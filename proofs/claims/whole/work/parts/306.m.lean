theorem d_MO_length_0 : decode b_MO_length 0 = .ok (.aload_n 0, 1) := by decide +kernel
theorem d_MO_length_1 : decode b_MO_length 1 = .ok (.invokevirtual 170, 3) := by decide +kernel
theorem d_MO_length_4 : decode b_MO_length 4 = .ok (.aload_n 0, 1) := by decide +kernel
theorem d_MO_length_5 : decode b_MO_length 5 = .ok (.getfield 141, 3) := by decide +kernel
theorem d_MO_length_8 : decode b_MO_length 8 = .ok (.ireturn, 1) := by decide +kernel
theorem gc_MO_170 : GoodIn gt (wsV R_MO 170 R_MO y_MO_work ws_MO_work) := gd_V gw_695 gw_697 gs_35 gw_7 gw_698
def f_MO_length (σ : SS) : Option (Int32 × SS) :=
  (f_MO_work σ).bind fun σ1 => some ((σ1 23 0), σ1)
set_option maxHeartbeats 4000000 in
set_option maxRecDepth 100000 in
theorem e_MO_length {p : Program} {l : Launch} {e : Env} {s : State} {m : MethodId} {args : Array Value} {below : List Frame} {meth : Method} {c : Code} {D : va_G} {a t : Nat → Nat} {cI cZ : ClassId} (ha : aMC a) (F : CallFix p m c b_MO_length 1 s args gt R_MO) (hr : meth.sig.returnType = some .int) (hlk : meth.locks = false) (hK : va_K D vwCl [(cI, .int), (cZ, .boolean)] s) (hT : stM t (aM a) s s.heap) :
    ∀ (σ : SS) (q : Int32 × SS), f_MO_length σ = some q → ∀ (H : Heap) (locs : List Loc), va_P D vwCl ((wM a cI cZ) σ) H → va_S (aM a) s.heap H locs → ∀ (ls : Array Slot), lv_has ls 1 [(0, .ref (a 0))] → W p l e { frames := 6, cells := 0, slots := 0, locals := 140 } s m args below meth c H locs 0 0 (MQ below (va_Qi (fun r u => r = q.1 ∧ u = q.2) (pW D (wM a cI cZ) [(cI, .int), (cZ, .boolean)] (stM t) (aM a)) (aM a)) args s 0 0 (aM a)) (F0 m 0 ls []) := by
  obtain ⟨hx, hb, hml, hown, hg⟩ := id F
  intro σ q hf H locs hP hS ls hl
  unfold f_MO_length at hf
  refine lv_aload_n hx hb d_MO_length_0 rfl (lv_at hl 0 rfl) ?_
  refine bdK hf (fun σ1 h2 hf => ?_)
  refine rc_Vv (As := []) (rest := []) (b := a 0) (stM_g t) F (c_MO_work l ha σ σ1 h2) (cwV 0 hg gc_MO_170 rfl rfl rfl hs_MO_work ⟨Nat.le_of_ble_eq_true rfl, Nat.le_of_ble_eq_true rfl⟩) hK hT hP hS (va_recv hK hP (ci := 6) (q0 := 0) rfl rfl) rfl hl.1 rfl (Nat.le_of_ble_eq_true rfl) d_MO_length_1 ⟨Nat.zero_le _, Nat.zero_le _⟩ (fun H locs hP hS => ?_)
  refine lv_aload_n hx hb d_MO_length_4 rfl (lv_at hl 0 rfl) ?_
  refine va_get (D := D) (ci := 6) (v := .int (σ1 23 0)) (C := R_MO) (T := T_MO) (N := 26) hx hb hg in_MO hown hK hP 0 rfl rfl 15 (by decide) (hg _ gw_598) (fun _ h9 => h9) rfl d_MO_length_5 ?_
  exact rr_i hx hb hr hlk (stM_g t) hK hT hP hS hf d_MO_length_8
set_option maxHeartbeats 4000000 in
set_option maxRecDepth 100000 in
theorem c_MO_length (l : Launch) {D : va_G} {a t : Nat → Nat} {cI cZ : ClassId} (ha : aMC a) (σ : SS) (q : Int32 × SS) (hf : f_MO_length σ = some q) : Met l y_MO_length ws_MO_length { frames := 6, cells := 0, slots := 0, locals := 140 } (va_Pc [.ref (a 0)] (pW D (wM a cI cZ) [(cI, .int), (cZ, .boolean)] (stM t) (aM a) σ)) (va_Qi (fun r u => r = q.1 ∧ u = q.2) (pW D (wM a cI cZ) [(cI, .int), (cZ, .boolean)] (stM t) (aM a)) (aM a)) 0 0 (aM a) := by
  refine Met.ofW (cc := b_MO_length) (maxL := 1) (ret := some .int) (by decide) rfl ?_
  intro p e s m args below meth c s₁ B hml hv
  obtain ⟨rfl, hP, hK, hT⟩ := hv
  have hl := lv_entry ([.ref (a 0)]) (n := 1) (Nat.le_of_ble_eq_true rfl)
  rw [lg_entry_eq]
  generalize (lg_sl ([.ref (a 0)]) ++ List.replicate (1 - (lg_sl ([.ref (a 0)])).length) Slot.unset).toArray = ls at hl ⊢
  exact e_MO_length ha ⟨B.exec, B.bytes, hml, findClass_of_methodNamed B.named, fun w h => atoms_spec (ws := ws_MO_length) B.pre w (List.mem_cons_of_mem _ h)⟩ B.returns B.notSynchronized hK hT σ q hf s.heap [] hP va_S.rf ls hl
theorem d_MO_code_0 : decode b_MO_code 0 = .ok (.aload_n 0, 1) := by decide +kernel
theorem d_MO_code_1 : decode b_MO_code 1 = .ok (.invokevirtual 170, 3) := by decide +kernel
theorem d_MO_code_4 : decode b_MO_code 4 = .ok (.iload_n 1, 1) := by decide +kernel
theorem d_MO_code_5 : decode b_MO_code 5 = .ok (.iconst 0, 1) := by decide +kernel
theorem d_MO_code_6 : decode b_MO_code 6 = .ok (.aload_n 0, 1) := by decide +kernel
theorem d_MO_code_7 : decode b_MO_code 7 = .ok (.getfield 141, 3) := by decide +kernel
theorem d_MO_code_10 : decode b_MO_code 10 = .ok (.iconst 1, 1) := by decide +kernel
theorem d_MO_code_11 : decode b_MO_code 11 = .ok (.isub, 1) := by decide +kernel
theorem d_MO_code_12 : decode b_MO_code 12 = .ok (.invokestatic 75, 3) := by decide +kernel
theorem d_MO_code_15 : decode b_MO_code 15 = .ok (.ifCond .eq 40, 3) := by decide +kernel
theorem d_MO_code_18 : decode b_MO_code 18 = .ok (.sipush 10000, 3) := by decide +kernel
theorem d_MO_code_21 : decode b_MO_code 21 = .ok (.aload_n 0, 1) := by decide +kernel
theorem d_MO_code_22 : decode b_MO_code 22 = .ok (.getfield 47, 3) := by decide +kernel
theorem d_MO_code_25 : decode b_MO_code 25 = .ok (.iload_n 1, 1) := by decide +kernel
theorem d_MO_code_26 : decode b_MO_code 26 = .ok (.iaload, 1) := by decide +kernel
theorem d_MO_code_27 : decode b_MO_code 27 = .ok (.imul, 1) := by decide +kernel
theorem d_MO_code_28 : decode b_MO_code 28 = .ok (.aload_n 0, 1) := by decide +kernel
theorem d_MO_code_29 : decode b_MO_code 29 = .ok (.getfield 47, 3) := by decide +kernel
theorem d_MO_code_32 : decode b_MO_code 32 = .ok (.iload_n 1, 1) := by decide +kernel
theorem d_MO_code_33 : decode b_MO_code 33 = .ok (.iaload, 1) := by decide +kernel
theorem d_MO_code_34 : decode b_MO_code 34 = .ok (.ifCond .ne 9, 3) := by decide +kernel
theorem d_MO_code_37 : decode b_MO_code 37 = .ok (.sipush 1000, 3) := by decide +kernel
theorem d_MO_code_40 : decode b_MO_code 40 = .ok (.goto 4, 3) := by decide +kernel
theorem d_MO_code_43 : decode b_MO_code 43 = .ok (.iconst 0, 1) := by decide +kernel
theorem d_MO_code_44 : decode b_MO_code 44 = .ok (.iadd, 1) := by decide +kernel
theorem d_MO_code_45 : decode b_MO_code 45 = .ok (.aload_n 0, 1) := by decide +kernel
theorem d_MO_code_46 : decode b_MO_code 46 = .ok (.getfield 50, 3) := by decide +kernel
theorem d_MO_code_49 : decode b_MO_code 49 = .ok (.iload_n 1, 1) := by decide +kernel
theorem d_MO_code_50 : decode b_MO_code 50 = .ok (.iaload, 1) := by decide +kernel
theorem d_MO_code_51 : decode b_MO_code 51 = .ok (.iadd, 1) := by decide +kernel
theorem d_MO_code_52 : decode b_MO_code 52 = .ok (.goto 4, 3) := by decide +kernel
theorem d_MO_code_55 : decode b_MO_code 55 = .ok (.iconst (-1), 1) := by decide +kernel
theorem d_MO_code_56 : decode b_MO_code 56 = .ok (.ireturn, 1) := by decide +kernel
def f_MO_code (x1 : Int32) (σ : SS) : Option (Int32 × SS) :=
  (f_MO_work σ).bind fun σ1 => (f_MO_in x1 (0 : Int32) ((σ1 23 0) - (1 : Int32)) σ1).bind fun q3 => (if q3.1 = 0 then some ((-1 : Int32), q3.2) else (ld (q3.2 12) 600 x1).bind fun v6 => (ld (q3.2 12) 600 x1).bind fun v8 => (if v8 = 0 then (ld (q3.2 13) 600 x1).bind fun v13 => some (((((10000 : Int32) * v6) + (1000 : Int32)) + v13), q3.2) else (ld (q3.2 13) 600 x1).bind fun v11 => some (((((10000 : Int32) * v6) + (0 : Int32)) + v11), q3.2)))
set_option maxHeartbeats 4000000 in
set_option maxRecDepth 100000 in
theorem e_MO_code {p : Program} {l : Launch} {e : Env} {s : State} {m : MethodId} {args : Array Value} {below : List Frame} {meth : Method} {c : Code} {D : va_G} {a t : Nat → Nat} {cI cZ : ClassId} (ha : aMC a) (F : CallFix p m c b_MO_code 2 s args gt R_MO) (hr : meth.sig.returnType = some .int) (hlk : meth.locks = false) (hK : va_K D vwCl [(cI, .int), (cZ, .boolean)] s) (hT : stM t (aM a) s s.heap) :
    ∀ (x1 : Int32) (σ : SS) (q : Int32 × SS), f_MO_code x1 σ = some q → ∀ (H : Heap) (locs : List Loc), va_P D vwCl ((wM a cI cZ) σ) H → va_S (aM a) s.heap H locs → ∀ (ls : Array Slot), lv_has ls 2 [(0, .ref (a 0)), (1, .int x1)] → W p l e { frames := 6, cells := 0, slots := 0, locals := 140 } s m args below meth c H locs 0 0 (MQ below (va_Qi (fun r u => r = q.1 ∧ u = q.2) (pW D (wM a cI cZ) [(cI, .int), (cZ, .boolean)] (stM t) (aM a)) (aM a)) args s 0 0 (aM a)) (F0 m 0 ls []) := by
  obtain ⟨hx, hb, hml, hown, hg⟩ := id F
  intro x1 σ q hf H locs hP hS ls hl
  unfold f_MO_code at hf
  refine lv_aload_n hx hb d_MO_code_0 rfl (lv_at hl 0 rfl) ?_
  refine bdK hf (fun σ1 h2 hf => ?_)
  refine rc_Vv (As := []) (rest := []) (b := a 0) (stM_g t) F (c_MO_work l ha σ σ1 h2) (cwV 0 hg gc_MO_170 rfl rfl rfl hs_MO_work ⟨Nat.le_of_ble_eq_true rfl, Nat.le_of_ble_eq_true rfl⟩) hK hT hP hS (va_recv hK hP (ci := 6) (q0 := 0) rfl rfl) rfl hl.1 rfl (Nat.le_of_ble_eq_true rfl) d_MO_code_1 ⟨Nat.zero_le _, Nat.zero_le _⟩ (fun H locs hP hS => ?_)
  refine lv_iload_n hx hb d_MO_code_4 rfl (lv_at hl 1 rfl) ?_
  refine lv_iconst (v := (0 : Int32)) hx hb d_MO_code_5 (by decide) ?_
  refine lv_aload_n hx hb d_MO_code_6 rfl (lv_at hl 0 rfl) ?_
  refine va_get (D := D) (ci := 6) (v := .int (σ1 23 0)) (C := R_MO) (T := T_MO) (N := 26) hx hb hg in_MO hown hK hP 0 rfl rfl 15 (by decide) (hg _ gw_598) (fun _ h9 => h9) rfl d_MO_code_7 ?_
  refine lv_iconst (v := (1 : Int32)) hx hb d_MO_code_10 (by decide) ?_
  refine lv_isub hx hb d_MO_code_11 ?_
  refine bdK hf (fun q3 h4 hf => ?_)
  refine rc_Si (As := [.int x1, .int (0 : Int32), .int ((σ1 23 0) - (1 : Int32))]) (rest := []) (stM_g t) F (c_MO_in l ha x1 (0 : Int32) ((σ1 23 0) - (1 : Int32)) σ1 q3 h4) (cwS 3 hg gc_MO_75 rfl rfl rfl hs_MO_in ⟨Nat.le_of_ble_eq_true rfl, Nat.le_of_ble_eq_true rfl⟩) hK hT hP hS rfl hl.1 rfl (Nat.le_of_ble_eq_true rfl) d_MO_code_12 ⟨Nat.zero_le _, Nat.zero_le _⟩ (fun H locs hP hS => ?_)
  refine lv_if_eq (tgt := 55) hx hb d_MO_code_15 (by decide) (fun c5 => ?_) (fun c5 => ?_)
  · replace hf := (if_pos c5).symm.trans hf
    refine lv_iconst (v := (-1 : Int32)) hx hb d_MO_code_55 (by decide) ?_
    exact rr_i hx hb hr hlk (stM_g t) hK hT hP hS hf d_MO_code_56
  · replace hf := (if_neg c5).symm.trans hf
    refine lv_sipush (v := (10000 : Int32)) hx hb d_MO_code_18 (by decide) ?_
    refine lv_aload_n hx hb d_MO_code_21 rfl (lv_at hl 0 rfl) ?_
    refine va_get (D := D) (ci := 6) (v := .ref (a 13)) (C := R_MO) (T := T_MO) (N := 26) hx hb hg in_MO hown hK hP 0 rfl rfl 16 (by decide) (hg _ gw_599) (fun _ h9 => h9) rfl d_MO_code_22 ?_
    refine lv_iload_n hx hb d_MO_code_25 rfl (lv_at hl 1 rfl) ?_
    refine bdK hf (fun v6 h7 hf => ?_)
    refine r_iald hx hb hK hP 13 0 rfl rfl h7 d_MO_code_26 ?_
    refine lv_imul hx hb d_MO_code_27 ?_
    refine lv_aload_n hx hb d_MO_code_28 rfl (lv_at hl 0 rfl) ?_
    refine va_get (D := D) (ci := 6) (v := .ref (a 13)) (C := R_MO) (T := T_MO) (N := 26) hx hb hg in_MO hown hK hP 0 rfl rfl 16 (by decide) (hg _ gw_599) (fun _ h9 => h9) rfl d_MO_code_29 ?_
    refine lv_iload_n hx hb d_MO_code_32 rfl (lv_at hl 1 rfl) ?_
    refine bdK hf (fun v8 h9 hf => ?_)
    refine r_iald hx hb hK hP 13 0 rfl rfl h9 d_MO_code_33 ?_
    refine lv_if_ne (tgt := 43) hx hb d_MO_code_34 (by decide) (fun c10 => ?_) (fun c10 => ?_)
    · replace hf := (if_neg c10).symm.trans hf
      refine lv_iconst (v := (0 : Int32)) hx hb d_MO_code_43 (by decide) ?_
      refine lv_iadd hx hb d_MO_code_44 ?_
      refine lv_aload_n hx hb d_MO_code_45 rfl (lv_at hl 0 rfl) ?_
      refine va_get (D := D) (ci := 6) (v := .ref (a 14)) (C := R_MO) (T := T_MO) (N := 26) hx hb hg in_MO hown hK hP 0 rfl rfl 17 (by decide) (hg _ gw_600) (fun _ h9 => h9) rfl d_MO_code_46 ?_
      refine lv_iload_n hx hb d_MO_code_49 rfl (lv_at hl 1 rfl) ?_
      refine bdK hf (fun v11 h12 hf => ?_)
      refine r_iald hx hb hK hP 14 0 rfl rfl h12 d_MO_code_50 ?_
      refine lv_iadd hx hb d_MO_code_51 ?_
      refine lv_goto (tgt := 56) hx hb d_MO_code_52 (by decide) ?_
      exact rr_i hx hb hr hlk (stM_g t) hK hT hP hS hf d_MO_code_56
    · replace hf := (if_pos c10).symm.trans hf
      refine lv_sipush (v := (1000 : Int32)) hx hb d_MO_code_37 (by decide) ?_
      refine lv_goto (tgt := 44) hx hb d_MO_code_40 (by decide) ?_
      refine lv_iadd hx hb d_MO_code_44 ?_
      refine lv_aload_n hx hb d_MO_code_45 rfl (lv_at hl 0 rfl) ?_
      refine va_get (D := D) (ci := 6) (v := .ref (a 14)) (C := R_MO) (T := T_MO) (N := 26) hx hb hg in_MO hown hK hP 0 rfl rfl 17 (by decide) (hg _ gw_600) (fun _ h9 => h9) rfl d_MO_code_46 ?_
      refine lv_iload_n hx hb d_MO_code_49 rfl (lv_at hl 1 rfl) ?_
      refine bdK hf (fun v13 h14 hf => ?_)
      refine r_iald hx hb hK hP 14 0 rfl rfl h14 d_MO_code_50 ?_
      refine lv_iadd hx hb d_MO_code_51 ?_
      refine lv_goto (tgt := 56) hx hb d_MO_code_52 (by decide) ?_
      exact rr_i hx hb hr hlk (stM_g t) hK hT hP hS hf d_MO_code_56
set_option maxHeartbeats 4000000 in
set_option maxRecDepth 100000 in
theorem c_MO_code (l : Launch) {D : va_G} {a t : Nat → Nat} {cI cZ : ClassId} (ha : aMC a) (x1 : Int32) (σ : SS) (q : Int32 × SS) (hf : f_MO_code x1 σ = some q) : Met l y_MO_code ws_MO_code { frames := 6, cells := 0, slots := 0, locals := 140 } (va_Pc [.ref (a 0), .int x1] (pW D (wM a cI cZ) [(cI, .int), (cZ, .boolean)] (stM t) (aM a) σ)) (va_Qi (fun r u => r = q.1 ∧ u = q.2) (pW D (wM a cI cZ) [(cI, .int), (cZ, .boolean)] (stM t) (aM a)) (aM a)) 0 0 (aM a) := by
  refine Met.ofW (cc := b_MO_code) (maxL := 2) (ret := some .int) (by decide) rfl ?_
  intro p e s m args below meth c s₁ B hml hv
  obtain ⟨rfl, hP, hK, hT⟩ := hv
  have hl := lv_entry ([.ref (a 0), .int x1]) (n := 2) (Nat.le_of_ble_eq_true rfl)
  rw [lg_entry_eq]
  generalize (lg_sl ([.ref (a 0), .int x1]) ++ List.replicate (2 - (lg_sl ([.ref (a 0), .int x1])).length) Slot.unset).toArray = ls at hl ⊢
  exact e_MO_code ha ⟨B.exec, B.bytes, hml, findClass_of_methodNamed B.named, fun w h => atoms_spec (ws := ws_MO_code) B.pre w (List.mem_cons_of_mem _ h)⟩ B.returns B.notSynchronized hK hT x1 σ q hf s.heap [] hP va_S.rf ls hl
theorem d_MO_carried_0 : decode b_MO_carried 0 = .ok (.aload_n 0, 1) := by decide +kernel
theorem d_MO_carried_1 : decode b_MO_carried 1 = .ok (.invokevirtual 170, 3) := by decide +kernel
theorem d_MO_carried_4 : decode b_MO_carried 4 = .ok (.iload_n 1, 1) := by decide +kernel
theorem d_MO_carried_5 : decode b_MO_carried 5 = .ok (.iconst 0, 1) := by decide +kernel
theorem d_MO_carried_6 : decode b_MO_carried 6 = .ok (.aload_n 0, 1) := by decide +kernel
theorem d_MO_carried_7 : decode b_MO_carried 7 = .ok (.getfield 87, 3) := by decide +kernel
theorem d_MO_carried_10 : decode b_MO_carried 10 = .ok (.iconst 1, 1) := by decide +kernel
theorem d_MO_carried_11 : decode b_MO_carried 11 = .ok (.isub, 1) := by decide +kernel
theorem d_MO_carried_12 : decode b_MO_carried 12 = .ok (.invokestatic 75, 3) := by decide +kernel
theorem d_MO_carried_15 : decode b_MO_carried 15 = .ok (.ifCond .eq 12, 3) := by decide +kernel
theorem d_MO_carried_18 : decode b_MO_carried 18 = .ok (.aload_n 0, 1) := by decide +kernel
theorem d_MO_carried_19 : decode b_MO_carried 19 = .ok (.getfield 29, 3) := by decide +kernel
theorem d_MO_carried_22 : decode b_MO_carried 22 = .ok (.iload_n 1, 1) := by decide +kernel
theorem d_MO_carried_23 : decode b_MO_carried 23 = .ok (.iaload, 1) := by decide +kernel
theorem d_MO_carried_24 : decode b_MO_carried 24 = .ok (.goto 4, 3) := by decide +kernel
theorem d_MO_carried_27 : decode b_MO_carried 27 = .ok (.iconst (-1), 1) := by decide +kernel
theorem d_MO_carried_28 : decode b_MO_carried 28 = .ok (.ireturn, 1) := by decide +kernel
def f_MO_carried (x1 : Int32) (σ : SS) : Option (Int32 × SS) :=
  (f_MO_work σ).bind fun σ1 => (f_MO_in x1 (0 : Int32) ((σ1 21 0) - (1 : Int32)) σ1).bind fun q3 => (if q3.1 = 0 then some ((-1 : Int32), q3.2) else (ld (q3.2 6) 40 x1).bind fun v6 => some (v6, q3.2))
set_option maxHeartbeats 4000000 in
set_option maxRecDepth 100000 in
theorem e_MO_carried {p : Program} {l : Launch} {e : Env} {s : State} {m : MethodId} {args : Array Value} {below : List Frame} {meth : Method} {c : Code} {D : va_G} {a t : Nat → Nat} {cI cZ : ClassId} (ha : aMC a) (F : CallFix p m c b_MO_carried 2 s args gt R_MO) (hr : meth.sig.returnType = some .int) (hlk : meth.locks = false) (hK : va_K D vwCl [(cI, .int), (cZ, .boolean)] s) (hT : stM t (aM a) s s.heap) :
    ∀ (x1 : Int32) (σ : SS) (q : Int32 × SS), f_MO_carried x1 σ = some q → ∀ (H : Heap) (locs : List Loc), va_P D vwCl ((wM a cI cZ) σ) H → va_S (aM a) s.heap H locs → ∀ (ls : Array Slot), lv_has ls 2 [(0, .ref (a 0)), (1, .int x1)] → W p l e { frames := 6, cells := 0, slots := 0, locals := 140 } s m args below meth c H locs 0 0 (MQ below (va_Qi (fun r u => r = q.1 ∧ u = q.2) (pW D (wM a cI cZ) [(cI, .int), (cZ, .boolean)] (stM t) (aM a)) (aM a)) args s 0 0 (aM a)) (F0 m 0 ls []) := by
  obtain ⟨hx, hb, hml, hown, hg⟩ := id F
  intro x1 σ q hf H locs hP hS ls hl
  unfold f_MO_carried at hf
  refine lv_aload_n hx hb d_MO_carried_0 rfl (lv_at hl 0 rfl) ?_
  refine bdK hf (fun σ1 h2 hf => ?_)
  refine rc_Vv (As := []) (rest := []) (b := a 0) (stM_g t) F (c_MO_work l ha σ σ1 h2) (cwV 0 hg gc_MO_170 rfl rfl rfl hs_MO_work ⟨Nat.le_of_ble_eq_true rfl, Nat.le_of_ble_eq_true rfl⟩) hK hT hP hS (va_recv hK hP (ci := 6) (q0 := 0) rfl rfl) rfl hl.1 rfl (Nat.le_of_ble_eq_true rfl) d_MO_carried_1 ⟨Nat.zero_le _, Nat.zero_le _⟩ (fun H locs hP hS => ?_)
  refine lv_iload_n hx hb d_MO_carried_4 rfl (lv_at hl 1 rfl) ?_
  refine lv_iconst (v := (0 : Int32)) hx hb d_MO_carried_5 (by decide) ?_
  refine lv_aload_n hx hb d_MO_carried_6 rfl (lv_at hl 0 rfl) ?_
  refine va_get (D := D) (ci := 6) (v := .int (σ1 21 0)) (C := R_MO) (T := T_MO) (N := 26) hx hb hg in_MO hown hK hP 0 rfl rfl 1 (by decide) (hg _ gw_584) (fun _ h9 => h9) rfl d_MO_carried_7 ?_
  refine lv_iconst (v := (1 : Int32)) hx hb d_MO_carried_10 (by decide) ?_
  refine lv_isub hx hb d_MO_carried_11 ?_
  refine bdK hf (fun q3 h4 hf => ?_)
  refine rc_Si (As := [.int x1, .int (0 : Int32), .int ((σ1 21 0) - (1 : Int32))]) (rest := []) (stM_g t) F (c_MO_in l ha x1 (0 : Int32) ((σ1 21 0) - (1 : Int32)) σ1 q3 h4) (cwS 3 hg gc_MO_75 rfl rfl rfl hs_MO_in ⟨Nat.le_of_ble_eq_true rfl, Nat.le_of_ble_eq_true rfl⟩) hK hT hP hS rfl hl.1 rfl (Nat.le_of_ble_eq_true rfl) d_MO_carried_12 ⟨Nat.zero_le _, Nat.zero_le _⟩ (fun H locs hP hS => ?_)
  refine lv_if_eq (tgt := 27) hx hb d_MO_carried_15 (by decide) (fun c5 => ?_) (fun c5 => ?_)
  · replace hf := (if_pos c5).symm.trans hf
    refine lv_iconst (v := (-1 : Int32)) hx hb d_MO_carried_27 (by decide) ?_
    exact rr_i hx hb hr hlk (stM_g t) hK hT hP hS hf d_MO_carried_28
  · replace hf := (if_neg c5).symm.trans hf
    refine lv_aload_n hx hb d_MO_carried_18 rfl (lv_at hl 0 rfl) ?_
    refine va_get (D := D) (ci := 6) (v := .ref (a 7)) (C := R_MO) (T := T_MO) (N := 26) hx hb hg in_MO hown hK hP 0 rfl rfl 9 (by decide) (hg _ gw_592) (fun _ h9 => h9) rfl d_MO_carried_19 ?_
    refine lv_iload_n hx hb d_MO_carried_22 rfl (lv_at hl 1 rfl) ?_
    refine bdK hf (fun v6 h7 hf => ?_)
    refine r_iald hx hb hK hP 7 0 rfl rfl h7 d_MO_carried_23 ?_
    refine lv_goto (tgt := 28) hx hb d_MO_carried_24 (by decide) ?_
    exact rr_i hx hb hr hlk (stM_g t) hK hT hP hS hf d_MO_carried_28
set_option maxHeartbeats 4000000 in
set_option maxRecDepth 100000 in
theorem c_MO_carried (l : Launch) {D : va_G} {a t : Nat → Nat} {cI cZ : ClassId} (ha : aMC a) (x1 : Int32) (σ : SS) (q : Int32 × SS) (hf : f_MO_carried x1 σ = some q) : Met l y_MO_carried ws_MO_carried { frames := 6, cells := 0, slots := 0, locals := 140 } (va_Pc [.ref (a 0), .int x1] (pW D (wM a cI cZ) [(cI, .int), (cZ, .boolean)] (stM t) (aM a) σ)) (va_Qi (fun r u => r = q.1 ∧ u = q.2) (pW D (wM a cI cZ) [(cI, .int), (cZ, .boolean)] (stM t) (aM a)) (aM a)) 0 0 (aM a) := by
  refine Met.ofW (cc := b_MO_carried) (maxL := 2) (ret := some .int) (by decide) rfl ?_
  intro p e s m args below meth c s₁ B hml hv
  obtain ⟨rfl, hP, hK, hT⟩ := hv
  have hl := lv_entry ([.ref (a 0), .int x1]) (n := 2) (Nat.le_of_ble_eq_true rfl)
  rw [lg_entry_eq]
  generalize (lg_sl ([.ref (a 0), .int x1]) ++ List.replicate (2 - (lg_sl ([.ref (a 0), .int x1])).length) Slot.unset).toArray = ls at hl ⊢
  exact e_MO_carried ha ⟨B.exec, B.bytes, hml, findClass_of_methodNamed B.named, fun w h => atoms_spec (ws := ws_MO_carried) B.pre w (List.mem_cons_of_mem _ h)⟩ B.returns B.notSynchronized hK hT x1 σ q hf s.heap [] hP va_S.rf ls hl
theorem d_MO_need_0 : decode b_MO_need 0 = .ok (.aload_n 0, 1) := by decide +kernel
theorem d_MO_need_1 : decode b_MO_need 1 = .ok (.invokevirtual 170, 3) := by decide +kernel
theorem d_MO_need_4 : decode b_MO_need 4 = .ok (.iload_n 1, 1) := by decide +kernel
theorem d_MO_need_5 : decode b_MO_need 5 = .ok (.iconst 0, 1) := by decide +kernel
theorem d_MO_need_6 : decode b_MO_need 6 = .ok (.aload_n 0, 1) := by decide +kernel
theorem d_MO_need_7 : decode b_MO_need 7 = .ok (.getfield 87, 3) := by decide +kernel
theorem d_MO_need_10 : decode b_MO_need 10 = .ok (.iconst 1, 1) := by decide +kernel
theorem d_MO_need_11 : decode b_MO_need 11 = .ok (.isub, 1) := by decide +kernel
theorem d_MO_need_12 : decode b_MO_need 12 = .ok (.invokestatic 75, 3) := by decide +kernel
theorem d_MO_need_15 : decode b_MO_need 15 = .ok (.ifCond .eq 12, 3) := by decide +kernel
theorem d_MO_need_18 : decode b_MO_need 18 = .ok (.aload_n 0, 1) := by decide +kernel
theorem d_MO_need_19 : decode b_MO_need 19 = .ok (.getfield 38, 3) := by decide +kernel
theorem d_MO_need_22 : decode b_MO_need 22 = .ok (.iload_n 1, 1) := by decide +kernel
theorem d_MO_need_23 : decode b_MO_need 23 = .ok (.iaload, 1) := by decide +kernel
theorem d_MO_need_24 : decode b_MO_need 24 = .ok (.goto 4, 3) := by decide +kernel
theorem d_MO_need_27 : decode b_MO_need 27 = .ok (.iconst (-1), 1) := by decide +kernel
theorem d_MO_need_28 : decode b_MO_need 28 = .ok (.ireturn, 1) := by decide +kernel
def f_MO_need (x1 : Int32) (σ : SS) : Option (Int32 × SS) :=
  (f_MO_work σ).bind fun σ1 => (f_MO_in x1 (0 : Int32) ((σ1 21 0) - (1 : Int32)) σ1).bind fun q3 => (if q3.1 = 0 then some ((-1 : Int32), q3.2) else (ld (q3.2 9) 40 x1).bind fun v6 => some (v6, q3.2))
set_option maxHeartbeats 4000000 in
set_option maxRecDepth 100000 in
theorem e_MO_need {p : Program} {l : Launch} {e : Env} {s : State} {m : MethodId} {args : Array Value} {below : List Frame} {meth : Method} {c : Code} {D : va_G} {a t : Nat → Nat} {cI cZ : ClassId} (ha : aMC a) (F : CallFix p m c b_MO_need 2 s args gt R_MO) (hr : meth.sig.returnType = some .int) (hlk : meth.locks = false) (hK : va_K D vwCl [(cI, .int), (cZ, .boolean)] s) (hT : stM t (aM a) s s.heap) :
    ∀ (x1 : Int32) (σ : SS) (q : Int32 × SS), f_MO_need x1 σ = some q → ∀ (H : Heap) (locs : List Loc), va_P D vwCl ((wM a cI cZ) σ) H → va_S (aM a) s.heap H locs → ∀ (ls : Array Slot), lv_has ls 2 [(0, .ref (a 0)), (1, .int x1)] → W p l e { frames := 6, cells := 0, slots := 0, locals := 140 } s m args below meth c H locs 0 0 (MQ below (va_Qi (fun r u => r = q.1 ∧ u = q.2) (pW D (wM a cI cZ) [(cI, .int), (cZ, .boolean)] (stM t) (aM a)) (aM a)) args s 0 0 (aM a)) (F0 m 0 ls []) := by
  obtain ⟨hx, hb, hml, hown, hg⟩ := id F
  intro x1 σ q hf H locs hP hS ls hl
  unfold f_MO_need at hf
  refine lv_aload_n hx hb d_MO_need_0 rfl (lv_at hl 0 rfl) ?_
  refine bdK hf (fun σ1 h2 hf => ?_)
  refine rc_Vv (As := []) (rest := []) (b := a 0) (stM_g t) F (c_MO_work l ha σ σ1 h2) (cwV 0 hg gc_MO_170 rfl rfl rfl hs_MO_work ⟨Nat.le_of_ble_eq_true rfl, Nat.le_of_ble_eq_true rfl⟩) hK hT hP hS (va_recv hK hP (ci := 6) (q0 := 0) rfl rfl) rfl hl.1 rfl (Nat.le_of_ble_eq_true rfl) d_MO_need_1 ⟨Nat.zero_le _, Nat.zero_le _⟩ (fun H locs hP hS => ?_)
  refine lv_iload_n hx hb d_MO_need_4 rfl (lv_at hl 1 rfl) ?_
  refine lv_iconst (v := (0 : Int32)) hx hb d_MO_need_5 (by decide) ?_
  refine lv_aload_n hx hb d_MO_need_6 rfl (lv_at hl 0 rfl) ?_
  refine va_get (D := D) (ci := 6) (v := .int (σ1 21 0)) (C := R_MO) (T := T_MO) (N := 26) hx hb hg in_MO hown hK hP 0 rfl rfl 1 (by decide) (hg _ gw_584) (fun _ h9 => h9) rfl d_MO_need_7 ?_
  refine lv_iconst (v := (1 : Int32)) hx hb d_MO_need_10 (by decide) ?_
  refine lv_isub hx hb d_MO_need_11 ?_
  refine bdK hf (fun q3 h4 hf => ?_)
  refine rc_Si (As := [.int x1, .int (0 : Int32), .int ((σ1 21 0) - (1 : Int32))]) (rest := []) (stM_g t) F (c_MO_in l ha x1 (0 : Int32) ((σ1 21 0) - (1 : Int32)) σ1 q3 h4) (cwS 3 hg gc_MO_75 rfl rfl rfl hs_MO_in ⟨Nat.le_of_ble_eq_true rfl, Nat.le_of_ble_eq_true rfl⟩) hK hT hP hS rfl hl.1 rfl (Nat.le_of_ble_eq_true rfl) d_MO_need_12 ⟨Nat.zero_le _, Nat.zero_le _⟩ (fun H locs hP hS => ?_)
  refine lv_if_eq (tgt := 27) hx hb d_MO_need_15 (by decide) (fun c5 => ?_) (fun c5 => ?_)
  · replace hf := (if_pos c5).symm.trans hf
    refine lv_iconst (v := (-1 : Int32)) hx hb d_MO_need_27 (by decide) ?_
    exact rr_i hx hb hr hlk (stM_g t) hK hT hP hS hf d_MO_need_28
  · replace hf := (if_neg c5).symm.trans hf
    refine lv_aload_n hx hb d_MO_need_18 rfl (lv_at hl 0 rfl) ?_
    refine va_get (D := D) (ci := 6) (v := .ref (a 10)) (C := R_MO) (T := T_MO) (N := 26) hx hb hg in_MO hown hK hP 0 rfl rfl 12 (by decide) (hg _ gw_595) (fun _ h9 => h9) rfl d_MO_need_19 ?_
    refine lv_iload_n hx hb d_MO_need_22 rfl (lv_at hl 1 rfl) ?_
    refine bdK hf (fun v6 h7 hf => ?_)
    refine r_iald hx hb hK hP 10 0 rfl rfl h7 d_MO_need_23 ?_
    refine lv_goto (tgt := 28) hx hb d_MO_need_24 (by decide) ?_
    exact rr_i hx hb hr hlk (stM_g t) hK hT hP hS hf d_MO_need_28
set_option maxHeartbeats 4000000 in
set_option maxRecDepth 100000 in
theorem c_MO_need (l : Launch) {D : va_G} {a t : Nat → Nat} {cI cZ : ClassId} (ha : aMC a) (x1 : Int32) (σ : SS) (q : Int32 × SS) (hf : f_MO_need x1 σ = some q) : Met l y_MO_need ws_MO_need { frames := 6, cells := 0, slots := 0, locals := 140 } (va_Pc [.ref (a 0), .int x1] (pW D (wM a cI cZ) [(cI, .int), (cZ, .boolean)] (stM t) (aM a) σ)) (va_Qi (fun r u => r = q.1 ∧ u = q.2) (pW D (wM a cI cZ) [(cI, .int), (cZ, .boolean)] (stM t) (aM a)) (aM a)) 0 0 (aM a) := by
  refine Met.ofW (cc := b_MO_need) (maxL := 2) (ret := some .int) (by decide) rfl ?_
  intro p e s m args below meth c s₁ B hml hv
  obtain ⟨rfl, hP, hK, hT⟩ := hv
  have hl := lv_entry ([.ref (a 0), .int x1]) (n := 2) (Nat.le_of_ble_eq_true rfl)
  rw [lg_entry_eq]
  generalize (lg_sl ([.ref (a 0), .int x1]) ++ List.replicate (2 - (lg_sl ([.ref (a 0), .int x1])).length) Slot.unset).toArray = ls at hl ⊢
  exact e_MO_need ha ⟨B.exec, B.bytes, hml, findClass_of_methodNamed B.named, fun w h => atoms_spec (ws := ws_MO_need) B.pre w (List.mem_cons_of_mem _ h)⟩ B.returns B.notSynchronized hK hT x1 σ q hf s.heap [] hP va_S.rf ls hl
theorem d_MO_live_0 : decode b_MO_live 0 = .ok (.aload_n 0, 1) := by decide +kernel
theorem d_MO_live_1 : decode b_MO_live 1 = .ok (.invokevirtual 170, 3) := by decide +kernel
theorem d_MO_live_4 : decode b_MO_live 4 = .ok (.iload_n 1, 1) := by decide +kernel
theorem d_MO_live_5 : decode b_MO_live 5 = .ok (.iconst 0, 1) := by decide +kernel
theorem d_MO_live_6 : decode b_MO_live 6 = .ok (.aload_n 0, 1) := by decide +kernel
theorem d_MO_live_7 : decode b_MO_live 7 = .ok (.getfield 87, 3) := by decide +kernel
theorem d_MO_live_10 : decode b_MO_live 10 = .ok (.iconst 1, 1) := by decide +kernel
theorem d_MO_live_11 : decode b_MO_live 11 = .ok (.isub, 1) := by decide +kernel
theorem d_MO_live_12 : decode b_MO_live 12 = .ok (.invokestatic 75, 3) := by decide +kernel
theorem d_MO_live_15 : decode b_MO_live 15 = .ok (.ifCond .eq 12, 3) := by decide +kernel
theorem d_MO_live_18 : decode b_MO_live 18 = .ok (.aload_n 0, 1) := by decide +kernel
theorem d_MO_live_19 : decode b_MO_live 19 = .ok (.getfield 26, 3) := by decide +kernel
theorem d_MO_live_22 : decode b_MO_live 22 = .ok (.iload_n 1, 1) := by decide +kernel
theorem d_MO_live_23 : decode b_MO_live 23 = .ok (.iaload, 1) := by decide +kernel
theorem d_MO_live_24 : decode b_MO_live 24 = .ok (.goto 4, 3) := by decide +kernel
theorem d_MO_live_27 : decode b_MO_live 27 = .ok (.iconst (-1), 1) := by decide +kernel
theorem d_MO_live_28 : decode b_MO_live 28 = .ok (.ireturn, 1) := by decide +kernel
def f_MO_live (x1 : Int32) (σ : SS) : Option (Int32 × SS) :=
  (f_MO_work σ).bind fun σ1 => (f_MO_in x1 (0 : Int32) ((σ1 21 0) - (1 : Int32)) σ1).bind fun q3 => (if q3.1 = 0 then some ((-1 : Int32), q3.2) else (ld (q3.2 5) 42 x1).bind fun v6 => some (v6, q3.2))
set_option maxHeartbeats 4000000 in
set_option maxRecDepth 100000 in
theorem e_MO_live {p : Program} {l : Launch} {e : Env} {s : State} {m : MethodId} {args : Array Value} {below : List Frame} {meth : Method} {c : Code} {D : va_G} {a t : Nat → Nat} {cI cZ : ClassId} (ha : aMC a) (F : CallFix p m c b_MO_live 2 s args gt R_MO) (hr : meth.sig.returnType = some .int) (hlk : meth.locks = false) (hK : va_K D vwCl [(cI, .int), (cZ, .boolean)] s) (hT : stM t (aM a) s s.heap) :
    ∀ (x1 : Int32) (σ : SS) (q : Int32 × SS), f_MO_live x1 σ = some q → ∀ (H : Heap) (locs : List Loc), va_P D vwCl ((wM a cI cZ) σ) H → va_S (aM a) s.heap H locs → ∀ (ls : Array Slot), lv_has ls 2 [(0, .ref (a 0)), (1, .int x1)] → W p l e { frames := 6, cells := 0, slots := 0, locals := 140 } s m args below meth c H locs 0 0 (MQ below (va_Qi (fun r u => r = q.1 ∧ u = q.2) (pW D (wM a cI cZ) [(cI, .int), (cZ, .boolean)] (stM t) (aM a)) (aM a)) args s 0 0 (aM a)) (F0 m 0 ls []) := by
  obtain ⟨hx, hb, hml, hown, hg⟩ := id F
  intro x1 σ q hf H locs hP hS ls hl
  unfold f_MO_live at hf
  refine lv_aload_n hx hb d_MO_live_0 rfl (lv_at hl 0 rfl) ?_
  refine bdK hf (fun σ1 h2 hf => ?_)
  refine rc_Vv (As := []) (rest := []) (b := a 0) (stM_g t) F (c_MO_work l ha σ σ1 h2) (cwV 0 hg gc_MO_170 rfl rfl rfl hs_MO_work ⟨Nat.le_of_ble_eq_true rfl, Nat.le_of_ble_eq_true rfl⟩) hK hT hP hS (va_recv hK hP (ci := 6) (q0 := 0) rfl rfl) rfl hl.1 rfl (Nat.le_of_ble_eq_true rfl) d_MO_live_1 ⟨Nat.zero_le _, Nat.zero_le _⟩ (fun H locs hP hS => ?_)
  refine lv_iload_n hx hb d_MO_live_4 rfl (lv_at hl 1 rfl) ?_
  refine lv_iconst (v := (0 : Int32)) hx hb d_MO_live_5 (by decide) ?_
  refine lv_aload_n hx hb d_MO_live_6 rfl (lv_at hl 0 rfl) ?_
  refine va_get (D := D) (ci := 6) (v := .int (σ1 21 0)) (C := R_MO) (T := T_MO) (N := 26) hx hb hg in_MO hown hK hP 0 rfl rfl 1 (by decide) (hg _ gw_584) (fun _ h9 => h9) rfl d_MO_live_7 ?_
  refine lv_iconst (v := (1 : Int32)) hx hb d_MO_live_10 (by decide) ?_
  refine lv_isub hx hb d_MO_live_11 ?_
  refine bdK hf (fun q3 h4 hf => ?_)
  refine rc_Si (As := [.int x1, .int (0 : Int32), .int ((σ1 21 0) - (1 : Int32))]) (rest := []) (stM_g t) F (c_MO_in l ha x1 (0 : Int32) ((σ1 21 0) - (1 : Int32)) σ1 q3 h4) (cwS 3 hg gc_MO_75 rfl rfl rfl hs_MO_in ⟨Nat.le_of_ble_eq_true rfl, Nat.le_of_ble_eq_true rfl⟩) hK hT hP hS rfl hl.1 rfl (Nat.le_of_ble_eq_true rfl) d_MO_live_12 ⟨Nat.zero_le _, Nat.zero_le _⟩ (fun H locs hP hS => ?_)
  refine lv_if_eq (tgt := 27) hx hb d_MO_live_15 (by decide) (fun c5 => ?_) (fun c5 => ?_)
  · replace hf := (if_pos c5).symm.trans hf
    refine lv_iconst (v := (-1 : Int32)) hx hb d_MO_live_27 (by decide) ?_
    exact rr_i hx hb hr hlk (stM_g t) hK hT hP hS hf d_MO_live_28
  · replace hf := (if_neg c5).symm.trans hf
    refine lv_aload_n hx hb d_MO_live_18 rfl (lv_at hl 0 rfl) ?_
    refine va_get (D := D) (ci := 6) (v := .ref (a 6)) (C := R_MO) (T := T_MO) (N := 26) hx hb hg in_MO hown hK hP 0 rfl rfl 8 (by decide) (hg _ gw_591) (fun _ h9 => h9) rfl d_MO_live_19 ?_
    refine lv_iload_n hx hb d_MO_live_22 rfl (lv_at hl 1 rfl) ?_
    refine bdK hf (fun v6 h7 hf => ?_)
    refine r_iald hx hb hK hP 6 0 rfl rfl h7 d_MO_live_23 ?_
    refine lv_goto (tgt := 28) hx hb d_MO_live_24 (by decide) ?_
    exact rr_i hx hb hr hlk (stM_g t) hK hT hP hS hf d_MO_live_28
set_option maxHeartbeats 4000000 in
set_option maxRecDepth 100000 in
theorem c_MO_live (l : Launch) {D : va_G} {a t : Nat → Nat} {cI cZ : ClassId} (ha : aMC a) (x1 : Int32) (σ : SS) (q : Int32 × SS) (hf : f_MO_live x1 σ = some q) : Met l y_MO_live ws_MO_live { frames := 6, cells := 0, slots := 0, locals := 140 } (va_Pc [.ref (a 0), .int x1] (pW D (wM a cI cZ) [(cI, .int), (cZ, .boolean)] (stM t) (aM a) σ)) (va_Qi (fun r u => r = q.1 ∧ u = q.2) (pW D (wM a cI cZ) [(cI, .int), (cZ, .boolean)] (stM t) (aM a)) (aM a)) 0 0 (aM a) := by
  refine Met.ofW (cc := b_MO_live) (maxL := 2) (ret := some .int) (by decide) rfl ?_
  intro p e s m args below meth c s₁ B hml hv
  obtain ⟨rfl, hP, hK, hT⟩ := hv
  have hl := lv_entry ([.ref (a 0), .int x1]) (n := 2) (Nat.le_of_ble_eq_true rfl)
  rw [lg_entry_eq]
  generalize (lg_sl ([.ref (a 0), .int x1]) ++ List.replicate (2 - (lg_sl ([.ref (a 0), .int x1])).length) Slot.unset).toArray = ls at hl ⊢
  exact e_MO_live ha ⟨B.exec, B.bytes, hml, findClass_of_methodNamed B.named, fun w h => atoms_spec (ws := ws_MO_live) B.pre w (List.mem_cons_of_mem _ h)⟩ B.returns B.notSynchronized hK hT x1 σ q hf s.heap [] hP va_S.rf ls hl
theorem d_MO_stores_0 : decode b_MO_stores 0 = .ok (.aload_n 0, 1) := by decide +kernel
theorem d_MO_stores_1 : decode b_MO_stores 1 = .ok (.invokevirtual 170, 3) := by decide +kernel
theorem d_MO_stores_4 : decode b_MO_stores 4 = .ok (.iconst 0, 1) := by decide +kernel
theorem d_MO_stores_5 : decode b_MO_stores 5 = .ok (.istore_n 1, 1) := by decide +kernel
theorem d_MO_stores_6 : decode b_MO_stores 6 = .ok (.iconst 0, 1) := by decide +kernel
theorem d_MO_stores_7 : decode b_MO_stores 7 = .ok (.istore_n 2, 1) := by decide +kernel
theorem d_MO_stores_8 : decode b_MO_stores 8 = .ok (.iload_n 2, 1) := by decide +kernel
theorem d_MO_stores_9 : decode b_MO_stores 9 = .ok (.aload_n 0, 1) := by decide +kernel
theorem d_MO_stores_10 : decode b_MO_stores 10 = .ok (.getfield 141, 3) := by decide +kernel
theorem d_MO_stores_13 : decode b_MO_stores 13 = .ok (.if_icmp .ge 27, 3) := by decide +kernel
theorem d_MO_stores_16 : decode b_MO_stores 16 = .ok (.aload_n 0, 1) := by decide +kernel
theorem d_MO_stores_17 : decode b_MO_stores 17 = .ok (.getfield 47, 3) := by decide +kernel
theorem d_MO_stores_20 : decode b_MO_stores 20 = .ok (.iload_n 2, 1) := by decide +kernel
theorem d_MO_stores_21 : decode b_MO_stores 21 = .ok (.iaload, 1) := by decide +kernel
theorem d_MO_stores_22 : decode b_MO_stores 22 = .ok (.iconst 2, 1) := by decide +kernel
theorem d_MO_stores_23 : decode b_MO_stores 23 = .ok (.if_icmp .ne 9, 3) := by decide +kernel
theorem d_MO_stores_26 : decode b_MO_stores 26 = .ok (.iload_n 1, 1) := by decide +kernel
theorem d_MO_stores_27 : decode b_MO_stores 27 = .ok (.iconst 1, 1) := by decide +kernel
theorem d_MO_stores_28 : decode b_MO_stores 28 = .ok (.iadd, 1) := by decide +kernel
theorem d_MO_stores_29 : decode b_MO_stores 29 = .ok (.goto 4, 3) := by decide +kernel
theorem d_MO_stores_32 : decode b_MO_stores 32 = .ok (.iload_n 1, 1) := by decide +kernel
theorem d_MO_stores_33 : decode b_MO_stores 33 = .ok (.istore_n 1, 1) := by decide +kernel
theorem d_MO_stores_34 : decode b_MO_stores 34 = .ok (.iinc 2 1, 3) := by decide +kernel
theorem d_MO_stores_37 : decode b_MO_stores 37 = .ok (.goto (-29), 3) := by decide +kernel
theorem d_MO_stores_40 : decode b_MO_stores 40 = .ok (.iload_n 1, 1) := by decide +kernel
theorem d_MO_stores_41 : decode b_MO_stores 41 = .ok (.ireturn, 1) := by decide +kernel
def b_MO_stores_8 : Nat → Int32 → Int32 → SS → Option (Int32 × SS)
  | 0, _, _, _ => none
  | n + 1, x1, x2, σ =>
    (if (σ 23 0) ≤ x2 then some (x1, σ) else (ld (σ 12) 600 x2).bind fun v2 => (if v2 = (2 : Int32) then b_MO_stores_8 n (x1 + (1 : Int32)) (x2 + (1 : Int32)) σ else b_MO_stores_8 n x1 (x2 + (1 : Int32)) σ))
set_option maxHeartbeats 4000000 in
set_option maxRecDepth 100000 in
theorem k_MO_stores_8 {p : Program} {l : Launch} {e : Env} {s : State} {m : MethodId} {args : Array Value} {below : List Frame} {meth : Method} {c : Code} {D : va_G} {a t : Nat → Nat} {cI cZ : ClassId} (ha : aMC a) (F : CallFix p m c b_MO_stores 3 s args gt R_MO) (hr : meth.sig.returnType = some .int) (hlk : meth.locks = false) (hK : va_K D vwCl [(cI, .int), (cZ, .boolean)] s) (hT : stM t (aM a) s s.heap) :
    ∀ (n : Nat) (x1 x2 : Int32) (σ : SS) (q : Int32 × SS), b_MO_stores_8 n x1 x2 σ = some q → ∀ (H : Heap) (locs : List Loc), va_P D vwCl ((wM a cI cZ) σ) H → va_S (aM a) s.heap H locs → ∀ (ls : Array Slot), lv_has ls 3 [(0, .ref (a 0)), (1, .int x1), (2, .int x2)] → W p l e { frames := 6, cells := 0, slots := 0, locals := 140 } s m args below meth c H locs 0 0 (MQ below (va_Qi (fun r u => r = q.1 ∧ u = q.2) (pW D (wM a cI cZ) [(cI, .int), (cZ, .boolean)] (stM t) (aM a)) (aM a)) args s 0 0 (aM a)) (F0 m 8 ls []) := by
  obtain ⟨hx, hb, hml, hown, hg⟩ := id F
  intro n
  induction n with
  | zero =>
    intro x1 x2 σ q hf
    rw [b_MO_stores_8] at hf
    cases hf
  | succ n ih =>
    intro x1 x2 σ q hf H locs hP hS ls hl
    rw [b_MO_stores_8] at hf
    refine lv_iload_n hx hb d_MO_stores_8 rfl (lv_at hl 2 rfl) ?_
    refine lv_aload_n hx hb d_MO_stores_9 rfl (lv_at hl 0 rfl) ?_
    refine va_get (D := D) (ci := 6) (v := .int (σ 23 0)) (C := R_MO) (T := T_MO) (N := 26) hx hb hg in_MO hown hK hP 0 rfl rfl 15 (by decide) (hg _ gw_598) (fun _ h9 => h9) rfl d_MO_stores_10 ?_
    refine lv_icmp_ge (tgt := 40) hx hb d_MO_stores_13 (by decide) (fun c1 => ?_) (fun c1 => ?_)
    · replace hf := (if_pos c1).symm.trans hf
      refine lv_iload_n hx hb d_MO_stores_40 rfl (lv_at hl 1 rfl) ?_
      exact rr_i hx hb hr hlk (stM_g t) hK hT hP hS hf d_MO_stores_41
    · replace hf := (if_neg c1).symm.trans hf
      refine lv_aload_n hx hb d_MO_stores_16 rfl (lv_at hl 0 rfl) ?_
      refine va_get (D := D) (ci := 6) (v := .ref (a 13)) (C := R_MO) (T := T_MO) (N := 26) hx hb hg in_MO hown hK hP 0 rfl rfl 16 (by decide) (hg _ gw_599) (fun _ h9 => h9) rfl d_MO_stores_17 ?_
      refine lv_iload_n hx hb d_MO_stores_20 rfl (lv_at hl 2 rfl) ?_
      refine bdK hf (fun v2 h3 hf => ?_)
      refine r_iald hx hb hK hP 13 0 rfl rfl h3 d_MO_stores_21 ?_
      refine lv_iconst (v := (2 : Int32)) hx hb d_MO_stores_22 (by decide) ?_
      refine lv_icmp_ne (tgt := 32) hx hb d_MO_stores_23 (by decide) (fun c4 => ?_) (fun c4 => ?_)
      · replace hf := (if_neg c4).symm.trans hf
        refine lv_iload_n hx hb d_MO_stores_32 rfl (lv_at hl 1 rfl) ?_
        refine lv_istore_n (lv' := [(1, .int x1), (0, .ref (a 0)), (2, .int x2)]) hx hb d_MO_stores_33 rfl hl (by decide) rfl (fun ls hl => ?_)
        refine lv_iinc (v := (x2 + (1 : Int32))) (lv' := [(2, .int (x2 + (1 : Int32))), (1, .int x1), (0, .ref (a 0))]) hx hb d_MO_stores_34 hl (k := 2) rfl (by rfl) (by decide) rfl (fun ls hl => ?_)
        refine lv_goto (tgt := 8) hx hb d_MO_stores_37 (by decide) ?_
        exact ih x1 (x2 + (1 : Int32)) σ q hf _ _ hP hS ls (lv_sub hl [2, 1, 0] rfl)
      · replace hf := (if_pos c4).symm.trans hf
        refine lv_iload_n hx hb d_MO_stores_26 rfl (lv_at hl 1 rfl) ?_
        refine lv_iconst (v := (1 : Int32)) hx hb d_MO_stores_27 (by decide) ?_
        refine lv_iadd hx hb d_MO_stores_28 ?_
        refine lv_goto (tgt := 33) hx hb d_MO_stores_29 (by decide) ?_
        refine lv_istore_n (lv' := [(1, .int (x1 + (1 : Int32))), (0, .ref (a 0)), (2, .int x2)]) hx hb d_MO_stores_33 rfl hl (by decide) rfl (fun ls hl => ?_)
        refine lv_iinc (v := (x2 + (1 : Int32))) (lv' := [(2, .int (x2 + (1 : Int32))), (1, .int (x1 + (1 : Int32))), (0, .ref (a 0))]) hx hb d_MO_stores_34 hl (k := 2) rfl (by rfl) (by decide) rfl (fun ls hl => ?_)
        refine lv_goto (tgt := 8) hx hb d_MO_stores_37 (by decide) ?_
        exact ih (x1 + (1 : Int32)) (x2 + (1 : Int32)) σ q hf _ _ hP hS ls (lv_sub hl [2, 1, 0] rfl)
def f_MO_stores (σ : SS) : Option (Int32 × SS) :=
  (f_MO_work σ).bind fun σ1 => b_MO_stores_8 FU (0 : Int32) (0 : Int32) σ1
set_option maxHeartbeats 4000000 in
set_option maxRecDepth 100000 in
theorem e_MO_stores {p : Program} {l : Launch} {e : Env} {s : State} {m : MethodId} {args : Array Value} {below : List Frame} {meth : Method} {c : Code} {D : va_G} {a t : Nat → Nat} {cI cZ : ClassId} (ha : aMC a) (F : CallFix p m c b_MO_stores 3 s args gt R_MO) (hr : meth.sig.returnType = some .int) (hlk : meth.locks = false) (hK : va_K D vwCl [(cI, .int), (cZ, .boolean)] s) (hT : stM t (aM a) s s.heap) :
    ∀ (σ : SS) (q : Int32 × SS), f_MO_stores σ = some q → ∀ (H : Heap) (locs : List Loc), va_P D vwCl ((wM a cI cZ) σ) H → va_S (aM a) s.heap H locs → ∀ (ls : Array Slot), lv_has ls 3 [(0, .ref (a 0))] → W p l e { frames := 6, cells := 0, slots := 0, locals := 140 } s m args below meth c H locs 0 0 (MQ below (va_Qi (fun r u => r = q.1 ∧ u = q.2) (pW D (wM a cI cZ) [(cI, .int), (cZ, .boolean)] (stM t) (aM a)) (aM a)) args s 0 0 (aM a)) (F0 m 0 ls []) := by
  obtain ⟨hx, hb, hml, hown, hg⟩ := id F
  intro σ q hf H locs hP hS ls hl
  unfold f_MO_stores at hf
  refine lv_aload_n hx hb d_MO_stores_0 rfl (lv_at hl 0 rfl) ?_
  refine bdK hf (fun σ1 h2 hf => ?_)
  refine rc_Vv (As := []) (rest := []) (b := a 0) (stM_g t) F (c_MO_work l ha σ σ1 h2) (cwV 0 hg gc_MO_170 rfl rfl rfl hs_MO_work ⟨Nat.le_of_ble_eq_true rfl, Nat.le_of_ble_eq_true rfl⟩) hK hT hP hS (va_recv hK hP (ci := 6) (q0 := 0) rfl rfl) rfl hl.1 rfl (Nat.le_of_ble_eq_true rfl) d_MO_stores_1 ⟨Nat.zero_le _, Nat.zero_le _⟩ (fun H locs hP hS => ?_)
  refine lv_iconst (v := (0 : Int32)) hx hb d_MO_stores_4 (by decide) ?_
  refine lv_istore_n (lv' := [(1, .int (0 : Int32)), (0, .ref (a 0))]) hx hb d_MO_stores_5 rfl hl (by decide) rfl (fun ls hl => ?_)
  refine lv_iconst (v := (0 : Int32)) hx hb d_MO_stores_6 (by decide) ?_
  refine lv_istore_n (lv' := [(2, .int (0 : Int32)), (1, .int (0 : Int32)), (0, .ref (a 0))]) hx hb d_MO_stores_7 rfl hl (by decide) rfl (fun ls hl => ?_)
  exact k_MO_stores_8 ha F hr hlk hK hT FU (0 : Int32) (0 : Int32) σ1 q hf _ _ hP hS ls (lv_sub hl [2, 1, 0] rfl)
set_option maxHeartbeats 4000000 in
set_option maxRecDepth 100000 in
theorem c_MO_stores (l : Launch) {D : va_G} {a t : Nat → Nat} {cI cZ : ClassId} (ha : aMC a) (σ : SS) (q : Int32 × SS) (hf : f_MO_stores σ = some q) : Met l y_MO_stores ws_MO_stores { frames := 6, cells := 0, slots := 0, locals := 140 } (va_Pc [.ref (a 0)] (pW D (wM a cI cZ) [(cI, .int), (cZ, .boolean)] (stM t) (aM a) σ)) (va_Qi (fun r u => r = q.1 ∧ u = q.2) (pW D (wM a cI cZ) [(cI, .int), (cZ, .boolean)] (stM t) (aM a)) (aM a)) 0 0 (aM a) := by
  refine Met.ofW (cc := b_MO_stores) (maxL := 3) (ret := some .int) (by decide) rfl ?_
  intro p e s m args below meth c s₁ B hml hv
  obtain ⟨rfl, hP, hK, hT⟩ := hv
  have hl := lv_entry ([.ref (a 0)]) (n := 3) (Nat.le_of_ble_eq_true rfl)
  rw [lg_entry_eq]
  generalize (lg_sl ([.ref (a 0)]) ++ List.replicate (3 - (lg_sl ([.ref (a 0)])).length) Slot.unset).toArray = ls at hl ⊢
  exact e_MO_stores ha ⟨B.exec, B.bytes, hml, findClass_of_methodNamed B.named, fun w h => atoms_spec (ws := ws_MO_stores) B.pre w (List.mem_cons_of_mem _ h)⟩ B.returns B.notSynchronized hK hT σ q hf s.heap [] hP va_S.rf ls hl
theorem d_MO_depth_0 : decode b_MO_depth 0 = .ok (.aload_n 0, 1) := by decide +kernel
theorem d_MO_depth_1 : decode b_MO_depth 1 = .ok (.invokevirtual 170, 3) := by decide +kernel
theorem d_MO_depth_4 : decode b_MO_depth 4 = .ok (.iconst 0, 1) := by decide +kernel
theorem d_MO_depth_5 : decode b_MO_depth 5 = .ok (.istore_n 1, 1) := by decide +kernel
theorem d_MO_depth_6 : decode b_MO_depth 6 = .ok (.iconst 0, 1) := by decide +kernel
theorem d_MO_depth_7 : decode b_MO_depth 7 = .ok (.istore_n 2, 1) := by decide +kernel
theorem d_MO_depth_8 : decode b_MO_depth 8 = .ok (.iload_n 2, 1) := by decide +kernel
theorem d_MO_depth_9 : decode b_MO_depth 9 = .ok (.aload_n 0, 1) := by decide +kernel
theorem d_MO_depth_10 : decode b_MO_depth 10 = .ok (.getfield 87, 3) := by decide +kernel
theorem d_MO_depth_13 : decode b_MO_depth 13 = .ok (.if_icmp .ge 30, 3) := by decide +kernel
theorem d_MO_depth_16 : decode b_MO_depth 16 = .ok (.aload_n 0, 1) := by decide +kernel
theorem d_MO_depth_17 : decode b_MO_depth 17 = .ok (.getfield 38, 3) := by decide +kernel
theorem d_MO_depth_20 : decode b_MO_depth 20 = .ok (.iload_n 2, 1) := by decide +kernel
theorem d_MO_depth_21 : decode b_MO_depth 21 = .ok (.iaload, 1) := by decide +kernel
theorem d_MO_depth_22 : decode b_MO_depth 22 = .ok (.iload_n 1, 1) := by decide +kernel
theorem d_MO_depth_23 : decode b_MO_depth 23 = .ok (.if_icmp .le 12, 3) := by decide +kernel
theorem d_MO_depth_26 : decode b_MO_depth 26 = .ok (.aload_n 0, 1) := by decide +kernel
theorem d_MO_depth_27 : decode b_MO_depth 27 = .ok (.getfield 38, 3) := by decide +kernel
theorem d_MO_depth_30 : decode b_MO_depth 30 = .ok (.iload_n 2, 1) := by decide +kernel
theorem d_MO_depth_31 : decode b_MO_depth 31 = .ok (.iaload, 1) := by decide +kernel
theorem d_MO_depth_32 : decode b_MO_depth 32 = .ok (.goto 4, 3) := by decide +kernel
theorem d_MO_depth_35 : decode b_MO_depth 35 = .ok (.iload_n 1, 1) := by decide +kernel
theorem d_MO_depth_36 : decode b_MO_depth 36 = .ok (.istore_n 1, 1) := by decide +kernel
theorem d_MO_depth_37 : decode b_MO_depth 37 = .ok (.iinc 2 1, 3) := by decide +kernel
theorem d_MO_depth_40 : decode b_MO_depth 40 = .ok (.goto (-32), 3) := by decide +kernel
theorem d_MO_depth_43 : decode b_MO_depth 43 = .ok (.iload_n 1, 1) := by decide +kernel
theorem d_MO_depth_44 : decode b_MO_depth 44 = .ok (.ireturn, 1) := by decide +kernel
def b_MO_depth_8 : Nat → Int32 → Int32 → SS → Option (Int32 × SS)
  | 0, _, _, _ => none
  | n + 1, x1, x2, σ =>
    (if (σ 21 0) ≤ x2 then some (x1, σ) else (ld (σ 9) 40 x2).bind fun v2 => (if v2 ≤ x1 then b_MO_depth_8 n x1 (x2 + (1 : Int32)) σ else (ld (σ 9) 40 x2).bind fun v5 => b_MO_depth_8 n v5 (x2 + (1 : Int32)) σ))
set_option maxHeartbeats 4000000 in
set_option maxRecDepth 100000 in
theorem k_MO_depth_8 {p : Program} {l : Launch} {e : Env} {s : State} {m : MethodId} {args : Array Value} {below : List Frame} {meth : Method} {c : Code} {D : va_G} {a t : Nat → Nat} {cI cZ : ClassId} (ha : aMC a) (F : CallFix p m c b_MO_depth 3 s args gt R_MO) (hr : meth.sig.returnType = some .int) (hlk : meth.locks = false) (hK : va_K D vwCl [(cI, .int), (cZ, .boolean)] s) (hT : stM t (aM a) s s.heap) :
    ∀ (n : Nat) (x1 x2 : Int32) (σ : SS) (q : Int32 × SS), b_MO_depth_8 n x1 x2 σ = some q → ∀ (H : Heap) (locs : List Loc), va_P D vwCl ((wM a cI cZ) σ) H → va_S (aM a) s.heap H locs → ∀ (ls : Array Slot), lv_has ls 3 [(0, .ref (a 0)), (1, .int x1), (2, .int x2)] → W p l e { frames := 6, cells := 0, slots := 0, locals := 140 } s m args below meth c H locs 0 0 (MQ below (va_Qi (fun r u => r = q.1 ∧ u = q.2) (pW D (wM a cI cZ) [(cI, .int), (cZ, .boolean)] (stM t) (aM a)) (aM a)) args s 0 0 (aM a)) (F0 m 8 ls []) := by
  obtain ⟨hx, hb, hml, hown, hg⟩ := id F
  intro n
  induction n with
  | zero =>
    intro x1 x2 σ q hf
    rw [b_MO_depth_8] at hf
    cases hf
  | succ n ih =>
    intro x1 x2 σ q hf H locs hP hS ls hl
    rw [b_MO_depth_8] at hf
    refine lv_iload_n hx hb d_MO_depth_8 rfl (lv_at hl 2 rfl) ?_
    refine lv_aload_n hx hb d_MO_depth_9 rfl (lv_at hl 0 rfl) ?_
    refine va_get (D := D) (ci := 6) (v := .int (σ 21 0)) (C := R_MO) (T := T_MO) (N := 26) hx hb hg in_MO hown hK hP 0 rfl rfl 1 (by decide) (hg _ gw_584) (fun _ h9 => h9) rfl d_MO_depth_10 ?_
    refine lv_icmp_ge (tgt := 43) hx hb d_MO_depth_13 (by decide) (fun c1 => ?_) (fun c1 => ?_)
    · replace hf := (if_pos c1).symm.trans hf
      refine lv_iload_n hx hb d_MO_depth_43 rfl (lv_at hl 1 rfl) ?_
      exact rr_i hx hb hr hlk (stM_g t) hK hT hP hS hf d_MO_depth_44
    · replace hf := (if_neg c1).symm.trans hf
      refine lv_aload_n hx hb d_MO_depth_16 rfl (lv_at hl 0 rfl) ?_
      refine va_get (D := D) (ci := 6) (v := .ref (a 10)) (C := R_MO) (T := T_MO) (N := 26) hx hb hg in_MO hown hK hP 0 rfl rfl 12 (by decide) (hg _ gw_595) (fun _ h9 => h9) rfl d_MO_depth_17 ?_
      refine lv_iload_n hx hb d_MO_depth_20 rfl (lv_at hl 2 rfl) ?_
      refine bdK hf (fun v2 h3 hf => ?_)
      refine r_iald hx hb hK hP 10 0 rfl rfl h3 d_MO_depth_21 ?_
      refine lv_iload_n hx hb d_MO_depth_22 rfl (lv_at hl 1 rfl) ?_
      refine lv_icmp_le (tgt := 35) hx hb d_MO_depth_23 (by decide) (fun c4 => ?_) (fun c4 => ?_)
      · replace hf := (if_pos c4).symm.trans hf
        refine lv_iload_n hx hb d_MO_depth_35 rfl (lv_at hl 1 rfl) ?_
        refine lv_istore_n (lv' := [(1, .int x1), (0, .ref (a 0)), (2, .int x2)]) hx hb d_MO_depth_36 rfl hl (by decide) rfl (fun ls hl => ?_)
        refine lv_iinc (v := (x2 + (1 : Int32))) (lv' := [(2, .int (x2 + (1 : Int32))), (1, .int x1), (0, .ref (a 0))]) hx hb d_MO_depth_37 hl (k := 2) rfl (by rfl) (by decide) rfl (fun ls hl => ?_)
        refine lv_goto (tgt := 8) hx hb d_MO_depth_40 (by decide) ?_
        exact ih x1 (x2 + (1 : Int32)) σ q hf _ _ hP hS ls (lv_sub hl [2, 1, 0] rfl)
      · replace hf := (if_neg c4).symm.trans hf
        refine lv_aload_n hx hb d_MO_depth_26 rfl (lv_at hl 0 rfl) ?_
        refine va_get (D := D) (ci := 6) (v := .ref (a 10)) (C := R_MO) (T := T_MO) (N := 26) hx hb hg in_MO hown hK hP 0 rfl rfl 12 (by decide) (hg _ gw_595) (fun _ h9 => h9) rfl d_MO_depth_27 ?_
        refine lv_iload_n hx hb d_MO_depth_30 rfl (lv_at hl 2 rfl) ?_
        refine bdK hf (fun v5 h6 hf => ?_)
        refine r_iald hx hb hK hP 10 0 rfl rfl h6 d_MO_depth_31 ?_
        refine lv_goto (tgt := 36) hx hb d_MO_depth_32 (by decide) ?_
        refine lv_istore_n (lv' := [(1, .int v5), (0, .ref (a 0)), (2, .int x2)]) hx hb d_MO_depth_36 rfl hl (by decide) rfl (fun ls hl => ?_)
        refine lv_iinc (v := (x2 + (1 : Int32))) (lv' := [(2, .int (x2 + (1 : Int32))), (1, .int v5), (0, .ref (a 0))]) hx hb d_MO_depth_37 hl (k := 2) rfl (by rfl) (by decide) rfl (fun ls hl => ?_)
        refine lv_goto (tgt := 8) hx hb d_MO_depth_40 (by decide) ?_
        exact ih v5 (x2 + (1 : Int32)) σ q hf _ _ hP hS ls (lv_sub hl [2, 1, 0] rfl)
def f_MO_depth (σ : SS) : Option (Int32 × SS) :=
  (f_MO_work σ).bind fun σ1 => b_MO_depth_8 FU (0 : Int32) (0 : Int32) σ1
set_option maxHeartbeats 4000000 in
set_option maxRecDepth 100000 in
theorem e_MO_depth {p : Program} {l : Launch} {e : Env} {s : State} {m : MethodId} {args : Array Value} {below : List Frame} {meth : Method} {c : Code} {D : va_G} {a t : Nat → Nat} {cI cZ : ClassId} (ha : aMC a) (F : CallFix p m c b_MO_depth 3 s args gt R_MO) (hr : meth.sig.returnType = some .int) (hlk : meth.locks = false) (hK : va_K D vwCl [(cI, .int), (cZ, .boolean)] s) (hT : stM t (aM a) s s.heap) :
    ∀ (σ : SS) (q : Int32 × SS), f_MO_depth σ = some q → ∀ (H : Heap) (locs : List Loc), va_P D vwCl ((wM a cI cZ) σ) H → va_S (aM a) s.heap H locs → ∀ (ls : Array Slot), lv_has ls 3 [(0, .ref (a 0))] → W p l e { frames := 6, cells := 0, slots := 0, locals := 140 } s m args below meth c H locs 0 0 (MQ below (va_Qi (fun r u => r = q.1 ∧ u = q.2) (pW D (wM a cI cZ) [(cI, .int), (cZ, .boolean)] (stM t) (aM a)) (aM a)) args s 0 0 (aM a)) (F0 m 0 ls []) := by
  obtain ⟨hx, hb, hml, hown, hg⟩ := id F
  intro σ q hf H locs hP hS ls hl
  unfold f_MO_depth at hf
  refine lv_aload_n hx hb d_MO_depth_0 rfl (lv_at hl 0 rfl) ?_
  refine bdK hf (fun σ1 h2 hf => ?_)
  refine rc_Vv (As := []) (rest := []) (b := a 0) (stM_g t) F (c_MO_work l ha σ σ1 h2) (cwV 0 hg gc_MO_170 rfl rfl rfl hs_MO_work ⟨Nat.le_of_ble_eq_true rfl, Nat.le_of_ble_eq_true rfl⟩) hK hT hP hS (va_recv hK hP (ci := 6) (q0 := 0) rfl rfl) rfl hl.1 rfl (Nat.le_of_ble_eq_true rfl) d_MO_depth_1 ⟨Nat.zero_le _, Nat.zero_le _⟩ (fun H locs hP hS => ?_)
  refine lv_iconst (v := (0 : Int32)) hx hb d_MO_depth_4 (by decide) ?_
  refine lv_istore_n (lv' := [(1, .int (0 : Int32)), (0, .ref (a 0))]) hx hb d_MO_depth_5 rfl hl (by decide) rfl (fun ls hl => ?_)
  refine lv_iconst (v := (0 : Int32)) hx hb d_MO_depth_6 (by decide) ?_
  refine lv_istore_n (lv' := [(2, .int (0 : Int32)), (1, .int (0 : Int32)), (0, .ref (a 0))]) hx hb d_MO_depth_7 rfl hl (by decide) rfl (fun ls hl => ?_)
  exact k_MO_depth_8 ha F hr hlk hK hT FU (0 : Int32) (0 : Int32) σ1 q hf _ _ hP hS ls (lv_sub hl [2, 1, 0] rfl)
set_option maxHeartbeats 4000000 in
set_option maxRecDepth 100000 in
theorem c_MO_depth (l : Launch) {D : va_G} {a t : Nat → Nat} {cI cZ : ClassId} (ha : aMC a) (σ : SS) (q : Int32 × SS) (hf : f_MO_depth σ = some q) : Met l y_MO_depth ws_MO_depth { frames := 6, cells := 0, slots := 0, locals := 140 } (va_Pc [.ref (a 0)] (pW D (wM a cI cZ) [(cI, .int), (cZ, .boolean)] (stM t) (aM a) σ)) (va_Qi (fun r u => r = q.1 ∧ u = q.2) (pW D (wM a cI cZ) [(cI, .int), (cZ, .boolean)] (stM t) (aM a)) (aM a)) 0 0 (aM a) := by
  refine Met.ofW (cc := b_MO_depth) (maxL := 3) (ret := some .int) (by decide) rfl ?_
  intro p e s m args below meth c s₁ B hml hv
  obtain ⟨rfl, hP, hK, hT⟩ := hv
  have hl := lv_entry ([.ref (a 0)]) (n := 3) (Nat.le_of_ble_eq_true rfl)
  rw [lg_entry_eq]
  generalize (lg_sl ([.ref (a 0)]) ++ List.replicate (3 - (lg_sl ([.ref (a 0)])).length) Slot.unset).toArray = ls at hl ⊢
  exact e_MO_depth ha ⟨B.exec, B.bytes, hml, findClass_of_methodNamed B.named, fun w h => atoms_spec (ws := ws_MO_depth) B.pre w (List.mem_cons_of_mem _ h)⟩ B.returns B.notSynchronized hK hT σ q hf s.heap [] hP va_S.rf ls hl
theorem d_MO_print_0 : decode b_MO_print 0 = .ok (.aload_n 0, 1) := by decide +kernel
theorem d_MO_print_1 : decode b_MO_print 1 = .ok (.getfield 173, 3) := by decide +kernel
theorem d_MO_print_4 : decode b_MO_print 4 = .ok (.bipush 40, 2) := by decide +kernel
theorem d_MO_print_6 : decode b_MO_print 6 = .ok (.if_icmp .ge 13, 3) := by decide +kernel
theorem d_MO_print_9 : decode b_MO_print 9 = .ok (.aload_n 0, 1) := by decide +kernel
theorem d_MO_print_10 : decode b_MO_print 10 = .ok (.getfield 59, 3) := by decide +kernel
theorem d_MO_print_13 : decode b_MO_print 13 = .ok (.aload_n 0, 1) := by decide +kernel
theorem d_MO_print_14 : decode b_MO_print 14 = .ok (.getfield 173, 3) := by decide +kernel
theorem d_MO_print_17 : decode b_MO_print 17 = .ok (.iload_n 1, 1) := by decide +kernel
theorem d_MO_print_18 : decode b_MO_print 18 = .ok (.iastore, 1) := by decide +kernel
theorem d_MO_print_19 : decode b_MO_print 19 = .ok (.aload_n 0, 1) := by decide +kernel
theorem d_MO_print_20 : decode b_MO_print 20 = .ok (.aload_n 0, 1) := by decide +kernel
theorem d_MO_print_21 : decode b_MO_print 21 = .ok (.getfield 173, 3) := by decide +kernel
theorem d_MO_print_24 : decode b_MO_print 24 = .ok (.iconst 1, 1) := by decide +kernel
theorem d_MO_print_25 : decode b_MO_print 25 = .ok (.iadd, 1) := by decide +kernel
theorem d_MO_print_26 : decode b_MO_print 26 = .ok (.putfield 173, 3) := by decide +kernel
theorem d_MO_print_29 : decode b_MO_print 29 = .ok (.return_, 1) := by decide +kernel
def f_MO_print (x1 : Int32) (σ : SS) : Option (SS) :=
  (if (40 : Int32) ≤ (σ 24 0) then (sf σ 24 ((σ 24 0) + (1 : Int32))).bind fun σ2 => some σ2 else (sto σ 16 40 (σ 24 0) x1).bind fun σ4 => (sf σ4 24 ((σ4 24 0) + (1 : Int32))).bind fun σ6 => some σ6)
set_option maxHeartbeats 4000000 in
set_option maxRecDepth 100000 in
theorem e_MO_print {p : Program} {l : Launch} {e : Env} {s : State} {m : MethodId} {args : Array Value} {below : List Frame} {meth : Method} {c : Code} {D : va_G} {a t : Nat → Nat} {cI cZ : ClassId} (ha : aMC a) (F : CallFix p m c b_MO_print 2 s args gt R_MO) (hr : meth.sig.returnType = none) (hlk : meth.locks = false) (hK : va_K D vwCl [(cI, .int), (cZ, .boolean)] s) (hT : stM t (aM a) s s.heap) :
    ∀ (x1 : Int32) (σ : SS) (q : SS), f_MO_print x1 σ = some q → ∀ (H : Heap) (locs : List Loc), va_P D vwCl ((wM a cI cZ) σ) H → va_S (aM a) s.heap H locs → ∀ (ls : Array Slot), lv_has ls 2 [(0, .ref (a 0)), (1, .int x1)] → W p l e { frames := 0, cells := 0, slots := 0, locals := 0 } s m args below meth c H locs 0 0 (MQ below (va_Qv (fun u => u = q) (pW D (wM a cI cZ) [(cI, .int), (cZ, .boolean)] (stM t) (aM a)) (aM a)) args s 0 0 (aM a)) (F0 m 0 ls []) := by
  obtain ⟨hx, hb, hml, hown, hg⟩ := id F
  intro x1 σ q hf H locs hP hS ls hl
  unfold f_MO_print at hf
  refine lv_aload_n hx hb d_MO_print_0 rfl (lv_at hl 0 rfl) ?_
  refine va_get (D := D) (ci := 6) (v := .int (σ 24 0)) (C := R_MO) (T := T_MO) (N := 26) hx hb hg in_MO hown hK hP 0 rfl rfl 20 (by decide) (hg _ gw_603) (fun _ h9 => h9) rfl d_MO_print_1 ?_
  refine lv_bipush (v := (40 : Int32)) hx hb d_MO_print_4 (by decide) ?_
  refine lv_icmp_ge (tgt := 19) hx hb d_MO_print_6 (by decide) (fun c1 => ?_) (fun c1 => ?_)
  · replace hf := (if_pos c1).symm.trans hf
    refine lv_aload_n hx hb d_MO_print_19 rfl (lv_at hl 0 rfl) ?_
    refine lv_aload_n hx hb d_MO_print_20 rfl (lv_at hl 0 rfl) ?_
    refine va_get (D := D) (ci := 6) (v := .int (σ 24 0)) (C := R_MO) (T := T_MO) (N := 26) hx hb hg in_MO hown hK hP 0 rfl rfl 20 (by decide) (hg _ gw_603) (fun _ h9 => h9) rfl d_MO_print_21 ?_
    refine lv_iconst (v := (1 : Int32)) hx hb d_MO_print_24 (by decide) ?_
    refine lv_iadd hx hb d_MO_print_25 ?_
    refine bdK hf (fun σ2 h3 hf => ?_)
    refine va_put (D := D) (ci := 6) (v := .int ((σ 24 0) + (1 : Int32))) (ty := .int) (C := R_MO) (T := T_MO) (N := 26) hx hb hg in_MO t_MO t_MO_ok n_MO hown hK hP (dM ha σ) hS 0 rfl rfl 20 (by decide) (hg _ gw_603) (fun _ h9 => h9) rfl (by decide +kernel) rfl rfl (Nat.le_of_ble_eq_true rfl) d_MO_print_26 (fun H locs hP _ hS => ?_)
    replace hP := sf_P (wf := (wM a cI cZ)) h3 hP rfl
    exact rr_v hx hb hr hlk (stM_g t) hK hT hP hS hf d_MO_print_29
  · replace hf := (if_neg c1).symm.trans hf
    refine lv_aload_n hx hb d_MO_print_9 rfl (lv_at hl 0 rfl) ?_
    refine va_get (D := D) (ci := 6) (v := .ref (a 17)) (C := R_MO) (T := T_MO) (N := 26) hx hb hg in_MO hown hK hP 0 rfl rfl 21 (by decide) (hg _ gw_604) (fun _ h9 => h9) rfl d_MO_print_10 ?_
    refine lv_aload_n hx hb d_MO_print_13 rfl (lv_at hl 0 rfl) ?_
    refine va_get (D := D) (ci := 6) (v := .int (σ 24 0)) (C := R_MO) (T := T_MO) (N := 26) hx hb hg in_MO hown hK hP 0 rfl rfl 20 (by decide) (hg _ gw_603) (fun _ h9 => h9) rfl d_MO_print_14 ?_
    refine lv_iload_n hx hb d_MO_print_17 rfl (lv_at hl 1 rfl) ?_
    refine bdK hf (fun σ4 h5 hf => ?_)
    refine r_iast (wf := (wM a cI cZ)) hx hb hK hP (dM ha σ) hS 17 0 rfl rfl (fun _ _ => rfl) h5 d_MO_print_18 (fun H locs hP hS => ?_)
    refine lv_aload_n hx hb d_MO_print_19 rfl (lv_at hl 0 rfl) ?_
    refine lv_aload_n hx hb d_MO_print_20 rfl (lv_at hl 0 rfl) ?_
    refine va_get (D := D) (ci := 6) (v := .int (σ4 24 0)) (C := R_MO) (T := T_MO) (N := 26) hx hb hg in_MO hown hK hP 0 rfl rfl 20 (by decide) (hg _ gw_603) (fun _ h9 => h9) rfl d_MO_print_21 ?_
    refine lv_iconst (v := (1 : Int32)) hx hb d_MO_print_24 (by decide) ?_
    refine lv_iadd hx hb d_MO_print_25 ?_
    refine bdK hf (fun σ6 h7 hf => ?_)
    refine va_put (D := D) (ci := 6) (v := .int ((σ4 24 0) + (1 : Int32))) (ty := .int) (C := R_MO) (T := T_MO) (N := 26) hx hb hg in_MO t_MO t_MO_ok n_MO hown hK hP (dM ha σ4) hS 0 rfl rfl 20 (by decide) (hg _ gw_603) (fun _ h9 => h9) rfl (by decide +kernel) rfl rfl (Nat.le_of_ble_eq_true rfl) d_MO_print_26 (fun H locs hP _ hS => ?_)
    replace hP := sf_P (wf := (wM a cI cZ)) h7 hP rfl
    exact rr_v hx hb hr hlk (stM_g t) hK hT hP hS hf d_MO_print_29
set_option maxHeartbeats 4000000 in
set_option maxRecDepth 100000 in
theorem c_MO_print (l : Launch) {D : va_G} {a t : Nat → Nat} {cI cZ : ClassId} (ha : aMC a) (x1 : Int32) (σ : SS) (q : SS) (hf : f_MO_print x1 σ = some q) : Met l y_MO_print ws_MO_print { frames := 0, cells := 0, slots := 0, locals := 0 } (va_Pc [.ref (a 0), .int x1] (pW D (wM a cI cZ) [(cI, .int), (cZ, .boolean)] (stM t) (aM a) σ)) (va_Qv (fun u => u = q) (pW D (wM a cI cZ) [(cI, .int), (cZ, .boolean)] (stM t) (aM a)) (aM a)) 0 0 (aM a) := by
  refine Met.ofW (cc := b_MO_print) (maxL := 2) (ret := none) (by decide) rfl ?_
  intro p e s m args below meth c s₁ B hml hv
  obtain ⟨rfl, hP, hK, hT⟩ := hv
  have hl := lv_entry ([.ref (a 0), .int x1]) (n := 2) (Nat.le_of_ble_eq_true rfl)
  rw [lg_entry_eq]
  generalize (lg_sl ([.ref (a 0), .int x1]) ++ List.replicate (2 - (lg_sl ([.ref (a 0), .int x1])).length) Slot.unset).toArray = ls at hl ⊢
  exact e_MO_print ha ⟨B.exec, B.bytes, hml, findClass_of_methodNamed B.named, fun w h => atoms_spec (ws := ws_MO_print) B.pre w (List.mem_cons_of_mem _ h)⟩ B.returns B.notSynchronized hK hT x1 σ q hf s.heap [] hP va_S.rf ls hl
theorem d_MO_combine_0 : decode b_MO_combine 0 = .ok (.iload_n 0, 1) := by decide +kernel
theorem d_MO_combine_1 : decode b_MO_combine 1 = .ok (.iconst 2, 1) := by decide +kernel
theorem d_MO_combine_2 : decode b_MO_combine 2 = .ok (.if_icmp .ne 9, 3) := by decide +kernel
theorem d_MO_combine_5 : decode b_MO_combine 5 = .ok (.iload_n 1, 1) := by decide +kernel
theorem d_MO_combine_6 : decode b_MO_combine 6 = .ok (.iload_n 2, 1) := by decide +kernel
theorem d_MO_combine_7 : decode b_MO_combine 7 = .ok (.iadd, 1) := by decide +kernel
theorem d_MO_combine_8 : decode b_MO_combine 8 = .ok (.goto 35, 3) := by decide +kernel
theorem d_MO_combine_11 : decode b_MO_combine 11 = .ok (.iload_n 0, 1) := by decide +kernel
theorem d_MO_combine_12 : decode b_MO_combine 12 = .ok (.iconst 3, 1) := by decide +kernel
theorem d_MO_combine_13 : decode b_MO_combine 13 = .ok (.if_icmp .ne 9, 3) := by decide +kernel
theorem d_MO_combine_16 : decode b_MO_combine 16 = .ok (.iload_n 1, 1) := by decide +kernel
theorem d_MO_combine_17 : decode b_MO_combine 17 = .ok (.iload_n 2, 1) := by decide +kernel
theorem d_MO_combine_18 : decode b_MO_combine 18 = .ok (.isub, 1) := by decide +kernel
theorem d_MO_combine_19 : decode b_MO_combine 19 = .ok (.goto 24, 3) := by decide +kernel
theorem d_MO_combine_22 : decode b_MO_combine 22 = .ok (.iload_n 0, 1) := by decide +kernel
theorem d_MO_combine_23 : decode b_MO_combine 23 = .ok (.iconst 4, 1) := by decide +kernel
theorem d_MO_combine_24 : decode b_MO_combine 24 = .ok (.if_icmp .ne 9, 3) := by decide +kernel
theorem d_MO_combine_27 : decode b_MO_combine 27 = .ok (.iload_n 1, 1) := by decide +kernel
theorem d_MO_combine_28 : decode b_MO_combine 28 = .ok (.iload_n 2, 1) := by decide +kernel
theorem d_MO_combine_29 : decode b_MO_combine 29 = .ok (.imul, 1) := by decide +kernel
theorem d_MO_combine_30 : decode b_MO_combine 30 = .ok (.goto 13, 3) := by decide +kernel
theorem d_MO_combine_33 : decode b_MO_combine 33 = .ok (.iload_n 1, 1) := by decide +kernel
theorem d_MO_combine_34 : decode b_MO_combine 34 = .ok (.iload_n 2, 1) := by decide +kernel
theorem d_MO_combine_35 : decode b_MO_combine 35 = .ok (.if_icmp .ge 7, 3) := by decide +kernel
theorem d_MO_combine_38 : decode b_MO_combine 38 = .ok (.iconst 1, 1) := by decide +kernel
theorem d_MO_combine_39 : decode b_MO_combine 39 = .ok (.goto 4, 3) := by decide +kernel
theorem d_MO_combine_42 : decode b_MO_combine 42 = .ok (.iconst 0, 1) := by decide +kernel
theorem d_MO_combine_43 : decode b_MO_combine 43 = .ok (.ireturn, 1) := by decide +kernel
def f_MO_combine (x0 x1 x2 : Int32) (σ : SS) : Option (Int32 × SS) :=
  (if x0 = (2 : Int32) then some ((x1 + x2), σ) else (if x0 = (3 : Int32) then some ((x1 - x2), σ) else (if x0 = (4 : Int32) then some ((x1 * x2), σ) else (if x2 ≤ x1 then some ((0 : Int32), σ) else some ((1 : Int32), σ)))))
set_option maxHeartbeats 4000000 in
set_option maxRecDepth 100000 in
theorem e_MO_combine {p : Program} {l : Launch} {e : Env} {s : State} {m : MethodId} {args : Array Value} {below : List Frame} {meth : Method} {c : Code} {D : va_G} {a t : Nat → Nat} {cI cZ : ClassId} (ha : aMC a) (F : CallFix p m c b_MO_combine 3 s args gt R_MO) (hr : meth.sig.returnType = some .int) (hlk : meth.locks = false) (hK : va_K D vwCl [(cI, .int), (cZ, .boolean)] s) (hT : stM t (aM a) s s.heap) :
    ∀ (x0 x1 x2 : Int32) (σ : SS) (q : Int32 × SS), f_MO_combine x0 x1 x2 σ = some q → ∀ (H : Heap) (locs : List Loc), va_P D vwCl ((wM a cI cZ) σ) H → va_S (aM a) s.heap H locs → ∀ (ls : Array Slot), lv_has ls 3 [(0, .int x0), (1, .int x1), (2, .int x2)] → W p l e { frames := 0, cells := 0, slots := 0, locals := 0 } s m args below meth c H locs 0 0 (MQ below (va_Qi (fun r u => r = q.1 ∧ u = q.2) (pW D (wM a cI cZ) [(cI, .int), (cZ, .boolean)] (stM t) (aM a)) (aM a)) args s 0 0 (aM a)) (F0 m 0 ls []) := by
  obtain ⟨hx, hb, hml, hown, hg⟩ := id F
  intro x0 x1 x2 σ q hf H locs hP hS ls hl
  unfold f_MO_combine at hf
  refine lv_iload_n hx hb d_MO_combine_0 rfl (lv_at hl 0 rfl) ?_
  refine lv_iconst (v := (2 : Int32)) hx hb d_MO_combine_1 (by decide) ?_
  refine lv_icmp_ne (tgt := 11) hx hb d_MO_combine_2 (by decide) (fun c1 => ?_) (fun c1 => ?_)
  · replace hf := (if_neg c1).symm.trans hf
    refine lv_iload_n hx hb d_MO_combine_11 rfl (lv_at hl 0 rfl) ?_
    refine lv_iconst (v := (3 : Int32)) hx hb d_MO_combine_12 (by decide) ?_
    refine lv_icmp_ne (tgt := 22) hx hb d_MO_combine_13 (by decide) (fun c2 => ?_) (fun c2 => ?_)
    · replace hf := (if_neg c2).symm.trans hf
      refine lv_iload_n hx hb d_MO_combine_22 rfl (lv_at hl 0 rfl) ?_
      refine lv_iconst (v := (4 : Int32)) hx hb d_MO_combine_23 (by decide) ?_
      refine lv_icmp_ne (tgt := 33) hx hb d_MO_combine_24 (by decide) (fun c3 => ?_) (fun c3 => ?_)
      · replace hf := (if_neg c3).symm.trans hf
        refine lv_iload_n hx hb d_MO_combine_33 rfl (lv_at hl 1 rfl) ?_
        refine lv_iload_n hx hb d_MO_combine_34 rfl (lv_at hl 2 rfl) ?_
        refine lv_icmp_ge (tgt := 42) hx hb d_MO_combine_35 (by decide) (fun c4 => ?_) (fun c4 => ?_)
        · replace hf := (if_pos c4).symm.trans hf
          refine lv_iconst (v := (0 : Int32)) hx hb d_MO_combine_42 (by decide) ?_
          exact rr_i hx hb hr hlk (stM_g t) hK hT hP hS hf d_MO_combine_43
        · replace hf := (if_neg c4).symm.trans hf
          refine lv_iconst (v := (1 : Int32)) hx hb d_MO_combine_38 (by decide) ?_
          refine lv_goto (tgt := 43) hx hb d_MO_combine_39 (by decide) ?_
          exact rr_i hx hb hr hlk (stM_g t) hK hT hP hS hf d_MO_combine_43
      · replace hf := (if_pos c3).symm.trans hf
        refine lv_iload_n hx hb d_MO_combine_27 rfl (lv_at hl 1 rfl) ?_
        refine lv_iload_n hx hb d_MO_combine_28 rfl (lv_at hl 2 rfl) ?_
        refine lv_imul hx hb d_MO_combine_29 ?_
        refine lv_goto (tgt := 43) hx hb d_MO_combine_30 (by decide) ?_
        exact rr_i hx hb hr hlk (stM_g t) hK hT hP hS hf d_MO_combine_43
    · replace hf := (if_pos c2).symm.trans hf
      refine lv_iload_n hx hb d_MO_combine_16 rfl (lv_at hl 1 rfl) ?_
      refine lv_iload_n hx hb d_MO_combine_17 rfl (lv_at hl 2 rfl) ?_
      refine lv_isub hx hb d_MO_combine_18 ?_
      refine lv_goto (tgt := 43) hx hb d_MO_combine_19 (by decide) ?_
      exact rr_i hx hb hr hlk (stM_g t) hK hT hP hS hf d_MO_combine_43
  · replace hf := (if_pos c1).symm.trans hf
    refine lv_iload_n hx hb d_MO_combine_5 rfl (lv_at hl 1 rfl) ?_
    refine lv_iload_n hx hb d_MO_combine_6 rfl (lv_at hl 2 rfl) ?_
    refine lv_iadd hx hb d_MO_combine_7 ?_
    refine lv_goto (tgt := 43) hx hb d_MO_combine_8 (by decide) ?_
    exact rr_i hx hb hr hlk (stM_g t) hK hT hP hS hf d_MO_combine_43
set_option maxHeartbeats 4000000 in
set_option maxRecDepth 100000 in
theorem c_MO_combine (l : Launch) {D : va_G} {a t : Nat → Nat} {cI cZ : ClassId} (ha : aMC a) (x0 x1 x2 : Int32) (σ : SS) (q : Int32 × SS) (hf : f_MO_combine x0 x1 x2 σ = some q) : Met l y_MO_combine ws_MO_combine { frames := 0, cells := 0, slots := 0, locals := 0 } (va_Pc [.int x0, .int x1, .int x2] (pW D (wM a cI cZ) [(cI, .int), (cZ, .boolean)] (stM t) (aM a) σ)) (va_Qi (fun r u => r = q.1 ∧ u = q.2) (pW D (wM a cI cZ) [(cI, .int), (cZ, .boolean)] (stM t) (aM a)) (aM a)) 0 0 (aM a) := by
  refine Met.ofW (cc := b_MO_combine) (maxL := 3) (ret := some .int) (by decide) rfl ?_
  intro p e s m args below meth c s₁ B hml hv
  obtain ⟨rfl, hP, hK, hT⟩ := hv
  have hl := lv_entry ([.int x0, .int x1, .int x2]) (n := 3) (Nat.le_of_ble_eq_true rfl)
  rw [lg_entry_eq]
  generalize (lg_sl ([.int x0, .int x1, .int x2]) ++ List.replicate (3 - (lg_sl ([.int x0, .int x1, .int x2])).length) Slot.unset).toArray = ls at hl ⊢
  exact e_MO_combine ha ⟨B.exec, B.bytes, hml, findClass_of_methodNamed B.named, fun w h => atoms_spec (ws := ws_MO_combine) B.pre w (List.mem_cons_of_mem _ h)⟩ B.returns B.notSynchronized hK hT x0 x1 x2 σ q hf s.heap [] hP va_S.rf ls hl
theorem d_MO_instruct_0 : decode b_MO_instruct 0 = .ok (.aload_n 0, 1) := by decide +kernel
theorem d_MO_instruct_1 : decode b_MO_instruct 1 = .ok (.getfield 7, 3) := by decide +kernel
theorem d_MO_instruct_4 : decode b_MO_instruct 4 = .ok (.iload_n 1, 1) := by decide +kernel
theorem d_MO_instruct_5 : decode b_MO_instruct 5 = .ok (.iaload, 1) := by decide +kernel
theorem d_MO_instruct_6 : decode b_MO_instruct 6 = .ok (.istore_n 2, 1) := by decide +kernel
theorem d_MO_instruct_7 : decode b_MO_instruct 7 = .ok (.aload_n 0, 1) := by decide +kernel
theorem d_MO_instruct_8 : decode b_MO_instruct 8 = .ok (.iload_n 1, 1) := by decide +kernel
theorem d_MO_instruct_9 : decode b_MO_instruct 9 = .ok (.invokevirtual 101, 3) := by decide +kernel
theorem d_MO_instruct_12 : decode b_MO_instruct 12 = .ok (.ifCond .eq 17, 3) := by decide +kernel
theorem d_MO_instruct_15 : decode b_MO_instruct 15 = .ok (.aload_n 0, 1) := by decide +kernel
theorem d_MO_instruct_16 : decode b_MO_instruct 16 = .ok (.getfield 65, 3) := by decide +kernel
theorem d_MO_instruct_19 : decode b_MO_instruct 19 = .ok (.aload_n 0, 1) := by decide +kernel
theorem d_MO_instruct_20 : decode b_MO_instruct 20 = .ok (.getfield 16, 3) := by decide +kernel
theorem d_MO_instruct_23 : decode b_MO_instruct 23 = .ok (.iload_n 1, 1) := by decide +kernel
theorem d_MO_instruct_24 : decode b_MO_instruct 24 = .ok (.iaload, 1) := by decide +kernel
theorem d_MO_instruct_25 : decode b_MO_instruct 25 = .ok (.iaload, 1) := by decide +kernel
theorem d_MO_instruct_26 : decode b_MO_instruct 26 = .ok (.goto 4, 3) := by decide +kernel
theorem d_MO_instruct_29 : decode b_MO_instruct 29 = .ok (.iconst 0, 1) := by decide +kernel
theorem d_MO_instruct_30 : decode b_MO_instruct 30 = .ok (.istore_n 3, 1) := by decide +kernel
theorem d_MO_instruct_31 : decode b_MO_instruct 31 = .ok (.aload_n 0, 1) := by decide +kernel
theorem d_MO_instruct_32 : decode b_MO_instruct 32 = .ok (.iload_n 1, 1) := by decide +kernel
theorem d_MO_instruct_33 : decode b_MO_instruct 33 = .ok (.invokevirtual 104, 3) := by decide +kernel
theorem d_MO_instruct_36 : decode b_MO_instruct 36 = .ok (.ifCond .eq 17, 3) := by decide +kernel
theorem d_MO_instruct_39 : decode b_MO_instruct 39 = .ok (.aload_n 0, 1) := by decide +kernel
theorem d_MO_instruct_40 : decode b_MO_instruct 40 = .ok (.getfield 65, 3) := by decide +kernel
theorem d_MO_instruct_43 : decode b_MO_instruct 43 = .ok (.aload_n 0, 1) := by decide +kernel
theorem d_MO_instruct_44 : decode b_MO_instruct 44 = .ok (.getfield 19, 3) := by decide +kernel
theorem d_MO_instruct_47 : decode b_MO_instruct 47 = .ok (.iload_n 1, 1) := by decide +kernel
theorem d_MO_instruct_48 : decode b_MO_instruct 48 = .ok (.iaload, 1) := by decide +kernel
theorem d_MO_instruct_49 : decode b_MO_instruct 49 = .ok (.iaload, 1) := by decide +kernel
theorem d_MO_instruct_50 : decode b_MO_instruct 50 = .ok (.goto 4, 3) := by decide +kernel
theorem d_MO_instruct_53 : decode b_MO_instruct 53 = .ok (.iconst 0, 1) := by decide +kernel
theorem d_MO_instruct_54 : decode b_MO_instruct 54 = .ok (.istore 4, 2) := by decide +kernel
theorem d_MO_instruct_56 : decode b_MO_instruct 56 = .ok (.iload_n 2, 1) := by decide +kernel
theorem d_MO_instruct_57 : decode b_MO_instruct 57 = .ok (.bipush 11, 2) := by decide +kernel
theorem d_MO_instruct_59 : decode b_MO_instruct 59 = .ok (.if_icmp .ne 6, 3) := by decide +kernel
theorem d_MO_instruct_62 : decode b_MO_instruct 62 = .ok (.bipush 100, 2) := by decide +kernel
theorem d_MO_instruct_64 : decode b_MO_instruct 64 = .ok (.ireturn, 1) := by decide +kernel
theorem d_MO_instruct_65 : decode b_MO_instruct 65 = .ok (.iload_n 2, 1) := by decide +kernel
theorem d_MO_instruct_66 : decode b_MO_instruct 66 = .ok (.bipush 9, 2) := by decide +kernel
theorem d_MO_instruct_68 : decode b_MO_instruct 68 = .ok (.if_icmp .ne 10, 3) := by decide +kernel
theorem d_MO_instruct_71 : decode b_MO_instruct 71 = .ok (.aload_n 0, 1) := by decide +kernel
theorem d_MO_instruct_72 : decode b_MO_instruct 72 = .ok (.getfield 16, 3) := by decide +kernel
theorem d_MO_instruct_75 : decode b_MO_instruct 75 = .ok (.iload_n 1, 1) := by decide +kernel
theorem d_MO_instruct_76 : decode b_MO_instruct 76 = .ok (.iaload, 1) := by decide +kernel
theorem d_MO_instruct_77 : decode b_MO_instruct 77 = .ok (.ireturn, 1) := by decide +kernel
theorem d_MO_instruct_78 : decode b_MO_instruct 78 = .ok (.iload_n 2, 1) := by decide +kernel
theorem d_MO_instruct_79 : decode b_MO_instruct 79 = .ok (.bipush 10, 2) := by decide +kernel
theorem d_MO_instruct_81 : decode b_MO_instruct 81 = .ok (.if_icmp .ne 20, 3) := by decide +kernel
theorem d_MO_instruct_84 : decode b_MO_instruct 84 = .ok (.iload_n 3, 1) := by decide +kernel
theorem d_MO_instruct_85 : decode b_MO_instruct 85 = .ok (.ifCond .ne 12, 3) := by decide +kernel
theorem d_MO_instruct_88 : decode b_MO_instruct 88 = .ok (.aload_n 0, 1) := by decide +kernel
theorem d_MO_instruct_89 : decode b_MO_instruct 89 = .ok (.getfield 19, 3) := by decide +kernel
theorem d_MO_instruct_92 : decode b_MO_instruct 92 = .ok (.iload_n 1, 1) := by decide +kernel
theorem d_MO_instruct_93 : decode b_MO_instruct 93 = .ok (.iaload, 1) := by decide +kernel
theorem d_MO_instruct_94 : decode b_MO_instruct 94 = .ok (.goto 6, 3) := by decide +kernel
theorem d_MO_instruct_97 : decode b_MO_instruct 97 = .ok (.iload_n 1, 1) := by decide +kernel
theorem d_MO_instruct_98 : decode b_MO_instruct 98 = .ok (.iconst 1, 1) := by decide +kernel
theorem d_MO_instruct_99 : decode b_MO_instruct 99 = .ok (.iadd, 1) := by decide +kernel
theorem d_MO_instruct_100 : decode b_MO_instruct 100 = .ok (.ireturn, 1) := by decide +kernel
theorem d_MO_instruct_101 : decode b_MO_instruct 101 = .ok (.iload_n 2, 1) := by decide +kernel
theorem d_MO_instruct_102 : decode b_MO_instruct 102 = .ok (.bipush 8, 2) := by decide +kernel
theorem d_MO_instruct_104 : decode b_MO_instruct 104 = .ok (.if_icmp .ne 8, 3) := by decide +kernel
theorem d_MO_instruct_107 : decode b_MO_instruct 107 = .ok (.aload_n 0, 1) := by decide +kernel
theorem d_MO_instruct_108 : decode b_MO_instruct 108 = .ok (.iload_n 3, 1) := by decide +kernel
theorem d_MO_instruct_109 : decode b_MO_instruct 109 = .ok (.invokevirtual 176, 3) := by decide +kernel
theorem d_MO_instruct_112 : decode b_MO_instruct 112 = .ok (.iload_n 2, 1) := by decide +kernel
theorem d_MO_instruct_113 : decode b_MO_instruct 113 = .ok (.bipush 7, 2) := by decide +kernel
theorem d_MO_instruct_115 : decode b_MO_instruct 115 = .ok (.if_icmp .ne 14, 3) := by decide +kernel
theorem d_MO_instruct_118 : decode b_MO_instruct 118 = .ok (.aload_n 0, 1) := by decide +kernel
theorem d_MO_instruct_119 : decode b_MO_instruct 119 = .ok (.getfield 62, 3) := by decide +kernel
theorem d_MO_instruct_122 : decode b_MO_instruct 122 = .ok (.iload_n 3, 1) := by decide +kernel
theorem d_MO_instruct_123 : decode b_MO_instruct 123 = .ok (.bipush 15, 2) := by decide +kernel
theorem d_MO_instruct_125 : decode b_MO_instruct 125 = .ok (.iand, 1) := by decide +kernel
theorem d_MO_instruct_126 : decode b_MO_instruct 126 = .ok (.iload 4, 2) := by decide +kernel
theorem d_MO_instruct_128 : decode b_MO_instruct 128 = .ok (.iastore, 1) := by decide +kernel
theorem d_MO_instruct_129 : decode b_MO_instruct 129 = .ok (.aload_n 0, 1) := by decide +kernel
theorem d_MO_instruct_130 : decode b_MO_instruct 130 = .ok (.iload_n 1, 1) := by decide +kernel
theorem d_MO_instruct_131 : decode b_MO_instruct 131 = .ok (.invokevirtual 98, 3) := by decide +kernel
theorem d_MO_instruct_134 : decode b_MO_instruct 134 = .ok (.ifCond .eq 61, 3) := by decide +kernel
theorem d_MO_instruct_137 : decode b_MO_instruct 137 = .ok (.aload_n 0, 1) := by decide +kernel
theorem d_MO_instruct_138 : decode b_MO_instruct 138 = .ok (.getfield 65, 3) := by decide +kernel
theorem d_MO_instruct_141 : decode b_MO_instruct 141 = .ok (.aload_n 0, 1) := by decide +kernel
theorem d_MO_instruct_142 : decode b_MO_instruct 142 = .ok (.getfield 13, 3) := by decide +kernel
theorem d_MO_instruct_145 : decode b_MO_instruct 145 = .ok (.iload_n 1, 1) := by decide +kernel
theorem d_MO_instruct_146 : decode b_MO_instruct 146 = .ok (.iaload, 1) := by decide +kernel
theorem d_MO_instruct_147 : decode b_MO_instruct 147 = .ok (.iload_n 2, 1) := by decide +kernel
theorem d_MO_instruct_148 : decode b_MO_instruct 148 = .ok (.ifCond .ne 12, 3) := by decide +kernel
theorem d_MO_instruct_151 : decode b_MO_instruct 151 = .ok (.aload_n 0, 1) := by decide +kernel
theorem d_MO_instruct_152 : decode b_MO_instruct 152 = .ok (.getfield 16, 3) := by decide +kernel
theorem d_MO_instruct_155 : decode b_MO_instruct 155 = .ok (.iload_n 1, 1) := by decide +kernel
theorem d_MO_instruct_156 : decode b_MO_instruct 156 = .ok (.iaload, 1) := by decide +kernel
theorem d_MO_instruct_157 : decode b_MO_instruct 157 = .ok (.goto 37, 3) := by decide +kernel
theorem d_MO_instruct_160 : decode b_MO_instruct 160 = .ok (.iload_n 2, 1) := by decide +kernel
theorem d_MO_instruct_161 : decode b_MO_instruct 161 = .ok (.iconst 1, 1) := by decide +kernel
theorem d_MO_instruct_162 : decode b_MO_instruct 162 = .ok (.if_icmp .ne 7, 3) := by decide +kernel
theorem d_MO_instruct_165 : decode b_MO_instruct 165 = .ok (.iload_n 3, 1) := by decide +kernel
theorem d_MO_instruct_166 : decode b_MO_instruct 166 = .ok (.goto 28, 3) := by decide +kernel
theorem d_MO_instruct_169 : decode b_MO_instruct 169 = .ok (.iload_n 2, 1) := by decide +kernel
theorem d_MO_instruct_170 : decode b_MO_instruct 170 = .ok (.bipush 6, 2) := by decide +kernel
theorem d_MO_instruct_172 : decode b_MO_instruct 172 = .ok (.if_icmp .ne 15, 3) := by decide +kernel
theorem d_MO_instruct_175 : decode b_MO_instruct 175 = .ok (.aload_n 0, 1) := by decide +kernel
theorem d_MO_instruct_176 : decode b_MO_instruct 176 = .ok (.getfield 62, 3) := by decide +kernel
theorem d_MO_instruct_179 : decode b_MO_instruct 179 = .ok (.iload_n 3, 1) := by decide +kernel
theorem d_MO_instruct_180 : decode b_MO_instruct 180 = .ok (.bipush 15, 2) := by decide +kernel
theorem d_MO_instruct_182 : decode b_MO_instruct 182 = .ok (.iand, 1) := by decide +kernel
theorem d_MO_instruct_183 : decode b_MO_instruct 183 = .ok (.iaload, 1) := by decide +kernel
theorem d_MO_instruct_184 : decode b_MO_instruct 184 = .ok (.goto 10, 3) := by decide +kernel
theorem d_MO_instruct_187 : decode b_MO_instruct 187 = .ok (.iload_n 2, 1) := by decide +kernel
theorem d_MO_instruct_188 : decode b_MO_instruct 188 = .ok (.iload_n 3, 1) := by decide +kernel
theorem d_MO_instruct_189 : decode b_MO_instruct 189 = .ok (.iload 4, 2) := by decide +kernel
theorem d_MO_instruct_191 : decode b_MO_instruct 191 = .ok (.invokestatic 179, 3) := by decide +kernel
theorem d_MO_instruct_194 : decode b_MO_instruct 194 = .ok (.iastore, 1) := by decide +kernel
theorem d_MO_instruct_195 : decode b_MO_instruct 195 = .ok (.iload_n 1, 1) := by decide +kernel
theorem d_MO_instruct_196 : decode b_MO_instruct 196 = .ok (.iconst 1, 1) := by decide +kernel
theorem d_MO_instruct_197 : decode b_MO_instruct 197 = .ok (.iadd, 1) := by decide +kernel
theorem d_MO_instruct_198 : decode b_MO_instruct 198 = .ok (.ireturn, 1) := by decide +kernel
theorem gc_MO_179 : GoodIn gt (wsS R_MO 179 y_MO_combine ws_MO_combine) := gd_S gw_823 gw_824 gw_7 gw_825
theorem gc_MO_176 : GoodIn gt (wsV R_MO 176 R_MO y_MO_print ws_MO_print) := gd_V gw_819 gw_821 gs_59 gw_7 gw_822
def b_MO_instruct_194 (x1 y1 y2 : Int32) (σ : SS) : Option (Int32 × SS) :=
  (sto σ 18 10 y1 y2).bind fun σ1 => some ((x1 + (1 : Int32)), σ1)
set_option maxHeartbeats 4000000 in
set_option maxRecDepth 100000 in
theorem k_MO_instruct_194 {p : Program} {l : Launch} {e : Env} {s : State} {m : MethodId} {args : Array Value} {below : List Frame} {meth : Method} {c : Code} {D : va_G} {a t : Nat → Nat} {cI cZ : ClassId} (ha : aMC a) (F : CallFix p m c b_MO_instruct 5 s args gt R_MO) (hr : meth.sig.returnType = some .int) (hlk : meth.locks = false) (hK : va_K D vwCl [(cI, .int), (cZ, .boolean)] s) (hT : stM t (aM a) s s.heap) :
    ∀ (x1 y1 y2 : Int32) (σ : SS) (q : Int32 × SS), b_MO_instruct_194 x1 y1 y2 σ = some q → ∀ (H : Heap) (locs : List Loc), va_P D vwCl ((wM a cI cZ) σ) H → va_S (aM a) s.heap H locs → ∀ (ls : Array Slot), lv_has ls 5 [(0, .ref (a 0)), (1, .int x1)] → W p l e { frames := 2, cells := 0, slots := 0, locals := 43 } s m args below meth c H locs 0 0 (MQ below (va_Qi (fun r u => r = q.1 ∧ u = q.2) (pW D (wM a cI cZ) [(cI, .int), (cZ, .boolean)] (stM t) (aM a)) (aM a)) args s 0 0 (aM a)) (F0 m 194 ls [.int y2, .int y1, .ref (a 19)]) := by
  obtain ⟨hx, hb, hml, hown, hg⟩ := id F
  intro x1 y1 y2 σ q hf H locs hP hS ls hl
  unfold b_MO_instruct_194 at hf
  refine bdK hf (fun σ1 h2 hf => ?_)
  refine r_iast (wf := (wM a cI cZ)) hx hb hK hP (dM ha σ) hS 19 0 rfl rfl (fun _ _ => rfl) h2 d_MO_instruct_194 (fun H locs hP hS => ?_)
  refine lv_iload_n hx hb d_MO_instruct_195 rfl (lv_at hl 1 rfl) ?_
  refine lv_iconst (v := (1 : Int32)) hx hb d_MO_instruct_196 (by decide) ?_
  refine lv_iadd hx hb d_MO_instruct_197 ?_
  exact rr_i hx hb hr hlk (stM_g t) hK hT hP hS hf d_MO_instruct_198
def b_MO_instruct_129 (x1 x2 x3 x4 : Int32) (σ : SS) : Option (Int32 × SS) :=
  (f_MO_isWriter x1 σ).bind fun q1 => (if q1.1 = 0 then some ((x1 + (1 : Int32)), q1.2) else (ld (q1.2 1) 40 x1).bind fun v4 => (if x2 = 0 then (ld (q1.2 2) 40 x1).bind fun v13 => b_MO_instruct_194 x1 v4 v13 q1.2 else (if x2 = (1 : Int32) then b_MO_instruct_194 x1 v4 x3 q1.2 else (if x2 = (6 : Int32) then (ld (q1.2 17) 16 (x3 &&& (15 : Int32))).bind fun v11 => b_MO_instruct_194 x1 v4 v11 q1.2 else (f_MO_combine x2 x3 x4 q1.2).bind fun q9 => b_MO_instruct_194 x1 v4 q9.1 q9.2))))
set_option maxHeartbeats 4000000 in
set_option maxRecDepth 100000 in
theorem k_MO_instruct_129 {p : Program} {l : Launch} {e : Env} {s : State} {m : MethodId} {args : Array Value} {below : List Frame} {meth : Method} {c : Code} {D : va_G} {a t : Nat → Nat} {cI cZ : ClassId} (ha : aMC a) (F : CallFix p m c b_MO_instruct 5 s args gt R_MO) (hr : meth.sig.returnType = some .int) (hlk : meth.locks = false) (hK : va_K D vwCl [(cI, .int), (cZ, .boolean)] s) (hT : stM t (aM a) s s.heap) :
    ∀ (x1 x2 x3 x4 : Int32) (σ : SS) (q : Int32 × SS), b_MO_instruct_129 x1 x2 x3 x4 σ = some q → ∀ (H : Heap) (locs : List Loc), va_P D vwCl ((wM a cI cZ) σ) H → va_S (aM a) s.heap H locs → ∀ (ls : Array Slot), lv_has ls 5 [(0, .ref (a 0)), (1, .int x1), (2, .int x2), (3, .int x3), (4, .int x4)] → W p l e { frames := 2, cells := 0, slots := 0, locals := 43 } s m args below meth c H locs 0 0 (MQ below (va_Qi (fun r u => r = q.1 ∧ u = q.2) (pW D (wM a cI cZ) [(cI, .int), (cZ, .boolean)] (stM t) (aM a)) (aM a)) args s 0 0 (aM a)) (F0 m 129 ls []) := by
  obtain ⟨hx, hb, hml, hown, hg⟩ := id F
  intro x1 x2 x3 x4 σ q hf H locs hP hS ls hl
  unfold b_MO_instruct_129 at hf
  refine lv_aload_n hx hb d_MO_instruct_129 rfl (lv_at hl 0 rfl) ?_
  refine lv_iload_n hx hb d_MO_instruct_130 rfl (lv_at hl 1 rfl) ?_
  refine bdK hf (fun q1 h2 hf => ?_)
  refine rc_Vi (As := [.int x1]) (rest := []) (b := a 0) (stM_g t) F (c_MO_isWriter l ha x1 σ q1 h2) (cwV 1 hg gc_MO_98 rfl rfl rfl hs_MO_isWriter ⟨Nat.le_of_ble_eq_true rfl, Nat.le_of_ble_eq_true rfl⟩) hK hT hP hS (va_recv hK hP (ci := 6) (q0 := 0) rfl rfl) rfl hl.1 rfl (Nat.le_of_ble_eq_true rfl) d_MO_instruct_131 ⟨Nat.zero_le _, Nat.zero_le _⟩ (fun H locs hP hS => ?_)
  refine lv_if_eq (tgt := 195) hx hb d_MO_instruct_134 (by decide) (fun c3 => ?_) (fun c3 => ?_)
  · replace hf := (if_pos c3).symm.trans hf
    refine lv_iload_n hx hb d_MO_instruct_195 rfl (lv_at hl 1 rfl) ?_
    refine lv_iconst (v := (1 : Int32)) hx hb d_MO_instruct_196 (by decide) ?_
    refine lv_iadd hx hb d_MO_instruct_197 ?_
    exact rr_i hx hb hr hlk (stM_g t) hK hT hP hS hf d_MO_instruct_198
  · replace hf := (if_neg c3).symm.trans hf
    refine lv_aload_n hx hb d_MO_instruct_137 rfl (lv_at hl 0 rfl) ?_
    refine va_get (D := D) (ci := 6) (v := .ref (a 19)) (C := R_MO) (T := T_MO) (N := 26) hx hb hg in_MO hown hK hP 0 rfl rfl 24 (by decide) (hg _ gw_607) (fun _ h9 => h9) rfl d_MO_instruct_138 ?_
    refine lv_aload_n hx hb d_MO_instruct_141 rfl (lv_at hl 0 rfl) ?_
    refine va_get (D := D) (ci := 6) (v := .ref (a 2)) (C := R_MO) (T := T_MO) (N := 26) hx hb hg in_MO hown hK hP 0 rfl rfl 3 (by decide) (hg _ gw_586) (fun _ h9 => h9) rfl d_MO_instruct_142 ?_
    refine lv_iload_n hx hb d_MO_instruct_145 rfl (lv_at hl 1 rfl) ?_
    refine bdK hf (fun v4 h5 hf => ?_)
    refine r_iald hx hb hK hP 2 0 rfl rfl h5 d_MO_instruct_146 ?_
    refine lv_iload_n hx hb d_MO_instruct_147 rfl (lv_at hl 2 rfl) ?_
    refine lv_if_ne (tgt := 160) hx hb d_MO_instruct_148 (by decide) (fun c6 => ?_) (fun c6 => ?_)
    · replace hf := (if_neg c6).symm.trans hf
      refine lv_iload_n hx hb d_MO_instruct_160 rfl (lv_at hl 2 rfl) ?_
      refine lv_iconst (v := (1 : Int32)) hx hb d_MO_instruct_161 (by decide) ?_
      refine lv_icmp_ne (tgt := 169) hx hb d_MO_instruct_162 (by decide) (fun c7 => ?_) (fun c7 => ?_)
      · replace hf := (if_neg c7).symm.trans hf
        refine lv_iload_n hx hb d_MO_instruct_169 rfl (lv_at hl 2 rfl) ?_
        refine lv_bipush (v := (6 : Int32)) hx hb d_MO_instruct_170 (by decide) ?_
        refine lv_icmp_ne (tgt := 187) hx hb d_MO_instruct_172 (by decide) (fun c8 => ?_) (fun c8 => ?_)
        · replace hf := (if_neg c8).symm.trans hf
          refine lv_iload_n hx hb d_MO_instruct_187 rfl (lv_at hl 2 rfl) ?_
          refine lv_iload_n hx hb d_MO_instruct_188 rfl (lv_at hl 3 rfl) ?_
          refine lv_iload hx hb d_MO_instruct_189 (lv_at hl 4 rfl) ?_
          refine bdK hf (fun q9 h10 hf => ?_)
          refine rc_Si (As := [.int x2, .int x3, .int x4]) (rest := [.int v4, .ref (a 19)]) (stM_g t) F (c_MO_combine l ha x2 x3 x4 q1.2 q9 h10) (cwS 3 hg gc_MO_179 rfl rfl rfl hs_MO_combine ⟨Nat.le_of_ble_eq_true rfl, Nat.le_of_ble_eq_true rfl⟩) hK hT hP hS rfl hl.1 rfl (Nat.le_of_ble_eq_true rfl) d_MO_instruct_191 ⟨Nat.zero_le _, Nat.zero_le _⟩ (fun H locs hP hS => ?_)
          exact k_MO_instruct_194 ha F hr hlk hK hT x1 v4 q9.1 q9.2 q hf _ _ hP hS ls (lv_sub hl [0, 1] rfl)
        · replace hf := (if_pos c8).symm.trans hf
          refine lv_aload_n hx hb d_MO_instruct_175 rfl (lv_at hl 0 rfl) ?_
          refine va_get (D := D) (ci := 6) (v := .ref (a 18)) (C := R_MO) (T := T_MO) (N := 26) hx hb hg in_MO hown hK hP 0 rfl rfl 23 (by decide) (hg _ gw_606) (fun _ h9 => h9) rfl d_MO_instruct_176 ?_
          refine lv_iload_n hx hb d_MO_instruct_179 rfl (lv_at hl 3 rfl) ?_
          refine lv_bipush (v := (15 : Int32)) hx hb d_MO_instruct_180 (by decide) ?_
          refine lv_iand hx hb d_MO_instruct_182 ?_
          refine bdK hf (fun v11 h12 hf => ?_)
          refine r_iald hx hb hK hP 18 0 rfl rfl h12 d_MO_instruct_183 ?_
          refine lv_goto (tgt := 194) hx hb d_MO_instruct_184 (by decide) ?_
          exact k_MO_instruct_194 ha F hr hlk hK hT x1 v4 v11 q1.2 q hf _ _ hP hS ls (lv_sub hl [0, 1] rfl)
      · replace hf := (if_pos c7).symm.trans hf
        refine lv_iload_n hx hb d_MO_instruct_165 rfl (lv_at hl 3 rfl) ?_
        refine lv_goto (tgt := 194) hx hb d_MO_instruct_166 (by decide) ?_
        exact k_MO_instruct_194 ha F hr hlk hK hT x1 v4 x3 q1.2 q hf _ _ hP hS ls (lv_sub hl [0, 1] rfl)
    · replace hf := (if_pos c6).symm.trans hf
      refine lv_aload_n hx hb d_MO_instruct_151 rfl (lv_at hl 0 rfl) ?_
      refine va_get (D := D) (ci := 6) (v := .ref (a 3)) (C := R_MO) (T := T_MO) (N := 26) hx hb hg in_MO hown hK hP 0 rfl rfl 4 (by decide) (hg _ gw_587) (fun _ h9 => h9) rfl d_MO_instruct_152 ?_
      refine lv_iload_n hx hb d_MO_instruct_155 rfl (lv_at hl 1 rfl) ?_
      refine bdK hf (fun v13 h14 hf => ?_)
      refine r_iald hx hb hK hP 3 0 rfl rfl h14 d_MO_instruct_156 ?_
      refine lv_goto (tgt := 194) hx hb d_MO_instruct_157 (by decide) ?_
      exact k_MO_instruct_194 ha F hr hlk hK hT x1 v4 v13 q1.2 q hf _ _ hP hS ls (lv_sub hl [0, 1] rfl)
def b_MO_instruct_54 (x1 x2 x3 y0 : Int32) (σ : SS) : Option (Int32 × SS) :=
  (if x2 = (11 : Int32) then some ((100 : Int32), σ) else (if x2 = (9 : Int32) then (ld (σ 2) 40 x1).bind fun v16 => some (v16, σ) else (if x2 = (10 : Int32) then (if x3 = 0 then (ld (σ 3) 40 x1).bind fun v14 => some (v14, σ) else some ((x1 + (1 : Int32)), σ)) else (if x2 = (8 : Int32) then (f_MO_print x3 σ).bind fun σ8 => (if x2 = (7 : Int32) then (sto σ8 17 16 (x3 &&& (15 : Int32)) y0).bind fun σ11 => b_MO_instruct_129 x1 x2 x3 y0 σ11 else b_MO_instruct_129 x1 x2 x3 y0 σ8) else (if x2 = (7 : Int32) then (sto σ 17 16 (x3 &&& (15 : Int32)) y0).bind fun σ6 => b_MO_instruct_129 x1 x2 x3 y0 σ6 else b_MO_instruct_129 x1 x2 x3 y0 σ)))))
set_option maxHeartbeats 4000000 in
set_option maxRecDepth 100000 in
theorem k_MO_instruct_54 {p : Program} {l : Launch} {e : Env} {s : State} {m : MethodId} {args : Array Value} {below : List Frame} {meth : Method} {c : Code} {D : va_G} {a t : Nat → Nat} {cI cZ : ClassId} (ha : aMC a) (F : CallFix p m c b_MO_instruct 5 s args gt R_MO) (hr : meth.sig.returnType = some .int) (hlk : meth.locks = false) (hK : va_K D vwCl [(cI, .int), (cZ, .boolean)] s) (hT : stM t (aM a) s s.heap) :
    ∀ (x1 x2 x3 y0 : Int32) (σ : SS) (q : Int32 × SS), b_MO_instruct_54 x1 x2 x3 y0 σ = some q → ∀ (H : Heap) (locs : List Loc), va_P D vwCl ((wM a cI cZ) σ) H → va_S (aM a) s.heap H locs → ∀ (ls : Array Slot), lv_has ls 5 [(0, .ref (a 0)), (1, .int x1), (2, .int x2), (3, .int x3)] → W p l e { frames := 2, cells := 0, slots := 0, locals := 43 } s m args below meth c H locs 0 0 (MQ below (va_Qi (fun r u => r = q.1 ∧ u = q.2) (pW D (wM a cI cZ) [(cI, .int), (cZ, .boolean)] (stM t) (aM a)) (aM a)) args s 0 0 (aM a)) (F0 m 54 ls [.int y0]) := by
  obtain ⟨hx, hb, hml, hown, hg⟩ := id F
  intro x1 x2 x3 y0 σ q hf H locs hP hS ls hl
  unfold b_MO_instruct_54 at hf
  refine lv_istore (lv' := [(4, .int y0), (0, .ref (a 0)), (1, .int x1), (2, .int x2), (3, .int x3)]) hx hb d_MO_instruct_54 hl (by decide) rfl (fun ls hl => ?_)
  refine lv_iload_n hx hb d_MO_instruct_56 rfl (lv_at hl 3 rfl) ?_
  refine lv_bipush (v := (11 : Int32)) hx hb d_MO_instruct_57 (by decide) ?_
  refine lv_icmp_ne (tgt := 65) hx hb d_MO_instruct_59 (by decide) (fun c1 => ?_) (fun c1 => ?_)
  · replace hf := (if_neg c1).symm.trans hf
    refine lv_iload_n hx hb d_MO_instruct_65 rfl (lv_at hl 3 rfl) ?_
    refine lv_bipush (v := (9 : Int32)) hx hb d_MO_instruct_66 (by decide) ?_
    refine lv_icmp_ne (tgt := 78) hx hb d_MO_instruct_68 (by decide) (fun c2 => ?_) (fun c2 => ?_)
    · replace hf := (if_neg c2).symm.trans hf
      refine lv_iload_n hx hb d_MO_instruct_78 rfl (lv_at hl 3 rfl) ?_
      refine lv_bipush (v := (10 : Int32)) hx hb d_MO_instruct_79 (by decide) ?_
      refine lv_icmp_ne (tgt := 101) hx hb d_MO_instruct_81 (by decide) (fun c3 => ?_) (fun c3 => ?_)
      · replace hf := (if_neg c3).symm.trans hf
        refine lv_iload_n hx hb d_MO_instruct_101 rfl (lv_at hl 3 rfl) ?_
        refine lv_bipush (v := (8 : Int32)) hx hb d_MO_instruct_102 (by decide) ?_
        refine lv_icmp_ne (tgt := 112) hx hb d_MO_instruct_104 (by decide) (fun c4 => ?_) (fun c4 => ?_)
        · replace hf := (if_neg c4).symm.trans hf
          refine lv_iload_n hx hb d_MO_instruct_112 rfl (lv_at hl 3 rfl) ?_
          refine lv_bipush (v := (7 : Int32)) hx hb d_MO_instruct_113 (by decide) ?_
          refine lv_icmp_ne (tgt := 129) hx hb d_MO_instruct_115 (by decide) (fun c5 => ?_) (fun c5 => ?_)
          · replace hf := (if_neg c5).symm.trans hf
            exact k_MO_instruct_129 ha F hr hlk hK hT x1 x2 x3 y0 σ q hf _ _ hP hS ls (lv_sub hl [1, 2, 3, 4, 0] rfl)
          · replace hf := (if_pos c5).symm.trans hf
            refine lv_aload_n hx hb d_MO_instruct_118 rfl (lv_at hl 1 rfl) ?_
            refine va_get (D := D) (ci := 6) (v := .ref (a 18)) (C := R_MO) (T := T_MO) (N := 26) hx hb hg in_MO hown hK hP 0 rfl rfl 23 (by decide) (hg _ gw_606) (fun _ h9 => h9) rfl d_MO_instruct_119 ?_
            refine lv_iload_n hx hb d_MO_instruct_122 rfl (lv_at hl 4 rfl) ?_
            refine lv_bipush (v := (15 : Int32)) hx hb d_MO_instruct_123 (by decide) ?_
            refine lv_iand hx hb d_MO_instruct_125 ?_
            refine lv_iload hx hb d_MO_instruct_126 (lv_at hl 0 rfl) ?_
            refine bdK hf (fun σ6 h7 hf => ?_)
            refine r_iast (wf := (wM a cI cZ)) hx hb hK hP (dM ha σ) hS 18 0 rfl rfl (fun _ _ => rfl) h7 d_MO_instruct_128 (fun H locs hP hS => ?_)
            exact k_MO_instruct_129 ha F hr hlk hK hT x1 x2 x3 y0 σ6 q hf _ _ hP hS ls (lv_sub hl [1, 2, 3, 4, 0] rfl)
        · replace hf := (if_pos c4).symm.trans hf
          refine lv_aload_n hx hb d_MO_instruct_107 rfl (lv_at hl 1 rfl) ?_
          refine lv_iload_n hx hb d_MO_instruct_108 rfl (lv_at hl 4 rfl) ?_
          refine bdK hf (fun σ8 h9 hf => ?_)
          refine rc_Vv (As := [.int x3]) (rest := []) (b := a 0) (stM_g t) F (c_MO_print l ha x3 σ σ8 h9) (cwV 1 hg gc_MO_176 rfl rfl rfl hs_MO_print ⟨Nat.le_of_ble_eq_true rfl, Nat.le_of_ble_eq_true rfl⟩) hK hT hP hS (va_recv hK hP (ci := 6) (q0 := 0) rfl rfl) rfl hl.1 rfl (Nat.le_of_ble_eq_true rfl) d_MO_instruct_109 ⟨Nat.zero_le _, Nat.zero_le _⟩ (fun H locs hP hS => ?_)
          refine lv_iload_n hx hb d_MO_instruct_112 rfl (lv_at hl 3 rfl) ?_
          refine lv_bipush (v := (7 : Int32)) hx hb d_MO_instruct_113 (by decide) ?_
          refine lv_icmp_ne (tgt := 129) hx hb d_MO_instruct_115 (by decide) (fun c10 => ?_) (fun c10 => ?_)
          · replace hf := (if_neg c10).symm.trans hf
            exact k_MO_instruct_129 ha F hr hlk hK hT x1 x2 x3 y0 σ8 q hf _ _ hP hS ls (lv_sub hl [1, 2, 3, 4, 0] rfl)
          · replace hf := (if_pos c10).symm.trans hf
            refine lv_aload_n hx hb d_MO_instruct_118 rfl (lv_at hl 1 rfl) ?_
            refine va_get (D := D) (ci := 6) (v := .ref (a 18)) (C := R_MO) (T := T_MO) (N := 26) hx hb hg in_MO hown hK hP 0 rfl rfl 23 (by decide) (hg _ gw_606) (fun _ h9 => h9) rfl d_MO_instruct_119 ?_
            refine lv_iload_n hx hb d_MO_instruct_122 rfl (lv_at hl 4 rfl) ?_
            refine lv_bipush (v := (15 : Int32)) hx hb d_MO_instruct_123 (by decide) ?_
            refine lv_iand hx hb d_MO_instruct_125 ?_
            refine lv_iload hx hb d_MO_instruct_126 (lv_at hl 0 rfl) ?_
            refine bdK hf (fun σ11 h12 hf => ?_)
            refine r_iast (wf := (wM a cI cZ)) hx hb hK hP (dM ha σ8) hS 18 0 rfl rfl (fun _ _ => rfl) h12 d_MO_instruct_128 (fun H locs hP hS => ?_)
            exact k_MO_instruct_129 ha F hr hlk hK hT x1 x2 x3 y0 σ11 q hf _ _ hP hS ls (lv_sub hl [1, 2, 3, 4, 0] rfl)
      · replace hf := (if_pos c3).symm.trans hf
        refine lv_iload_n hx hb d_MO_instruct_84 rfl (lv_at hl 4 rfl) ?_
        refine lv_if_ne (tgt := 97) hx hb d_MO_instruct_85 (by decide) (fun c13 => ?_) (fun c13 => ?_)
        · replace hf := (if_neg c13).symm.trans hf
          refine lv_iload_n hx hb d_MO_instruct_97 rfl (lv_at hl 2 rfl) ?_
          refine lv_iconst (v := (1 : Int32)) hx hb d_MO_instruct_98 (by decide) ?_
          refine lv_iadd hx hb d_MO_instruct_99 ?_
          exact rr_i hx hb hr hlk (stM_g t) hK hT hP hS hf d_MO_instruct_100
        · replace hf := (if_pos c13).symm.trans hf
          refine lv_aload_n hx hb d_MO_instruct_88 rfl (lv_at hl 1 rfl) ?_
          refine va_get (D := D) (ci := 6) (v := .ref (a 4)) (C := R_MO) (T := T_MO) (N := 26) hx hb hg in_MO hown hK hP 0 rfl rfl 5 (by decide) (hg _ gw_588) (fun _ h9 => h9) rfl d_MO_instruct_89 ?_
          refine lv_iload_n hx hb d_MO_instruct_92 rfl (lv_at hl 2 rfl) ?_
          refine bdK hf (fun v14 h15 hf => ?_)
          refine r_iald hx hb hK hP 4 0 rfl rfl h15 d_MO_instruct_93 ?_
          refine lv_goto (tgt := 100) hx hb d_MO_instruct_94 (by decide) ?_
          exact rr_i hx hb hr hlk (stM_g t) hK hT hP hS hf d_MO_instruct_100
    · replace hf := (if_pos c2).symm.trans hf
      refine lv_aload_n hx hb d_MO_instruct_71 rfl (lv_at hl 1 rfl) ?_
      refine va_get (D := D) (ci := 6) (v := .ref (a 3)) (C := R_MO) (T := T_MO) (N := 26) hx hb hg in_MO hown hK hP 0 rfl rfl 4 (by decide) (hg _ gw_587) (fun _ h9 => h9) rfl d_MO_instruct_72 ?_
      refine lv_iload_n hx hb d_MO_instruct_75 rfl (lv_at hl 2 rfl) ?_
      refine bdK hf (fun v16 h17 hf => ?_)
      refine r_iald hx hb hK hP 3 0 rfl rfl h17 d_MO_instruct_76 ?_
      exact rr_i hx hb hr hlk (stM_g t) hK hT hP hS hf d_MO_instruct_77
  · replace hf := (if_pos c1).symm.trans hf
    refine lv_bipush (v := (100 : Int32)) hx hb d_MO_instruct_62 (by decide) ?_
    exact rr_i hx hb hr hlk (stM_g t) hK hT hP hS hf d_MO_instruct_64
def b_MO_instruct_30 (x1 x2 y0 : Int32) (σ : SS) : Option (Int32 × SS) :=
  (f_MO_readsB x1 σ).bind fun q1 => (if q1.1 = 0 then b_MO_instruct_54 x1 x2 y0 (0 : Int32) q1.2 else (ld (q1.2 3) 40 x1).bind fun v4 => (ld (q1.2 18) 10 v4).bind fun v6 => b_MO_instruct_54 x1 x2 y0 v6 q1.2)
set_option maxHeartbeats 4000000 in
set_option maxRecDepth 100000 in
theorem k_MO_instruct_30 {p : Program} {l : Launch} {e : Env} {s : State} {m : MethodId} {args : Array Value} {below : List Frame} {meth : Method} {c : Code} {D : va_G} {a t : Nat → Nat} {cI cZ : ClassId} (ha : aMC a) (F : CallFix p m c b_MO_instruct 5 s args gt R_MO) (hr : meth.sig.returnType = some .int) (hlk : meth.locks = false) (hK : va_K D vwCl [(cI, .int), (cZ, .boolean)] s) (hT : stM t (aM a) s s.heap) :
    ∀ (x1 x2 y0 : Int32) (σ : SS) (q : Int32 × SS), b_MO_instruct_30 x1 x2 y0 σ = some q → ∀ (H : Heap) (locs : List Loc), va_P D vwCl ((wM a cI cZ) σ) H → va_S (aM a) s.heap H locs → ∀ (ls : Array Slot), lv_has ls 5 [(0, .ref (a 0)), (1, .int x1), (2, .int x2)] → W p l e { frames := 2, cells := 0, slots := 0, locals := 43 } s m args below meth c H locs 0 0 (MQ below (va_Qi (fun r u => r = q.1 ∧ u = q.2) (pW D (wM a cI cZ) [(cI, .int), (cZ, .boolean)] (stM t) (aM a)) (aM a)) args s 0 0 (aM a)) (F0 m 30 ls [.int y0]) := by
  obtain ⟨hx, hb, hml, hown, hg⟩ := id F
  intro x1 x2 y0 σ q hf H locs hP hS ls hl
  unfold b_MO_instruct_30 at hf
  refine lv_istore_n (lv' := [(3, .int y0), (0, .ref (a 0)), (1, .int x1), (2, .int x2)]) hx hb d_MO_instruct_30 rfl hl (by decide) rfl (fun ls hl => ?_)
  refine lv_aload_n hx hb d_MO_instruct_31 rfl (lv_at hl 1 rfl) ?_
  refine lv_iload_n hx hb d_MO_instruct_32 rfl (lv_at hl 2 rfl) ?_
  refine bdK hf (fun q1 h2 hf => ?_)
  refine rc_Vi (As := [.int x1]) (rest := []) (b := a 0) (stM_g t) F (c_MO_readsB l ha x1 σ q1 h2) (cwV 1 hg gc_MO_104 rfl rfl rfl hs_MO_readsB ⟨Nat.le_of_ble_eq_true rfl, Nat.le_of_ble_eq_true rfl⟩) hK hT hP hS (va_recv hK hP (ci := 6) (q0 := 0) rfl rfl) rfl hl.1 rfl (Nat.le_of_ble_eq_true rfl) d_MO_instruct_33 ⟨Nat.zero_le _, Nat.zero_le _⟩ (fun H locs hP hS => ?_)
  refine lv_if_eq (tgt := 53) hx hb d_MO_instruct_36 (by decide) (fun c3 => ?_) (fun c3 => ?_)
  · replace hf := (if_pos c3).symm.trans hf
    refine lv_iconst (v := (0 : Int32)) hx hb d_MO_instruct_53 (by decide) ?_
    exact k_MO_instruct_54 ha F hr hlk hK hT x1 x2 y0 (0 : Int32) q1.2 q hf _ _ hP hS ls (lv_sub hl [1, 2, 3, 0] rfl)
  · replace hf := (if_neg c3).symm.trans hf
    refine lv_aload_n hx hb d_MO_instruct_39 rfl (lv_at hl 1 rfl) ?_
    refine va_get (D := D) (ci := 6) (v := .ref (a 19)) (C := R_MO) (T := T_MO) (N := 26) hx hb hg in_MO hown hK hP 0 rfl rfl 24 (by decide) (hg _ gw_607) (fun _ h9 => h9) rfl d_MO_instruct_40 ?_
    refine lv_aload_n hx hb d_MO_instruct_43 rfl (lv_at hl 1 rfl) ?_
    refine va_get (D := D) (ci := 6) (v := .ref (a 4)) (C := R_MO) (T := T_MO) (N := 26) hx hb hg in_MO hown hK hP 0 rfl rfl 5 (by decide) (hg _ gw_588) (fun _ h9 => h9) rfl d_MO_instruct_44 ?_
    refine lv_iload_n hx hb d_MO_instruct_47 rfl (lv_at hl 2 rfl) ?_
    refine bdK hf (fun v4 h5 hf => ?_)
    refine r_iald hx hb hK hP 4 0 rfl rfl h5 d_MO_instruct_48 ?_
    refine bdK hf (fun v6 h7 hf => ?_)
    refine r_iald hx hb hK hP 19 0 rfl rfl h7 d_MO_instruct_49 ?_
    refine lv_goto (tgt := 54) hx hb d_MO_instruct_50 (by decide) ?_
    exact k_MO_instruct_54 ha F hr hlk hK hT x1 x2 y0 v6 q1.2 q hf _ _ hP hS ls (lv_sub hl [1, 2, 3, 0] rfl)
def f_MO_instruct (x1 : Int32) (σ : SS) : Option (Int32 × SS) :=
  (ld (σ 0) 40 x1).bind fun v1 => (f_MO_readsA x1 σ).bind fun q3 => (if q3.1 = 0 then b_MO_instruct_30 x1 v1 (0 : Int32) q3.2 else (ld (q3.2 2) 40 x1).bind fun v6 => (ld (q3.2 18) 10 v6).bind fun v8 => b_MO_instruct_30 x1 v1 v8 q3.2)
set_option maxHeartbeats 4000000 in
set_option maxRecDepth 100000 in
theorem e_MO_instruct {p : Program} {l : Launch} {e : Env} {s : State} {m : MethodId} {args : Array Value} {below : List Frame} {meth : Method} {c : Code} {D : va_G} {a t : Nat → Nat} {cI cZ : ClassId} (ha : aMC a) (F : CallFix p m c b_MO_instruct 5 s args gt R_MO) (hr : meth.sig.returnType = some .int) (hlk : meth.locks = false) (hK : va_K D vwCl [(cI, .int), (cZ, .boolean)] s) (hT : stM t (aM a) s s.heap) :
    ∀ (x1 : Int32) (σ : SS) (q : Int32 × SS), f_MO_instruct x1 σ = some q → ∀ (H : Heap) (locs : List Loc), va_P D vwCl ((wM a cI cZ) σ) H → va_S (aM a) s.heap H locs → ∀ (ls : Array Slot), lv_has ls 5 [(0, .ref (a 0)), (1, .int x1)] → W p l e { frames := 2, cells := 0, slots := 0, locals := 43 } s m args below meth c H locs 0 0 (MQ below (va_Qi (fun r u => r = q.1 ∧ u = q.2) (pW D (wM a cI cZ) [(cI, .int), (cZ, .boolean)] (stM t) (aM a)) (aM a)) args s 0 0 (aM a)) (F0 m 0 ls []) := by
  obtain ⟨hx, hb, hml, hown, hg⟩ := id F
  intro x1 σ q hf H locs hP hS ls hl
  unfold f_MO_instruct at hf
  refine lv_aload_n hx hb d_MO_instruct_0 rfl (lv_at hl 0 rfl) ?_
  refine va_get (D := D) (ci := 6) (v := .ref (a 1)) (C := R_MO) (T := T_MO) (N := 26) hx hb hg in_MO hown hK hP 0 rfl rfl 2 (by decide) (hg _ gw_585) (fun _ h9 => h9) rfl d_MO_instruct_1 ?_
  refine lv_iload_n hx hb d_MO_instruct_4 rfl (lv_at hl 1 rfl) ?_
  refine bdK hf (fun v1 h2 hf => ?_)
  refine r_iald hx hb hK hP 1 0 rfl rfl h2 d_MO_instruct_5 ?_
  refine lv_istore_n (lv' := [(2, .int v1), (0, .ref (a 0)), (1, .int x1)]) hx hb d_MO_instruct_6 rfl hl (by decide) rfl (fun ls hl => ?_)
  refine lv_aload_n hx hb d_MO_instruct_7 rfl (lv_at hl 1 rfl) ?_
  refine lv_iload_n hx hb d_MO_instruct_8 rfl (lv_at hl 2 rfl) ?_
  refine bdK hf (fun q3 h4 hf => ?_)
  refine rc_Vi (As := [.int x1]) (rest := []) (b := a 0) (stM_g t) F (c_MO_readsA l ha x1 σ q3 h4) (cwV 1 hg gc_MO_101 rfl rfl rfl hs_MO_readsA ⟨Nat.le_of_ble_eq_true rfl, Nat.le_of_ble_eq_true rfl⟩) hK hT hP hS (va_recv hK hP (ci := 6) (q0 := 0) rfl rfl) rfl hl.1 rfl (Nat.le_of_ble_eq_true rfl) d_MO_instruct_9 ⟨Nat.zero_le _, Nat.zero_le _⟩ (fun H locs hP hS => ?_)
  refine lv_if_eq (tgt := 29) hx hb d_MO_instruct_12 (by decide) (fun c5 => ?_) (fun c5 => ?_)
  · replace hf := (if_pos c5).symm.trans hf
    refine lv_iconst (v := (0 : Int32)) hx hb d_MO_instruct_29 (by decide) ?_
    exact k_MO_instruct_30 ha F hr hlk hK hT x1 v1 (0 : Int32) q3.2 q hf _ _ hP hS ls (lv_sub hl [1, 2, 0] rfl)
  · replace hf := (if_neg c5).symm.trans hf
    refine lv_aload_n hx hb d_MO_instruct_15 rfl (lv_at hl 1 rfl) ?_
    refine va_get (D := D) (ci := 6) (v := .ref (a 19)) (C := R_MO) (T := T_MO) (N := 26) hx hb hg in_MO hown hK hP 0 rfl rfl 24 (by decide) (hg _ gw_607) (fun _ h9 => h9) rfl d_MO_instruct_16 ?_
    refine lv_aload_n hx hb d_MO_instruct_19 rfl (lv_at hl 1 rfl) ?_
    refine va_get (D := D) (ci := 6) (v := .ref (a 3)) (C := R_MO) (T := T_MO) (N := 26) hx hb hg in_MO hown hK hP 0 rfl rfl 4 (by decide) (hg _ gw_587) (fun _ h9 => h9) rfl d_MO_instruct_20 ?_
    refine lv_iload_n hx hb d_MO_instruct_23 rfl (lv_at hl 2 rfl) ?_
    refine bdK hf (fun v6 h7 hf => ?_)
    refine r_iald hx hb hK hP 3 0 rfl rfl h7 d_MO_instruct_24 ?_
    refine bdK hf (fun v8 h9 hf => ?_)
    refine r_iald hx hb hK hP 19 0 rfl rfl h9 d_MO_instruct_25 ?_
    refine lv_goto (tgt := 30) hx hb d_MO_instruct_26 (by decide) ?_
    exact k_MO_instruct_30 ha F hr hlk hK hT x1 v1 v8 q3.2 q hf _ _ hP hS ls (lv_sub hl [1, 2, 0] rfl)
set_option maxHeartbeats 4000000 in
set_option maxRecDepth 100000 in
theorem c_MO_instruct (l : Launch) {D : va_G} {a t : Nat → Nat} {cI cZ : ClassId} (ha : aMC a) (x1 : Int32) (σ : SS) (q : Int32 × SS) (hf : f_MO_instruct x1 σ = some q) : Met l y_MO_instruct ws_MO_instruct { frames := 2, cells := 0, slots := 0, locals := 43 } (va_Pc [.ref (a 0), .int x1] (pW D (wM a cI cZ) [(cI, .int), (cZ, .boolean)] (stM t) (aM a) σ)) (va_Qi (fun r u => r = q.1 ∧ u = q.2) (pW D (wM a cI cZ) [(cI, .int), (cZ, .boolean)] (stM t) (aM a)) (aM a)) 0 0 (aM a) := by
  refine Met.ofW (cc := b_MO_instruct) (maxL := 5) (ret := some .int) (by decide) rfl ?_
  intro p e s m args below meth c s₁ B hml hv
  obtain ⟨rfl, hP, hK, hT⟩ := hv
  have hl := lv_entry ([.ref (a 0), .int x1]) (n := 5) (Nat.le_of_ble_eq_true rfl)
  rw [lg_entry_eq]
  generalize (lg_sl ([.ref (a 0), .int x1]) ++ List.replicate (5 - (lg_sl ([.ref (a 0), .int x1])).length) Slot.unset).toArray = ls at hl ⊢
  exact e_MO_instruct ha ⟨B.exec, B.bytes, hml, findClass_of_methodNamed B.named, fun w h => atoms_spec (ws := ws_MO_instruct) B.pre w (List.mem_cons_of_mem _ h)⟩ B.returns B.notSynchronized hK hT x1 σ q hf s.heap [] hP va_S.rf ls hl
