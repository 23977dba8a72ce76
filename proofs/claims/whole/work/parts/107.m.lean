theorem d_SC_carried_0 : decode b_SC_carried 0 = .ok (.aload_n 0, 1) := by decide +kernel
theorem d_SC_carried_1 : decode b_SC_carried 1 = .ok (.invokevirtual 74, 3) := by decide +kernel
theorem d_SC_carried_4 : decode b_SC_carried 4 = .ok (.aload_n 0, 1) := by decide +kernel
theorem d_SC_carried_5 : decode b_SC_carried 5 = .ok (.getfield 12, 3) := by decide +kernel
theorem d_SC_carried_8 : decode b_SC_carried 8 = .ok (.iload_n 1, 1) := by decide +kernel
theorem d_SC_carried_9 : decode b_SC_carried 9 = .ok (.invokevirtual 70, 3) := by decide +kernel
theorem d_SC_carried_12 : decode b_SC_carried 12 = .ok (.ifCond .eq 14, 3) := by decide +kernel
theorem d_SC_carried_15 : decode b_SC_carried 15 = .ok (.aload_n 0, 1) := by decide +kernel
theorem d_SC_carried_16 : decode b_SC_carried 16 = .ok (.getfield 30, 3) := by decide +kernel
theorem d_SC_carried_19 : decode b_SC_carried 19 = .ok (.iload_n 1, 1) := by decide +kernel
theorem d_SC_carried_20 : decode b_SC_carried 20 = .ok (.invokevirtual 85, 3) := by decide +kernel
theorem d_SC_carried_23 : decode b_SC_carried 23 = .ok (.goto 4, 3) := by decide +kernel
theorem d_SC_carried_26 : decode b_SC_carried 26 = .ok (.iconst (-1), 1) := by decide +kernel
theorem d_SC_carried_27 : decode b_SC_carried 27 = .ok (.ireturn, 1) := by decide +kernel
theorem gc_SC_85 : GoodIn gt (wsV R_SC 85 R_CA y_CA_goalOf ws_CA_goalOf) := gd_V gw_453 gw_454 gw_455 gw_4 gw_456
def f_SC_carried (x1 : Int32) (σ : SS) : Option (Int32 × SS) :=
  (f_SC_translate σ).bind fun σ1 => (f_RC_holds x1 σ1).bind fun q3 => (if q3.1 = 0 then some ((-1 : Int32), q3.2) else (f_CA_goalOf x1 q3.2).bind fun q6 => some (q6.1, q6.2))
set_option maxHeartbeats 4000000 in
set_option maxRecDepth 100000 in
theorem e_SC_carried {p : Program} {l : Launch} {e : Env} {s : State} {m : MethodId} {args : Array Value} {below : List Frame} {meth : Method} {c : Code} {D : va_G} {a t : Nat → Nat} {cI cZ : ClassId} (ha : aCC a) (F : CallFix p m c b_SC_carried 2 s args gt R_SC) (hr : meth.sig.returnType = some .int) (hlk : meth.locks = false) (hK : va_K D vwCl [(cI, .int), (cZ, .boolean)] s) (hT : stC t (aC a) s s.heap) :
    ∀ (x1 : Int32) (σ : SS) (q : Int32 × SS), f_SC_carried x1 σ = some q → ∀ (H : Heap) (locs : List Loc), va_P D vwCl ((wC a cI cZ) σ) H → va_S (aC a) s.heap H locs → ∀ (ls : Array Slot), lv_has ls 2 [(0, .ref (a 0)), (1, .int x1)] → W p l e { frames := 6, cells := 0, slots := 0, locals := 136 } s m args below meth c H locs 0 0 (MQ below (va_Qi (fun r u => r = q.1 ∧ u = q.2) (pW D (wC a cI cZ) [(cI, .int), (cZ, .boolean)] (stC t) (aC a)) (aC a)) args s 0 0 (aC a)) (F0 m 0 ls []) := by
  obtain ⟨hx, hb, hml, hown, hg⟩ := id F
  intro x1 σ q hf H locs hP hS ls hl
  unfold f_SC_carried at hf
  refine lv_aload_n hx hb d_SC_carried_0 rfl (lv_at hl 0 rfl) ?_
  refine bdK hf (fun σ1 h2 hf => ?_)
  refine rc_Vv (As := []) (rest := []) (b := a 0) (stC_g t) F (c_SC_translate l ha σ σ1 h2) (cwV 0 hg gc_SC_74 rfl rfl rfl hs_SC_translate ⟨Nat.le_of_ble_eq_true rfl, Nat.le_of_ble_eq_true rfl⟩) hK hT hP hS (va_recv hK hP (ci := 0) (q0 := 0) rfl rfl) rfl hl.1 rfl (Nat.le_of_ble_eq_true rfl) d_SC_carried_1 ⟨Nat.zero_le _, Nat.zero_le _⟩ (fun H locs hP hS => ?_)
  refine lv_aload_n hx hb d_SC_carried_4 rfl (lv_at hl 0 rfl) ?_
  refine va_get (D := D) (ci := 0) (v := .ref (a 1)) (C := R_SC) (T := T_SC) (N := 6) hx hb hg in_SC hown hK hP 0 rfl rfl 0 (by decide) (hg _ gw_165) (fun _ h9 => h9) rfl d_SC_carried_5 ?_
  refine lv_iload_n hx hb d_SC_carried_8 rfl (lv_at hl 1 rfl) ?_
  refine bdK hf (fun q3 h4 hf => ?_)
  refine rc_Vi (As := [.int x1]) (rest := []) (b := a 1) (stC_g t) F (c_RC_holds l ha x1 σ1 q3 h4) (cwV 1 hg gc_SC_70 rfl rfl rfl hs_RC_holds ⟨Nat.le_of_ble_eq_true rfl, Nat.le_of_ble_eq_true rfl⟩) hK hT hP hS (va_recv hK hP (ci := 1) (q0 := 1) rfl rfl) rfl hl.1 rfl (Nat.le_of_ble_eq_true rfl) d_SC_carried_9 ⟨Nat.zero_le _, Nat.zero_le _⟩ (fun H locs hP hS => ?_)
  refine lv_if_eq (tgt := 26) hx hb d_SC_carried_12 (by decide) (fun c5 => ?_) (fun c5 => ?_)
  · replace hf := (if_pos c5).symm.trans hf
    refine lv_iconst (v := (-1 : Int32)) hx hb d_SC_carried_26 (by decide) ?_
    exact rr_i hx hb hr hlk (stC_g t) hK hT hP hS hf d_SC_carried_27
  · replace hf := (if_neg c5).symm.trans hf
    refine lv_aload_n hx hb d_SC_carried_15 rfl (lv_at hl 0 rfl) ?_
    refine va_get (D := D) (ci := 0) (v := .ref (a 3)) (C := R_SC) (T := T_SC) (N := 6) hx hb hg in_SC hown hK hP 0 rfl rfl 2 (by decide) (hg _ gw_167) (fun _ h9 => h9) rfl d_SC_carried_16 ?_
    refine lv_iload_n hx hb d_SC_carried_19 rfl (lv_at hl 1 rfl) ?_
    refine bdK hf (fun q6 h7 hf => ?_)
    refine rc_Vi (As := [.int x1]) (rest := []) (b := a 3) (stC_g t) F (c_CA_goalOf l ha x1 q3.2 q6 h7) (cwV 1 hg gc_SC_85 rfl rfl rfl hs_CA_goalOf ⟨Nat.le_of_ble_eq_true rfl, Nat.le_of_ble_eq_true rfl⟩) hK hT hP hS (va_recv hK hP (ci := 3) (q0 := 3) rfl rfl) rfl hl.1 rfl (Nat.le_of_ble_eq_true rfl) d_SC_carried_20 ⟨Nat.zero_le _, Nat.zero_le _⟩ (fun H locs hP hS => ?_)
    refine lv_goto (tgt := 27) hx hb d_SC_carried_23 (by decide) ?_
    exact rr_i hx hb hr hlk (stC_g t) hK hT hP hS hf d_SC_carried_27
set_option maxHeartbeats 4000000 in
set_option maxRecDepth 100000 in
theorem c_SC_carried (l : Launch) {D : va_G} {a t : Nat → Nat} {cI cZ : ClassId} (ha : aCC a) (x1 : Int32) (σ : SS) (q : Int32 × SS) (hf : f_SC_carried x1 σ = some q) : Met l y_SC_carried ws_SC_carried { frames := 6, cells := 0, slots := 0, locals := 136 } (va_Pc [.ref (a 0), .int x1] (pW D (wC a cI cZ) [(cI, .int), (cZ, .boolean)] (stC t) (aC a) σ)) (va_Qi (fun r u => r = q.1 ∧ u = q.2) (pW D (wC a cI cZ) [(cI, .int), (cZ, .boolean)] (stC t) (aC a)) (aC a)) 0 0 (aC a) := by
  refine Met.ofW (cc := b_SC_carried) (maxL := 2) (ret := some .int) (by decide) rfl ?_
  intro p e s m args below meth c s₁ B hml hv
  obtain ⟨rfl, hP, hK, hT⟩ := hv
  have hl := lv_entry ([.ref (a 0), .int x1]) (n := 2) (Nat.le_of_ble_eq_true rfl)
  rw [lg_entry_eq]
  generalize (lg_sl ([.ref (a 0), .int x1]) ++ List.replicate (2 - (lg_sl ([.ref (a 0), .int x1])).length) Slot.unset).toArray = ls at hl ⊢
  exact e_SC_carried ha ⟨B.exec, B.bytes, hml, findClass_of_methodNamed B.named, fun w h => atoms_spec (ws := ws_SC_carried) B.pre w (List.mem_cons_of_mem _ h)⟩ B.returns B.notSynchronized hK hT x1 σ q hf s.heap [] hP va_S.rf ls hl
theorem d_CA_needOf_0 : decode b_CA_needOf 0 = .ok (.aload_n 0, 1) := by decide +kernel
theorem d_CA_needOf_1 : decode b_CA_needOf 1 = .ok (.getfield 21, 3) := by decide +kernel
theorem d_CA_needOf_4 : decode b_CA_needOf 4 = .ok (.iload_n 1, 1) := by decide +kernel
theorem d_CA_needOf_5 : decode b_CA_needOf 5 = .ok (.iaload, 1) := by decide +kernel
theorem d_CA_needOf_6 : decode b_CA_needOf 6 = .ok (.ireturn, 1) := by decide +kernel
def f_CA_needOf (x1 : Int32) (σ : SS) : Option (Int32 × SS) :=
  (ld (σ 13) 40 x1).bind fun v1 => some (v1, σ)
set_option maxHeartbeats 4000000 in
set_option maxRecDepth 100000 in
theorem e_CA_needOf {p : Program} {l : Launch} {e : Env} {s : State} {m : MethodId} {args : Array Value} {below : List Frame} {meth : Method} {c : Code} {D : va_G} {a t : Nat → Nat} {cI cZ : ClassId} (ha : aCC a) (F : CallFix p m c b_CA_needOf 2 s args gt R_CA) (hr : meth.sig.returnType = some .int) (hlk : meth.locks = false) (hK : va_K D vwCl [(cI, .int), (cZ, .boolean)] s) (hT : stC t (aC a) s s.heap) :
    ∀ (x1 : Int32) (σ : SS) (q : Int32 × SS), f_CA_needOf x1 σ = some q → ∀ (H : Heap) (locs : List Loc), va_P D vwCl ((wC a cI cZ) σ) H → va_S (aC a) s.heap H locs → ∀ (ls : Array Slot), lv_has ls 2 [(0, .ref (a 3)), (1, .int x1)] → W p l e { frames := 0, cells := 0, slots := 0, locals := 0 } s m args below meth c H locs 0 0 (MQ below (va_Qi (fun r u => r = q.1 ∧ u = q.2) (pW D (wC a cI cZ) [(cI, .int), (cZ, .boolean)] (stC t) (aC a)) (aC a)) args s 0 0 (aC a)) (F0 m 0 ls []) := by
  obtain ⟨hx, hb, hml, hown, hg⟩ := id F
  intro x1 σ q hf H locs hP hS ls hl
  unfold f_CA_needOf at hf
  refine lv_aload_n hx hb d_CA_needOf_0 rfl (lv_at hl 0 rfl) ?_
  refine va_get (D := D) (ci := 3) (v := .ref (a 19)) (C := R_CA) (T := T_CA) (N := 9) hx hb hg in_CA hown hK hP 3 rfl rfl 6 (by decide) (hg _ gw_81) (fun _ h9 => h9) rfl d_CA_needOf_1 ?_
  refine lv_iload_n hx hb d_CA_needOf_4 rfl (lv_at hl 1 rfl) ?_
  refine bdK hf (fun v1 h2 hf => ?_)
  refine r_iald hx hb hK hP 19 0 rfl rfl h2 d_CA_needOf_5 ?_
  exact rr_i hx hb hr hlk (stC_g t) hK hT hP hS hf d_CA_needOf_6
set_option maxHeartbeats 4000000 in
set_option maxRecDepth 100000 in
theorem c_CA_needOf (l : Launch) {D : va_G} {a t : Nat → Nat} {cI cZ : ClassId} (ha : aCC a) (x1 : Int32) (σ : SS) (q : Int32 × SS) (hf : f_CA_needOf x1 σ = some q) : Met l y_CA_needOf ws_CA_needOf { frames := 0, cells := 0, slots := 0, locals := 0 } (va_Pc [.ref (a 3), .int x1] (pW D (wC a cI cZ) [(cI, .int), (cZ, .boolean)] (stC t) (aC a) σ)) (va_Qi (fun r u => r = q.1 ∧ u = q.2) (pW D (wC a cI cZ) [(cI, .int), (cZ, .boolean)] (stC t) (aC a)) (aC a)) 0 0 (aC a) := by
  refine Met.ofW (cc := b_CA_needOf) (maxL := 2) (ret := some .int) (by decide) rfl ?_
  intro p e s m args below meth c s₁ B hml hv
  obtain ⟨rfl, hP, hK, hT⟩ := hv
  have hl := lv_entry ([.ref (a 3), .int x1]) (n := 2) (Nat.le_of_ble_eq_true rfl)
  rw [lg_entry_eq]
  generalize (lg_sl ([.ref (a 3), .int x1]) ++ List.replicate (2 - (lg_sl ([.ref (a 3), .int x1])).length) Slot.unset).toArray = ls at hl ⊢
  exact e_CA_needOf ha ⟨B.exec, B.bytes, hml, findClass_of_methodNamed B.named, fun w h => atoms_spec (ws := ws_CA_needOf) B.pre w (List.mem_cons_of_mem _ h)⟩ B.returns B.notSynchronized hK hT x1 σ q hf s.heap [] hP va_S.rf ls hl
theorem d_SC_need_0 : decode b_SC_need 0 = .ok (.aload_n 0, 1) := by decide +kernel
theorem d_SC_need_1 : decode b_SC_need 1 = .ok (.invokevirtual 74, 3) := by decide +kernel
theorem d_SC_need_4 : decode b_SC_need 4 = .ok (.aload_n 0, 1) := by decide +kernel
theorem d_SC_need_5 : decode b_SC_need 5 = .ok (.getfield 12, 3) := by decide +kernel
theorem d_SC_need_8 : decode b_SC_need 8 = .ok (.iload_n 1, 1) := by decide +kernel
theorem d_SC_need_9 : decode b_SC_need 9 = .ok (.invokevirtual 70, 3) := by decide +kernel
theorem d_SC_need_12 : decode b_SC_need 12 = .ok (.ifCond .eq 14, 3) := by decide +kernel
theorem d_SC_need_15 : decode b_SC_need 15 = .ok (.aload_n 0, 1) := by decide +kernel
theorem d_SC_need_16 : decode b_SC_need 16 = .ok (.getfield 30, 3) := by decide +kernel
theorem d_SC_need_19 : decode b_SC_need 19 = .ok (.iload_n 1, 1) := by decide +kernel
theorem d_SC_need_20 : decode b_SC_need 20 = .ok (.invokevirtual 88, 3) := by decide +kernel
theorem d_SC_need_23 : decode b_SC_need 23 = .ok (.goto 4, 3) := by decide +kernel
theorem d_SC_need_26 : decode b_SC_need 26 = .ok (.iconst (-1), 1) := by decide +kernel
theorem d_SC_need_27 : decode b_SC_need 27 = .ok (.ireturn, 1) := by decide +kernel
theorem gc_SC_88 : GoodIn gt (wsV R_SC 88 R_CA y_CA_needOf ws_CA_needOf) := gd_V gw_461 gw_462 gw_463 gw_4 gw_464
def f_SC_need (x1 : Int32) (σ : SS) : Option (Int32 × SS) :=
  (f_SC_translate σ).bind fun σ1 => (f_RC_holds x1 σ1).bind fun q3 => (if q3.1 = 0 then some ((-1 : Int32), q3.2) else (f_CA_needOf x1 q3.2).bind fun q6 => some (q6.1, q6.2))
set_option maxHeartbeats 4000000 in
set_option maxRecDepth 100000 in
theorem e_SC_need {p : Program} {l : Launch} {e : Env} {s : State} {m : MethodId} {args : Array Value} {below : List Frame} {meth : Method} {c : Code} {D : va_G} {a t : Nat → Nat} {cI cZ : ClassId} (ha : aCC a) (F : CallFix p m c b_SC_need 2 s args gt R_SC) (hr : meth.sig.returnType = some .int) (hlk : meth.locks = false) (hK : va_K D vwCl [(cI, .int), (cZ, .boolean)] s) (hT : stC t (aC a) s s.heap) :
    ∀ (x1 : Int32) (σ : SS) (q : Int32 × SS), f_SC_need x1 σ = some q → ∀ (H : Heap) (locs : List Loc), va_P D vwCl ((wC a cI cZ) σ) H → va_S (aC a) s.heap H locs → ∀ (ls : Array Slot), lv_has ls 2 [(0, .ref (a 0)), (1, .int x1)] → W p l e { frames := 6, cells := 0, slots := 0, locals := 136 } s m args below meth c H locs 0 0 (MQ below (va_Qi (fun r u => r = q.1 ∧ u = q.2) (pW D (wC a cI cZ) [(cI, .int), (cZ, .boolean)] (stC t) (aC a)) (aC a)) args s 0 0 (aC a)) (F0 m 0 ls []) := by
  obtain ⟨hx, hb, hml, hown, hg⟩ := id F
  intro x1 σ q hf H locs hP hS ls hl
  unfold f_SC_need at hf
  refine lv_aload_n hx hb d_SC_need_0 rfl (lv_at hl 0 rfl) ?_
  refine bdK hf (fun σ1 h2 hf => ?_)
  refine rc_Vv (As := []) (rest := []) (b := a 0) (stC_g t) F (c_SC_translate l ha σ σ1 h2) (cwV 0 hg gc_SC_74 rfl rfl rfl hs_SC_translate ⟨Nat.le_of_ble_eq_true rfl, Nat.le_of_ble_eq_true rfl⟩) hK hT hP hS (va_recv hK hP (ci := 0) (q0 := 0) rfl rfl) rfl hl.1 rfl (Nat.le_of_ble_eq_true rfl) d_SC_need_1 ⟨Nat.zero_le _, Nat.zero_le _⟩ (fun H locs hP hS => ?_)
  refine lv_aload_n hx hb d_SC_need_4 rfl (lv_at hl 0 rfl) ?_
  refine va_get (D := D) (ci := 0) (v := .ref (a 1)) (C := R_SC) (T := T_SC) (N := 6) hx hb hg in_SC hown hK hP 0 rfl rfl 0 (by decide) (hg _ gw_165) (fun _ h9 => h9) rfl d_SC_need_5 ?_
  refine lv_iload_n hx hb d_SC_need_8 rfl (lv_at hl 1 rfl) ?_
  refine bdK hf (fun q3 h4 hf => ?_)
  refine rc_Vi (As := [.int x1]) (rest := []) (b := a 1) (stC_g t) F (c_RC_holds l ha x1 σ1 q3 h4) (cwV 1 hg gc_SC_70 rfl rfl rfl hs_RC_holds ⟨Nat.le_of_ble_eq_true rfl, Nat.le_of_ble_eq_true rfl⟩) hK hT hP hS (va_recv hK hP (ci := 1) (q0 := 1) rfl rfl) rfl hl.1 rfl (Nat.le_of_ble_eq_true rfl) d_SC_need_9 ⟨Nat.zero_le _, Nat.zero_le _⟩ (fun H locs hP hS => ?_)
  refine lv_if_eq (tgt := 26) hx hb d_SC_need_12 (by decide) (fun c5 => ?_) (fun c5 => ?_)
  · replace hf := (if_pos c5).symm.trans hf
    refine lv_iconst (v := (-1 : Int32)) hx hb d_SC_need_26 (by decide) ?_
    exact rr_i hx hb hr hlk (stC_g t) hK hT hP hS hf d_SC_need_27
  · replace hf := (if_neg c5).symm.trans hf
    refine lv_aload_n hx hb d_SC_need_15 rfl (lv_at hl 0 rfl) ?_
    refine va_get (D := D) (ci := 0) (v := .ref (a 3)) (C := R_SC) (T := T_SC) (N := 6) hx hb hg in_SC hown hK hP 0 rfl rfl 2 (by decide) (hg _ gw_167) (fun _ h9 => h9) rfl d_SC_need_16 ?_
    refine lv_iload_n hx hb d_SC_need_19 rfl (lv_at hl 1 rfl) ?_
    refine bdK hf (fun q6 h7 hf => ?_)
    refine rc_Vi (As := [.int x1]) (rest := []) (b := a 3) (stC_g t) F (c_CA_needOf l ha x1 q3.2 q6 h7) (cwV 1 hg gc_SC_88 rfl rfl rfl hs_CA_needOf ⟨Nat.le_of_ble_eq_true rfl, Nat.le_of_ble_eq_true rfl⟩) hK hT hP hS (va_recv hK hP (ci := 3) (q0 := 3) rfl rfl) rfl hl.1 rfl (Nat.le_of_ble_eq_true rfl) d_SC_need_20 ⟨Nat.zero_le _, Nat.zero_le _⟩ (fun H locs hP hS => ?_)
    refine lv_goto (tgt := 27) hx hb d_SC_need_23 (by decide) ?_
    exact rr_i hx hb hr hlk (stC_g t) hK hT hP hS hf d_SC_need_27
set_option maxHeartbeats 4000000 in
set_option maxRecDepth 100000 in
theorem c_SC_need (l : Launch) {D : va_G} {a t : Nat → Nat} {cI cZ : ClassId} (ha : aCC a) (x1 : Int32) (σ : SS) (q : Int32 × SS) (hf : f_SC_need x1 σ = some q) : Met l y_SC_need ws_SC_need { frames := 6, cells := 0, slots := 0, locals := 136 } (va_Pc [.ref (a 0), .int x1] (pW D (wC a cI cZ) [(cI, .int), (cZ, .boolean)] (stC t) (aC a) σ)) (va_Qi (fun r u => r = q.1 ∧ u = q.2) (pW D (wC a cI cZ) [(cI, .int), (cZ, .boolean)] (stC t) (aC a)) (aC a)) 0 0 (aC a) := by
  refine Met.ofW (cc := b_SC_need) (maxL := 2) (ret := some .int) (by decide) rfl ?_
  intro p e s m args below meth c s₁ B hml hv
  obtain ⟨rfl, hP, hK, hT⟩ := hv
  have hl := lv_entry ([.ref (a 0), .int x1]) (n := 2) (Nat.le_of_ble_eq_true rfl)
  rw [lg_entry_eq]
  generalize (lg_sl ([.ref (a 0), .int x1]) ++ List.replicate (2 - (lg_sl ([.ref (a 0), .int x1])).length) Slot.unset).toArray = ls at hl ⊢
  exact e_SC_need ha ⟨B.exec, B.bytes, hml, findClass_of_methodNamed B.named, fun w h => atoms_spec (ws := ws_SC_need) B.pre w (List.mem_cons_of_mem _ h)⟩ B.returns B.notSynchronized hK hT x1 σ q hf s.heap [] hP va_S.rf ls hl
theorem d_SC_live_0 : decode b_SC_live 0 = .ok (.aload_n 0, 1) := by decide +kernel
theorem d_SC_live_1 : decode b_SC_live 1 = .ok (.invokevirtual 74, 3) := by decide +kernel
theorem d_SC_live_4 : decode b_SC_live 4 = .ok (.aload_n 0, 1) := by decide +kernel
theorem d_SC_live_5 : decode b_SC_live 5 = .ok (.getfield 12, 3) := by decide +kernel
theorem d_SC_live_8 : decode b_SC_live 8 = .ok (.iload_n 1, 1) := by decide +kernel
theorem d_SC_live_9 : decode b_SC_live 9 = .ok (.invokevirtual 70, 3) := by decide +kernel
theorem d_SC_live_12 : decode b_SC_live 12 = .ok (.ifCond .eq 14, 3) := by decide +kernel
theorem d_SC_live_15 : decode b_SC_live 15 = .ok (.aload_n 0, 1) := by decide +kernel
theorem d_SC_live_16 : decode b_SC_live 16 = .ok (.getfield 21, 3) := by decide +kernel
theorem d_SC_live_19 : decode b_SC_live 19 = .ok (.iload_n 1, 1) := by decide +kernel
theorem d_SC_live_20 : decode b_SC_live 20 = .ok (.invokevirtual 91, 3) := by decide +kernel
theorem d_SC_live_23 : decode b_SC_live 23 = .ok (.goto 4, 3) := by decide +kernel
theorem d_SC_live_26 : decode b_SC_live 26 = .ok (.iconst (-1), 1) := by decide +kernel
theorem d_SC_live_27 : decode b_SC_live 27 = .ok (.ireturn, 1) := by decide +kernel
theorem gc_SC_91 : GoodIn gt (wsV R_SC 91 R_FL y_FL_liveBefore ws_FL_liveBefore) := gd_V gw_469 gw_271 gw_272 gw_3 gw_273
def f_SC_live (x1 : Int32) (σ : SS) : Option (Int32 × SS) :=
  (f_SC_translate σ).bind fun σ1 => (f_RC_holds x1 σ1).bind fun q3 => (if q3.1 = 0 then some ((-1 : Int32), q3.2) else (f_FL_liveBefore x1 q3.2).bind fun q6 => some (q6.1, q6.2))
set_option maxHeartbeats 4000000 in
set_option maxRecDepth 100000 in
theorem e_SC_live {p : Program} {l : Launch} {e : Env} {s : State} {m : MethodId} {args : Array Value} {below : List Frame} {meth : Method} {c : Code} {D : va_G} {a t : Nat → Nat} {cI cZ : ClassId} (ha : aCC a) (F : CallFix p m c b_SC_live 2 s args gt R_SC) (hr : meth.sig.returnType = some .int) (hlk : meth.locks = false) (hK : va_K D vwCl [(cI, .int), (cZ, .boolean)] s) (hT : stC t (aC a) s s.heap) :
    ∀ (x1 : Int32) (σ : SS) (q : Int32 × SS), f_SC_live x1 σ = some q → ∀ (H : Heap) (locs : List Loc), va_P D vwCl ((wC a cI cZ) σ) H → va_S (aC a) s.heap H locs → ∀ (ls : Array Slot), lv_has ls 2 [(0, .ref (a 0)), (1, .int x1)] → W p l e { frames := 6, cells := 0, slots := 0, locals := 136 } s m args below meth c H locs 0 0 (MQ below (va_Qi (fun r u => r = q.1 ∧ u = q.2) (pW D (wC a cI cZ) [(cI, .int), (cZ, .boolean)] (stC t) (aC a)) (aC a)) args s 0 0 (aC a)) (F0 m 0 ls []) := by
  obtain ⟨hx, hb, hml, hown, hg⟩ := id F
  intro x1 σ q hf H locs hP hS ls hl
  unfold f_SC_live at hf
  refine lv_aload_n hx hb d_SC_live_0 rfl (lv_at hl 0 rfl) ?_
  refine bdK hf (fun σ1 h2 hf => ?_)
  refine rc_Vv (As := []) (rest := []) (b := a 0) (stC_g t) F (c_SC_translate l ha σ σ1 h2) (cwV 0 hg gc_SC_74 rfl rfl rfl hs_SC_translate ⟨Nat.le_of_ble_eq_true rfl, Nat.le_of_ble_eq_true rfl⟩) hK hT hP hS (va_recv hK hP (ci := 0) (q0 := 0) rfl rfl) rfl hl.1 rfl (Nat.le_of_ble_eq_true rfl) d_SC_live_1 ⟨Nat.zero_le _, Nat.zero_le _⟩ (fun H locs hP hS => ?_)
  refine lv_aload_n hx hb d_SC_live_4 rfl (lv_at hl 0 rfl) ?_
  refine va_get (D := D) (ci := 0) (v := .ref (a 1)) (C := R_SC) (T := T_SC) (N := 6) hx hb hg in_SC hown hK hP 0 rfl rfl 0 (by decide) (hg _ gw_165) (fun _ h9 => h9) rfl d_SC_live_5 ?_
  refine lv_iload_n hx hb d_SC_live_8 rfl (lv_at hl 1 rfl) ?_
  refine bdK hf (fun q3 h4 hf => ?_)
  refine rc_Vi (As := [.int x1]) (rest := []) (b := a 1) (stC_g t) F (c_RC_holds l ha x1 σ1 q3 h4) (cwV 1 hg gc_SC_70 rfl rfl rfl hs_RC_holds ⟨Nat.le_of_ble_eq_true rfl, Nat.le_of_ble_eq_true rfl⟩) hK hT hP hS (va_recv hK hP (ci := 1) (q0 := 1) rfl rfl) rfl hl.1 rfl (Nat.le_of_ble_eq_true rfl) d_SC_live_9 ⟨Nat.zero_le _, Nat.zero_le _⟩ (fun H locs hP hS => ?_)
  refine lv_if_eq (tgt := 26) hx hb d_SC_live_12 (by decide) (fun c5 => ?_) (fun c5 => ?_)
  · replace hf := (if_pos c5).symm.trans hf
    refine lv_iconst (v := (-1 : Int32)) hx hb d_SC_live_26 (by decide) ?_
    exact rr_i hx hb hr hlk (stC_g t) hK hT hP hS hf d_SC_live_27
  · replace hf := (if_neg c5).symm.trans hf
    refine lv_aload_n hx hb d_SC_live_15 rfl (lv_at hl 0 rfl) ?_
    refine va_get (D := D) (ci := 0) (v := .ref (a 2)) (C := R_SC) (T := T_SC) (N := 6) hx hb hg in_SC hown hK hP 0 rfl rfl 1 (by decide) (hg _ gw_166) (fun _ h9 => h9) rfl d_SC_live_16 ?_
    refine lv_iload_n hx hb d_SC_live_19 rfl (lv_at hl 1 rfl) ?_
    refine bdK hf (fun q6 h7 hf => ?_)
    refine rc_Vi (As := [.int x1]) (rest := []) (b := a 2) (stC_g t) F (c_FL_liveBefore l ha x1 q3.2 q6 h7) (cwV 1 hg gc_SC_91 rfl rfl rfl hs_FL_liveBefore ⟨Nat.le_of_ble_eq_true rfl, Nat.le_of_ble_eq_true rfl⟩) hK hT hP hS (va_recv hK hP (ci := 2) (q0 := 2) rfl rfl) rfl hl.1 rfl (Nat.le_of_ble_eq_true rfl) d_SC_live_20 ⟨Nat.zero_le _, Nat.zero_le _⟩ (fun H locs hP hS => ?_)
    refine lv_goto (tgt := 27) hx hb d_SC_live_23 (by decide) ?_
    exact rr_i hx hb hr hlk (stC_g t) hK hT hP hS hf d_SC_live_27
set_option maxHeartbeats 4000000 in
set_option maxRecDepth 100000 in
theorem c_SC_live (l : Launch) {D : va_G} {a t : Nat → Nat} {cI cZ : ClassId} (ha : aCC a) (x1 : Int32) (σ : SS) (q : Int32 × SS) (hf : f_SC_live x1 σ = some q) : Met l y_SC_live ws_SC_live { frames := 6, cells := 0, slots := 0, locals := 136 } (va_Pc [.ref (a 0), .int x1] (pW D (wC a cI cZ) [(cI, .int), (cZ, .boolean)] (stC t) (aC a) σ)) (va_Qi (fun r u => r = q.1 ∧ u = q.2) (pW D (wC a cI cZ) [(cI, .int), (cZ, .boolean)] (stC t) (aC a)) (aC a)) 0 0 (aC a) := by
  refine Met.ofW (cc := b_SC_live) (maxL := 2) (ret := some .int) (by decide) rfl ?_
  intro p e s m args below meth c s₁ B hml hv
  obtain ⟨rfl, hP, hK, hT⟩ := hv
  have hl := lv_entry ([.ref (a 0), .int x1]) (n := 2) (Nat.le_of_ble_eq_true rfl)
  rw [lg_entry_eq]
  generalize (lg_sl ([.ref (a 0), .int x1]) ++ List.replicate (2 - (lg_sl ([.ref (a 0), .int x1])).length) Slot.unset).toArray = ls at hl ⊢
  exact e_SC_live ha ⟨B.exec, B.bytes, hml, findClass_of_methodNamed B.named, fun w h => atoms_spec (ws := ws_SC_live) B.pre w (List.mem_cons_of_mem _ h)⟩ B.returns B.notSynchronized hK hT x1 σ q hf s.heap [] hP va_S.rf ls hl
theorem d_ST_putCount_0 : decode b_ST_putCount 0 = .ok (.aload_n 0, 1) := by decide +kernel
theorem d_ST_putCount_1 : decode b_ST_putCount 1 = .ok (.getfield 40, 3) := by decide +kernel
theorem d_ST_putCount_4 : decode b_ST_putCount 4 = .ok (.ireturn, 1) := by decide +kernel
def f_ST_putCount (σ : SS) : Option (Int32 × SS) :=
  some ((σ 28 0), σ)
set_option maxHeartbeats 4000000 in
set_option maxRecDepth 100000 in
theorem e_ST_putCount {p : Program} {l : Launch} {e : Env} {s : State} {m : MethodId} {args : Array Value} {below : List Frame} {meth : Method} {c : Code} {D : va_G} {a t : Nat → Nat} {cI cZ : ClassId} (ha : aCC a) (F : CallFix p m c b_ST_putCount 1 s args gt R_ST) (hr : meth.sig.returnType = some .int) (hlk : meth.locks = false) (hK : va_K D vwCl [(cI, .int), (cZ, .boolean)] s) (hT : stC t (aC a) s s.heap) :
    ∀ (σ : SS) (q : Int32 × SS), f_ST_putCount σ = some q → ∀ (H : Heap) (locs : List Loc), va_P D vwCl ((wC a cI cZ) σ) H → va_S (aC a) s.heap H locs → ∀ (ls : Array Slot), lv_has ls 1 [(0, .ref (a 4))] → W p l e { frames := 0, cells := 0, slots := 0, locals := 0 } s m args below meth c H locs 0 0 (MQ below (va_Qi (fun r u => r = q.1 ∧ u = q.2) (pW D (wC a cI cZ) [(cI, .int), (cZ, .boolean)] (stC t) (aC a)) (aC a)) args s 0 0 (aC a)) (F0 m 0 ls []) := by
  obtain ⟨hx, hb, hml, hown, hg⟩ := id F
  intro σ q hf H locs hP hS ls hl
  unfold f_ST_putCount at hf
  refine lv_aload_n hx hb d_ST_putCount_0 rfl (lv_at hl 0 rfl) ?_
  refine va_get (D := D) (ci := 4) (v := .int (σ 28 0)) (C := R_ST) (T := T_ST) (N := 9) hx hb hg in_ST hown hK hP 4 rfl rfl 8 (by decide) (hg _ gw_117) (fun _ h9 => h9) rfl d_ST_putCount_1 ?_
  exact rr_i hx hb hr hlk (stC_g t) hK hT hP hS hf d_ST_putCount_4
set_option maxHeartbeats 4000000 in
set_option maxRecDepth 100000 in
theorem c_ST_putCount (l : Launch) {D : va_G} {a t : Nat → Nat} {cI cZ : ClassId} (ha : aCC a) (σ : SS) (q : Int32 × SS) (hf : f_ST_putCount σ = some q) : Met l y_ST_putCount ws_ST_putCount { frames := 0, cells := 0, slots := 0, locals := 0 } (va_Pc [.ref (a 4)] (pW D (wC a cI cZ) [(cI, .int), (cZ, .boolean)] (stC t) (aC a) σ)) (va_Qi (fun r u => r = q.1 ∧ u = q.2) (pW D (wC a cI cZ) [(cI, .int), (cZ, .boolean)] (stC t) (aC a)) (aC a)) 0 0 (aC a) := by
  refine Met.ofW (cc := b_ST_putCount) (maxL := 1) (ret := some .int) (by decide) rfl ?_
  intro p e s m args below meth c s₁ B hml hv
  obtain ⟨rfl, hP, hK, hT⟩ := hv
  have hl := lv_entry ([.ref (a 4)]) (n := 1) (Nat.le_of_ble_eq_true rfl)
  rw [lg_entry_eq]
  generalize (lg_sl ([.ref (a 4)]) ++ List.replicate (1 - (lg_sl ([.ref (a 4)])).length) Slot.unset).toArray = ls at hl ⊢
  exact e_ST_putCount ha ⟨B.exec, B.bytes, hml, findClass_of_methodNamed B.named, fun w h => atoms_spec (ws := ws_ST_putCount) B.pre w (List.mem_cons_of_mem _ h)⟩ B.returns B.notSynchronized hK hT σ q hf s.heap [] hP va_S.rf ls hl
theorem d_SC_stores_0 : decode b_SC_stores 0 = .ok (.aload_n 0, 1) := by decide +kernel
theorem d_SC_stores_1 : decode b_SC_stores 1 = .ok (.invokevirtual 74, 3) := by decide +kernel
theorem d_SC_stores_4 : decode b_SC_stores 4 = .ok (.aload_n 0, 1) := by decide +kernel
theorem d_SC_stores_5 : decode b_SC_stores 5 = .ok (.getfield 39, 3) := by decide +kernel
theorem d_SC_stores_8 : decode b_SC_stores 8 = .ok (.invokevirtual 94, 3) := by decide +kernel
theorem d_SC_stores_11 : decode b_SC_stores 11 = .ok (.ireturn, 1) := by decide +kernel
theorem gc_SC_94 : GoodIn gt (wsV R_SC 94 R_ST y_ST_putCount ws_ST_putCount) := gd_V gw_474 gw_475 gw_476 gw_5 gw_477
def f_SC_stores (σ : SS) : Option (Int32 × SS) :=
  (f_SC_translate σ).bind fun σ1 => (f_ST_putCount σ1).bind fun q3 => some (q3.1, q3.2)
set_option maxHeartbeats 4000000 in
set_option maxRecDepth 100000 in
theorem e_SC_stores {p : Program} {l : Launch} {e : Env} {s : State} {m : MethodId} {args : Array Value} {below : List Frame} {meth : Method} {c : Code} {D : va_G} {a t : Nat → Nat} {cI cZ : ClassId} (ha : aCC a) (F : CallFix p m c b_SC_stores 1 s args gt R_SC) (hr : meth.sig.returnType = some .int) (hlk : meth.locks = false) (hK : va_K D vwCl [(cI, .int), (cZ, .boolean)] s) (hT : stC t (aC a) s s.heap) :
    ∀ (σ : SS) (q : Int32 × SS), f_SC_stores σ = some q → ∀ (H : Heap) (locs : List Loc), va_P D vwCl ((wC a cI cZ) σ) H → va_S (aC a) s.heap H locs → ∀ (ls : Array Slot), lv_has ls 1 [(0, .ref (a 0))] → W p l e { frames := 6, cells := 0, slots := 0, locals := 136 } s m args below meth c H locs 0 0 (MQ below (va_Qi (fun r u => r = q.1 ∧ u = q.2) (pW D (wC a cI cZ) [(cI, .int), (cZ, .boolean)] (stC t) (aC a)) (aC a)) args s 0 0 (aC a)) (F0 m 0 ls []) := by
  obtain ⟨hx, hb, hml, hown, hg⟩ := id F
  intro σ q hf H locs hP hS ls hl
  unfold f_SC_stores at hf
  refine lv_aload_n hx hb d_SC_stores_0 rfl (lv_at hl 0 rfl) ?_
  refine bdK hf (fun σ1 h2 hf => ?_)
  refine rc_Vv (As := []) (rest := []) (b := a 0) (stC_g t) F (c_SC_translate l ha σ σ1 h2) (cwV 0 hg gc_SC_74 rfl rfl rfl hs_SC_translate ⟨Nat.le_of_ble_eq_true rfl, Nat.le_of_ble_eq_true rfl⟩) hK hT hP hS (va_recv hK hP (ci := 0) (q0 := 0) rfl rfl) rfl hl.1 rfl (Nat.le_of_ble_eq_true rfl) d_SC_stores_1 ⟨Nat.zero_le _, Nat.zero_le _⟩ (fun H locs hP hS => ?_)
  refine lv_aload_n hx hb d_SC_stores_4 rfl (lv_at hl 0 rfl) ?_
  refine va_get (D := D) (ci := 0) (v := .ref (a 4)) (C := R_SC) (T := T_SC) (N := 6) hx hb hg in_SC hown hK hP 0 rfl rfl 3 (by decide) (hg _ gw_168) (fun _ h9 => h9) rfl d_SC_stores_5 ?_
  refine bdK hf (fun q3 h4 hf => ?_)
  refine rc_Vi (As := []) (rest := []) (b := a 4) (stC_g t) F (c_ST_putCount l ha σ1 q3 h4) (cwV 0 hg gc_SC_94 rfl rfl rfl hs_ST_putCount ⟨Nat.le_of_ble_eq_true rfl, Nat.le_of_ble_eq_true rfl⟩) hK hT hP hS (va_recv hK hP (ci := 4) (q0 := 4) rfl rfl) rfl hl.1 rfl (Nat.le_of_ble_eq_true rfl) d_SC_stores_8 ⟨Nat.zero_le _, Nat.zero_le _⟩ (fun H locs hP hS => ?_)
  exact rr_i hx hb hr hlk (stC_g t) hK hT hP hS hf d_SC_stores_11
set_option maxHeartbeats 4000000 in
set_option maxRecDepth 100000 in
theorem c_SC_stores (l : Launch) {D : va_G} {a t : Nat → Nat} {cI cZ : ClassId} (ha : aCC a) (σ : SS) (q : Int32 × SS) (hf : f_SC_stores σ = some q) : Met l y_SC_stores ws_SC_stores { frames := 6, cells := 0, slots := 0, locals := 136 } (va_Pc [.ref (a 0)] (pW D (wC a cI cZ) [(cI, .int), (cZ, .boolean)] (stC t) (aC a) σ)) (va_Qi (fun r u => r = q.1 ∧ u = q.2) (pW D (wC a cI cZ) [(cI, .int), (cZ, .boolean)] (stC t) (aC a)) (aC a)) 0 0 (aC a) := by
  refine Met.ofW (cc := b_SC_stores) (maxL := 1) (ret := some .int) (by decide) rfl ?_
  intro p e s m args below meth c s₁ B hml hv
  obtain ⟨rfl, hP, hK, hT⟩ := hv
  have hl := lv_entry ([.ref (a 0)]) (n := 1) (Nat.le_of_ble_eq_true rfl)
  rw [lg_entry_eq]
  generalize (lg_sl ([.ref (a 0)]) ++ List.replicate (1 - (lg_sl ([.ref (a 0)])).length) Slot.unset).toArray = ls at hl ⊢
  exact e_SC_stores ha ⟨B.exec, B.bytes, hml, findClass_of_methodNamed B.named, fun w h => atoms_spec (ws := ws_SC_stores) B.pre w (List.mem_cons_of_mem _ h)⟩ B.returns B.notSynchronized hK hT σ q hf s.heap [] hP va_S.rf ls hl
theorem d_CA_greatestNeed_0 : decode b_CA_greatestNeed 0 = .ok (.iconst 0, 1) := by decide +kernel
theorem d_CA_greatestNeed_1 : decode b_CA_greatestNeed 1 = .ok (.istore_n 1, 1) := by decide +kernel
theorem d_CA_greatestNeed_2 : decode b_CA_greatestNeed 2 = .ok (.iconst 0, 1) := by decide +kernel
theorem d_CA_greatestNeed_3 : decode b_CA_greatestNeed 3 = .ok (.istore_n 2, 1) := by decide +kernel
theorem d_CA_greatestNeed_4 : decode b_CA_greatestNeed 4 = .ok (.iload_n 2, 1) := by decide +kernel
theorem d_CA_greatestNeed_5 : decode b_CA_greatestNeed 5 = .ok (.aload_n 0, 1) := by decide +kernel
theorem d_CA_greatestNeed_6 : decode b_CA_greatestNeed 6 = .ok (.getfield 31, 3) := by decide +kernel
theorem d_CA_greatestNeed_9 : decode b_CA_greatestNeed 9 = .ok (.invokevirtual 43, 3) := by decide +kernel
theorem d_CA_greatestNeed_12 : decode b_CA_greatestNeed 12 = .ok (.if_icmp .ge 20, 3) := by decide +kernel
theorem d_CA_greatestNeed_15 : decode b_CA_greatestNeed 15 = .ok (.iload_n 1, 1) := by decide +kernel
theorem d_CA_greatestNeed_16 : decode b_CA_greatestNeed 16 = .ok (.aload_n 0, 1) := by decide +kernel
theorem d_CA_greatestNeed_17 : decode b_CA_greatestNeed 17 = .ok (.getfield 21, 3) := by decide +kernel
theorem d_CA_greatestNeed_20 : decode b_CA_greatestNeed 20 = .ok (.iload_n 2, 1) := by decide +kernel
theorem d_CA_greatestNeed_21 : decode b_CA_greatestNeed 21 = .ok (.iaload, 1) := by decide +kernel
theorem d_CA_greatestNeed_22 : decode b_CA_greatestNeed 22 = .ok (.invokestatic 114, 3) := by decide +kernel
theorem d_CA_greatestNeed_25 : decode b_CA_greatestNeed 25 = .ok (.istore_n 1, 1) := by decide +kernel
theorem d_CA_greatestNeed_26 : decode b_CA_greatestNeed 26 = .ok (.iinc 2 1, 3) := by decide +kernel
theorem d_CA_greatestNeed_29 : decode b_CA_greatestNeed 29 = .ok (.goto (-25), 3) := by decide +kernel
theorem d_CA_greatestNeed_32 : decode b_CA_greatestNeed 32 = .ok (.iload_n 1, 1) := by decide +kernel
theorem d_CA_greatestNeed_33 : decode b_CA_greatestNeed 33 = .ok (.ireturn, 1) := by decide +kernel
def b_CA_greatestNeed_4 : Nat → Int32 → Int32 → SS → Option (Int32 × SS)
  | 0, _, _, _ => none
  | n + 1, x1, x2, σ =>
    (f_RC_count σ).bind fun q1 => (if q1.1 ≤ x2 then some (x1, q1.2) else (ld (q1.2 13) 40 x2).bind fun v4 => b_CA_greatestNeed_4 n (if x1 < v4 then v4 else x1) (x2 + (1 : Int32)) q1.2)
set_option maxHeartbeats 4000000 in
set_option maxRecDepth 100000 in
theorem k_CA_greatestNeed_4 {p : Program} {l : Launch} {e : Env} {s : State} {m : MethodId} {args : Array Value} {below : List Frame} {meth : Method} {c : Code} {D : va_G} {a t : Nat → Nat} {cI cZ : ClassId} (ha : aCC a) (F : CallFix p m c b_CA_greatestNeed 3 s args gt R_CA) (hr : meth.sig.returnType = some .int) (hlk : meth.locks = false) (hK : va_K D vwCl [(cI, .int), (cZ, .boolean)] s) (hT : stC t (aC a) s s.heap) :
    ∀ (n : Nat) (x1 x2 : Int32) (σ : SS) (q : Int32 × SS), b_CA_greatestNeed_4 n x1 x2 σ = some q → ∀ (H : Heap) (locs : List Loc), va_P D vwCl ((wC a cI cZ) σ) H → va_S (aC a) s.heap H locs → ∀ (ls : Array Slot), lv_has ls 3 [(0, .ref (a 3)), (1, .int x1), (2, .int x2)] → W p l e { frames := 1, cells := 0, slots := 0, locals := 21 } s m args below meth c H locs 0 0 (MQ below (va_Qi (fun r u => r = q.1 ∧ u = q.2) (pW D (wC a cI cZ) [(cI, .int), (cZ, .boolean)] (stC t) (aC a)) (aC a)) args s 0 0 (aC a)) (F0 m 4 ls []) := by
  obtain ⟨hx, hb, hml, hown, hg⟩ := id F
  intro n
  induction n with
  | zero =>
    intro x1 x2 σ q hf
    rw [b_CA_greatestNeed_4] at hf
    cases hf
  | succ n ih =>
    intro x1 x2 σ q hf H locs hP hS ls hl
    rw [b_CA_greatestNeed_4] at hf
    refine lv_iload_n hx hb d_CA_greatestNeed_4 rfl (lv_at hl 2 rfl) ?_
    refine lv_aload_n hx hb d_CA_greatestNeed_5 rfl (lv_at hl 0 rfl) ?_
    refine va_get (D := D) (ci := 3) (v := .ref (a 1)) (C := R_CA) (T := T_CA) (N := 9) hx hb hg in_CA hown hK hP 3 rfl rfl 0 (by decide) (hg _ gw_75) (fun _ h9 => h9) rfl d_CA_greatestNeed_6 ?_
    refine bdK hf (fun q1 h2 hf => ?_)
    refine rc_Vi (As := []) (rest := [.int x2]) (b := a 1) (stC_g t) F (c_RC_count l ha σ q1 h2) (cwV 0 hg gc_CA_43 rfl rfl rfl hs_RC_count ⟨Nat.le_of_ble_eq_true rfl, Nat.le_of_ble_eq_true rfl⟩) hK hT hP hS (va_recv hK hP (ci := 1) (q0 := 1) rfl rfl) rfl hl.1 rfl (Nat.le_of_ble_eq_true rfl) d_CA_greatestNeed_9 ⟨Nat.zero_le _, Nat.zero_le _⟩ (fun H locs hP hS => ?_)
    refine lv_icmp_ge (tgt := 32) hx hb d_CA_greatestNeed_12 (by decide) (fun c3 => ?_) (fun c3 => ?_)
    · replace hf := (if_pos c3).symm.trans hf
      refine lv_iload_n hx hb d_CA_greatestNeed_32 rfl (lv_at hl 1 rfl) ?_
      exact rr_i hx hb hr hlk (stC_g t) hK hT hP hS hf d_CA_greatestNeed_33
    · replace hf := (if_neg c3).symm.trans hf
      refine lv_iload_n hx hb d_CA_greatestNeed_15 rfl (lv_at hl 1 rfl) ?_
      refine lv_aload_n hx hb d_CA_greatestNeed_16 rfl (lv_at hl 0 rfl) ?_
      refine va_get (D := D) (ci := 3) (v := .ref (a 19)) (C := R_CA) (T := T_CA) (N := 9) hx hb hg in_CA hown hK hP 3 rfl rfl 6 (by decide) (hg _ gw_81) (fun _ h9 => h9) rfl d_CA_greatestNeed_17 ?_
      refine lv_iload_n hx hb d_CA_greatestNeed_20 rfl (lv_at hl 2 rfl) ?_
      refine bdK hf (fun v4 h5 hf => ?_)
      refine r_iald hx hb hK hP 19 0 rfl rfl h5 d_CA_greatestNeed_21 ?_
      refine va_mmax hx hb (hml.trans hl.1.symm) hown (hg _ gw_343) (hg _ gw_344) (hg _ gw_8) (hg _ gw_345) (Nat.le_of_ble_eq_true rfl) (Nat.le_of_ble_eq_true rfl) (Nat.zero_le _) (Nat.zero_le _) d_CA_greatestNeed_22 ?_
      refine lv_istore_n (lv' := [(1, .int (if x1 < v4 then v4 else x1)), (0, .ref (a 3)), (2, .int x2)]) hx hb d_CA_greatestNeed_25 rfl hl (by decide) rfl (fun ls hl => ?_)
      refine lv_iinc (v := (x2 + (1 : Int32))) (lv' := [(2, .int (x2 + (1 : Int32))), (1, .int (if x1 < v4 then v4 else x1)), (0, .ref (a 3))]) hx hb d_CA_greatestNeed_26 hl (k := 2) rfl (by rfl) (by decide) rfl (fun ls hl => ?_)
      refine lv_goto (tgt := 4) hx hb d_CA_greatestNeed_29 (by decide) ?_
      exact ih (if x1 < v4 then v4 else x1) (x2 + (1 : Int32)) q1.2 q hf _ _ hP hS ls (lv_sub hl [2, 1, 0] rfl)
def f_CA_greatestNeed (σ : SS) : Option (Int32 × SS) :=
  b_CA_greatestNeed_4 FU (0 : Int32) (0 : Int32) σ
set_option maxHeartbeats 4000000 in
set_option maxRecDepth 100000 in
theorem e_CA_greatestNeed {p : Program} {l : Launch} {e : Env} {s : State} {m : MethodId} {args : Array Value} {below : List Frame} {meth : Method} {c : Code} {D : va_G} {a t : Nat → Nat} {cI cZ : ClassId} (ha : aCC a) (F : CallFix p m c b_CA_greatestNeed 3 s args gt R_CA) (hr : meth.sig.returnType = some .int) (hlk : meth.locks = false) (hK : va_K D vwCl [(cI, .int), (cZ, .boolean)] s) (hT : stC t (aC a) s s.heap) :
    ∀ (σ : SS) (q : Int32 × SS), f_CA_greatestNeed σ = some q → ∀ (H : Heap) (locs : List Loc), va_P D vwCl ((wC a cI cZ) σ) H → va_S (aC a) s.heap H locs → ∀ (ls : Array Slot), lv_has ls 3 [(0, .ref (a 3))] → W p l e { frames := 1, cells := 0, slots := 0, locals := 21 } s m args below meth c H locs 0 0 (MQ below (va_Qi (fun r u => r = q.1 ∧ u = q.2) (pW D (wC a cI cZ) [(cI, .int), (cZ, .boolean)] (stC t) (aC a)) (aC a)) args s 0 0 (aC a)) (F0 m 0 ls []) := by
  obtain ⟨hx, hb, hml, hown, hg⟩ := id F
  intro σ q hf H locs hP hS ls hl
  unfold f_CA_greatestNeed at hf
  refine lv_iconst (v := (0 : Int32)) hx hb d_CA_greatestNeed_0 (by decide) ?_
  refine lv_istore_n (lv' := [(1, .int (0 : Int32)), (0, .ref (a 3))]) hx hb d_CA_greatestNeed_1 rfl hl (by decide) rfl (fun ls hl => ?_)
  refine lv_iconst (v := (0 : Int32)) hx hb d_CA_greatestNeed_2 (by decide) ?_
  refine lv_istore_n (lv' := [(2, .int (0 : Int32)), (1, .int (0 : Int32)), (0, .ref (a 3))]) hx hb d_CA_greatestNeed_3 rfl hl (by decide) rfl (fun ls hl => ?_)
  exact k_CA_greatestNeed_4 ha F hr hlk hK hT FU (0 : Int32) (0 : Int32) σ q hf _ _ hP hS ls (lv_sub hl [2, 1, 0] rfl)
set_option maxHeartbeats 4000000 in
set_option maxRecDepth 100000 in
theorem c_CA_greatestNeed (l : Launch) {D : va_G} {a t : Nat → Nat} {cI cZ : ClassId} (ha : aCC a) (σ : SS) (q : Int32 × SS) (hf : f_CA_greatestNeed σ = some q) : Met l y_CA_greatestNeed ws_CA_greatestNeed { frames := 1, cells := 0, slots := 0, locals := 21 } (va_Pc [.ref (a 3)] (pW D (wC a cI cZ) [(cI, .int), (cZ, .boolean)] (stC t) (aC a) σ)) (va_Qi (fun r u => r = q.1 ∧ u = q.2) (pW D (wC a cI cZ) [(cI, .int), (cZ, .boolean)] (stC t) (aC a)) (aC a)) 0 0 (aC a) := by
  refine Met.ofW (cc := b_CA_greatestNeed) (maxL := 3) (ret := some .int) (by decide) rfl ?_
  intro p e s m args below meth c s₁ B hml hv
  obtain ⟨rfl, hP, hK, hT⟩ := hv
  have hl := lv_entry ([.ref (a 3)]) (n := 3) (Nat.le_of_ble_eq_true rfl)
  rw [lg_entry_eq]
  generalize (lg_sl ([.ref (a 3)]) ++ List.replicate (3 - (lg_sl ([.ref (a 3)])).length) Slot.unset).toArray = ls at hl ⊢
  exact e_CA_greatestNeed ha ⟨B.exec, B.bytes, hml, findClass_of_methodNamed B.named, fun w h => atoms_spec (ws := ws_CA_greatestNeed) B.pre w (List.mem_cons_of_mem _ h)⟩ B.returns B.notSynchronized hK hT σ q hf s.heap [] hP va_S.rf ls hl
theorem d_SC_depth_0 : decode b_SC_depth 0 = .ok (.aload_n 0, 1) := by decide +kernel
theorem d_SC_depth_1 : decode b_SC_depth 1 = .ok (.invokevirtual 74, 3) := by decide +kernel
theorem d_SC_depth_4 : decode b_SC_depth 4 = .ok (.aload_n 0, 1) := by decide +kernel
theorem d_SC_depth_5 : decode b_SC_depth 5 = .ok (.getfield 30, 3) := by decide +kernel
theorem d_SC_depth_8 : decode b_SC_depth 8 = .ok (.invokevirtual 97, 3) := by decide +kernel
theorem d_SC_depth_11 : decode b_SC_depth 11 = .ok (.ireturn, 1) := by decide +kernel
theorem gc_SC_97 : GoodIn gt (wsV R_SC 97 R_CA y_CA_greatestNeed ws_CA_greatestNeed) := gd_V gw_482 gw_483 gw_484 gw_4 gw_485
def f_SC_depth (σ : SS) : Option (Int32 × SS) :=
  (f_SC_translate σ).bind fun σ1 => (f_CA_greatestNeed σ1).bind fun q3 => some (q3.1, q3.2)
set_option maxHeartbeats 4000000 in
set_option maxRecDepth 100000 in
theorem e_SC_depth {p : Program} {l : Launch} {e : Env} {s : State} {m : MethodId} {args : Array Value} {below : List Frame} {meth : Method} {c : Code} {D : va_G} {a t : Nat → Nat} {cI cZ : ClassId} (ha : aCC a) (F : CallFix p m c b_SC_depth 1 s args gt R_SC) (hr : meth.sig.returnType = some .int) (hlk : meth.locks = false) (hK : va_K D vwCl [(cI, .int), (cZ, .boolean)] s) (hT : stC t (aC a) s s.heap) :
    ∀ (σ : SS) (q : Int32 × SS), f_SC_depth σ = some q → ∀ (H : Heap) (locs : List Loc), va_P D vwCl ((wC a cI cZ) σ) H → va_S (aC a) s.heap H locs → ∀ (ls : Array Slot), lv_has ls 1 [(0, .ref (a 0))] → W p l e { frames := 6, cells := 0, slots := 0, locals := 136 } s m args below meth c H locs 0 0 (MQ below (va_Qi (fun r u => r = q.1 ∧ u = q.2) (pW D (wC a cI cZ) [(cI, .int), (cZ, .boolean)] (stC t) (aC a)) (aC a)) args s 0 0 (aC a)) (F0 m 0 ls []) := by
  obtain ⟨hx, hb, hml, hown, hg⟩ := id F
  intro σ q hf H locs hP hS ls hl
  unfold f_SC_depth at hf
  refine lv_aload_n hx hb d_SC_depth_0 rfl (lv_at hl 0 rfl) ?_
  refine bdK hf (fun σ1 h2 hf => ?_)
  refine rc_Vv (As := []) (rest := []) (b := a 0) (stC_g t) F (c_SC_translate l ha σ σ1 h2) (cwV 0 hg gc_SC_74 rfl rfl rfl hs_SC_translate ⟨Nat.le_of_ble_eq_true rfl, Nat.le_of_ble_eq_true rfl⟩) hK hT hP hS (va_recv hK hP (ci := 0) (q0 := 0) rfl rfl) rfl hl.1 rfl (Nat.le_of_ble_eq_true rfl) d_SC_depth_1 ⟨Nat.zero_le _, Nat.zero_le _⟩ (fun H locs hP hS => ?_)
  refine lv_aload_n hx hb d_SC_depth_4 rfl (lv_at hl 0 rfl) ?_
  refine va_get (D := D) (ci := 0) (v := .ref (a 3)) (C := R_SC) (T := T_SC) (N := 6) hx hb hg in_SC hown hK hP 0 rfl rfl 2 (by decide) (hg _ gw_167) (fun _ h9 => h9) rfl d_SC_depth_5 ?_
  refine bdK hf (fun q3 h4 hf => ?_)
  refine rc_Vi (As := []) (rest := []) (b := a 3) (stC_g t) F (c_CA_greatestNeed l ha σ1 q3 h4) (cwV 0 hg gc_SC_97 rfl rfl rfl hs_CA_greatestNeed ⟨Nat.le_of_ble_eq_true rfl, Nat.le_of_ble_eq_true rfl⟩) hK hT hP hS (va_recv hK hP (ci := 3) (q0 := 3) rfl rfl) rfl hl.1 rfl (Nat.le_of_ble_eq_true rfl) d_SC_depth_8 ⟨Nat.zero_le _, Nat.zero_le _⟩ (fun H locs hP hS => ?_)
  exact rr_i hx hb hr hlk (stC_g t) hK hT hP hS hf d_SC_depth_11
set_option maxHeartbeats 4000000 in
set_option maxRecDepth 100000 in
theorem c_SC_depth (l : Launch) {D : va_G} {a t : Nat → Nat} {cI cZ : ClassId} (ha : aCC a) (σ : SS) (q : Int32 × SS) (hf : f_SC_depth σ = some q) : Met l y_SC_depth ws_SC_depth { frames := 6, cells := 0, slots := 0, locals := 136 } (va_Pc [.ref (a 0)] (pW D (wC a cI cZ) [(cI, .int), (cZ, .boolean)] (stC t) (aC a) σ)) (va_Qi (fun r u => r = q.1 ∧ u = q.2) (pW D (wC a cI cZ) [(cI, .int), (cZ, .boolean)] (stC t) (aC a)) (aC a)) 0 0 (aC a) := by
  refine Met.ofW (cc := b_SC_depth) (maxL := 1) (ret := some .int) (by decide) rfl ?_
  intro p e s m args below meth c s₁ B hml hv
  obtain ⟨rfl, hP, hK, hT⟩ := hv
  have hl := lv_entry ([.ref (a 0)]) (n := 1) (Nat.le_of_ble_eq_true rfl)
  rw [lg_entry_eq]
  generalize (lg_sl ([.ref (a 0)]) ++ List.replicate (1 - (lg_sl ([.ref (a 0)])).length) Slot.unset).toArray = ls at hl ⊢
  exact e_SC_depth ha ⟨B.exec, B.bytes, hml, findClass_of_methodNamed B.named, fun w h => atoms_spec (ws := ws_SC_depth) B.pre w (List.mem_cons_of_mem _ h)⟩ B.returns B.notSynchronized hK hT σ q hf s.heap [] hP va_S.rf ls hl
theorem d_MA_reset_0 : decode b_MA_reset 0 = .ok (.iconst 0, 1) := by decide +kernel
theorem d_MA_reset_1 : decode b_MA_reset 1 = .ok (.istore_n 1, 1) := by decide +kernel
theorem d_MA_reset_2 : decode b_MA_reset 2 = .ok (.iload_n 1, 1) := by decide +kernel
theorem d_MA_reset_3 : decode b_MA_reset 3 = .ok (.bipush 10, 2) := by decide +kernel
theorem d_MA_reset_5 : decode b_MA_reset 5 = .ok (.if_icmp .ge 16, 3) := by decide +kernel
theorem d_MA_reset_8 : decode b_MA_reset 8 = .ok (.aload_n 0, 1) := by decide +kernel
theorem d_MA_reset_9 : decode b_MA_reset 9 = .ok (.getfield 9, 3) := by decide +kernel
theorem d_MA_reset_12 : decode b_MA_reset 12 = .ok (.iload_n 1, 1) := by decide +kernel
theorem d_MA_reset_13 : decode b_MA_reset 13 = .ok (.iconst 0, 1) := by decide +kernel
theorem d_MA_reset_14 : decode b_MA_reset 14 = .ok (.iastore, 1) := by decide +kernel
theorem d_MA_reset_15 : decode b_MA_reset 15 = .ok (.iinc 1 1, 3) := by decide +kernel
theorem d_MA_reset_18 : decode b_MA_reset 18 = .ok (.goto (-16), 3) := by decide +kernel
theorem d_MA_reset_21 : decode b_MA_reset 21 = .ok (.iconst 0, 1) := by decide +kernel
theorem d_MA_reset_22 : decode b_MA_reset 22 = .ok (.istore_n 1, 1) := by decide +kernel
theorem d_MA_reset_23 : decode b_MA_reset 23 = .ok (.iload_n 1, 1) := by decide +kernel
theorem d_MA_reset_24 : decode b_MA_reset 24 = .ok (.bipush 16, 2) := by decide +kernel
theorem d_MA_reset_26 : decode b_MA_reset 26 = .ok (.if_icmp .ge 16, 3) := by decide +kernel
theorem d_MA_reset_29 : decode b_MA_reset 29 = .ok (.aload_n 0, 1) := by decide +kernel
theorem d_MA_reset_30 : decode b_MA_reset 30 = .ok (.getfield 15, 3) := by decide +kernel
theorem d_MA_reset_33 : decode b_MA_reset 33 = .ok (.iload_n 1, 1) := by decide +kernel
theorem d_MA_reset_34 : decode b_MA_reset 34 = .ok (.iconst 0, 1) := by decide +kernel
theorem d_MA_reset_35 : decode b_MA_reset 35 = .ok (.iastore, 1) := by decide +kernel
theorem d_MA_reset_36 : decode b_MA_reset 36 = .ok (.iinc 1 1, 3) := by decide +kernel
theorem d_MA_reset_39 : decode b_MA_reset 39 = .ok (.goto (-16), 3) := by decide +kernel
theorem d_MA_reset_42 : decode b_MA_reset 42 = .ok (.aload_n 0, 1) := by decide +kernel
theorem d_MA_reset_43 : decode b_MA_reset 43 = .ok (.iconst 0, 1) := by decide +kernel
theorem d_MA_reset_44 : decode b_MA_reset 44 = .ok (.putfield 58, 3) := by decide +kernel
theorem d_MA_reset_47 : decode b_MA_reset 47 = .ok (.aload_n 0, 1) := by decide +kernel
theorem d_MA_reset_48 : decode b_MA_reset 48 = .ok (.iconst 0, 1) := by decide +kernel
theorem d_MA_reset_49 : decode b_MA_reset 49 = .ok (.putfield 41, 3) := by decide +kernel
theorem d_MA_reset_52 : decode b_MA_reset 52 = .ok (.return_, 1) := by decide +kernel
def b_MA_reset_23 : Nat → Int32 → SS → Option (SS)
  | 0, _, _ => none
  | n + 1, x1, σ =>
    (if (16 : Int32) ≤ x1 then (sf σ 29 (0 : Int32)).bind fun σ2 => (sf σ2 30 (0 : Int32)).bind fun σ4 => some σ4 else (sto σ 21 16 x1 (0 : Int32)).bind fun σ6 => b_MA_reset_23 n (x1 + (1 : Int32)) σ6)
set_option maxHeartbeats 4000000 in
set_option maxRecDepth 100000 in
theorem k_MA_reset_23 {p : Program} {l : Launch} {e : Env} {s : State} {m : MethodId} {args : Array Value} {below : List Frame} {meth : Method} {c : Code} {D : va_G} {a t : Nat → Nat} {cI cZ : ClassId} (ha : aCC a) (F : CallFix p m c b_MA_reset 2 s args gt R_MA) (hr : meth.sig.returnType = none) (hlk : meth.locks = false) (hK : va_K D vwCl [(cI, .int), (cZ, .boolean)] s) (hT : stC t (aC a) s s.heap) :
    ∀ (n : Nat) (x1 : Int32) (σ : SS) (q : SS), b_MA_reset_23 n x1 σ = some q → ∀ (H : Heap) (locs : List Loc), va_P D vwCl ((wC a cI cZ) σ) H → va_S (aC a) s.heap H locs → ∀ (ls : Array Slot), lv_has ls 2 [(0, .ref (a 5)), (1, .int x1)] → W p l e { frames := 0, cells := 0, slots := 0, locals := 0 } s m args below meth c H locs 0 0 (MQ below (va_Qv (fun u => u = q) (pW D (wC a cI cZ) [(cI, .int), (cZ, .boolean)] (stC t) (aC a)) (aC a)) args s 0 0 (aC a)) (F0 m 23 ls []) := by
  obtain ⟨hx, hb, hml, hown, hg⟩ := id F
  intro n
  induction n with
  | zero =>
    intro x1 σ q hf
    rw [b_MA_reset_23] at hf
    cases hf
  | succ n ih =>
    intro x1 σ q hf H locs hP hS ls hl
    rw [b_MA_reset_23] at hf
    refine lv_iload_n hx hb d_MA_reset_23 rfl (lv_at hl 1 rfl) ?_
    refine lv_bipush (v := (16 : Int32)) hx hb d_MA_reset_24 (by decide) ?_
    refine lv_icmp_ge (tgt := 42) hx hb d_MA_reset_26 (by decide) (fun c1 => ?_) (fun c1 => ?_)
    · replace hf := (if_pos c1).symm.trans hf
      refine lv_aload_n hx hb d_MA_reset_42 rfl (lv_at hl 0 rfl) ?_
      refine lv_iconst (v := (0 : Int32)) hx hb d_MA_reset_43 (by decide) ?_
      refine bdK hf (fun σ2 h3 hf => ?_)
      refine va_put (D := D) (ci := 5) (v := .int (0 : Int32)) (ty := .int) (C := R_MA) (T := T_MA) (N := 7) hx hb hg in_MA t_MA t_MA_ok n_MA hown hK hP (dC ha σ) hS 5 rfl rfl 4 (by decide) (hg _ gw_147) (fun _ h9 => h9) rfl (by decide +kernel) rfl rfl (Nat.le_of_ble_eq_true rfl) d_MA_reset_44 (fun H locs hP _ hS => ?_)
      replace hP := sf_P (wf := (wC a cI cZ)) h3 hP rfl
      refine lv_aload_n hx hb d_MA_reset_47 rfl (lv_at hl 0 rfl) ?_
      refine lv_iconst (v := (0 : Int32)) hx hb d_MA_reset_48 (by decide) ?_
      refine bdK hf (fun σ4 h5 hf => ?_)
      refine va_put (D := D) (ci := 5) (v := .int (0 : Int32)) (ty := .int) (C := R_MA) (T := T_MA) (N := 7) hx hb hg in_MA t_MA t_MA_ok n_MA hown hK hP (dC ha σ2) hS 5 rfl rfl 5 (by decide) (hg _ gw_148) (fun _ h9 => h9) rfl (by decide +kernel) rfl rfl (Nat.le_of_ble_eq_true rfl) d_MA_reset_49 (fun H locs hP _ hS => ?_)
      replace hP := sf_P (wf := (wC a cI cZ)) h5 hP rfl
      exact rr_v hx hb hr hlk (stC_g t) hK hT hP hS hf d_MA_reset_52
    · replace hf := (if_neg c1).symm.trans hf
      refine lv_aload_n hx hb d_MA_reset_29 rfl (lv_at hl 0 rfl) ?_
      refine va_get (D := D) (ci := 5) (v := .ref (a 27)) (C := R_MA) (T := T_MA) (N := 7) hx hb hg in_MA hown hK hP 5 rfl rfl 1 (by decide) (hg _ gw_144) (fun _ h9 => h9) rfl d_MA_reset_30 ?_
      refine lv_iload_n hx hb d_MA_reset_33 rfl (lv_at hl 1 rfl) ?_
      refine lv_iconst (v := (0 : Int32)) hx hb d_MA_reset_34 (by decide) ?_
      refine bdK hf (fun σ6 h7 hf => ?_)
      refine r_iast (wf := (wC a cI cZ)) hx hb hK hP (dC ha σ) hS 27 0 rfl rfl (fun _ _ => rfl) h7 d_MA_reset_35 (fun H locs hP hS => ?_)
      refine lv_iinc (v := (x1 + (1 : Int32))) (lv' := [(1, .int (x1 + (1 : Int32))), (0, .ref (a 5))]) hx hb d_MA_reset_36 hl (k := 1) rfl (by rfl) (by decide) rfl (fun ls hl => ?_)
      refine lv_goto (tgt := 23) hx hb d_MA_reset_39 (by decide) ?_
      exact ih (x1 + (1 : Int32)) σ6 q hf _ _ hP hS ls (lv_sub hl [1, 0] rfl)
def b_MA_reset_2 : Nat → Int32 → SS → Option (SS)
  | 0, _, _ => none
  | n + 1, x1, σ =>
    (if (10 : Int32) ≤ x1 then b_MA_reset_23 FU (0 : Int32) σ else (sto σ 20 10 x1 (0 : Int32)).bind fun σ2 => b_MA_reset_2 n (x1 + (1 : Int32)) σ2)
set_option maxHeartbeats 4000000 in
set_option maxRecDepth 100000 in
theorem k_MA_reset_2 {p : Program} {l : Launch} {e : Env} {s : State} {m : MethodId} {args : Array Value} {below : List Frame} {meth : Method} {c : Code} {D : va_G} {a t : Nat → Nat} {cI cZ : ClassId} (ha : aCC a) (F : CallFix p m c b_MA_reset 2 s args gt R_MA) (hr : meth.sig.returnType = none) (hlk : meth.locks = false) (hK : va_K D vwCl [(cI, .int), (cZ, .boolean)] s) (hT : stC t (aC a) s s.heap) :
    ∀ (n : Nat) (x1 : Int32) (σ : SS) (q : SS), b_MA_reset_2 n x1 σ = some q → ∀ (H : Heap) (locs : List Loc), va_P D vwCl ((wC a cI cZ) σ) H → va_S (aC a) s.heap H locs → ∀ (ls : Array Slot), lv_has ls 2 [(0, .ref (a 5)), (1, .int x1)] → W p l e { frames := 0, cells := 0, slots := 0, locals := 0 } s m args below meth c H locs 0 0 (MQ below (va_Qv (fun u => u = q) (pW D (wC a cI cZ) [(cI, .int), (cZ, .boolean)] (stC t) (aC a)) (aC a)) args s 0 0 (aC a)) (F0 m 2 ls []) := by
  obtain ⟨hx, hb, hml, hown, hg⟩ := id F
  intro n
  induction n with
  | zero =>
    intro x1 σ q hf
    rw [b_MA_reset_2] at hf
    cases hf
  | succ n ih =>
    intro x1 σ q hf H locs hP hS ls hl
    rw [b_MA_reset_2] at hf
    refine lv_iload_n hx hb d_MA_reset_2 rfl (lv_at hl 1 rfl) ?_
    refine lv_bipush (v := (10 : Int32)) hx hb d_MA_reset_3 (by decide) ?_
    refine lv_icmp_ge (tgt := 21) hx hb d_MA_reset_5 (by decide) (fun c1 => ?_) (fun c1 => ?_)
    · replace hf := (if_pos c1).symm.trans hf
      refine lv_iconst (v := (0 : Int32)) hx hb d_MA_reset_21 (by decide) ?_
      refine lv_istore_n (lv' := [(1, .int (0 : Int32)), (0, .ref (a 5))]) hx hb d_MA_reset_22 rfl hl (by decide) rfl (fun ls hl => ?_)
      exact k_MA_reset_23 ha F hr hlk hK hT FU (0 : Int32) σ q hf _ _ hP hS ls (lv_sub hl [1, 0] rfl)
    · replace hf := (if_neg c1).symm.trans hf
      refine lv_aload_n hx hb d_MA_reset_8 rfl (lv_at hl 0 rfl) ?_
      refine va_get (D := D) (ci := 5) (v := .ref (a 26)) (C := R_MA) (T := T_MA) (N := 7) hx hb hg in_MA hown hK hP 5 rfl rfl 0 (by decide) (hg _ gw_143) (fun _ h9 => h9) rfl d_MA_reset_9 ?_
      refine lv_iload_n hx hb d_MA_reset_12 rfl (lv_at hl 1 rfl) ?_
      refine lv_iconst (v := (0 : Int32)) hx hb d_MA_reset_13 (by decide) ?_
      refine bdK hf (fun σ2 h3 hf => ?_)
      refine r_iast (wf := (wC a cI cZ)) hx hb hK hP (dC ha σ) hS 26 0 rfl rfl (fun _ _ => rfl) h3 d_MA_reset_14 (fun H locs hP hS => ?_)
      refine lv_iinc (v := (x1 + (1 : Int32))) (lv' := [(1, .int (x1 + (1 : Int32))), (0, .ref (a 5))]) hx hb d_MA_reset_15 hl (k := 1) rfl (by rfl) (by decide) rfl (fun ls hl => ?_)
      refine lv_goto (tgt := 2) hx hb d_MA_reset_18 (by decide) ?_
      exact ih (x1 + (1 : Int32)) σ2 q hf _ _ hP hS ls (lv_sub hl [1, 0] rfl)
def f_MA_reset (σ : SS) : Option (SS) :=
  b_MA_reset_2 FU (0 : Int32) σ
set_option maxHeartbeats 4000000 in
set_option maxRecDepth 100000 in
theorem e_MA_reset {p : Program} {l : Launch} {e : Env} {s : State} {m : MethodId} {args : Array Value} {below : List Frame} {meth : Method} {c : Code} {D : va_G} {a t : Nat → Nat} {cI cZ : ClassId} (ha : aCC a) (F : CallFix p m c b_MA_reset 2 s args gt R_MA) (hr : meth.sig.returnType = none) (hlk : meth.locks = false) (hK : va_K D vwCl [(cI, .int), (cZ, .boolean)] s) (hT : stC t (aC a) s s.heap) :
    ∀ (σ : SS) (q : SS), f_MA_reset σ = some q → ∀ (H : Heap) (locs : List Loc), va_P D vwCl ((wC a cI cZ) σ) H → va_S (aC a) s.heap H locs → ∀ (ls : Array Slot), lv_has ls 2 [(0, .ref (a 5))] → W p l e { frames := 0, cells := 0, slots := 0, locals := 0 } s m args below meth c H locs 0 0 (MQ below (va_Qv (fun u => u = q) (pW D (wC a cI cZ) [(cI, .int), (cZ, .boolean)] (stC t) (aC a)) (aC a)) args s 0 0 (aC a)) (F0 m 0 ls []) := by
  obtain ⟨hx, hb, hml, hown, hg⟩ := id F
  intro σ q hf H locs hP hS ls hl
  unfold f_MA_reset at hf
  refine lv_iconst (v := (0 : Int32)) hx hb d_MA_reset_0 (by decide) ?_
  refine lv_istore_n (lv' := [(1, .int (0 : Int32)), (0, .ref (a 5))]) hx hb d_MA_reset_1 rfl hl (by decide) rfl (fun ls hl => ?_)
  exact k_MA_reset_2 ha F hr hlk hK hT FU (0 : Int32) σ q hf _ _ hP hS ls (lv_sub hl [1, 0] rfl)
set_option maxHeartbeats 4000000 in
set_option maxRecDepth 100000 in
theorem c_MA_reset (l : Launch) {D : va_G} {a t : Nat → Nat} {cI cZ : ClassId} (ha : aCC a) (σ : SS) (q : SS) (hf : f_MA_reset σ = some q) : Met l y_MA_reset ws_MA_reset { frames := 0, cells := 0, slots := 0, locals := 0 } (va_Pc [.ref (a 5)] (pW D (wC a cI cZ) [(cI, .int), (cZ, .boolean)] (stC t) (aC a) σ)) (va_Qv (fun u => u = q) (pW D (wC a cI cZ) [(cI, .int), (cZ, .boolean)] (stC t) (aC a)) (aC a)) 0 0 (aC a) := by
  refine Met.ofW (cc := b_MA_reset) (maxL := 2) (ret := none) (by decide) rfl ?_
  intro p e s m args below meth c s₁ B hml hv
  obtain ⟨rfl, hP, hK, hT⟩ := hv
  have hl := lv_entry ([.ref (a 5)]) (n := 2) (Nat.le_of_ble_eq_true rfl)
  rw [lg_entry_eq]
  generalize (lg_sl ([.ref (a 5)]) ++ List.replicate (2 - (lg_sl ([.ref (a 5)])).length) Slot.unset).toArray = ls at hl ⊢
  exact e_MA_reset ha ⟨B.exec, B.bytes, hml, findClass_of_methodNamed B.named, fun w h => atoms_spec (ws := ws_MA_reset) B.pre w (List.mem_cons_of_mem _ h)⟩ B.returns B.notSynchronized hK hT σ q hf s.heap [] hP va_S.rf ls hl
theorem d_MA_cellIndex_0 : decode b_MA_cellIndex 0 = .ok (.iload_n 0, 1) := by decide +kernel
theorem d_MA_cellIndex_1 : decode b_MA_cellIndex 1 = .ok (.bipush 15, 2) := by decide +kernel
theorem d_MA_cellIndex_3 : decode b_MA_cellIndex 3 = .ok (.iand, 1) := by decide +kernel
theorem d_MA_cellIndex_4 : decode b_MA_cellIndex 4 = .ok (.ireturn, 1) := by decide +kernel
def f_MA_cellIndex (x0 : Int32) (σ : SS) : Option (Int32 × SS) :=
  some ((x0 &&& (15 : Int32)), σ)
set_option maxHeartbeats 4000000 in
set_option maxRecDepth 100000 in
theorem e_MA_cellIndex {p : Program} {l : Launch} {e : Env} {s : State} {m : MethodId} {args : Array Value} {below : List Frame} {meth : Method} {c : Code} {D : va_G} {a t : Nat → Nat} {cI cZ : ClassId} (ha : aCC a) (F : CallFix p m c b_MA_cellIndex 1 s args gt R_MA) (hr : meth.sig.returnType = some .int) (hlk : meth.locks = false) (hK : va_K D vwCl [(cI, .int), (cZ, .boolean)] s) (hT : stC t (aC a) s s.heap) :
    ∀ (x0 : Int32) (σ : SS) (q : Int32 × SS), f_MA_cellIndex x0 σ = some q → ∀ (H : Heap) (locs : List Loc), va_P D vwCl ((wC a cI cZ) σ) H → va_S (aC a) s.heap H locs → ∀ (ls : Array Slot), lv_has ls 1 [(0, .int x0)] → W p l e { frames := 0, cells := 0, slots := 0, locals := 0 } s m args below meth c H locs 0 0 (MQ below (va_Qi (fun r u => r = q.1 ∧ u = q.2) (pW D (wC a cI cZ) [(cI, .int), (cZ, .boolean)] (stC t) (aC a)) (aC a)) args s 0 0 (aC a)) (F0 m 0 ls []) := by
  obtain ⟨hx, hb, hml, hown, hg⟩ := id F
  intro x0 σ q hf H locs hP hS ls hl
  unfold f_MA_cellIndex at hf
  refine lv_iload_n hx hb d_MA_cellIndex_0 rfl (lv_at hl 0 rfl) ?_
  refine lv_bipush (v := (15 : Int32)) hx hb d_MA_cellIndex_1 (by decide) ?_
  refine lv_iand hx hb d_MA_cellIndex_3 ?_
  exact rr_i hx hb hr hlk (stC_g t) hK hT hP hS hf d_MA_cellIndex_4
set_option maxHeartbeats 4000000 in
set_option maxRecDepth 100000 in
theorem c_MA_cellIndex (l : Launch) {D : va_G} {a t : Nat → Nat} {cI cZ : ClassId} (ha : aCC a) (x0 : Int32) (σ : SS) (q : Int32 × SS) (hf : f_MA_cellIndex x0 σ = some q) : Met l y_MA_cellIndex ws_MA_cellIndex { frames := 0, cells := 0, slots := 0, locals := 0 } (va_Pc [.int x0] (pW D (wC a cI cZ) [(cI, .int), (cZ, .boolean)] (stC t) (aC a) σ)) (va_Qi (fun r u => r = q.1 ∧ u = q.2) (pW D (wC a cI cZ) [(cI, .int), (cZ, .boolean)] (stC t) (aC a)) (aC a)) 0 0 (aC a) := by
  refine Met.ofW (cc := b_MA_cellIndex) (maxL := 1) (ret := some .int) (by decide) rfl ?_
  intro p e s m args below meth c s₁ B hml hv
  obtain ⟨rfl, hP, hK, hT⟩ := hv
  have hl := lv_entry ([.int x0]) (n := 1) (Nat.le_of_ble_eq_true rfl)
  rw [lg_entry_eq]
  generalize (lg_sl ([.int x0]) ++ List.replicate (1 - (lg_sl ([.int x0])).length) Slot.unset).toArray = ls at hl ⊢
  exact e_MA_cellIndex ha ⟨B.exec, B.bytes, hml, findClass_of_methodNamed B.named, fun w h => atoms_spec (ws := ws_MA_cellIndex) B.pre w (List.mem_cons_of_mem _ h)⟩ B.returns B.notSynchronized hK hT x0 σ q hf s.heap [] hP va_S.rf ls hl
theorem d_MA_print_0 : decode b_MA_print 0 = .ok (.aload_n 0, 1) := by decide +kernel
theorem d_MA_print_1 : decode b_MA_print 1 = .ok (.getfield 41, 3) := by decide +kernel
theorem d_MA_print_4 : decode b_MA_print 4 = .ok (.bipush 40, 2) := by decide +kernel
theorem d_MA_print_6 : decode b_MA_print 6 = .ok (.if_icmp .ge 13, 3) := by decide +kernel
theorem d_MA_print_9 : decode b_MA_print 9 = .ok (.aload_n 0, 1) := by decide +kernel
theorem d_MA_print_10 : decode b_MA_print 10 = .ok (.getfield 18, 3) := by decide +kernel
theorem d_MA_print_13 : decode b_MA_print 13 = .ok (.aload_n 0, 1) := by decide +kernel
theorem d_MA_print_14 : decode b_MA_print 14 = .ok (.getfield 41, 3) := by decide +kernel
theorem d_MA_print_17 : decode b_MA_print 17 = .ok (.iload_n 1, 1) := by decide +kernel
theorem d_MA_print_18 : decode b_MA_print 18 = .ok (.iastore, 1) := by decide +kernel
theorem d_MA_print_19 : decode b_MA_print 19 = .ok (.aload_n 0, 1) := by decide +kernel
theorem d_MA_print_20 : decode b_MA_print 20 = .ok (.dup, 1) := by decide +kernel
theorem d_MA_print_21 : decode b_MA_print 21 = .ok (.getfield 41, 3) := by decide +kernel
theorem d_MA_print_24 : decode b_MA_print 24 = .ok (.iconst 1, 1) := by decide +kernel
theorem d_MA_print_25 : decode b_MA_print 25 = .ok (.iadd, 1) := by decide +kernel
theorem d_MA_print_26 : decode b_MA_print 26 = .ok (.putfield 41, 3) := by decide +kernel
theorem d_MA_print_29 : decode b_MA_print 29 = .ok (.return_, 1) := by decide +kernel
def f_MA_print (x1 : Int32) (σ : SS) : Option (SS) :=
  (if (40 : Int32) ≤ (σ 30 0) then (sf σ 30 ((σ 30 0) + (1 : Int32))).bind fun σ2 => some σ2 else (sto σ 22 40 (σ 30 0) x1).bind fun σ4 => (sf σ4 30 ((σ4 30 0) + (1 : Int32))).bind fun σ6 => some σ6)
set_option maxHeartbeats 4000000 in
set_option maxRecDepth 100000 in
theorem e_MA_print {p : Program} {l : Launch} {e : Env} {s : State} {m : MethodId} {args : Array Value} {below : List Frame} {meth : Method} {c : Code} {D : va_G} {a t : Nat → Nat} {cI cZ : ClassId} (ha : aCC a) (F : CallFix p m c b_MA_print 2 s args gt R_MA) (hr : meth.sig.returnType = none) (hlk : meth.locks = false) (hK : va_K D vwCl [(cI, .int), (cZ, .boolean)] s) (hT : stC t (aC a) s s.heap) :
    ∀ (x1 : Int32) (σ : SS) (q : SS), f_MA_print x1 σ = some q → ∀ (H : Heap) (locs : List Loc), va_P D vwCl ((wC a cI cZ) σ) H → va_S (aC a) s.heap H locs → ∀ (ls : Array Slot), lv_has ls 2 [(0, .ref (a 5)), (1, .int x1)] → W p l e { frames := 0, cells := 0, slots := 0, locals := 0 } s m args below meth c H locs 0 0 (MQ below (va_Qv (fun u => u = q) (pW D (wC a cI cZ) [(cI, .int), (cZ, .boolean)] (stC t) (aC a)) (aC a)) args s 0 0 (aC a)) (F0 m 0 ls []) := by
  obtain ⟨hx, hb, hml, hown, hg⟩ := id F
  intro x1 σ q hf H locs hP hS ls hl
  unfold f_MA_print at hf
  refine lv_aload_n hx hb d_MA_print_0 rfl (lv_at hl 0 rfl) ?_
  refine va_get (D := D) (ci := 5) (v := .int (σ 30 0)) (C := R_MA) (T := T_MA) (N := 7) hx hb hg in_MA hown hK hP 5 rfl rfl 5 (by decide) (hg _ gw_148) (fun _ h9 => h9) rfl d_MA_print_1 ?_
  refine lv_bipush (v := (40 : Int32)) hx hb d_MA_print_4 (by decide) ?_
  refine lv_icmp_ge (tgt := 19) hx hb d_MA_print_6 (by decide) (fun c1 => ?_) (fun c1 => ?_)
  · replace hf := (if_pos c1).symm.trans hf
    refine lv_aload_n hx hb d_MA_print_19 rfl (lv_at hl 0 rfl) ?_
    refine lv_dup hx hb d_MA_print_20 rfl ?_
    refine va_get (D := D) (ci := 5) (v := .int (σ 30 0)) (C := R_MA) (T := T_MA) (N := 7) hx hb hg in_MA hown hK hP 5 rfl rfl 5 (by decide) (hg _ gw_148) (fun _ h9 => h9) rfl d_MA_print_21 ?_
    refine lv_iconst (v := (1 : Int32)) hx hb d_MA_print_24 (by decide) ?_
    refine lv_iadd hx hb d_MA_print_25 ?_
    refine bdK hf (fun σ2 h3 hf => ?_)
    refine va_put (D := D) (ci := 5) (v := .int ((σ 30 0) + (1 : Int32))) (ty := .int) (C := R_MA) (T := T_MA) (N := 7) hx hb hg in_MA t_MA t_MA_ok n_MA hown hK hP (dC ha σ) hS 5 rfl rfl 5 (by decide) (hg _ gw_148) (fun _ h9 => h9) rfl (by decide +kernel) rfl rfl (Nat.le_of_ble_eq_true rfl) d_MA_print_26 (fun H locs hP _ hS => ?_)
    replace hP := sf_P (wf := (wC a cI cZ)) h3 hP rfl
    exact rr_v hx hb hr hlk (stC_g t) hK hT hP hS hf d_MA_print_29
  · replace hf := (if_neg c1).symm.trans hf
    refine lv_aload_n hx hb d_MA_print_9 rfl (lv_at hl 0 rfl) ?_
    refine va_get (D := D) (ci := 5) (v := .ref (a 28)) (C := R_MA) (T := T_MA) (N := 7) hx hb hg in_MA hown hK hP 5 rfl rfl 2 (by decide) (hg _ gw_145) (fun _ h9 => h9) rfl d_MA_print_10 ?_
    refine lv_aload_n hx hb d_MA_print_13 rfl (lv_at hl 0 rfl) ?_
    refine va_get (D := D) (ci := 5) (v := .int (σ 30 0)) (C := R_MA) (T := T_MA) (N := 7) hx hb hg in_MA hown hK hP 5 rfl rfl 5 (by decide) (hg _ gw_148) (fun _ h9 => h9) rfl d_MA_print_14 ?_
    refine lv_iload_n hx hb d_MA_print_17 rfl (lv_at hl 1 rfl) ?_
    refine bdK hf (fun σ4 h5 hf => ?_)
    refine r_iast (wf := (wC a cI cZ)) hx hb hK hP (dC ha σ) hS 28 0 rfl rfl (fun _ _ => rfl) h5 d_MA_print_18 (fun H locs hP hS => ?_)
    refine lv_aload_n hx hb d_MA_print_19 rfl (lv_at hl 0 rfl) ?_
    refine lv_dup hx hb d_MA_print_20 rfl ?_
    refine va_get (D := D) (ci := 5) (v := .int (σ4 30 0)) (C := R_MA) (T := T_MA) (N := 7) hx hb hg in_MA hown hK hP 5 rfl rfl 5 (by decide) (hg _ gw_148) (fun _ h9 => h9) rfl d_MA_print_21 ?_
    refine lv_iconst (v := (1 : Int32)) hx hb d_MA_print_24 (by decide) ?_
    refine lv_iadd hx hb d_MA_print_25 ?_
    refine bdK hf (fun σ6 h7 hf => ?_)
    refine va_put (D := D) (ci := 5) (v := .int ((σ4 30 0) + (1 : Int32))) (ty := .int) (C := R_MA) (T := T_MA) (N := 7) hx hb hg in_MA t_MA t_MA_ok n_MA hown hK hP (dC ha σ4) hS 5 rfl rfl 5 (by decide) (hg _ gw_148) (fun _ h9 => h9) rfl (by decide +kernel) rfl rfl (Nat.le_of_ble_eq_true rfl) d_MA_print_26 (fun H locs hP _ hS => ?_)
    replace hP := sf_P (wf := (wC a cI cZ)) h7 hP rfl
    exact rr_v hx hb hr hlk (stC_g t) hK hT hP hS hf d_MA_print_29
set_option maxHeartbeats 4000000 in
set_option maxRecDepth 100000 in
theorem c_MA_print (l : Launch) {D : va_G} {a t : Nat → Nat} {cI cZ : ClassId} (ha : aCC a) (x1 : Int32) (σ : SS) (q : SS) (hf : f_MA_print x1 σ = some q) : Met l y_MA_print ws_MA_print { frames := 0, cells := 0, slots := 0, locals := 0 } (va_Pc [.ref (a 5), .int x1] (pW D (wC a cI cZ) [(cI, .int), (cZ, .boolean)] (stC t) (aC a) σ)) (va_Qv (fun u => u = q) (pW D (wC a cI cZ) [(cI, .int), (cZ, .boolean)] (stC t) (aC a)) (aC a)) 0 0 (aC a) := by
  refine Met.ofW (cc := b_MA_print) (maxL := 2) (ret := none) (by decide) rfl ?_
  intro p e s m args below meth c s₁ B hml hv
  obtain ⟨rfl, hP, hK, hT⟩ := hv
  have hl := lv_entry ([.ref (a 5), .int x1]) (n := 2) (Nat.le_of_ble_eq_true rfl)
  rw [lg_entry_eq]
  generalize (lg_sl ([.ref (a 5), .int x1]) ++ List.replicate (2 - (lg_sl ([.ref (a 5), .int x1])).length) Slot.unset).toArray = ls at hl ⊢
  exact e_MA_print ha ⟨B.exec, B.bytes, hml, findClass_of_methodNamed B.named, fun w h => atoms_spec (ws := ws_MA_print) B.pre w (List.mem_cons_of_mem _ h)⟩ B.returns B.notSynchronized hK hT x1 σ q hf s.heap [] hP va_S.rf ls hl
theorem d_RC_dOf_0 : decode b_RC_dOf 0 = .ok (.aload_n 0, 1) := by decide +kernel
theorem d_RC_dOf_1 : decode b_RC_dOf 1 = .ok (.getfield 15, 3) := by decide +kernel
theorem d_RC_dOf_4 : decode b_RC_dOf 4 = .ok (.iload_n 1, 1) := by decide +kernel
theorem d_RC_dOf_5 : decode b_RC_dOf 5 = .ok (.iaload, 1) := by decide +kernel
theorem d_RC_dOf_6 : decode b_RC_dOf 6 = .ok (.ireturn, 1) := by decide +kernel
def f_RC_dOf (x1 : Int32) (σ : SS) : Option (Int32 × SS) :=
  (ld (σ 1) 40 x1).bind fun v1 => some (v1, σ)
set_option maxHeartbeats 4000000 in
set_option maxRecDepth 100000 in
theorem e_RC_dOf {p : Program} {l : Launch} {e : Env} {s : State} {m : MethodId} {args : Array Value} {below : List Frame} {meth : Method} {c : Code} {D : va_G} {a t : Nat → Nat} {cI cZ : ClassId} (ha : aCC a) (F : CallFix p m c b_RC_dOf 2 s args gt R_RC) (hr : meth.sig.returnType = some .int) (hlk : meth.locks = false) (hK : va_K D vwCl [(cI, .int), (cZ, .boolean)] s) (hT : stC t (aC a) s s.heap) :
    ∀ (x1 : Int32) (σ : SS) (q : Int32 × SS), f_RC_dOf x1 σ = some q → ∀ (H : Heap) (locs : List Loc), va_P D vwCl ((wC a cI cZ) σ) H → va_S (aC a) s.heap H locs → ∀ (ls : Array Slot), lv_has ls 2 [(0, .ref (a 1)), (1, .int x1)] → W p l e { frames := 0, cells := 0, slots := 0, locals := 0 } s m args below meth c H locs 0 0 (MQ below (va_Qi (fun r u => r = q.1 ∧ u = q.2) (pW D (wC a cI cZ) [(cI, .int), (cZ, .boolean)] (stC t) (aC a)) (aC a)) args s 0 0 (aC a)) (F0 m 0 ls []) := by
  obtain ⟨hx, hb, hml, hown, hg⟩ := id F
  intro x1 σ q hf H locs hP hS ls hl
  unfold f_RC_dOf at hf
  refine lv_aload_n hx hb d_RC_dOf_0 rfl (lv_at hl 0 rfl) ?_
  refine va_get (D := D) (ci := 1) (v := .ref (a 7)) (C := R_RC) (T := T_RC) (N := 8) hx hb hg in_RC hown hK hP 1 rfl rfl 1 (by decide) (hg _ gw_24) (fun _ h9 => h9) rfl d_RC_dOf_1 ?_
  refine lv_iload_n hx hb d_RC_dOf_4 rfl (lv_at hl 1 rfl) ?_
  refine bdK hf (fun v1 h2 hf => ?_)
  refine r_iald hx hb hK hP 7 0 rfl rfl h2 d_RC_dOf_5 ?_
  exact rr_i hx hb hr hlk (stC_g t) hK hT hP hS hf d_RC_dOf_6
set_option maxHeartbeats 4000000 in
set_option maxRecDepth 100000 in
theorem c_RC_dOf (l : Launch) {D : va_G} {a t : Nat → Nat} {cI cZ : ClassId} (ha : aCC a) (x1 : Int32) (σ : SS) (q : Int32 × SS) (hf : f_RC_dOf x1 σ = some q) : Met l y_RC_dOf ws_RC_dOf { frames := 0, cells := 0, slots := 0, locals := 0 } (va_Pc [.ref (a 1), .int x1] (pW D (wC a cI cZ) [(cI, .int), (cZ, .boolean)] (stC t) (aC a) σ)) (va_Qi (fun r u => r = q.1 ∧ u = q.2) (pW D (wC a cI cZ) [(cI, .int), (cZ, .boolean)] (stC t) (aC a)) (aC a)) 0 0 (aC a) := by
  refine Met.ofW (cc := b_RC_dOf) (maxL := 2) (ret := some .int) (by decide) rfl ?_
  intro p e s m args below meth c s₁ B hml hv
  obtain ⟨rfl, hP, hK, hT⟩ := hv
  have hl := lv_entry ([.ref (a 1), .int x1]) (n := 2) (Nat.le_of_ble_eq_true rfl)
  rw [lg_entry_eq]
  generalize (lg_sl ([.ref (a 1), .int x1]) ++ List.replicate (2 - (lg_sl ([.ref (a 1), .int x1])).length) Slot.unset).toArray = ls at hl ⊢
  exact e_RC_dOf ha ⟨B.exec, B.bytes, hml, findClass_of_methodNamed B.named, fun w h => atoms_spec (ws := ws_RC_dOf) B.pre w (List.mem_cons_of_mem _ h)⟩ B.returns B.notSynchronized hK hT x1 σ q hf s.heap [] hP va_S.rf ls hl
theorem d_MA_valueOf_0 : decode b_MA_valueOf 0 = .ok (.iload_n 1, 1) := by decide +kernel
theorem d_MA_valueOf_1 : decode b_MA_valueOf 1 = .ok (.tableswitch 130 0 6 #[43, 45, 52, 66, 80, 94, 115], 43) := by decide +kernel
theorem d_MA_valueOf_44 : decode b_MA_valueOf 44 = .ok (.iload_n 2, 1) := by decide +kernel
theorem d_MA_valueOf_45 : decode b_MA_valueOf 45 = .ok (.ireturn, 1) := by decide +kernel
theorem d_MA_valueOf_46 : decode b_MA_valueOf 46 = .ok (.aload_n 0, 1) := by decide +kernel
theorem d_MA_valueOf_47 : decode b_MA_valueOf 47 = .ok (.getfield 9, 3) := by decide +kernel
theorem d_MA_valueOf_50 : decode b_MA_valueOf 50 = .ok (.iload_n 2, 1) := by decide +kernel
theorem d_MA_valueOf_51 : decode b_MA_valueOf 51 = .ok (.iaload, 1) := by decide +kernel
theorem d_MA_valueOf_52 : decode b_MA_valueOf 52 = .ok (.ireturn, 1) := by decide +kernel
theorem d_MA_valueOf_53 : decode b_MA_valueOf 53 = .ok (.aload_n 0, 1) := by decide +kernel
theorem d_MA_valueOf_54 : decode b_MA_valueOf 54 = .ok (.getfield 9, 3) := by decide +kernel
theorem d_MA_valueOf_57 : decode b_MA_valueOf 57 = .ok (.iload_n 2, 1) := by decide +kernel
theorem d_MA_valueOf_58 : decode b_MA_valueOf 58 = .ok (.iaload, 1) := by decide +kernel
theorem d_MA_valueOf_59 : decode b_MA_valueOf 59 = .ok (.aload_n 0, 1) := by decide +kernel
theorem d_MA_valueOf_60 : decode b_MA_valueOf 60 = .ok (.getfield 9, 3) := by decide +kernel
theorem d_MA_valueOf_63 : decode b_MA_valueOf 63 = .ok (.iload_n 3, 1) := by decide +kernel
theorem d_MA_valueOf_64 : decode b_MA_valueOf 64 = .ok (.iaload, 1) := by decide +kernel
theorem d_MA_valueOf_65 : decode b_MA_valueOf 65 = .ok (.iadd, 1) := by decide +kernel
theorem d_MA_valueOf_66 : decode b_MA_valueOf 66 = .ok (.ireturn, 1) := by decide +kernel
theorem d_MA_valueOf_67 : decode b_MA_valueOf 67 = .ok (.aload_n 0, 1) := by decide +kernel
theorem d_MA_valueOf_68 : decode b_MA_valueOf 68 = .ok (.getfield 9, 3) := by decide +kernel
theorem d_MA_valueOf_71 : decode b_MA_valueOf 71 = .ok (.iload_n 2, 1) := by decide +kernel
theorem d_MA_valueOf_72 : decode b_MA_valueOf 72 = .ok (.iaload, 1) := by decide +kernel
theorem d_MA_valueOf_73 : decode b_MA_valueOf 73 = .ok (.aload_n 0, 1) := by decide +kernel
theorem d_MA_valueOf_74 : decode b_MA_valueOf 74 = .ok (.getfield 9, 3) := by decide +kernel
theorem d_MA_valueOf_77 : decode b_MA_valueOf 77 = .ok (.iload_n 3, 1) := by decide +kernel
theorem d_MA_valueOf_78 : decode b_MA_valueOf 78 = .ok (.iaload, 1) := by decide +kernel
theorem d_MA_valueOf_79 : decode b_MA_valueOf 79 = .ok (.isub, 1) := by decide +kernel
theorem d_MA_valueOf_80 : decode b_MA_valueOf 80 = .ok (.ireturn, 1) := by decide +kernel
theorem d_MA_valueOf_81 : decode b_MA_valueOf 81 = .ok (.aload_n 0, 1) := by decide +kernel
theorem d_MA_valueOf_82 : decode b_MA_valueOf 82 = .ok (.getfield 9, 3) := by decide +kernel
theorem d_MA_valueOf_85 : decode b_MA_valueOf 85 = .ok (.iload_n 2, 1) := by decide +kernel
theorem d_MA_valueOf_86 : decode b_MA_valueOf 86 = .ok (.iaload, 1) := by decide +kernel
theorem d_MA_valueOf_87 : decode b_MA_valueOf 87 = .ok (.aload_n 0, 1) := by decide +kernel
theorem d_MA_valueOf_88 : decode b_MA_valueOf 88 = .ok (.getfield 9, 3) := by decide +kernel
theorem d_MA_valueOf_91 : decode b_MA_valueOf 91 = .ok (.iload_n 3, 1) := by decide +kernel
theorem d_MA_valueOf_92 : decode b_MA_valueOf 92 = .ok (.iaload, 1) := by decide +kernel
theorem d_MA_valueOf_93 : decode b_MA_valueOf 93 = .ok (.imul, 1) := by decide +kernel
theorem d_MA_valueOf_94 : decode b_MA_valueOf 94 = .ok (.ireturn, 1) := by decide +kernel
theorem d_MA_valueOf_95 : decode b_MA_valueOf 95 = .ok (.aload_n 0, 1) := by decide +kernel
theorem d_MA_valueOf_96 : decode b_MA_valueOf 96 = .ok (.getfield 9, 3) := by decide +kernel
theorem d_MA_valueOf_99 : decode b_MA_valueOf 99 = .ok (.iload_n 2, 1) := by decide +kernel
theorem d_MA_valueOf_100 : decode b_MA_valueOf 100 = .ok (.iaload, 1) := by decide +kernel
theorem d_MA_valueOf_101 : decode b_MA_valueOf 101 = .ok (.aload_n 0, 1) := by decide +kernel
theorem d_MA_valueOf_102 : decode b_MA_valueOf 102 = .ok (.getfield 9, 3) := by decide +kernel
theorem d_MA_valueOf_105 : decode b_MA_valueOf 105 = .ok (.iload_n 3, 1) := by decide +kernel
theorem d_MA_valueOf_106 : decode b_MA_valueOf 106 = .ok (.iaload, 1) := by decide +kernel
theorem d_MA_valueOf_107 : decode b_MA_valueOf 107 = .ok (.if_icmp .ge 7, 3) := by decide +kernel
theorem d_MA_valueOf_110 : decode b_MA_valueOf 110 = .ok (.iconst 1, 1) := by decide +kernel
theorem d_MA_valueOf_111 : decode b_MA_valueOf 111 = .ok (.goto 4, 3) := by decide +kernel
theorem d_MA_valueOf_114 : decode b_MA_valueOf 114 = .ok (.iconst 0, 1) := by decide +kernel
theorem d_MA_valueOf_115 : decode b_MA_valueOf 115 = .ok (.ireturn, 1) := by decide +kernel
theorem d_MA_valueOf_116 : decode b_MA_valueOf 116 = .ok (.aload_n 0, 1) := by decide +kernel
theorem d_MA_valueOf_117 : decode b_MA_valueOf 117 = .ok (.getfield 15, 3) := by decide +kernel
theorem d_MA_valueOf_120 : decode b_MA_valueOf 120 = .ok (.aload_n 0, 1) := by decide +kernel
theorem d_MA_valueOf_121 : decode b_MA_valueOf 121 = .ok (.getfield 9, 3) := by decide +kernel
theorem d_MA_valueOf_124 : decode b_MA_valueOf 124 = .ok (.iload_n 2, 1) := by decide +kernel
theorem d_MA_valueOf_125 : decode b_MA_valueOf 125 = .ok (.iaload, 1) := by decide +kernel
theorem d_MA_valueOf_126 : decode b_MA_valueOf 126 = .ok (.invokestatic 70, 3) := by decide +kernel
theorem d_MA_valueOf_129 : decode b_MA_valueOf 129 = .ok (.iaload, 1) := by decide +kernel
theorem d_MA_valueOf_130 : decode b_MA_valueOf 130 = .ok (.ireturn, 1) := by decide +kernel
theorem d_MA_valueOf_131 : decode b_MA_valueOf 131 = .ok (.iconst 0, 1) := by decide +kernel
theorem d_MA_valueOf_132 : decode b_MA_valueOf 132 = .ok (.ireturn, 1) := by decide +kernel
theorem gc_MA_70 : GoodIn gt (wsS R_MA 70 y_MA_cellIndex ws_MA_cellIndex) := gd_S gw_506 gw_507 gw_6 gw_508
def f_MA_valueOf (x1 x2 x3 : Int32) (σ : SS) : Option (Int32 × SS) :=
  (if x1 = (0 : Int32) then some (x2, σ) else (if x1 = (1 : Int32) then (ld (σ 20) 10 x2).bind fun v8 => some (v8, σ) else (if x1 = (2 : Int32) then (ld (σ 20) 10 x2).bind fun v10 => (ld (σ 20) 10 x3).bind fun v12 => some ((v10 + v12), σ) else (if x1 = (3 : Int32) then (ld (σ 20) 10 x2).bind fun v14 => (ld (σ 20) 10 x3).bind fun v16 => some ((v14 - v16), σ) else (if x1 = (4 : Int32) then (ld (σ 20) 10 x2).bind fun v18 => (ld (σ 20) 10 x3).bind fun v20 => some ((v18 * v20), σ) else (if x1 = (5 : Int32) then (ld (σ 20) 10 x2).bind fun v22 => (ld (σ 20) 10 x3).bind fun v24 => (if v24 ≤ v22 then some ((0 : Int32), σ) else some ((1 : Int32), σ)) else (if x1 = (6 : Int32) then (ld (σ 20) 10 x2).bind fun v27 => (f_MA_cellIndex v27 σ).bind fun q29 => (ld (q29.2 21) 16 q29.1).bind fun v31 => some (v31, q29.2) else some ((0 : Int32), σ))))))))
set_option maxHeartbeats 4000000 in
set_option maxRecDepth 100000 in
theorem e_MA_valueOf {p : Program} {l : Launch} {e : Env} {s : State} {m : MethodId} {args : Array Value} {below : List Frame} {meth : Method} {c : Code} {D : va_G} {a t : Nat → Nat} {cI cZ : ClassId} (ha : aCC a) (F : CallFix p m c b_MA_valueOf 4 s args gt R_MA) (hr : meth.sig.returnType = some .int) (hlk : meth.locks = false) (hK : va_K D vwCl [(cI, .int), (cZ, .boolean)] s) (hT : stC t (aC a) s s.heap) :
    ∀ (x1 x2 x3 : Int32) (σ : SS) (q : Int32 × SS), f_MA_valueOf x1 x2 x3 σ = some q → ∀ (H : Heap) (locs : List Loc), va_P D vwCl ((wC a cI cZ) σ) H → va_S (aC a) s.heap H locs → ∀ (ls : Array Slot), lv_has ls 4 [(0, .ref (a 5)), (1, .int x1), (2, .int x2), (3, .int x3)] → W p l e { frames := 1, cells := 0, slots := 0, locals := 20 } s m args below meth c H locs 0 0 (MQ below (va_Qi (fun r u => r = q.1 ∧ u = q.2) (pW D (wC a cI cZ) [(cI, .int), (cZ, .boolean)] (stC t) (aC a)) (aC a)) args s 0 0 (aC a)) (F0 m 0 ls []) := by
  obtain ⟨hx, hb, hml, hown, hg⟩ := id F
  intro x1 x2 x3 σ q hf H locs hP hS ls hl
  unfold f_MA_valueOf at hf
  refine lv_iload_n hx hb d_MA_valueOf_0 rfl (lv_at hl 1 rfl) ?_
  by_cases c1 : x1 = (0 : Int32)
  · replace hf := (if_pos c1).symm.trans hf
    refine lv_tableIn (off := 43) (tgt := 44) hx hb d_MA_valueOf_1 (by rw [c1]; decide) (by rw [c1]; decide) (by rw [c1]; rfl) (by decide) ?_
    refine lv_iload_n hx hb d_MA_valueOf_44 rfl (lv_at hl 2 rfl) ?_
    exact rr_i hx hb hr hlk (stC_g t) hK hT hP hS hf d_MA_valueOf_45
  · replace hf := (if_neg c1).symm.trans hf
    by_cases c2 : x1 = (1 : Int32)
    · replace hf := (if_pos c2).symm.trans hf
      refine lv_tableIn (off := 45) (tgt := 46) hx hb d_MA_valueOf_1 (by rw [c2]; decide) (by rw [c2]; decide) (by rw [c2]; rfl) (by decide) ?_
      refine lv_aload_n hx hb d_MA_valueOf_46 rfl (lv_at hl 0 rfl) ?_
      refine va_get (D := D) (ci := 5) (v := .ref (a 26)) (C := R_MA) (T := T_MA) (N := 7) hx hb hg in_MA hown hK hP 5 rfl rfl 0 (by decide) (hg _ gw_143) (fun _ h9 => h9) rfl d_MA_valueOf_47 ?_
      refine lv_iload_n hx hb d_MA_valueOf_50 rfl (lv_at hl 2 rfl) ?_
      refine bdK hf (fun v8 h9 hf => ?_)
      refine r_iald hx hb hK hP 26 0 rfl rfl h9 d_MA_valueOf_51 ?_
      exact rr_i hx hb hr hlk (stC_g t) hK hT hP hS hf d_MA_valueOf_52
    · replace hf := (if_neg c2).symm.trans hf
      by_cases c3 : x1 = (2 : Int32)
      · replace hf := (if_pos c3).symm.trans hf
        refine lv_tableIn (off := 52) (tgt := 53) hx hb d_MA_valueOf_1 (by rw [c3]; decide) (by rw [c3]; decide) (by rw [c3]; rfl) (by decide) ?_
        refine lv_aload_n hx hb d_MA_valueOf_53 rfl (lv_at hl 0 rfl) ?_
        refine va_get (D := D) (ci := 5) (v := .ref (a 26)) (C := R_MA) (T := T_MA) (N := 7) hx hb hg in_MA hown hK hP 5 rfl rfl 0 (by decide) (hg _ gw_143) (fun _ h9 => h9) rfl d_MA_valueOf_54 ?_
        refine lv_iload_n hx hb d_MA_valueOf_57 rfl (lv_at hl 2 rfl) ?_
        refine bdK hf (fun v10 h11 hf => ?_)
        refine r_iald hx hb hK hP 26 0 rfl rfl h11 d_MA_valueOf_58 ?_
        refine lv_aload_n hx hb d_MA_valueOf_59 rfl (lv_at hl 0 rfl) ?_
        refine va_get (D := D) (ci := 5) (v := .ref (a 26)) (C := R_MA) (T := T_MA) (N := 7) hx hb hg in_MA hown hK hP 5 rfl rfl 0 (by decide) (hg _ gw_143) (fun _ h9 => h9) rfl d_MA_valueOf_60 ?_
        refine lv_iload_n hx hb d_MA_valueOf_63 rfl (lv_at hl 3 rfl) ?_
        refine bdK hf (fun v12 h13 hf => ?_)
        refine r_iald hx hb hK hP 26 0 rfl rfl h13 d_MA_valueOf_64 ?_
        refine lv_iadd hx hb d_MA_valueOf_65 ?_
        exact rr_i hx hb hr hlk (stC_g t) hK hT hP hS hf d_MA_valueOf_66
      · replace hf := (if_neg c3).symm.trans hf
        by_cases c4 : x1 = (3 : Int32)
        · replace hf := (if_pos c4).symm.trans hf
          refine lv_tableIn (off := 66) (tgt := 67) hx hb d_MA_valueOf_1 (by rw [c4]; decide) (by rw [c4]; decide) (by rw [c4]; rfl) (by decide) ?_
          refine lv_aload_n hx hb d_MA_valueOf_67 rfl (lv_at hl 0 rfl) ?_
          refine va_get (D := D) (ci := 5) (v := .ref (a 26)) (C := R_MA) (T := T_MA) (N := 7) hx hb hg in_MA hown hK hP 5 rfl rfl 0 (by decide) (hg _ gw_143) (fun _ h9 => h9) rfl d_MA_valueOf_68 ?_
          refine lv_iload_n hx hb d_MA_valueOf_71 rfl (lv_at hl 2 rfl) ?_
          refine bdK hf (fun v14 h15 hf => ?_)
          refine r_iald hx hb hK hP 26 0 rfl rfl h15 d_MA_valueOf_72 ?_
          refine lv_aload_n hx hb d_MA_valueOf_73 rfl (lv_at hl 0 rfl) ?_
          refine va_get (D := D) (ci := 5) (v := .ref (a 26)) (C := R_MA) (T := T_MA) (N := 7) hx hb hg in_MA hown hK hP 5 rfl rfl 0 (by decide) (hg _ gw_143) (fun _ h9 => h9) rfl d_MA_valueOf_74 ?_
          refine lv_iload_n hx hb d_MA_valueOf_77 rfl (lv_at hl 3 rfl) ?_
          refine bdK hf (fun v16 h17 hf => ?_)
          refine r_iald hx hb hK hP 26 0 rfl rfl h17 d_MA_valueOf_78 ?_
          refine lv_isub hx hb d_MA_valueOf_79 ?_
          exact rr_i hx hb hr hlk (stC_g t) hK hT hP hS hf d_MA_valueOf_80
        · replace hf := (if_neg c4).symm.trans hf
          by_cases c5 : x1 = (4 : Int32)
          · replace hf := (if_pos c5).symm.trans hf
            refine lv_tableIn (off := 80) (tgt := 81) hx hb d_MA_valueOf_1 (by rw [c5]; decide) (by rw [c5]; decide) (by rw [c5]; rfl) (by decide) ?_
            refine lv_aload_n hx hb d_MA_valueOf_81 rfl (lv_at hl 0 rfl) ?_
            refine va_get (D := D) (ci := 5) (v := .ref (a 26)) (C := R_MA) (T := T_MA) (N := 7) hx hb hg in_MA hown hK hP 5 rfl rfl 0 (by decide) (hg _ gw_143) (fun _ h9 => h9) rfl d_MA_valueOf_82 ?_
            refine lv_iload_n hx hb d_MA_valueOf_85 rfl (lv_at hl 2 rfl) ?_
            refine bdK hf (fun v18 h19 hf => ?_)
            refine r_iald hx hb hK hP 26 0 rfl rfl h19 d_MA_valueOf_86 ?_
            refine lv_aload_n hx hb d_MA_valueOf_87 rfl (lv_at hl 0 rfl) ?_
            refine va_get (D := D) (ci := 5) (v := .ref (a 26)) (C := R_MA) (T := T_MA) (N := 7) hx hb hg in_MA hown hK hP 5 rfl rfl 0 (by decide) (hg _ gw_143) (fun _ h9 => h9) rfl d_MA_valueOf_88 ?_
            refine lv_iload_n hx hb d_MA_valueOf_91 rfl (lv_at hl 3 rfl) ?_
            refine bdK hf (fun v20 h21 hf => ?_)
            refine r_iald hx hb hK hP 26 0 rfl rfl h21 d_MA_valueOf_92 ?_
            refine lv_imul hx hb d_MA_valueOf_93 ?_
            exact rr_i hx hb hr hlk (stC_g t) hK hT hP hS hf d_MA_valueOf_94
          · replace hf := (if_neg c5).symm.trans hf
            by_cases c6 : x1 = (5 : Int32)
            · replace hf := (if_pos c6).symm.trans hf
              refine lv_tableIn (off := 94) (tgt := 95) hx hb d_MA_valueOf_1 (by rw [c6]; decide) (by rw [c6]; decide) (by rw [c6]; rfl) (by decide) ?_
              refine lv_aload_n hx hb d_MA_valueOf_95 rfl (lv_at hl 0 rfl) ?_
              refine va_get (D := D) (ci := 5) (v := .ref (a 26)) (C := R_MA) (T := T_MA) (N := 7) hx hb hg in_MA hown hK hP 5 rfl rfl 0 (by decide) (hg _ gw_143) (fun _ h9 => h9) rfl d_MA_valueOf_96 ?_
              refine lv_iload_n hx hb d_MA_valueOf_99 rfl (lv_at hl 2 rfl) ?_
              refine bdK hf (fun v22 h23 hf => ?_)
              refine r_iald hx hb hK hP 26 0 rfl rfl h23 d_MA_valueOf_100 ?_
              refine lv_aload_n hx hb d_MA_valueOf_101 rfl (lv_at hl 0 rfl) ?_
              refine va_get (D := D) (ci := 5) (v := .ref (a 26)) (C := R_MA) (T := T_MA) (N := 7) hx hb hg in_MA hown hK hP 5 rfl rfl 0 (by decide) (hg _ gw_143) (fun _ h9 => h9) rfl d_MA_valueOf_102 ?_
              refine lv_iload_n hx hb d_MA_valueOf_105 rfl (lv_at hl 3 rfl) ?_
              refine bdK hf (fun v24 h25 hf => ?_)
              refine r_iald hx hb hK hP 26 0 rfl rfl h25 d_MA_valueOf_106 ?_
              refine lv_icmp_ge (tgt := 114) hx hb d_MA_valueOf_107 (by decide) (fun c26 => ?_) (fun c26 => ?_)
              · replace hf := (if_pos c26).symm.trans hf
                refine lv_iconst (v := (0 : Int32)) hx hb d_MA_valueOf_114 (by decide) ?_
                exact rr_i hx hb hr hlk (stC_g t) hK hT hP hS hf d_MA_valueOf_115
              · replace hf := (if_neg c26).symm.trans hf
                refine lv_iconst (v := (1 : Int32)) hx hb d_MA_valueOf_110 (by decide) ?_
                refine lv_goto (tgt := 115) hx hb d_MA_valueOf_111 (by decide) ?_
                exact rr_i hx hb hr hlk (stC_g t) hK hT hP hS hf d_MA_valueOf_115
            · replace hf := (if_neg c6).symm.trans hf
              by_cases c7 : x1 = (6 : Int32)
              · replace hf := (if_pos c7).symm.trans hf
                refine lv_tableIn (off := 115) (tgt := 116) hx hb d_MA_valueOf_1 (by rw [c7]; decide) (by rw [c7]; decide) (by rw [c7]; rfl) (by decide) ?_
                refine lv_aload_n hx hb d_MA_valueOf_116 rfl (lv_at hl 0 rfl) ?_
                refine va_get (D := D) (ci := 5) (v := .ref (a 27)) (C := R_MA) (T := T_MA) (N := 7) hx hb hg in_MA hown hK hP 5 rfl rfl 1 (by decide) (hg _ gw_144) (fun _ h9 => h9) rfl d_MA_valueOf_117 ?_
                refine lv_aload_n hx hb d_MA_valueOf_120 rfl (lv_at hl 0 rfl) ?_
                refine va_get (D := D) (ci := 5) (v := .ref (a 26)) (C := R_MA) (T := T_MA) (N := 7) hx hb hg in_MA hown hK hP 5 rfl rfl 0 (by decide) (hg _ gw_143) (fun _ h9 => h9) rfl d_MA_valueOf_121 ?_
                refine lv_iload_n hx hb d_MA_valueOf_124 rfl (lv_at hl 2 rfl) ?_
                refine bdK hf (fun v27 h28 hf => ?_)
                refine r_iald hx hb hK hP 26 0 rfl rfl h28 d_MA_valueOf_125 ?_
                refine bdK hf (fun q29 h30 hf => ?_)
                refine rc_Si (As := [.int v27]) (rest := [.ref (a 27)]) (stC_g t) F (c_MA_cellIndex l ha v27 σ q29 h30) (cwS 1 hg gc_MA_70 rfl rfl rfl hs_MA_cellIndex ⟨Nat.le_of_ble_eq_true rfl, Nat.le_of_ble_eq_true rfl⟩) hK hT hP hS rfl hl.1 rfl (Nat.le_of_ble_eq_true rfl) d_MA_valueOf_126 ⟨Nat.zero_le _, Nat.zero_le _⟩ (fun H locs hP hS => ?_)
                refine bdK hf (fun v31 h32 hf => ?_)
                refine r_iald hx hb hK hP 27 0 rfl rfl h32 d_MA_valueOf_129 ?_
                exact rr_i hx hb hr hlk (stC_g t) hK hT hP hS hf d_MA_valueOf_130
              · replace hf := (if_neg c7).symm.trans hf
                have nc1 := lv_neT (a := 0) c1 (by decide)
                have nc2 := lv_neT (a := 1) c2 (by decide)
                have nc3 := lv_neT (a := 2) c3 (by decide)
                have nc4 := lv_neT (a := 3) c4 (by decide)
                have nc5 := lv_neT (a := 4) c5 (by decide)
                have nc6 := lv_neT (a := 5) c6 (by decide)
                have nc7 := lv_neT (a := 6) c7 (by decide)
                refine lv_tableOut (tgt := 131) hx hb d_MA_valueOf_1 (by omega) (by decide) ?_
                refine lv_iconst (v := (0 : Int32)) hx hb d_MA_valueOf_131 (by decide) ?_
                exact rr_i hx hb hr hlk (stC_g t) hK hT hP hS hf d_MA_valueOf_132
set_option maxHeartbeats 4000000 in
set_option maxRecDepth 100000 in
theorem c_MA_valueOf (l : Launch) {D : va_G} {a t : Nat → Nat} {cI cZ : ClassId} (ha : aCC a) (x1 x2 x3 : Int32) (σ : SS) (q : Int32 × SS) (hf : f_MA_valueOf x1 x2 x3 σ = some q) : Met l y_MA_valueOf ws_MA_valueOf { frames := 1, cells := 0, slots := 0, locals := 20 } (va_Pc [.ref (a 5), .int x1, .int x2, .int x3] (pW D (wC a cI cZ) [(cI, .int), (cZ, .boolean)] (stC t) (aC a) σ)) (va_Qi (fun r u => r = q.1 ∧ u = q.2) (pW D (wC a cI cZ) [(cI, .int), (cZ, .boolean)] (stC t) (aC a)) (aC a)) 0 0 (aC a) := by
  refine Met.ofW (cc := b_MA_valueOf) (maxL := 4) (ret := some .int) (by decide) rfl ?_
  intro p e s m args below meth c s₁ B hml hv
  obtain ⟨rfl, hP, hK, hT⟩ := hv
  have hl := lv_entry ([.ref (a 5), .int x1, .int x2, .int x3]) (n := 4) (Nat.le_of_ble_eq_true rfl)
  rw [lg_entry_eq]
  generalize (lg_sl ([.ref (a 5), .int x1, .int x2, .int x3]) ++ List.replicate (4 - (lg_sl ([.ref (a 5), .int x1, .int x2, .int x3])).length) Slot.unset).toArray = ls at hl ⊢
  exact e_MA_valueOf ha ⟨B.exec, B.bytes, hml, findClass_of_methodNamed B.named, fun w h => atoms_spec (ws := ws_MA_valueOf) B.pre w (List.mem_cons_of_mem _ h)⟩ B.returns B.notSynchronized hK hT x1 x2 x3 σ q hf s.heap [] hP va_S.rf ls hl
