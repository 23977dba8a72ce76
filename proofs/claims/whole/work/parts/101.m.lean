theorem d_SC_size_0 : decode b_SC_size 0 = .ok (.aload_n 0, 1) := by decide +kernel
theorem d_SC_size_1 : decode b_SC_size 1 = .ok (.getfield 12, 3) := by decide +kernel
theorem d_SC_size_4 : decode b_SC_size 4 = .ok (.invokevirtual 54, 3) := by decide +kernel
theorem d_SC_size_7 : decode b_SC_size 7 = .ok (.ireturn, 1) := by decide +kernel
def f_SC_size (σ : SS) : Option (Int32 × SS) :=
  (f_RC_count σ).bind fun q1 => some (q1.1, q1.2)
set_option maxHeartbeats 4000000 in
set_option maxRecDepth 100000 in
theorem e_SC_size {p : Program} {l : Launch} {e : Env} {s : State} {m : MethodId} {args : Array Value} {below : List Frame} {meth : Method} {c : Code} {D : va_G} {a t : Nat → Nat} {cI cZ : ClassId} (ha : aCC a) (F : CallFix p m c b_SC_size 1 s args gt R_SC) (hr : meth.sig.returnType = some .int) (hlk : meth.locks = false) (hK : va_K D vwCl [(cI, .int), (cZ, .boolean)] s) (hT : stC t (aC a) s s.heap) :
    ∀ (σ : SS) (q : Int32 × SS), f_SC_size σ = some q → ∀ (H : Heap) (locs : List Loc), va_P D vwCl ((wC a cI cZ) σ) H → va_S (aC a) s.heap H locs → ∀ (ls : Array Slot), lv_has ls 1 [(0, .ref (a 0))] → W p l e { frames := 1, cells := 0, slots := 0, locals := 20 } s m args below meth c H locs 0 0 (MQ below (va_Qi (fun r u => r = q.1 ∧ u = q.2) (pW D (wC a cI cZ) [(cI, .int), (cZ, .boolean)] (stC t) (aC a)) (aC a)) args s 0 0 (aC a)) (F0 m 0 ls []) := by
  obtain ⟨hx, hb, hml, hown, hg⟩ := id F
  intro σ q hf H locs hP hS ls hl
  unfold f_SC_size at hf
  refine lv_aload_n hx hb d_SC_size_0 rfl (lv_at hl 0 rfl) ?_
  refine va_get (D := D) (ci := 0) (v := .ref (a 1)) (C := R_SC) (T := T_SC) (N := 6) hx hb hg in_SC hown hK hP 0 rfl rfl 0 (by decide) (hg _ gw_165) (fun _ h9 => h9) rfl d_SC_size_1 ?_
  refine bdK hf (fun q1 h2 hf => ?_)
  refine rc_Vi (As := []) (rest := []) (b := a 1) (stC_g t) F (c_RC_count l ha σ q1 h2) (cwV 0 hg gc_SC_54 rfl rfl rfl hs_RC_count ⟨Nat.le_of_ble_eq_true rfl, Nat.le_of_ble_eq_true rfl⟩) hK hT hP hS (va_recv hK hP (ci := 1) (q0 := 1) rfl rfl) rfl hl.1 rfl (Nat.le_of_ble_eq_true rfl) d_SC_size_4 ⟨Nat.zero_le _, Nat.zero_le _⟩ (fun H locs hP hS => ?_)
  exact rr_i hx hb hr hlk (stC_g t) hK hT hP hS hf d_SC_size_7
set_option maxHeartbeats 4000000 in
set_option maxRecDepth 100000 in
theorem c_SC_size (l : Launch) {D : va_G} {a t : Nat → Nat} {cI cZ : ClassId} (ha : aCC a) (σ : SS) (q : Int32 × SS) (hf : f_SC_size σ = some q) : Met l y_SC_size ws_SC_size { frames := 1, cells := 0, slots := 0, locals := 20 } (va_Pc [.ref (a 0)] (pW D (wC a cI cZ) [(cI, .int), (cZ, .boolean)] (stC t) (aC a) σ)) (va_Qi (fun r u => r = q.1 ∧ u = q.2) (pW D (wC a cI cZ) [(cI, .int), (cZ, .boolean)] (stC t) (aC a)) (aC a)) 0 0 (aC a) := by
  refine Met.ofW (cc := b_SC_size) (maxL := 1) (ret := some .int) (by decide) rfl ?_
  intro p e s m args below meth c s₁ B hml hv
  obtain ⟨rfl, hP, hK, hT⟩ := hv
  have hl := lv_entry ([.ref (a 0)]) (n := 1) (Nat.le_of_ble_eq_true rfl)
  rw [lg_entry_eq]
  generalize (lg_sl ([.ref (a 0)]) ++ List.replicate (1 - (lg_sl ([.ref (a 0)])).length) Slot.unset).toArray = ls at hl ⊢
  exact e_SC_size ha ⟨B.exec, B.bytes, hml, findClass_of_methodNamed B.named, fun w h => atoms_spec (ws := ws_SC_size) B.pre w (List.mem_cons_of_mem _ h)⟩ B.returns B.notSynchronized hK hT σ q hf s.heap [] hP va_S.rf ls hl
theorem d_RC_operationOf_0 : decode b_RC_operationOf 0 = .ok (.aload_n 0, 1) := by decide +kernel
theorem d_RC_operationOf_1 : decode b_RC_operationOf 1 = .ok (.getfield 9, 3) := by decide +kernel
theorem d_RC_operationOf_4 : decode b_RC_operationOf 4 = .ok (.iload_n 1, 1) := by decide +kernel
theorem d_RC_operationOf_5 : decode b_RC_operationOf 5 = .ok (.iaload, 1) := by decide +kernel
theorem d_RC_operationOf_6 : decode b_RC_operationOf 6 = .ok (.ireturn, 1) := by decide +kernel
def f_RC_operationOf (x1 : Int32) (σ : SS) : Option (Int32 × SS) :=
  (ld (σ 0) 40 x1).bind fun v1 => some (v1, σ)
set_option maxHeartbeats 4000000 in
set_option maxRecDepth 100000 in
theorem e_RC_operationOf {p : Program} {l : Launch} {e : Env} {s : State} {m : MethodId} {args : Array Value} {below : List Frame} {meth : Method} {c : Code} {D : va_G} {a t : Nat → Nat} {cI cZ : ClassId} (ha : aCC a) (F : CallFix p m c b_RC_operationOf 2 s args gt R_RC) (hr : meth.sig.returnType = some .int) (hlk : meth.locks = false) (hK : va_K D vwCl [(cI, .int), (cZ, .boolean)] s) (hT : stC t (aC a) s s.heap) :
    ∀ (x1 : Int32) (σ : SS) (q : Int32 × SS), f_RC_operationOf x1 σ = some q → ∀ (H : Heap) (locs : List Loc), va_P D vwCl ((wC a cI cZ) σ) H → va_S (aC a) s.heap H locs → ∀ (ls : Array Slot), lv_has ls 2 [(0, .ref (a 1)), (1, .int x1)] → W p l e { frames := 0, cells := 0, slots := 0, locals := 0 } s m args below meth c H locs 0 0 (MQ below (va_Qi (fun r u => r = q.1 ∧ u = q.2) (pW D (wC a cI cZ) [(cI, .int), (cZ, .boolean)] (stC t) (aC a)) (aC a)) args s 0 0 (aC a)) (F0 m 0 ls []) := by
  obtain ⟨hx, hb, hml, hown, hg⟩ := id F
  intro x1 σ q hf H locs hP hS ls hl
  unfold f_RC_operationOf at hf
  refine lv_aload_n hx hb d_RC_operationOf_0 rfl (lv_at hl 0 rfl) ?_
  refine va_get (D := D) (ci := 1) (v := .ref (a 6)) (C := R_RC) (T := T_RC) (N := 8) hx hb hg in_RC hown hK hP 1 rfl rfl 0 (by decide) (hg _ gw_23) (fun _ h9 => h9) rfl d_RC_operationOf_1 ?_
  refine lv_iload_n hx hb d_RC_operationOf_4 rfl (lv_at hl 1 rfl) ?_
  refine bdK hf (fun v1 h2 hf => ?_)
  refine r_iald hx hb hK hP 6 0 rfl rfl h2 d_RC_operationOf_5 ?_
  exact rr_i hx hb hr hlk (stC_g t) hK hT hP hS hf d_RC_operationOf_6
set_option maxHeartbeats 4000000 in
set_option maxRecDepth 100000 in
theorem c_RC_operationOf (l : Launch) {D : va_G} {a t : Nat → Nat} {cI cZ : ClassId} (ha : aCC a) (x1 : Int32) (σ : SS) (q : Int32 × SS) (hf : f_RC_operationOf x1 σ = some q) : Met l y_RC_operationOf ws_RC_operationOf { frames := 0, cells := 0, slots := 0, locals := 0 } (va_Pc [.ref (a 1), .int x1] (pW D (wC a cI cZ) [(cI, .int), (cZ, .boolean)] (stC t) (aC a) σ)) (va_Qi (fun r u => r = q.1 ∧ u = q.2) (pW D (wC a cI cZ) [(cI, .int), (cZ, .boolean)] (stC t) (aC a)) (aC a)) 0 0 (aC a) := by
  refine Met.ofW (cc := b_RC_operationOf) (maxL := 2) (ret := some .int) (by decide) rfl ?_
  intro p e s m args below meth c s₁ B hml hv
  obtain ⟨rfl, hP, hK, hT⟩ := hv
  have hl := lv_entry ([.ref (a 1), .int x1]) (n := 2) (Nat.le_of_ble_eq_true rfl)
  rw [lg_entry_eq]
  generalize (lg_sl ([.ref (a 1), .int x1]) ++ List.replicate (2 - (lg_sl ([.ref (a 1), .int x1])).length) Slot.unset).toArray = ls at hl ⊢
  exact e_RC_operationOf ha ⟨B.exec, B.bytes, hml, findClass_of_methodNamed B.named, fun w h => atoms_spec (ws := ws_RC_operationOf) B.pre w (List.mem_cons_of_mem _ h)⟩ B.returns B.notSynchronized hK hT x1 σ q hf s.heap [] hP va_S.rf ls hl
theorem d_RC_aOf_0 : decode b_RC_aOf 0 = .ok (.aload_n 0, 1) := by decide +kernel
theorem d_RC_aOf_1 : decode b_RC_aOf 1 = .ok (.getfield 18, 3) := by decide +kernel
theorem d_RC_aOf_4 : decode b_RC_aOf 4 = .ok (.iload_n 1, 1) := by decide +kernel
theorem d_RC_aOf_5 : decode b_RC_aOf 5 = .ok (.iaload, 1) := by decide +kernel
theorem d_RC_aOf_6 : decode b_RC_aOf 6 = .ok (.ireturn, 1) := by decide +kernel
def f_RC_aOf (x1 : Int32) (σ : SS) : Option (Int32 × SS) :=
  (ld (σ 2) 40 x1).bind fun v1 => some (v1, σ)
set_option maxHeartbeats 4000000 in
set_option maxRecDepth 100000 in
theorem e_RC_aOf {p : Program} {l : Launch} {e : Env} {s : State} {m : MethodId} {args : Array Value} {below : List Frame} {meth : Method} {c : Code} {D : va_G} {a t : Nat → Nat} {cI cZ : ClassId} (ha : aCC a) (F : CallFix p m c b_RC_aOf 2 s args gt R_RC) (hr : meth.sig.returnType = some .int) (hlk : meth.locks = false) (hK : va_K D vwCl [(cI, .int), (cZ, .boolean)] s) (hT : stC t (aC a) s s.heap) :
    ∀ (x1 : Int32) (σ : SS) (q : Int32 × SS), f_RC_aOf x1 σ = some q → ∀ (H : Heap) (locs : List Loc), va_P D vwCl ((wC a cI cZ) σ) H → va_S (aC a) s.heap H locs → ∀ (ls : Array Slot), lv_has ls 2 [(0, .ref (a 1)), (1, .int x1)] → W p l e { frames := 0, cells := 0, slots := 0, locals := 0 } s m args below meth c H locs 0 0 (MQ below (va_Qi (fun r u => r = q.1 ∧ u = q.2) (pW D (wC a cI cZ) [(cI, .int), (cZ, .boolean)] (stC t) (aC a)) (aC a)) args s 0 0 (aC a)) (F0 m 0 ls []) := by
  obtain ⟨hx, hb, hml, hown, hg⟩ := id F
  intro x1 σ q hf H locs hP hS ls hl
  unfold f_RC_aOf at hf
  refine lv_aload_n hx hb d_RC_aOf_0 rfl (lv_at hl 0 rfl) ?_
  refine va_get (D := D) (ci := 1) (v := .ref (a 8)) (C := R_RC) (T := T_RC) (N := 8) hx hb hg in_RC hown hK hP 1 rfl rfl 2 (by decide) (hg _ gw_25) (fun _ h9 => h9) rfl d_RC_aOf_1 ?_
  refine lv_iload_n hx hb d_RC_aOf_4 rfl (lv_at hl 1 rfl) ?_
  refine bdK hf (fun v1 h2 hf => ?_)
  refine r_iald hx hb hK hP 8 0 rfl rfl h2 d_RC_aOf_5 ?_
  exact rr_i hx hb hr hlk (stC_g t) hK hT hP hS hf d_RC_aOf_6
set_option maxHeartbeats 4000000 in
set_option maxRecDepth 100000 in
theorem c_RC_aOf (l : Launch) {D : va_G} {a t : Nat → Nat} {cI cZ : ClassId} (ha : aCC a) (x1 : Int32) (σ : SS) (q : Int32 × SS) (hf : f_RC_aOf x1 σ = some q) : Met l y_RC_aOf ws_RC_aOf { frames := 0, cells := 0, slots := 0, locals := 0 } (va_Pc [.ref (a 1), .int x1] (pW D (wC a cI cZ) [(cI, .int), (cZ, .boolean)] (stC t) (aC a) σ)) (va_Qi (fun r u => r = q.1 ∧ u = q.2) (pW D (wC a cI cZ) [(cI, .int), (cZ, .boolean)] (stC t) (aC a)) (aC a)) 0 0 (aC a) := by
  refine Met.ofW (cc := b_RC_aOf) (maxL := 2) (ret := some .int) (by decide) rfl ?_
  intro p e s m args below meth c s₁ B hml hv
  obtain ⟨rfl, hP, hK, hT⟩ := hv
  have hl := lv_entry ([.ref (a 1), .int x1]) (n := 2) (Nat.le_of_ble_eq_true rfl)
  rw [lg_entry_eq]
  generalize (lg_sl ([.ref (a 1), .int x1]) ++ List.replicate (2 - (lg_sl ([.ref (a 1), .int x1])).length) Slot.unset).toArray = ls at hl ⊢
  exact e_RC_aOf ha ⟨B.exec, B.bytes, hml, findClass_of_methodNamed B.named, fun w h => atoms_spec (ws := ws_RC_aOf) B.pre w (List.mem_cons_of_mem _ h)⟩ B.returns B.notSynchronized hK hT x1 σ q hf s.heap [] hP va_S.rf ls hl
theorem d_FL_markBegin_0 : decode b_FL_markBegin 0 = .ok (.aload_n 0, 1) := by decide +kernel
theorem d_FL_markBegin_1 : decode b_FL_markBegin 1 = .ok (.getfield 22, 3) := by decide +kernel
theorem d_FL_markBegin_4 : decode b_FL_markBegin 4 = .ok (.iload_n 1, 1) := by decide +kernel
theorem d_FL_markBegin_5 : decode b_FL_markBegin 5 = .ok (.invokevirtual 53, 3) := by decide +kernel
theorem d_FL_markBegin_8 : decode b_FL_markBegin 8 = .ok (.ifCond .eq 10, 3) := by decide +kernel
theorem d_FL_markBegin_11 : decode b_FL_markBegin 11 = .ok (.aload_n 0, 1) := by decide +kernel
theorem d_FL_markBegin_12 : decode b_FL_markBegin 12 = .ok (.getfield 9, 3) := by decide +kernel
theorem d_FL_markBegin_15 : decode b_FL_markBegin 15 = .ok (.iload_n 1, 1) := by decide +kernel
theorem d_FL_markBegin_16 : decode b_FL_markBegin 16 = .ok (.iconst 1, 1) := by decide +kernel
theorem d_FL_markBegin_17 : decode b_FL_markBegin 17 = .ok (.bastore, 1) := by decide +kernel
theorem d_FL_markBegin_18 : decode b_FL_markBegin 18 = .ok (.return_, 1) := by decide +kernel
theorem gc_FL_53 : GoodIn gt (wsV R_FL 53 R_RC y_RC_holds ws_RC_holds) := gd_V gw_257 gw_217 gw_218 gw_2 gw_219
def f_FL_markBegin (x1 : Int32) (σ : SS) : Option (SS) :=
  (f_RC_holds x1 σ).bind fun q1 => (if q1.1 = 0 then some q1.2 else (sto q1.2 7 40 x1 (vp_nar .boolean (1 : Int32))).bind fun σ4 => some σ4)
set_option maxHeartbeats 4000000 in
set_option maxRecDepth 100000 in
theorem e_FL_markBegin {p : Program} {l : Launch} {e : Env} {s : State} {m : MethodId} {args : Array Value} {below : List Frame} {meth : Method} {c : Code} {D : va_G} {a t : Nat → Nat} {cI cZ : ClassId} (ha : aCC a) (F : CallFix p m c b_FL_markBegin 2 s args gt R_FL) (hr : meth.sig.returnType = none) (hlk : meth.locks = false) (hK : va_K D vwCl [(cI, .int), (cZ, .boolean)] s) (hT : stC t (aC a) s s.heap) :
    ∀ (x1 : Int32) (σ : SS) (q : SS), f_FL_markBegin x1 σ = some q → ∀ (H : Heap) (locs : List Loc), va_P D vwCl ((wC a cI cZ) σ) H → va_S (aC a) s.heap H locs → ∀ (ls : Array Slot), lv_has ls 2 [(0, .ref (a 2)), (1, .int x1)] → W p l e { frames := 1, cells := 0, slots := 0, locals := 21 } s m args below meth c H locs 0 0 (MQ below (va_Qv (fun u => u = q) (pW D (wC a cI cZ) [(cI, .int), (cZ, .boolean)] (stC t) (aC a)) (aC a)) args s 0 0 (aC a)) (F0 m 0 ls []) := by
  obtain ⟨hx, hb, hml, hown, hg⟩ := id F
  intro x1 σ q hf H locs hP hS ls hl
  unfold f_FL_markBegin at hf
  refine lv_aload_n hx hb d_FL_markBegin_0 rfl (lv_at hl 0 rfl) ?_
  refine va_get (D := D) (ci := 2) (v := .ref (a 1)) (C := R_FL) (T := T_FL) (N := 4) hx hb hg in_FL hown hK hP 2 rfl rfl 0 (by decide) (hg _ gw_55) (fun _ h9 => h9) rfl d_FL_markBegin_1 ?_
  refine lv_iload_n hx hb d_FL_markBegin_4 rfl (lv_at hl 1 rfl) ?_
  refine bdK hf (fun q1 h2 hf => ?_)
  refine rc_Vi (As := [.int x1]) (rest := []) (b := a 1) (stC_g t) F (c_RC_holds l ha x1 σ q1 h2) (cwV 1 hg gc_FL_53 rfl rfl rfl hs_RC_holds ⟨Nat.le_of_ble_eq_true rfl, Nat.le_of_ble_eq_true rfl⟩) hK hT hP hS (va_recv hK hP (ci := 1) (q0 := 1) rfl rfl) rfl hl.1 rfl (Nat.le_of_ble_eq_true rfl) d_FL_markBegin_5 ⟨Nat.zero_le _, Nat.zero_le _⟩ (fun H locs hP hS => ?_)
  refine lv_if_eq (tgt := 18) hx hb d_FL_markBegin_8 (by decide) (fun c3 => ?_) (fun c3 => ?_)
  · replace hf := (if_pos c3).symm.trans hf
    exact rr_v hx hb hr hlk (stC_g t) hK hT hP hS hf d_FL_markBegin_18
  · replace hf := (if_neg c3).symm.trans hf
    refine lv_aload_n hx hb d_FL_markBegin_11 rfl (lv_at hl 0 rfl) ?_
    refine va_get (D := D) (ci := 2) (v := .ref (a 13)) (C := R_FL) (T := T_FL) (N := 4) hx hb hg in_FL hown hK hP 2 rfl rfl 1 (by decide) (hg _ gw_56) (fun _ h9 => h9) rfl d_FL_markBegin_12 ?_
    refine lv_iload_n hx hb d_FL_markBegin_15 rfl (lv_at hl 1 rfl) ?_
    refine lv_iconst (v := (1 : Int32)) hx hb d_FL_markBegin_16 (by decide) ?_
    refine bdK hf (fun σ4 h5 hf => ?_)
    refine r_zast (wf := (wC a cI cZ)) hx hb hK hP (dC ha q1.2) hS 13 1 rfl rfl (fun _ _ => rfl) h5 d_FL_markBegin_17 (fun H locs hP hS => ?_)
    exact rr_v hx hb hr hlk (stC_g t) hK hT hP hS hf d_FL_markBegin_18
set_option maxHeartbeats 4000000 in
set_option maxRecDepth 100000 in
theorem c_FL_markBegin (l : Launch) {D : va_G} {a t : Nat → Nat} {cI cZ : ClassId} (ha : aCC a) (x1 : Int32) (σ : SS) (q : SS) (hf : f_FL_markBegin x1 σ = some q) : Met l y_FL_markBegin ws_FL_markBegin { frames := 1, cells := 0, slots := 0, locals := 21 } (va_Pc [.ref (a 2), .int x1] (pW D (wC a cI cZ) [(cI, .int), (cZ, .boolean)] (stC t) (aC a) σ)) (va_Qv (fun u => u = q) (pW D (wC a cI cZ) [(cI, .int), (cZ, .boolean)] (stC t) (aC a)) (aC a)) 0 0 (aC a) := by
  refine Met.ofW (cc := b_FL_markBegin) (maxL := 2) (ret := none) (by decide) rfl ?_
  intro p e s m args below meth c s₁ B hml hv
  obtain ⟨rfl, hP, hK, hT⟩ := hv
  have hl := lv_entry ([.ref (a 2), .int x1]) (n := 2) (Nat.le_of_ble_eq_true rfl)
  rw [lg_entry_eq]
  generalize (lg_sl ([.ref (a 2), .int x1]) ++ List.replicate (2 - (lg_sl ([.ref (a 2), .int x1])).length) Slot.unset).toArray = ls at hl ⊢
  exact e_FL_markBegin ha ⟨B.exec, B.bytes, hml, findClass_of_methodNamed B.named, fun w h => atoms_spec (ws := ws_FL_markBegin) B.pre w (List.mem_cons_of_mem _ h)⟩ B.returns B.notSynchronized hK hT x1 σ q hf s.heap [] hP va_S.rf ls hl
theorem d_RC_bOf_0 : decode b_RC_bOf 0 = .ok (.aload_n 0, 1) := by decide +kernel
theorem d_RC_bOf_1 : decode b_RC_bOf 1 = .ok (.getfield 21, 3) := by decide +kernel
theorem d_RC_bOf_4 : decode b_RC_bOf 4 = .ok (.iload_n 1, 1) := by decide +kernel
theorem d_RC_bOf_5 : decode b_RC_bOf 5 = .ok (.iaload, 1) := by decide +kernel
theorem d_RC_bOf_6 : decode b_RC_bOf 6 = .ok (.ireturn, 1) := by decide +kernel
def f_RC_bOf (x1 : Int32) (σ : SS) : Option (Int32 × SS) :=
  (ld (σ 3) 40 x1).bind fun v1 => some (v1, σ)
set_option maxHeartbeats 4000000 in
set_option maxRecDepth 100000 in
theorem e_RC_bOf {p : Program} {l : Launch} {e : Env} {s : State} {m : MethodId} {args : Array Value} {below : List Frame} {meth : Method} {c : Code} {D : va_G} {a t : Nat → Nat} {cI cZ : ClassId} (ha : aCC a) (F : CallFix p m c b_RC_bOf 2 s args gt R_RC) (hr : meth.sig.returnType = some .int) (hlk : meth.locks = false) (hK : va_K D vwCl [(cI, .int), (cZ, .boolean)] s) (hT : stC t (aC a) s s.heap) :
    ∀ (x1 : Int32) (σ : SS) (q : Int32 × SS), f_RC_bOf x1 σ = some q → ∀ (H : Heap) (locs : List Loc), va_P D vwCl ((wC a cI cZ) σ) H → va_S (aC a) s.heap H locs → ∀ (ls : Array Slot), lv_has ls 2 [(0, .ref (a 1)), (1, .int x1)] → W p l e { frames := 0, cells := 0, slots := 0, locals := 0 } s m args below meth c H locs 0 0 (MQ below (va_Qi (fun r u => r = q.1 ∧ u = q.2) (pW D (wC a cI cZ) [(cI, .int), (cZ, .boolean)] (stC t) (aC a)) (aC a)) args s 0 0 (aC a)) (F0 m 0 ls []) := by
  obtain ⟨hx, hb, hml, hown, hg⟩ := id F
  intro x1 σ q hf H locs hP hS ls hl
  unfold f_RC_bOf at hf
  refine lv_aload_n hx hb d_RC_bOf_0 rfl (lv_at hl 0 rfl) ?_
  refine va_get (D := D) (ci := 1) (v := .ref (a 9)) (C := R_RC) (T := T_RC) (N := 8) hx hb hg in_RC hown hK hP 1 rfl rfl 3 (by decide) (hg _ gw_26) (fun _ h9 => h9) rfl d_RC_bOf_1 ?_
  refine lv_iload_n hx hb d_RC_bOf_4 rfl (lv_at hl 1 rfl) ?_
  refine bdK hf (fun v1 h2 hf => ?_)
  refine r_iald hx hb hK hP 9 0 rfl rfl h2 d_RC_bOf_5 ?_
  exact rr_i hx hb hr hlk (stC_g t) hK hT hP hS hf d_RC_bOf_6
set_option maxHeartbeats 4000000 in
set_option maxRecDepth 100000 in
theorem c_RC_bOf (l : Launch) {D : va_G} {a t : Nat → Nat} {cI cZ : ClassId} (ha : aCC a) (x1 : Int32) (σ : SS) (q : Int32 × SS) (hf : f_RC_bOf x1 σ = some q) : Met l y_RC_bOf ws_RC_bOf { frames := 0, cells := 0, slots := 0, locals := 0 } (va_Pc [.ref (a 1), .int x1] (pW D (wC a cI cZ) [(cI, .int), (cZ, .boolean)] (stC t) (aC a) σ)) (va_Qi (fun r u => r = q.1 ∧ u = q.2) (pW D (wC a cI cZ) [(cI, .int), (cZ, .boolean)] (stC t) (aC a)) (aC a)) 0 0 (aC a) := by
  refine Met.ofW (cc := b_RC_bOf) (maxL := 2) (ret := some .int) (by decide) rfl ?_
  intro p e s m args below meth c s₁ B hml hv
  obtain ⟨rfl, hP, hK, hT⟩ := hv
  have hl := lv_entry ([.ref (a 1), .int x1]) (n := 2) (Nat.le_of_ble_eq_true rfl)
  rw [lg_entry_eq]
  generalize (lg_sl ([.ref (a 1), .int x1]) ++ List.replicate (2 - (lg_sl ([.ref (a 1), .int x1])).length) Slot.unset).toArray = ls at hl ⊢
  exact e_RC_bOf ha ⟨B.exec, B.bytes, hml, findClass_of_methodNamed B.named, fun w h => atoms_spec (ws := ws_RC_bOf) B.pre w (List.mem_cons_of_mem _ h)⟩ B.returns B.notSynchronized hK hT x1 σ q hf s.heap [] hP va_S.rf ls hl
theorem d_FL_markBlocks_0 : decode b_FL_markBlocks 0 = .ok (.iconst 0, 1) := by decide +kernel
theorem d_FL_markBlocks_1 : decode b_FL_markBlocks 1 = .ok (.istore_n 1, 1) := by decide +kernel
theorem d_FL_markBlocks_2 : decode b_FL_markBlocks 2 = .ok (.iload_n 1, 1) := by decide +kernel
theorem d_FL_markBlocks_3 : decode b_FL_markBlocks 3 = .ok (.aload_n 0, 1) := by decide +kernel
theorem d_FL_markBlocks_4 : decode b_FL_markBlocks 4 = .ok (.getfield 22, 3) := by decide +kernel
theorem d_FL_markBlocks_7 : decode b_FL_markBlocks 7 = .ok (.invokevirtual 29, 3) := by decide +kernel
theorem d_FL_markBlocks_10 : decode b_FL_markBlocks 10 = .ok (.if_icmp .ge 24, 3) := by decide +kernel
theorem d_FL_markBlocks_13 : decode b_FL_markBlocks 13 = .ok (.aload_n 0, 1) := by decide +kernel
theorem d_FL_markBlocks_14 : decode b_FL_markBlocks 14 = .ok (.getfield 9, 3) := by decide +kernel
theorem d_FL_markBlocks_17 : decode b_FL_markBlocks 17 = .ok (.iload_n 1, 1) := by decide +kernel
theorem d_FL_markBlocks_18 : decode b_FL_markBlocks 18 = .ok (.iload_n 1, 1) := by decide +kernel
theorem d_FL_markBlocks_19 : decode b_FL_markBlocks 19 = .ok (.ifCond .ne 7, 3) := by decide +kernel
theorem d_FL_markBlocks_22 : decode b_FL_markBlocks 22 = .ok (.iconst 1, 1) := by decide +kernel
theorem d_FL_markBlocks_23 : decode b_FL_markBlocks 23 = .ok (.goto 4, 3) := by decide +kernel
theorem d_FL_markBlocks_26 : decode b_FL_markBlocks 26 = .ok (.iconst 0, 1) := by decide +kernel
theorem d_FL_markBlocks_27 : decode b_FL_markBlocks 27 = .ok (.bastore, 1) := by decide +kernel
theorem d_FL_markBlocks_28 : decode b_FL_markBlocks 28 = .ok (.iinc 1 1, 3) := by decide +kernel
theorem d_FL_markBlocks_31 : decode b_FL_markBlocks 31 = .ok (.goto (-29), 3) := by decide +kernel
theorem d_FL_markBlocks_34 : decode b_FL_markBlocks 34 = .ok (.iconst 0, 1) := by decide +kernel
theorem d_FL_markBlocks_35 : decode b_FL_markBlocks 35 = .ok (.istore_n 1, 1) := by decide +kernel
theorem d_FL_markBlocks_36 : decode b_FL_markBlocks 36 = .ok (.iload_n 1, 1) := by decide +kernel
theorem d_FL_markBlocks_37 : decode b_FL_markBlocks 37 = .ok (.aload_n 0, 1) := by decide +kernel
theorem d_FL_markBlocks_38 : decode b_FL_markBlocks 38 = .ok (.getfield 22, 3) := by decide +kernel
theorem d_FL_markBlocks_41 : decode b_FL_markBlocks 41 = .ok (.invokevirtual 29, 3) := by decide +kernel
theorem d_FL_markBlocks_44 : decode b_FL_markBlocks 44 = .ok (.if_icmp .ge 96, 3) := by decide +kernel
theorem d_FL_markBlocks_47 : decode b_FL_markBlocks 47 = .ok (.aload_n 0, 1) := by decide +kernel
theorem d_FL_markBlocks_48 : decode b_FL_markBlocks 48 = .ok (.getfield 22, 3) := by decide +kernel
theorem d_FL_markBlocks_51 : decode b_FL_markBlocks 51 = .ok (.iload_n 1, 1) := by decide +kernel
theorem d_FL_markBlocks_52 : decode b_FL_markBlocks 52 = .ok (.invokevirtual 39, 3) := by decide +kernel
theorem d_FL_markBlocks_55 : decode b_FL_markBlocks 55 = .ok (.tableswitch 79 9 11 #[25, 47, 69], 25) := by decide +kernel
theorem d_FL_markBlocks_80 : decode b_FL_markBlocks 80 = .ok (.aload_n 0, 1) := by decide +kernel
theorem d_FL_markBlocks_81 : decode b_FL_markBlocks 81 = .ok (.aload_n 0, 1) := by decide +kernel
theorem d_FL_markBlocks_82 : decode b_FL_markBlocks 82 = .ok (.getfield 22, 3) := by decide +kernel
theorem d_FL_markBlocks_85 : decode b_FL_markBlocks 85 = .ok (.iload_n 1, 1) := by decide +kernel
theorem d_FL_markBlocks_86 : decode b_FL_markBlocks 86 = .ok (.invokevirtual 43, 3) := by decide +kernel
theorem d_FL_markBlocks_89 : decode b_FL_markBlocks 89 = .ok (.invokevirtual 46, 3) := by decide +kernel
theorem d_FL_markBlocks_92 : decode b_FL_markBlocks 92 = .ok (.aload_n 0, 1) := by decide +kernel
theorem d_FL_markBlocks_93 : decode b_FL_markBlocks 93 = .ok (.iload_n 1, 1) := by decide +kernel
theorem d_FL_markBlocks_94 : decode b_FL_markBlocks 94 = .ok (.iconst 1, 1) := by decide +kernel
theorem d_FL_markBlocks_95 : decode b_FL_markBlocks 95 = .ok (.iadd, 1) := by decide +kernel
theorem d_FL_markBlocks_96 : decode b_FL_markBlocks 96 = .ok (.invokevirtual 46, 3) := by decide +kernel
theorem d_FL_markBlocks_99 : decode b_FL_markBlocks 99 = .ok (.goto 35, 3) := by decide +kernel
theorem d_FL_markBlocks_102 : decode b_FL_markBlocks 102 = .ok (.aload_n 0, 1) := by decide +kernel
theorem d_FL_markBlocks_103 : decode b_FL_markBlocks 103 = .ok (.aload_n 0, 1) := by decide +kernel
theorem d_FL_markBlocks_104 : decode b_FL_markBlocks 104 = .ok (.getfield 22, 3) := by decide +kernel
theorem d_FL_markBlocks_107 : decode b_FL_markBlocks 107 = .ok (.iload_n 1, 1) := by decide +kernel
theorem d_FL_markBlocks_108 : decode b_FL_markBlocks 108 = .ok (.invokevirtual 50, 3) := by decide +kernel
theorem d_FL_markBlocks_111 : decode b_FL_markBlocks 111 = .ok (.invokevirtual 46, 3) := by decide +kernel
theorem d_FL_markBlocks_114 : decode b_FL_markBlocks 114 = .ok (.aload_n 0, 1) := by decide +kernel
theorem d_FL_markBlocks_115 : decode b_FL_markBlocks 115 = .ok (.iload_n 1, 1) := by decide +kernel
theorem d_FL_markBlocks_116 : decode b_FL_markBlocks 116 = .ok (.iconst 1, 1) := by decide +kernel
theorem d_FL_markBlocks_117 : decode b_FL_markBlocks 117 = .ok (.iadd, 1) := by decide +kernel
theorem d_FL_markBlocks_118 : decode b_FL_markBlocks 118 = .ok (.invokevirtual 46, 3) := by decide +kernel
theorem d_FL_markBlocks_121 : decode b_FL_markBlocks 121 = .ok (.goto 13, 3) := by decide +kernel
theorem d_FL_markBlocks_124 : decode b_FL_markBlocks 124 = .ok (.aload_n 0, 1) := by decide +kernel
theorem d_FL_markBlocks_125 : decode b_FL_markBlocks 125 = .ok (.iload_n 1, 1) := by decide +kernel
theorem d_FL_markBlocks_126 : decode b_FL_markBlocks 126 = .ok (.iconst 1, 1) := by decide +kernel
theorem d_FL_markBlocks_127 : decode b_FL_markBlocks 127 = .ok (.iadd, 1) := by decide +kernel
theorem d_FL_markBlocks_128 : decode b_FL_markBlocks 128 = .ok (.invokevirtual 46, 3) := by decide +kernel
theorem d_FL_markBlocks_131 : decode b_FL_markBlocks 131 = .ok (.goto 3, 3) := by decide +kernel
theorem d_FL_markBlocks_134 : decode b_FL_markBlocks 134 = .ok (.iinc 1 1, 3) := by decide +kernel
theorem d_FL_markBlocks_137 : decode b_FL_markBlocks 137 = .ok (.goto (-101), 3) := by decide +kernel
theorem d_FL_markBlocks_140 : decode b_FL_markBlocks 140 = .ok (.return_, 1) := by decide +kernel
theorem gc_FL_29 : GoodIn gt (wsV R_FL 29 R_RC y_RC_count ws_RC_count) := gd_V gw_244 gw_189 gw_190 gw_2 gw_191
theorem gc_FL_39 : GoodIn gt (wsV R_FL 39 R_RC y_RC_operationOf ws_RC_operationOf) := gd_V gw_245 gw_246 gw_247 gw_2 gw_248
theorem gc_FL_43 : GoodIn gt (wsV R_FL 43 R_RC y_RC_aOf ws_RC_aOf) := gd_V gw_249 gw_250 gw_251 gw_2 gw_252
theorem gc_FL_46 : GoodIn gt (wsV R_FL 46 R_FL y_FL_markBegin ws_FL_markBegin) := gd_V gw_253 gw_255 gs_2 gw_3 gw_256
theorem gc_FL_50 : GoodIn gt (wsV R_FL 50 R_RC y_RC_bOf ws_RC_bOf) := gd_V gw_258 gw_259 gw_260 gw_2 gw_261
def b_FL_markBlocks_36 : Nat → Int32 → SS → Option (SS)
  | 0, _, _ => none
  | n + 1, x1, σ =>
    (f_RC_count σ).bind fun q1 => (if q1.1 ≤ x1 then some q1.2 else (f_RC_operationOf x1 q1.2).bind fun q4 => (if q4.1 = (9 : Int32) then (f_RC_aOf x1 q4.2).bind fun q9 => (f_FL_markBegin q9.1 q9.2).bind fun σ11 => (f_FL_markBegin (x1 + (1 : Int32)) σ11).bind fun σ13 => b_FL_markBlocks_36 n (x1 + (1 : Int32)) σ13 else (if q4.1 = (10 : Int32) then (f_RC_bOf x1 q4.2).bind fun q15 => (f_FL_markBegin q15.1 q15.2).bind fun σ17 => (f_FL_markBegin (x1 + (1 : Int32)) σ17).bind fun σ19 => b_FL_markBlocks_36 n (x1 + (1 : Int32)) σ19 else (if q4.1 = (11 : Int32) then (f_FL_markBegin (x1 + (1 : Int32)) q4.2).bind fun σ21 => b_FL_markBlocks_36 n (x1 + (1 : Int32)) σ21 else b_FL_markBlocks_36 n (x1 + (1 : Int32)) q4.2))))
set_option maxHeartbeats 4000000 in
set_option maxRecDepth 100000 in
theorem k_FL_markBlocks_36 {p : Program} {l : Launch} {e : Env} {s : State} {m : MethodId} {args : Array Value} {below : List Frame} {meth : Method} {c : Code} {D : va_G} {a t : Nat → Nat} {cI cZ : ClassId} (ha : aCC a) (F : CallFix p m c b_FL_markBlocks 2 s args gt R_FL) (hr : meth.sig.returnType = none) (hlk : meth.locks = false) (hK : va_K D vwCl [(cI, .int), (cZ, .boolean)] s) (hT : stC t (aC a) s s.heap) :
    ∀ (n : Nat) (x1 : Int32) (σ : SS) (q : SS), b_FL_markBlocks_36 n x1 σ = some q → ∀ (H : Heap) (locs : List Loc), va_P D vwCl ((wC a cI cZ) σ) H → va_S (aC a) s.heap H locs → ∀ (ls : Array Slot), lv_has ls 2 [(0, .ref (a 2)), (1, .int x1)] → W p l e { frames := 2, cells := 0, slots := 0, locals := 42 } s m args below meth c H locs 0 0 (MQ below (va_Qv (fun u => u = q) (pW D (wC a cI cZ) [(cI, .int), (cZ, .boolean)] (stC t) (aC a)) (aC a)) args s 0 0 (aC a)) (F0 m 36 ls []) := by
  obtain ⟨hx, hb, hml, hown, hg⟩ := id F
  intro n
  induction n with
  | zero =>
    intro x1 σ q hf
    rw [b_FL_markBlocks_36] at hf
    cases hf
  | succ n ih =>
    intro x1 σ q hf H locs hP hS ls hl
    rw [b_FL_markBlocks_36] at hf
    refine lv_iload_n hx hb d_FL_markBlocks_36 rfl (lv_at hl 1 rfl) ?_
    refine lv_aload_n hx hb d_FL_markBlocks_37 rfl (lv_at hl 0 rfl) ?_
    refine va_get (D := D) (ci := 2) (v := .ref (a 1)) (C := R_FL) (T := T_FL) (N := 4) hx hb hg in_FL hown hK hP 2 rfl rfl 0 (by decide) (hg _ gw_55) (fun _ h9 => h9) rfl d_FL_markBlocks_38 ?_
    refine bdK hf (fun q1 h2 hf => ?_)
    refine rc_Vi (As := []) (rest := [.int x1]) (b := a 1) (stC_g t) F (c_RC_count l ha σ q1 h2) (cwV 0 hg gc_FL_29 rfl rfl rfl hs_RC_count ⟨Nat.le_of_ble_eq_true rfl, Nat.le_of_ble_eq_true rfl⟩) hK hT hP hS (va_recv hK hP (ci := 1) (q0 := 1) rfl rfl) rfl hl.1 rfl (Nat.le_of_ble_eq_true rfl) d_FL_markBlocks_41 ⟨Nat.zero_le _, Nat.zero_le _⟩ (fun H locs hP hS => ?_)
    refine lv_icmp_ge (tgt := 140) hx hb d_FL_markBlocks_44 (by decide) (fun c3 => ?_) (fun c3 => ?_)
    · replace hf := (if_pos c3).symm.trans hf
      exact rr_v hx hb hr hlk (stC_g t) hK hT hP hS hf d_FL_markBlocks_140
    · replace hf := (if_neg c3).symm.trans hf
      refine lv_aload_n hx hb d_FL_markBlocks_47 rfl (lv_at hl 0 rfl) ?_
      refine va_get (D := D) (ci := 2) (v := .ref (a 1)) (C := R_FL) (T := T_FL) (N := 4) hx hb hg in_FL hown hK hP 2 rfl rfl 0 (by decide) (hg _ gw_55) (fun _ h9 => h9) rfl d_FL_markBlocks_48 ?_
      refine lv_iload_n hx hb d_FL_markBlocks_51 rfl (lv_at hl 1 rfl) ?_
      refine bdK hf (fun q4 h5 hf => ?_)
      refine rc_Vi (As := [.int x1]) (rest := []) (b := a 1) (stC_g t) F (c_RC_operationOf l ha x1 q1.2 q4 h5) (cwV 1 hg gc_FL_39 rfl rfl rfl hs_RC_operationOf ⟨Nat.le_of_ble_eq_true rfl, Nat.le_of_ble_eq_true rfl⟩) hK hT hP hS (va_recv hK hP (ci := 1) (q0 := 1) rfl rfl) rfl hl.1 rfl (Nat.le_of_ble_eq_true rfl) d_FL_markBlocks_52 ⟨Nat.zero_le _, Nat.zero_le _⟩ (fun H locs hP hS => ?_)
      by_cases c6 : q4.1 = (9 : Int32)
      · replace hf := (if_pos c6).symm.trans hf
        refine lv_tableIn (off := 25) (tgt := 80) hx hb d_FL_markBlocks_55 (by rw [c6]; decide) (by rw [c6]; decide) (by rw [c6]; rfl) (by decide) ?_
        refine lv_aload_n hx hb d_FL_markBlocks_80 rfl (lv_at hl 0 rfl) ?_
        refine lv_aload_n hx hb d_FL_markBlocks_81 rfl (lv_at hl 0 rfl) ?_
        refine va_get (D := D) (ci := 2) (v := .ref (a 1)) (C := R_FL) (T := T_FL) (N := 4) hx hb hg in_FL hown hK hP 2 rfl rfl 0 (by decide) (hg _ gw_55) (fun _ h9 => h9) rfl d_FL_markBlocks_82 ?_
        refine lv_iload_n hx hb d_FL_markBlocks_85 rfl (lv_at hl 1 rfl) ?_
        refine bdK hf (fun q9 h10 hf => ?_)
        refine rc_Vi (As := [.int x1]) (rest := [.ref (a 2)]) (b := a 1) (stC_g t) F (c_RC_aOf l ha x1 q4.2 q9 h10) (cwV 1 hg gc_FL_43 rfl rfl rfl hs_RC_aOf ⟨Nat.le_of_ble_eq_true rfl, Nat.le_of_ble_eq_true rfl⟩) hK hT hP hS (va_recv hK hP (ci := 1) (q0 := 1) rfl rfl) rfl hl.1 rfl (Nat.le_of_ble_eq_true rfl) d_FL_markBlocks_86 ⟨Nat.zero_le _, Nat.zero_le _⟩ (fun H locs hP hS => ?_)
        refine bdK hf (fun σ11 h12 hf => ?_)
        refine rc_Vv (As := [.int q9.1]) (rest := []) (b := a 2) (stC_g t) F (c_FL_markBegin l ha q9.1 q9.2 σ11 h12) (cwV 1 hg gc_FL_46 rfl rfl rfl hs_FL_markBegin ⟨Nat.le_of_ble_eq_true rfl, Nat.le_of_ble_eq_true rfl⟩) hK hT hP hS (va_recv hK hP (ci := 2) (q0 := 2) rfl rfl) rfl hl.1 rfl (Nat.le_of_ble_eq_true rfl) d_FL_markBlocks_89 ⟨Nat.zero_le _, Nat.zero_le _⟩ (fun H locs hP hS => ?_)
        refine lv_aload_n hx hb d_FL_markBlocks_92 rfl (lv_at hl 0 rfl) ?_
        refine lv_iload_n hx hb d_FL_markBlocks_93 rfl (lv_at hl 1 rfl) ?_
        refine lv_iconst (v := (1 : Int32)) hx hb d_FL_markBlocks_94 (by decide) ?_
        refine lv_iadd hx hb d_FL_markBlocks_95 ?_
        refine bdK hf (fun σ13 h14 hf => ?_)
        refine rc_Vv (As := [.int (x1 + (1 : Int32))]) (rest := []) (b := a 2) (stC_g t) F (c_FL_markBegin l ha (x1 + (1 : Int32)) σ11 σ13 h14) (cwV 1 hg gc_FL_46 rfl rfl rfl hs_FL_markBegin ⟨Nat.le_of_ble_eq_true rfl, Nat.le_of_ble_eq_true rfl⟩) hK hT hP hS (va_recv hK hP (ci := 2) (q0 := 2) rfl rfl) rfl hl.1 rfl (Nat.le_of_ble_eq_true rfl) d_FL_markBlocks_96 ⟨Nat.zero_le _, Nat.zero_le _⟩ (fun H locs hP hS => ?_)
        refine lv_goto (tgt := 134) hx hb d_FL_markBlocks_99 (by decide) ?_
        refine lv_iinc (v := (x1 + (1 : Int32))) (lv' := [(1, .int (x1 + (1 : Int32))), (0, .ref (a 2))]) hx hb d_FL_markBlocks_134 hl (k := 1) rfl (by rfl) (by decide) rfl (fun ls hl => ?_)
        refine lv_goto (tgt := 36) hx hb d_FL_markBlocks_137 (by decide) ?_
        exact ih (x1 + (1 : Int32)) σ13 q hf _ _ hP hS ls (lv_sub hl [1, 0] rfl)
      · replace hf := (if_neg c6).symm.trans hf
        by_cases c7 : q4.1 = (10 : Int32)
        · replace hf := (if_pos c7).symm.trans hf
          refine lv_tableIn (off := 47) (tgt := 102) hx hb d_FL_markBlocks_55 (by rw [c7]; decide) (by rw [c7]; decide) (by rw [c7]; rfl) (by decide) ?_
          refine lv_aload_n hx hb d_FL_markBlocks_102 rfl (lv_at hl 0 rfl) ?_
          refine lv_aload_n hx hb d_FL_markBlocks_103 rfl (lv_at hl 0 rfl) ?_
          refine va_get (D := D) (ci := 2) (v := .ref (a 1)) (C := R_FL) (T := T_FL) (N := 4) hx hb hg in_FL hown hK hP 2 rfl rfl 0 (by decide) (hg _ gw_55) (fun _ h9 => h9) rfl d_FL_markBlocks_104 ?_
          refine lv_iload_n hx hb d_FL_markBlocks_107 rfl (lv_at hl 1 rfl) ?_
          refine bdK hf (fun q15 h16 hf => ?_)
          refine rc_Vi (As := [.int x1]) (rest := [.ref (a 2)]) (b := a 1) (stC_g t) F (c_RC_bOf l ha x1 q4.2 q15 h16) (cwV 1 hg gc_FL_50 rfl rfl rfl hs_RC_bOf ⟨Nat.le_of_ble_eq_true rfl, Nat.le_of_ble_eq_true rfl⟩) hK hT hP hS (va_recv hK hP (ci := 1) (q0 := 1) rfl rfl) rfl hl.1 rfl (Nat.le_of_ble_eq_true rfl) d_FL_markBlocks_108 ⟨Nat.zero_le _, Nat.zero_le _⟩ (fun H locs hP hS => ?_)
          refine bdK hf (fun σ17 h18 hf => ?_)
          refine rc_Vv (As := [.int q15.1]) (rest := []) (b := a 2) (stC_g t) F (c_FL_markBegin l ha q15.1 q15.2 σ17 h18) (cwV 1 hg gc_FL_46 rfl rfl rfl hs_FL_markBegin ⟨Nat.le_of_ble_eq_true rfl, Nat.le_of_ble_eq_true rfl⟩) hK hT hP hS (va_recv hK hP (ci := 2) (q0 := 2) rfl rfl) rfl hl.1 rfl (Nat.le_of_ble_eq_true rfl) d_FL_markBlocks_111 ⟨Nat.zero_le _, Nat.zero_le _⟩ (fun H locs hP hS => ?_)
          refine lv_aload_n hx hb d_FL_markBlocks_114 rfl (lv_at hl 0 rfl) ?_
          refine lv_iload_n hx hb d_FL_markBlocks_115 rfl (lv_at hl 1 rfl) ?_
          refine lv_iconst (v := (1 : Int32)) hx hb d_FL_markBlocks_116 (by decide) ?_
          refine lv_iadd hx hb d_FL_markBlocks_117 ?_
          refine bdK hf (fun σ19 h20 hf => ?_)
          refine rc_Vv (As := [.int (x1 + (1 : Int32))]) (rest := []) (b := a 2) (stC_g t) F (c_FL_markBegin l ha (x1 + (1 : Int32)) σ17 σ19 h20) (cwV 1 hg gc_FL_46 rfl rfl rfl hs_FL_markBegin ⟨Nat.le_of_ble_eq_true rfl, Nat.le_of_ble_eq_true rfl⟩) hK hT hP hS (va_recv hK hP (ci := 2) (q0 := 2) rfl rfl) rfl hl.1 rfl (Nat.le_of_ble_eq_true rfl) d_FL_markBlocks_118 ⟨Nat.zero_le _, Nat.zero_le _⟩ (fun H locs hP hS => ?_)
          refine lv_goto (tgt := 134) hx hb d_FL_markBlocks_121 (by decide) ?_
          refine lv_iinc (v := (x1 + (1 : Int32))) (lv' := [(1, .int (x1 + (1 : Int32))), (0, .ref (a 2))]) hx hb d_FL_markBlocks_134 hl (k := 1) rfl (by rfl) (by decide) rfl (fun ls hl => ?_)
          refine lv_goto (tgt := 36) hx hb d_FL_markBlocks_137 (by decide) ?_
          exact ih (x1 + (1 : Int32)) σ19 q hf _ _ hP hS ls (lv_sub hl [1, 0] rfl)
        · replace hf := (if_neg c7).symm.trans hf
          by_cases c8 : q4.1 = (11 : Int32)
          · replace hf := (if_pos c8).symm.trans hf
            refine lv_tableIn (off := 69) (tgt := 124) hx hb d_FL_markBlocks_55 (by rw [c8]; decide) (by rw [c8]; decide) (by rw [c8]; rfl) (by decide) ?_
            refine lv_aload_n hx hb d_FL_markBlocks_124 rfl (lv_at hl 0 rfl) ?_
            refine lv_iload_n hx hb d_FL_markBlocks_125 rfl (lv_at hl 1 rfl) ?_
            refine lv_iconst (v := (1 : Int32)) hx hb d_FL_markBlocks_126 (by decide) ?_
            refine lv_iadd hx hb d_FL_markBlocks_127 ?_
            refine bdK hf (fun σ21 h22 hf => ?_)
            refine rc_Vv (As := [.int (x1 + (1 : Int32))]) (rest := []) (b := a 2) (stC_g t) F (c_FL_markBegin l ha (x1 + (1 : Int32)) q4.2 σ21 h22) (cwV 1 hg gc_FL_46 rfl rfl rfl hs_FL_markBegin ⟨Nat.le_of_ble_eq_true rfl, Nat.le_of_ble_eq_true rfl⟩) hK hT hP hS (va_recv hK hP (ci := 2) (q0 := 2) rfl rfl) rfl hl.1 rfl (Nat.le_of_ble_eq_true rfl) d_FL_markBlocks_128 ⟨Nat.zero_le _, Nat.zero_le _⟩ (fun H locs hP hS => ?_)
            refine lv_goto (tgt := 134) hx hb d_FL_markBlocks_131 (by decide) ?_
            refine lv_iinc (v := (x1 + (1 : Int32))) (lv' := [(1, .int (x1 + (1 : Int32))), (0, .ref (a 2))]) hx hb d_FL_markBlocks_134 hl (k := 1) rfl (by rfl) (by decide) rfl (fun ls hl => ?_)
            refine lv_goto (tgt := 36) hx hb d_FL_markBlocks_137 (by decide) ?_
            exact ih (x1 + (1 : Int32)) σ21 q hf _ _ hP hS ls (lv_sub hl [1, 0] rfl)
          · replace hf := (if_neg c8).symm.trans hf
            have nc6 := lv_neT (a := 9) c6 (by decide)
            have nc7 := lv_neT (a := 10) c7 (by decide)
            have nc8 := lv_neT (a := 11) c8 (by decide)
            refine lv_tableOut (tgt := 134) hx hb d_FL_markBlocks_55 (by omega) (by decide) ?_
            refine lv_iinc (v := (x1 + (1 : Int32))) (lv' := [(1, .int (x1 + (1 : Int32))), (0, .ref (a 2))]) hx hb d_FL_markBlocks_134 hl (k := 1) rfl (by rfl) (by decide) rfl (fun ls hl => ?_)
            refine lv_goto (tgt := 36) hx hb d_FL_markBlocks_137 (by decide) ?_
            exact ih (x1 + (1 : Int32)) q4.2 q hf _ _ hP hS ls (lv_sub hl [1, 0] rfl)
def b_FL_markBlocks_2 : Nat → Int32 → SS → Option (SS)
  | 0, _, _ => none
  | n + 1, x1, σ =>
    (f_RC_count σ).bind fun q1 => (if q1.1 ≤ x1 then b_FL_markBlocks_36 FU (0 : Int32) q1.2 else (if x1 = 0 then (sto q1.2 7 40 x1 (vp_nar .boolean (1 : Int32))).bind fun σ7 => b_FL_markBlocks_2 n (x1 + (1 : Int32)) σ7 else (sto q1.2 7 40 x1 (vp_nar .boolean (0 : Int32))).bind fun σ5 => b_FL_markBlocks_2 n (x1 + (1 : Int32)) σ5))
set_option maxHeartbeats 4000000 in
set_option maxRecDepth 100000 in
theorem k_FL_markBlocks_2 {p : Program} {l : Launch} {e : Env} {s : State} {m : MethodId} {args : Array Value} {below : List Frame} {meth : Method} {c : Code} {D : va_G} {a t : Nat → Nat} {cI cZ : ClassId} (ha : aCC a) (F : CallFix p m c b_FL_markBlocks 2 s args gt R_FL) (hr : meth.sig.returnType = none) (hlk : meth.locks = false) (hK : va_K D vwCl [(cI, .int), (cZ, .boolean)] s) (hT : stC t (aC a) s s.heap) :
    ∀ (n : Nat) (x1 : Int32) (σ : SS) (q : SS), b_FL_markBlocks_2 n x1 σ = some q → ∀ (H : Heap) (locs : List Loc), va_P D vwCl ((wC a cI cZ) σ) H → va_S (aC a) s.heap H locs → ∀ (ls : Array Slot), lv_has ls 2 [(0, .ref (a 2)), (1, .int x1)] → W p l e { frames := 2, cells := 0, slots := 0, locals := 42 } s m args below meth c H locs 0 0 (MQ below (va_Qv (fun u => u = q) (pW D (wC a cI cZ) [(cI, .int), (cZ, .boolean)] (stC t) (aC a)) (aC a)) args s 0 0 (aC a)) (F0 m 2 ls []) := by
  obtain ⟨hx, hb, hml, hown, hg⟩ := id F
  intro n
  induction n with
  | zero =>
    intro x1 σ q hf
    rw [b_FL_markBlocks_2] at hf
    cases hf
  | succ n ih =>
    intro x1 σ q hf H locs hP hS ls hl
    rw [b_FL_markBlocks_2] at hf
    refine lv_iload_n hx hb d_FL_markBlocks_2 rfl (lv_at hl 1 rfl) ?_
    refine lv_aload_n hx hb d_FL_markBlocks_3 rfl (lv_at hl 0 rfl) ?_
    refine va_get (D := D) (ci := 2) (v := .ref (a 1)) (C := R_FL) (T := T_FL) (N := 4) hx hb hg in_FL hown hK hP 2 rfl rfl 0 (by decide) (hg _ gw_55) (fun _ h9 => h9) rfl d_FL_markBlocks_4 ?_
    refine bdK hf (fun q1 h2 hf => ?_)
    refine rc_Vi (As := []) (rest := [.int x1]) (b := a 1) (stC_g t) F (c_RC_count l ha σ q1 h2) (cwV 0 hg gc_FL_29 rfl rfl rfl hs_RC_count ⟨Nat.le_of_ble_eq_true rfl, Nat.le_of_ble_eq_true rfl⟩) hK hT hP hS (va_recv hK hP (ci := 1) (q0 := 1) rfl rfl) rfl hl.1 rfl (Nat.le_of_ble_eq_true rfl) d_FL_markBlocks_7 ⟨Nat.zero_le _, Nat.zero_le _⟩ (fun H locs hP hS => ?_)
    refine lv_icmp_ge (tgt := 34) hx hb d_FL_markBlocks_10 (by decide) (fun c3 => ?_) (fun c3 => ?_)
    · replace hf := (if_pos c3).symm.trans hf
      refine lv_iconst (v := (0 : Int32)) hx hb d_FL_markBlocks_34 (by decide) ?_
      refine lv_istore_n (lv' := [(1, .int (0 : Int32)), (0, .ref (a 2))]) hx hb d_FL_markBlocks_35 rfl hl (by decide) rfl (fun ls hl => ?_)
      exact k_FL_markBlocks_36 ha F hr hlk hK hT FU (0 : Int32) q1.2 q hf _ _ hP hS ls (lv_sub hl [1, 0] rfl)
    · replace hf := (if_neg c3).symm.trans hf
      refine lv_aload_n hx hb d_FL_markBlocks_13 rfl (lv_at hl 0 rfl) ?_
      refine va_get (D := D) (ci := 2) (v := .ref (a 13)) (C := R_FL) (T := T_FL) (N := 4) hx hb hg in_FL hown hK hP 2 rfl rfl 1 (by decide) (hg _ gw_56) (fun _ h9 => h9) rfl d_FL_markBlocks_14 ?_
      refine lv_iload_n hx hb d_FL_markBlocks_17 rfl (lv_at hl 1 rfl) ?_
      refine lv_iload_n hx hb d_FL_markBlocks_18 rfl (lv_at hl 1 rfl) ?_
      refine lv_if_ne (tgt := 26) hx hb d_FL_markBlocks_19 (by decide) (fun c4 => ?_) (fun c4 => ?_)
      · replace hf := (if_neg c4).symm.trans hf
        refine lv_iconst (v := (0 : Int32)) hx hb d_FL_markBlocks_26 (by decide) ?_
        refine bdK hf (fun σ5 h6 hf => ?_)
        refine r_zast (wf := (wC a cI cZ)) hx hb hK hP (dC ha q1.2) hS 13 1 rfl rfl (fun _ _ => rfl) h6 d_FL_markBlocks_27 (fun H locs hP hS => ?_)
        refine lv_iinc (v := (x1 + (1 : Int32))) (lv' := [(1, .int (x1 + (1 : Int32))), (0, .ref (a 2))]) hx hb d_FL_markBlocks_28 hl (k := 1) rfl (by rfl) (by decide) rfl (fun ls hl => ?_)
        refine lv_goto (tgt := 2) hx hb d_FL_markBlocks_31 (by decide) ?_
        exact ih (x1 + (1 : Int32)) σ5 q hf _ _ hP hS ls (lv_sub hl [1, 0] rfl)
      · replace hf := (if_pos c4).symm.trans hf
        refine lv_iconst (v := (1 : Int32)) hx hb d_FL_markBlocks_22 (by decide) ?_
        refine lv_goto (tgt := 27) hx hb d_FL_markBlocks_23 (by decide) ?_
        refine bdK hf (fun σ7 h8 hf => ?_)
        refine r_zast (wf := (wC a cI cZ)) hx hb hK hP (dC ha q1.2) hS 13 1 rfl rfl (fun _ _ => rfl) h8 d_FL_markBlocks_27 (fun H locs hP hS => ?_)
        refine lv_iinc (v := (x1 + (1 : Int32))) (lv' := [(1, .int (x1 + (1 : Int32))), (0, .ref (a 2))]) hx hb d_FL_markBlocks_28 hl (k := 1) rfl (by rfl) (by decide) rfl (fun ls hl => ?_)
        refine lv_goto (tgt := 2) hx hb d_FL_markBlocks_31 (by decide) ?_
        exact ih (x1 + (1 : Int32)) σ7 q hf _ _ hP hS ls (lv_sub hl [1, 0] rfl)
def f_FL_markBlocks (σ : SS) : Option (SS) :=
  b_FL_markBlocks_2 FU (0 : Int32) σ
set_option maxHeartbeats 4000000 in
set_option maxRecDepth 100000 in
theorem e_FL_markBlocks {p : Program} {l : Launch} {e : Env} {s : State} {m : MethodId} {args : Array Value} {below : List Frame} {meth : Method} {c : Code} {D : va_G} {a t : Nat → Nat} {cI cZ : ClassId} (ha : aCC a) (F : CallFix p m c b_FL_markBlocks 2 s args gt R_FL) (hr : meth.sig.returnType = none) (hlk : meth.locks = false) (hK : va_K D vwCl [(cI, .int), (cZ, .boolean)] s) (hT : stC t (aC a) s s.heap) :
    ∀ (σ : SS) (q : SS), f_FL_markBlocks σ = some q → ∀ (H : Heap) (locs : List Loc), va_P D vwCl ((wC a cI cZ) σ) H → va_S (aC a) s.heap H locs → ∀ (ls : Array Slot), lv_has ls 2 [(0, .ref (a 2))] → W p l e { frames := 2, cells := 0, slots := 0, locals := 42 } s m args below meth c H locs 0 0 (MQ below (va_Qv (fun u => u = q) (pW D (wC a cI cZ) [(cI, .int), (cZ, .boolean)] (stC t) (aC a)) (aC a)) args s 0 0 (aC a)) (F0 m 0 ls []) := by
  obtain ⟨hx, hb, hml, hown, hg⟩ := id F
  intro σ q hf H locs hP hS ls hl
  unfold f_FL_markBlocks at hf
  refine lv_iconst (v := (0 : Int32)) hx hb d_FL_markBlocks_0 (by decide) ?_
  refine lv_istore_n (lv' := [(1, .int (0 : Int32)), (0, .ref (a 2))]) hx hb d_FL_markBlocks_1 rfl hl (by decide) rfl (fun ls hl => ?_)
  exact k_FL_markBlocks_2 ha F hr hlk hK hT FU (0 : Int32) σ q hf _ _ hP hS ls (lv_sub hl [1, 0] rfl)
set_option maxHeartbeats 4000000 in
set_option maxRecDepth 100000 in
theorem c_FL_markBlocks (l : Launch) {D : va_G} {a t : Nat → Nat} {cI cZ : ClassId} (ha : aCC a) (σ : SS) (q : SS) (hf : f_FL_markBlocks σ = some q) : Met l y_FL_markBlocks ws_FL_markBlocks { frames := 2, cells := 0, slots := 0, locals := 42 } (va_Pc [.ref (a 2)] (pW D (wC a cI cZ) [(cI, .int), (cZ, .boolean)] (stC t) (aC a) σ)) (va_Qv (fun u => u = q) (pW D (wC a cI cZ) [(cI, .int), (cZ, .boolean)] (stC t) (aC a)) (aC a)) 0 0 (aC a) := by
  refine Met.ofW (cc := b_FL_markBlocks) (maxL := 2) (ret := none) (by decide) rfl ?_
  intro p e s m args below meth c s₁ B hml hv
  obtain ⟨rfl, hP, hK, hT⟩ := hv
  have hl := lv_entry ([.ref (a 2)]) (n := 2) (Nat.le_of_ble_eq_true rfl)
  rw [lg_entry_eq]
  generalize (lg_sl ([.ref (a 2)]) ++ List.replicate (2 - (lg_sl ([.ref (a 2)])).length) Slot.unset).toArray = ls at hl ⊢
  exact e_FL_markBlocks ha ⟨B.exec, B.bytes, hml, findClass_of_methodNamed B.named, fun w h => atoms_spec (ws := ws_FL_markBlocks) B.pre w (List.mem_cons_of_mem _ h)⟩ B.returns B.notSynchronized hK hT σ q hf s.heap [] hP va_S.rf ls hl
theorem d_FL_liveBefore_0 : decode b_FL_liveBefore 0 = .ok (.aload_n 0, 1) := by decide +kernel
theorem d_FL_liveBefore_1 : decode b_FL_liveBefore 1 = .ok (.getfield 22, 3) := by decide +kernel
theorem d_FL_liveBefore_4 : decode b_FL_liveBefore 4 = .ok (.iload_n 1, 1) := by decide +kernel
theorem d_FL_liveBefore_5 : decode b_FL_liveBefore 5 = .ok (.invokevirtual 53, 3) := by decide +kernel
theorem d_FL_liveBefore_8 : decode b_FL_liveBefore 8 = .ok (.ifCond .eq 12, 3) := by decide +kernel
theorem d_FL_liveBefore_11 : decode b_FL_liveBefore 11 = .ok (.aload_n 0, 1) := by decide +kernel
theorem d_FL_liveBefore_12 : decode b_FL_liveBefore 12 = .ok (.getfield 15, 3) := by decide +kernel
theorem d_FL_liveBefore_15 : decode b_FL_liveBefore 15 = .ok (.iload_n 1, 1) := by decide +kernel
theorem d_FL_liveBefore_16 : decode b_FL_liveBefore 16 = .ok (.iaload, 1) := by decide +kernel
theorem d_FL_liveBefore_17 : decode b_FL_liveBefore 17 = .ok (.goto 4, 3) := by decide +kernel
theorem d_FL_liveBefore_20 : decode b_FL_liveBefore 20 = .ok (.iconst 0, 1) := by decide +kernel
theorem d_FL_liveBefore_21 : decode b_FL_liveBefore 21 = .ok (.ireturn, 1) := by decide +kernel
def f_FL_liveBefore (x1 : Int32) (σ : SS) : Option (Int32 × SS) :=
  (f_RC_holds x1 σ).bind fun q1 => (if q1.1 = 0 then some ((0 : Int32), q1.2) else (ld (q1.2 8) 40 x1).bind fun v4 => some (v4, q1.2))
set_option maxHeartbeats 4000000 in
set_option maxRecDepth 100000 in
theorem e_FL_liveBefore {p : Program} {l : Launch} {e : Env} {s : State} {m : MethodId} {args : Array Value} {below : List Frame} {meth : Method} {c : Code} {D : va_G} {a t : Nat → Nat} {cI cZ : ClassId} (ha : aCC a) (F : CallFix p m c b_FL_liveBefore 2 s args gt R_FL) (hr : meth.sig.returnType = some .int) (hlk : meth.locks = false) (hK : va_K D vwCl [(cI, .int), (cZ, .boolean)] s) (hT : stC t (aC a) s s.heap) :
    ∀ (x1 : Int32) (σ : SS) (q : Int32 × SS), f_FL_liveBefore x1 σ = some q → ∀ (H : Heap) (locs : List Loc), va_P D vwCl ((wC a cI cZ) σ) H → va_S (aC a) s.heap H locs → ∀ (ls : Array Slot), lv_has ls 2 [(0, .ref (a 2)), (1, .int x1)] → W p l e { frames := 1, cells := 0, slots := 0, locals := 21 } s m args below meth c H locs 0 0 (MQ below (va_Qi (fun r u => r = q.1 ∧ u = q.2) (pW D (wC a cI cZ) [(cI, .int), (cZ, .boolean)] (stC t) (aC a)) (aC a)) args s 0 0 (aC a)) (F0 m 0 ls []) := by
  obtain ⟨hx, hb, hml, hown, hg⟩ := id F
  intro x1 σ q hf H locs hP hS ls hl
  unfold f_FL_liveBefore at hf
  refine lv_aload_n hx hb d_FL_liveBefore_0 rfl (lv_at hl 0 rfl) ?_
  refine va_get (D := D) (ci := 2) (v := .ref (a 1)) (C := R_FL) (T := T_FL) (N := 4) hx hb hg in_FL hown hK hP 2 rfl rfl 0 (by decide) (hg _ gw_55) (fun _ h9 => h9) rfl d_FL_liveBefore_1 ?_
  refine lv_iload_n hx hb d_FL_liveBefore_4 rfl (lv_at hl 1 rfl) ?_
  refine bdK hf (fun q1 h2 hf => ?_)
  refine rc_Vi (As := [.int x1]) (rest := []) (b := a 1) (stC_g t) F (c_RC_holds l ha x1 σ q1 h2) (cwV 1 hg gc_FL_53 rfl rfl rfl hs_RC_holds ⟨Nat.le_of_ble_eq_true rfl, Nat.le_of_ble_eq_true rfl⟩) hK hT hP hS (va_recv hK hP (ci := 1) (q0 := 1) rfl rfl) rfl hl.1 rfl (Nat.le_of_ble_eq_true rfl) d_FL_liveBefore_5 ⟨Nat.zero_le _, Nat.zero_le _⟩ (fun H locs hP hS => ?_)
  refine lv_if_eq (tgt := 20) hx hb d_FL_liveBefore_8 (by decide) (fun c3 => ?_) (fun c3 => ?_)
  · replace hf := (if_pos c3).symm.trans hf
    refine lv_iconst (v := (0 : Int32)) hx hb d_FL_liveBefore_20 (by decide) ?_
    exact rr_i hx hb hr hlk (stC_g t) hK hT hP hS hf d_FL_liveBefore_21
  · replace hf := (if_neg c3).symm.trans hf
    refine lv_aload_n hx hb d_FL_liveBefore_11 rfl (lv_at hl 0 rfl) ?_
    refine va_get (D := D) (ci := 2) (v := .ref (a 14)) (C := R_FL) (T := T_FL) (N := 4) hx hb hg in_FL hown hK hP 2 rfl rfl 2 (by decide) (hg _ gw_57) (fun _ h9 => h9) rfl d_FL_liveBefore_12 ?_
    refine lv_iload_n hx hb d_FL_liveBefore_15 rfl (lv_at hl 1 rfl) ?_
    refine bdK hf (fun v4 h5 hf => ?_)
    refine r_iald hx hb hK hP 14 0 rfl rfl h5 d_FL_liveBefore_16 ?_
    refine lv_goto (tgt := 21) hx hb d_FL_liveBefore_17 (by decide) ?_
    exact rr_i hx hb hr hlk (stC_g t) hK hT hP hS hf d_FL_liveBefore_21
set_option maxHeartbeats 4000000 in
set_option maxRecDepth 100000 in
theorem c_FL_liveBefore (l : Launch) {D : va_G} {a t : Nat → Nat} {cI cZ : ClassId} (ha : aCC a) (x1 : Int32) (σ : SS) (q : Int32 × SS) (hf : f_FL_liveBefore x1 σ = some q) : Met l y_FL_liveBefore ws_FL_liveBefore { frames := 1, cells := 0, slots := 0, locals := 21 } (va_Pc [.ref (a 2), .int x1] (pW D (wC a cI cZ) [(cI, .int), (cZ, .boolean)] (stC t) (aC a) σ)) (va_Qi (fun r u => r = q.1 ∧ u = q.2) (pW D (wC a cI cZ) [(cI, .int), (cZ, .boolean)] (stC t) (aC a)) (aC a)) 0 0 (aC a) := by
  refine Met.ofW (cc := b_FL_liveBefore) (maxL := 2) (ret := some .int) (by decide) rfl ?_
  intro p e s m args below meth c s₁ B hml hv
  obtain ⟨rfl, hP, hK, hT⟩ := hv
  have hl := lv_entry ([.ref (a 2), .int x1]) (n := 2) (Nat.le_of_ble_eq_true rfl)
  rw [lg_entry_eq]
  generalize (lg_sl ([.ref (a 2), .int x1]) ++ List.replicate (2 - (lg_sl ([.ref (a 2), .int x1])).length) Slot.unset).toArray = ls at hl ⊢
  exact e_FL_liveBefore ha ⟨B.exec, B.bytes, hml, findClass_of_methodNamed B.named, fun w h => atoms_spec (ws := ws_FL_liveBefore) B.pre w (List.mem_cons_of_mem _ h)⟩ B.returns B.notSynchronized hK hT x1 σ q hf s.heap [] hP va_S.rf ls hl
theorem d_FL_gatherAfter_0 : decode b_FL_gatherAfter 0 = .ok (.aload_n 0, 1) := by decide +kernel
theorem d_FL_gatherAfter_1 : decode b_FL_gatherAfter 1 = .ok (.getfield 22, 3) := by decide +kernel
theorem d_FL_gatherAfter_4 : decode b_FL_gatherAfter 4 = .ok (.iload_n 1, 1) := by decide +kernel
theorem d_FL_gatherAfter_5 : decode b_FL_gatherAfter 5 = .ok (.invokevirtual 39, 3) := by decide +kernel
theorem d_FL_gatherAfter_8 : decode b_FL_gatherAfter 8 = .ok (.tableswitch 64 9 11 #[28, 41, 62], 28) := by decide +kernel
theorem d_FL_gatherAfter_36 : decode b_FL_gatherAfter 36 = .ok (.aload_n 0, 1) := by decide +kernel
theorem d_FL_gatherAfter_37 : decode b_FL_gatherAfter 37 = .ok (.aload_n 0, 1) := by decide +kernel
theorem d_FL_gatherAfter_38 : decode b_FL_gatherAfter 38 = .ok (.getfield 22, 3) := by decide +kernel
theorem d_FL_gatherAfter_41 : decode b_FL_gatherAfter 41 = .ok (.iload_n 1, 1) := by decide +kernel
theorem d_FL_gatherAfter_42 : decode b_FL_gatherAfter 42 = .ok (.invokevirtual 43, 3) := by decide +kernel
theorem d_FL_gatherAfter_45 : decode b_FL_gatherAfter 45 = .ok (.invokevirtual 72, 3) := by decide +kernel
theorem d_FL_gatherAfter_48 : decode b_FL_gatherAfter 48 = .ok (.ireturn, 1) := by decide +kernel
theorem d_FL_gatherAfter_49 : decode b_FL_gatherAfter 49 = .ok (.aload_n 0, 1) := by decide +kernel
theorem d_FL_gatherAfter_50 : decode b_FL_gatherAfter 50 = .ok (.aload_n 0, 1) := by decide +kernel
theorem d_FL_gatherAfter_51 : decode b_FL_gatherAfter 51 = .ok (.getfield 22, 3) := by decide +kernel
theorem d_FL_gatherAfter_54 : decode b_FL_gatherAfter 54 = .ok (.iload_n 1, 1) := by decide +kernel
theorem d_FL_gatherAfter_55 : decode b_FL_gatherAfter 55 = .ok (.invokevirtual 50, 3) := by decide +kernel
theorem d_FL_gatherAfter_58 : decode b_FL_gatherAfter 58 = .ok (.invokevirtual 72, 3) := by decide +kernel
theorem d_FL_gatherAfter_61 : decode b_FL_gatherAfter 61 = .ok (.aload_n 0, 1) := by decide +kernel
theorem d_FL_gatherAfter_62 : decode b_FL_gatherAfter 62 = .ok (.iload_n 1, 1) := by decide +kernel
theorem d_FL_gatherAfter_63 : decode b_FL_gatherAfter 63 = .ok (.iconst 1, 1) := by decide +kernel
theorem d_FL_gatherAfter_64 : decode b_FL_gatherAfter 64 = .ok (.iadd, 1) := by decide +kernel
theorem d_FL_gatherAfter_65 : decode b_FL_gatherAfter 65 = .ok (.invokevirtual 72, 3) := by decide +kernel
theorem d_FL_gatherAfter_68 : decode b_FL_gatherAfter 68 = .ok (.ior, 1) := by decide +kernel
theorem d_FL_gatherAfter_69 : decode b_FL_gatherAfter 69 = .ok (.ireturn, 1) := by decide +kernel
theorem d_FL_gatherAfter_70 : decode b_FL_gatherAfter 70 = .ok (.iconst 0, 1) := by decide +kernel
theorem d_FL_gatherAfter_71 : decode b_FL_gatherAfter 71 = .ok (.ireturn, 1) := by decide +kernel
theorem d_FL_gatherAfter_72 : decode b_FL_gatherAfter 72 = .ok (.aload_n 0, 1) := by decide +kernel
theorem d_FL_gatherAfter_73 : decode b_FL_gatherAfter 73 = .ok (.iload_n 1, 1) := by decide +kernel
theorem d_FL_gatherAfter_74 : decode b_FL_gatherAfter 74 = .ok (.iconst 1, 1) := by decide +kernel
theorem d_FL_gatherAfter_75 : decode b_FL_gatherAfter 75 = .ok (.iadd, 1) := by decide +kernel
theorem d_FL_gatherAfter_76 : decode b_FL_gatherAfter 76 = .ok (.invokevirtual 72, 3) := by decide +kernel
theorem d_FL_gatherAfter_79 : decode b_FL_gatherAfter 79 = .ok (.ireturn, 1) := by decide +kernel
theorem gc_FL_72 : GoodIn gt (wsV R_FL 72 R_FL y_FL_liveBefore ws_FL_liveBefore) := gd_V gw_270 gw_271 gw_272 gw_3 gw_273
def f_FL_gatherAfter (x1 : Int32) (σ : SS) : Option (Int32 × SS) :=
  (f_RC_operationOf x1 σ).bind fun q1 => (if q1.1 = (9 : Int32) then (f_RC_aOf x1 q1.2).bind fun q6 => (f_FL_liveBefore q6.1 q6.2).bind fun q8 => some (q8.1, q8.2) else (if q1.1 = (10 : Int32) then (f_RC_bOf x1 q1.2).bind fun q10 => (f_FL_liveBefore q10.1 q10.2).bind fun q12 => (f_FL_liveBefore (x1 + (1 : Int32)) q12.2).bind fun q14 => some ((q12.1 ||| q14.1), q14.2) else (if q1.1 = (11 : Int32) then some ((0 : Int32), q1.2) else (f_FL_liveBefore (x1 + (1 : Int32)) q1.2).bind fun q16 => some (q16.1, q16.2))))
set_option maxHeartbeats 4000000 in
set_option maxRecDepth 100000 in
theorem e_FL_gatherAfter {p : Program} {l : Launch} {e : Env} {s : State} {m : MethodId} {args : Array Value} {below : List Frame} {meth : Method} {c : Code} {D : va_G} {a t : Nat → Nat} {cI cZ : ClassId} (ha : aCC a) (F : CallFix p m c b_FL_gatherAfter 2 s args gt R_FL) (hr : meth.sig.returnType = some .int) (hlk : meth.locks = false) (hK : va_K D vwCl [(cI, .int), (cZ, .boolean)] s) (hT : stC t (aC a) s s.heap) :
    ∀ (x1 : Int32) (σ : SS) (q : Int32 × SS), f_FL_gatherAfter x1 σ = some q → ∀ (H : Heap) (locs : List Loc), va_P D vwCl ((wC a cI cZ) σ) H → va_S (aC a) s.heap H locs → ∀ (ls : Array Slot), lv_has ls 2 [(0, .ref (a 2)), (1, .int x1)] → W p l e { frames := 2, cells := 0, slots := 0, locals := 42 } s m args below meth c H locs 0 0 (MQ below (va_Qi (fun r u => r = q.1 ∧ u = q.2) (pW D (wC a cI cZ) [(cI, .int), (cZ, .boolean)] (stC t) (aC a)) (aC a)) args s 0 0 (aC a)) (F0 m 0 ls []) := by
  obtain ⟨hx, hb, hml, hown, hg⟩ := id F
  intro x1 σ q hf H locs hP hS ls hl
  unfold f_FL_gatherAfter at hf
  refine lv_aload_n hx hb d_FL_gatherAfter_0 rfl (lv_at hl 0 rfl) ?_
  refine va_get (D := D) (ci := 2) (v := .ref (a 1)) (C := R_FL) (T := T_FL) (N := 4) hx hb hg in_FL hown hK hP 2 rfl rfl 0 (by decide) (hg _ gw_55) (fun _ h9 => h9) rfl d_FL_gatherAfter_1 ?_
  refine lv_iload_n hx hb d_FL_gatherAfter_4 rfl (lv_at hl 1 rfl) ?_
  refine bdK hf (fun q1 h2 hf => ?_)
  refine rc_Vi (As := [.int x1]) (rest := []) (b := a 1) (stC_g t) F (c_RC_operationOf l ha x1 σ q1 h2) (cwV 1 hg gc_FL_39 rfl rfl rfl hs_RC_operationOf ⟨Nat.le_of_ble_eq_true rfl, Nat.le_of_ble_eq_true rfl⟩) hK hT hP hS (va_recv hK hP (ci := 1) (q0 := 1) rfl rfl) rfl hl.1 rfl (Nat.le_of_ble_eq_true rfl) d_FL_gatherAfter_5 ⟨Nat.zero_le _, Nat.zero_le _⟩ (fun H locs hP hS => ?_)
  by_cases c3 : q1.1 = (9 : Int32)
  · replace hf := (if_pos c3).symm.trans hf
    refine lv_tableIn (off := 28) (tgt := 36) hx hb d_FL_gatherAfter_8 (by rw [c3]; decide) (by rw [c3]; decide) (by rw [c3]; rfl) (by decide) ?_
    refine lv_aload_n hx hb d_FL_gatherAfter_36 rfl (lv_at hl 0 rfl) ?_
    refine lv_aload_n hx hb d_FL_gatherAfter_37 rfl (lv_at hl 0 rfl) ?_
    refine va_get (D := D) (ci := 2) (v := .ref (a 1)) (C := R_FL) (T := T_FL) (N := 4) hx hb hg in_FL hown hK hP 2 rfl rfl 0 (by decide) (hg _ gw_55) (fun _ h9 => h9) rfl d_FL_gatherAfter_38 ?_
    refine lv_iload_n hx hb d_FL_gatherAfter_41 rfl (lv_at hl 1 rfl) ?_
    refine bdK hf (fun q6 h7 hf => ?_)
    refine rc_Vi (As := [.int x1]) (rest := [.ref (a 2)]) (b := a 1) (stC_g t) F (c_RC_aOf l ha x1 q1.2 q6 h7) (cwV 1 hg gc_FL_43 rfl rfl rfl hs_RC_aOf ⟨Nat.le_of_ble_eq_true rfl, Nat.le_of_ble_eq_true rfl⟩) hK hT hP hS (va_recv hK hP (ci := 1) (q0 := 1) rfl rfl) rfl hl.1 rfl (Nat.le_of_ble_eq_true rfl) d_FL_gatherAfter_42 ⟨Nat.zero_le _, Nat.zero_le _⟩ (fun H locs hP hS => ?_)
    refine bdK hf (fun q8 h9 hf => ?_)
    refine rc_Vi (As := [.int q6.1]) (rest := []) (b := a 2) (stC_g t) F (c_FL_liveBefore l ha q6.1 q6.2 q8 h9) (cwV 1 hg gc_FL_72 rfl rfl rfl hs_FL_liveBefore ⟨Nat.le_of_ble_eq_true rfl, Nat.le_of_ble_eq_true rfl⟩) hK hT hP hS (va_recv hK hP (ci := 2) (q0 := 2) rfl rfl) rfl hl.1 rfl (Nat.le_of_ble_eq_true rfl) d_FL_gatherAfter_45 ⟨Nat.zero_le _, Nat.zero_le _⟩ (fun H locs hP hS => ?_)
    exact rr_i hx hb hr hlk (stC_g t) hK hT hP hS hf d_FL_gatherAfter_48
  · replace hf := (if_neg c3).symm.trans hf
    by_cases c4 : q1.1 = (10 : Int32)
    · replace hf := (if_pos c4).symm.trans hf
      refine lv_tableIn (off := 41) (tgt := 49) hx hb d_FL_gatherAfter_8 (by rw [c4]; decide) (by rw [c4]; decide) (by rw [c4]; rfl) (by decide) ?_
      refine lv_aload_n hx hb d_FL_gatherAfter_49 rfl (lv_at hl 0 rfl) ?_
      refine lv_aload_n hx hb d_FL_gatherAfter_50 rfl (lv_at hl 0 rfl) ?_
      refine va_get (D := D) (ci := 2) (v := .ref (a 1)) (C := R_FL) (T := T_FL) (N := 4) hx hb hg in_FL hown hK hP 2 rfl rfl 0 (by decide) (hg _ gw_55) (fun _ h9 => h9) rfl d_FL_gatherAfter_51 ?_
      refine lv_iload_n hx hb d_FL_gatherAfter_54 rfl (lv_at hl 1 rfl) ?_
      refine bdK hf (fun q10 h11 hf => ?_)
      refine rc_Vi (As := [.int x1]) (rest := [.ref (a 2)]) (b := a 1) (stC_g t) F (c_RC_bOf l ha x1 q1.2 q10 h11) (cwV 1 hg gc_FL_50 rfl rfl rfl hs_RC_bOf ⟨Nat.le_of_ble_eq_true rfl, Nat.le_of_ble_eq_true rfl⟩) hK hT hP hS (va_recv hK hP (ci := 1) (q0 := 1) rfl rfl) rfl hl.1 rfl (Nat.le_of_ble_eq_true rfl) d_FL_gatherAfter_55 ⟨Nat.zero_le _, Nat.zero_le _⟩ (fun H locs hP hS => ?_)
      refine bdK hf (fun q12 h13 hf => ?_)
      refine rc_Vi (As := [.int q10.1]) (rest := []) (b := a 2) (stC_g t) F (c_FL_liveBefore l ha q10.1 q10.2 q12 h13) (cwV 1 hg gc_FL_72 rfl rfl rfl hs_FL_liveBefore ⟨Nat.le_of_ble_eq_true rfl, Nat.le_of_ble_eq_true rfl⟩) hK hT hP hS (va_recv hK hP (ci := 2) (q0 := 2) rfl rfl) rfl hl.1 rfl (Nat.le_of_ble_eq_true rfl) d_FL_gatherAfter_58 ⟨Nat.zero_le _, Nat.zero_le _⟩ (fun H locs hP hS => ?_)
      refine lv_aload_n hx hb d_FL_gatherAfter_61 rfl (lv_at hl 0 rfl) ?_
      refine lv_iload_n hx hb d_FL_gatherAfter_62 rfl (lv_at hl 1 rfl) ?_
      refine lv_iconst (v := (1 : Int32)) hx hb d_FL_gatherAfter_63 (by decide) ?_
      refine lv_iadd hx hb d_FL_gatherAfter_64 ?_
      refine bdK hf (fun q14 h15 hf => ?_)
      refine rc_Vi (As := [.int (x1 + (1 : Int32))]) (rest := [.int q12.1]) (b := a 2) (stC_g t) F (c_FL_liveBefore l ha (x1 + (1 : Int32)) q12.2 q14 h15) (cwV 1 hg gc_FL_72 rfl rfl rfl hs_FL_liveBefore ⟨Nat.le_of_ble_eq_true rfl, Nat.le_of_ble_eq_true rfl⟩) hK hT hP hS (va_recv hK hP (ci := 2) (q0 := 2) rfl rfl) rfl hl.1 rfl (Nat.le_of_ble_eq_true rfl) d_FL_gatherAfter_65 ⟨Nat.zero_le _, Nat.zero_le _⟩ (fun H locs hP hS => ?_)
      refine lv_ior hx hb d_FL_gatherAfter_68 ?_
      exact rr_i hx hb hr hlk (stC_g t) hK hT hP hS hf d_FL_gatherAfter_69
    · replace hf := (if_neg c4).symm.trans hf
      by_cases c5 : q1.1 = (11 : Int32)
      · replace hf := (if_pos c5).symm.trans hf
        refine lv_tableIn (off := 62) (tgt := 70) hx hb d_FL_gatherAfter_8 (by rw [c5]; decide) (by rw [c5]; decide) (by rw [c5]; rfl) (by decide) ?_
        refine lv_iconst (v := (0 : Int32)) hx hb d_FL_gatherAfter_70 (by decide) ?_
        exact rr_i hx hb hr hlk (stC_g t) hK hT hP hS hf d_FL_gatherAfter_71
      · replace hf := (if_neg c5).symm.trans hf
        have nc3 := lv_neT (a := 9) c3 (by decide)
        have nc4 := lv_neT (a := 10) c4 (by decide)
        have nc5 := lv_neT (a := 11) c5 (by decide)
        refine lv_tableOut (tgt := 72) hx hb d_FL_gatherAfter_8 (by omega) (by decide) ?_
        refine lv_aload_n hx hb d_FL_gatherAfter_72 rfl (lv_at hl 0 rfl) ?_
        refine lv_iload_n hx hb d_FL_gatherAfter_73 rfl (lv_at hl 1 rfl) ?_
        refine lv_iconst (v := (1 : Int32)) hx hb d_FL_gatherAfter_74 (by decide) ?_
        refine lv_iadd hx hb d_FL_gatherAfter_75 ?_
        refine bdK hf (fun q16 h17 hf => ?_)
        refine rc_Vi (As := [.int (x1 + (1 : Int32))]) (rest := []) (b := a 2) (stC_g t) F (c_FL_liveBefore l ha (x1 + (1 : Int32)) q1.2 q16 h17) (cwV 1 hg gc_FL_72 rfl rfl rfl hs_FL_liveBefore ⟨Nat.le_of_ble_eq_true rfl, Nat.le_of_ble_eq_true rfl⟩) hK hT hP hS (va_recv hK hP (ci := 2) (q0 := 2) rfl rfl) rfl hl.1 rfl (Nat.le_of_ble_eq_true rfl) d_FL_gatherAfter_76 ⟨Nat.zero_le _, Nat.zero_le _⟩ (fun H locs hP hS => ?_)
        exact rr_i hx hb hr hlk (stC_g t) hK hT hP hS hf d_FL_gatherAfter_79
set_option maxHeartbeats 4000000 in
set_option maxRecDepth 100000 in
theorem c_FL_gatherAfter (l : Launch) {D : va_G} {a t : Nat → Nat} {cI cZ : ClassId} (ha : aCC a) (x1 : Int32) (σ : SS) (q : Int32 × SS) (hf : f_FL_gatherAfter x1 σ = some q) : Met l y_FL_gatherAfter ws_FL_gatherAfter { frames := 2, cells := 0, slots := 0, locals := 42 } (va_Pc [.ref (a 2), .int x1] (pW D (wC a cI cZ) [(cI, .int), (cZ, .boolean)] (stC t) (aC a) σ)) (va_Qi (fun r u => r = q.1 ∧ u = q.2) (pW D (wC a cI cZ) [(cI, .int), (cZ, .boolean)] (stC t) (aC a)) (aC a)) 0 0 (aC a) := by
  refine Met.ofW (cc := b_FL_gatherAfter) (maxL := 2) (ret := some .int) (by decide) rfl ?_
  intro p e s m args below meth c s₁ B hml hv
  obtain ⟨rfl, hP, hK, hT⟩ := hv
  have hl := lv_entry ([.ref (a 2), .int x1]) (n := 2) (Nat.le_of_ble_eq_true rfl)
  rw [lg_entry_eq]
  generalize (lg_sl ([.ref (a 2), .int x1]) ++ List.replicate (2 - (lg_sl ([.ref (a 2), .int x1])).length) Slot.unset).toArray = ls at hl ⊢
  exact e_FL_gatherAfter ha ⟨B.exec, B.bytes, hml, findClass_of_methodNamed B.named, fun w h => atoms_spec (ws := ws_FL_gatherAfter) B.pre w (List.mem_cons_of_mem _ h)⟩ B.returns B.notSynchronized hK hT x1 σ q hf s.heap [] hP va_S.rf ls hl
theorem d_RC_readAsA_0 : decode b_RC_readAsA 0 = .ok (.aload_n 0, 1) := by decide +kernel
theorem d_RC_readAsA_1 : decode b_RC_readAsA 1 = .ok (.getfield 27, 3) := by decide +kernel
theorem d_RC_readAsA_4 : decode b_RC_readAsA 4 = .ok (.iload_n 1, 1) := by decide +kernel
theorem d_RC_readAsA_5 : decode b_RC_readAsA 5 = .ok (.iaload, 1) := by decide +kernel
theorem d_RC_readAsA_6 : decode b_RC_readAsA 6 = .ok (.ireturn, 1) := by decide +kernel
def f_RC_readAsA (x1 : Int32) (σ : SS) : Option (Int32 × SS) :=
  (ld (σ 5) 40 x1).bind fun v1 => some (v1, σ)
set_option maxHeartbeats 4000000 in
set_option maxRecDepth 100000 in
theorem e_RC_readAsA {p : Program} {l : Launch} {e : Env} {s : State} {m : MethodId} {args : Array Value} {below : List Frame} {meth : Method} {c : Code} {D : va_G} {a t : Nat → Nat} {cI cZ : ClassId} (ha : aCC a) (F : CallFix p m c b_RC_readAsA 2 s args gt R_RC) (hr : meth.sig.returnType = some .int) (hlk : meth.locks = false) (hK : va_K D vwCl [(cI, .int), (cZ, .boolean)] s) (hT : stC t (aC a) s s.heap) :
    ∀ (x1 : Int32) (σ : SS) (q : Int32 × SS), f_RC_readAsA x1 σ = some q → ∀ (H : Heap) (locs : List Loc), va_P D vwCl ((wC a cI cZ) σ) H → va_S (aC a) s.heap H locs → ∀ (ls : Array Slot), lv_has ls 2 [(0, .ref (a 1)), (1, .int x1)] → W p l e { frames := 0, cells := 0, slots := 0, locals := 0 } s m args below meth c H locs 0 0 (MQ below (va_Qi (fun r u => r = q.1 ∧ u = q.2) (pW D (wC a cI cZ) [(cI, .int), (cZ, .boolean)] (stC t) (aC a)) (aC a)) args s 0 0 (aC a)) (F0 m 0 ls []) := by
  obtain ⟨hx, hb, hml, hown, hg⟩ := id F
  intro x1 σ q hf H locs hP hS ls hl
  unfold f_RC_readAsA at hf
  refine lv_aload_n hx hb d_RC_readAsA_0 rfl (lv_at hl 0 rfl) ?_
  refine va_get (D := D) (ci := 1) (v := .ref (a 11)) (C := R_RC) (T := T_RC) (N := 8) hx hb hg in_RC hown hK hP 1 rfl rfl 5 (by decide) (hg _ gw_28) (fun _ h9 => h9) rfl d_RC_readAsA_1 ?_
  refine lv_iload_n hx hb d_RC_readAsA_4 rfl (lv_at hl 1 rfl) ?_
  refine bdK hf (fun v1 h2 hf => ?_)
  refine r_iald hx hb hK hP 11 0 rfl rfl h2 d_RC_readAsA_5 ?_
  exact rr_i hx hb hr hlk (stC_g t) hK hT hP hS hf d_RC_readAsA_6
set_option maxHeartbeats 4000000 in
set_option maxRecDepth 100000 in
theorem c_RC_readAsA (l : Launch) {D : va_G} {a t : Nat → Nat} {cI cZ : ClassId} (ha : aCC a) (x1 : Int32) (σ : SS) (q : Int32 × SS) (hf : f_RC_readAsA x1 σ = some q) : Met l y_RC_readAsA ws_RC_readAsA { frames := 0, cells := 0, slots := 0, locals := 0 } (va_Pc [.ref (a 1), .int x1] (pW D (wC a cI cZ) [(cI, .int), (cZ, .boolean)] (stC t) (aC a) σ)) (va_Qi (fun r u => r = q.1 ∧ u = q.2) (pW D (wC a cI cZ) [(cI, .int), (cZ, .boolean)] (stC t) (aC a)) (aC a)) 0 0 (aC a) := by
  refine Met.ofW (cc := b_RC_readAsA) (maxL := 2) (ret := some .int) (by decide) rfl ?_
  intro p e s m args below meth c s₁ B hml hv
  obtain ⟨rfl, hP, hK, hT⟩ := hv
  have hl := lv_entry ([.ref (a 1), .int x1]) (n := 2) (Nat.le_of_ble_eq_true rfl)
  rw [lg_entry_eq]
  generalize (lg_sl ([.ref (a 1), .int x1]) ++ List.replicate (2 - (lg_sl ([.ref (a 1), .int x1])).length) Slot.unset).toArray = ls at hl ⊢
  exact e_RC_readAsA ha ⟨B.exec, B.bytes, hml, findClass_of_methodNamed B.named, fun w h => atoms_spec (ws := ws_RC_readAsA) B.pre w (List.mem_cons_of_mem _ h)⟩ B.returns B.notSynchronized hK hT x1 σ q hf s.heap [] hP va_S.rf ls hl
theorem d_FL_setOf_0 : decode b_FL_setOf 0 = .ok (.iload_n 0, 1) := by decide +kernel
theorem d_FL_setOf_1 : decode b_FL_setOf 1 = .ok (.iconst (-1), 1) := by decide +kernel
theorem d_FL_setOf_2 : decode b_FL_setOf 2 = .ok (.if_icmp .ne 7, 3) := by decide +kernel
theorem d_FL_setOf_5 : decode b_FL_setOf 5 = .ok (.iconst 0, 1) := by decide +kernel
theorem d_FL_setOf_6 : decode b_FL_setOf 6 = .ok (.goto 6, 3) := by decide +kernel
theorem d_FL_setOf_9 : decode b_FL_setOf 9 = .ok (.iconst 1, 1) := by decide +kernel
theorem d_FL_setOf_10 : decode b_FL_setOf 10 = .ok (.iload_n 0, 1) := by decide +kernel
theorem d_FL_setOf_11 : decode b_FL_setOf 11 = .ok (.ishl, 1) := by decide +kernel
theorem d_FL_setOf_12 : decode b_FL_setOf 12 = .ok (.ireturn, 1) := by decide +kernel
def f_FL_setOf (x0 : Int32) (σ : SS) : Option (Int32 × SS) :=
  (if x0 = (-1 : Int32) then some ((0 : Int32), σ) else some (((1 : Int32) <<< (x0 &&& 31)), σ))
set_option maxHeartbeats 4000000 in
set_option maxRecDepth 100000 in
theorem e_FL_setOf {p : Program} {l : Launch} {e : Env} {s : State} {m : MethodId} {args : Array Value} {below : List Frame} {meth : Method} {c : Code} {D : va_G} {a t : Nat → Nat} {cI cZ : ClassId} (ha : aCC a) (F : CallFix p m c b_FL_setOf 1 s args gt R_FL) (hr : meth.sig.returnType = some .int) (hlk : meth.locks = false) (hK : va_K D vwCl [(cI, .int), (cZ, .boolean)] s) (hT : stC t (aC a) s s.heap) :
    ∀ (x0 : Int32) (σ : SS) (q : Int32 × SS), f_FL_setOf x0 σ = some q → ∀ (H : Heap) (locs : List Loc), va_P D vwCl ((wC a cI cZ) σ) H → va_S (aC a) s.heap H locs → ∀ (ls : Array Slot), lv_has ls 1 [(0, .int x0)] → W p l e { frames := 0, cells := 0, slots := 0, locals := 0 } s m args below meth c H locs 0 0 (MQ below (va_Qi (fun r u => r = q.1 ∧ u = q.2) (pW D (wC a cI cZ) [(cI, .int), (cZ, .boolean)] (stC t) (aC a)) (aC a)) args s 0 0 (aC a)) (F0 m 0 ls []) := by
  obtain ⟨hx, hb, hml, hown, hg⟩ := id F
  intro x0 σ q hf H locs hP hS ls hl
  unfold f_FL_setOf at hf
  refine lv_iload_n hx hb d_FL_setOf_0 rfl (lv_at hl 0 rfl) ?_
  refine lv_iconst (v := (-1 : Int32)) hx hb d_FL_setOf_1 (by decide) ?_
  refine lv_icmp_ne (tgt := 9) hx hb d_FL_setOf_2 (by decide) (fun c1 => ?_) (fun c1 => ?_)
  · replace hf := (if_neg c1).symm.trans hf
    refine lv_iconst (v := (1 : Int32)) hx hb d_FL_setOf_9 (by decide) ?_
    refine lv_iload_n hx hb d_FL_setOf_10 rfl (lv_at hl 0 rfl) ?_
    refine lv_ishl hx hb d_FL_setOf_11 ?_
    exact rr_i hx hb hr hlk (stC_g t) hK hT hP hS hf d_FL_setOf_12
  · replace hf := (if_pos c1).symm.trans hf
    refine lv_iconst (v := (0 : Int32)) hx hb d_FL_setOf_5 (by decide) ?_
    refine lv_goto (tgt := 12) hx hb d_FL_setOf_6 (by decide) ?_
    exact rr_i hx hb hr hlk (stC_g t) hK hT hP hS hf d_FL_setOf_12
set_option maxHeartbeats 4000000 in
set_option maxRecDepth 100000 in
theorem c_FL_setOf (l : Launch) {D : va_G} {a t : Nat → Nat} {cI cZ : ClassId} (ha : aCC a) (x0 : Int32) (σ : SS) (q : Int32 × SS) (hf : f_FL_setOf x0 σ = some q) : Met l y_FL_setOf ws_FL_setOf { frames := 0, cells := 0, slots := 0, locals := 0 } (va_Pc [.int x0] (pW D (wC a cI cZ) [(cI, .int), (cZ, .boolean)] (stC t) (aC a) σ)) (va_Qi (fun r u => r = q.1 ∧ u = q.2) (pW D (wC a cI cZ) [(cI, .int), (cZ, .boolean)] (stC t) (aC a)) (aC a)) 0 0 (aC a) := by
  refine Met.ofW (cc := b_FL_setOf) (maxL := 1) (ret := some .int) (by decide) rfl ?_
  intro p e s m args below meth c s₁ B hml hv
  obtain ⟨rfl, hP, hK, hT⟩ := hv
  have hl := lv_entry ([.int x0]) (n := 1) (Nat.le_of_ble_eq_true rfl)
  rw [lg_entry_eq]
  generalize (lg_sl ([.int x0]) ++ List.replicate (1 - (lg_sl ([.int x0])).length) Slot.unset).toArray = ls at hl ⊢
  exact e_FL_setOf ha ⟨B.exec, B.bytes, hml, findClass_of_methodNamed B.named, fun w h => atoms_spec (ws := ws_FL_setOf) B.pre w (List.mem_cons_of_mem _ h)⟩ B.returns B.notSynchronized hK hT x0 σ q hf s.heap [] hP va_S.rf ls hl
theorem d_RC_readAsB_0 : decode b_RC_readAsB 0 = .ok (.aload_n 0, 1) := by decide +kernel
theorem d_RC_readAsB_1 : decode b_RC_readAsB 1 = .ok (.getfield 30, 3) := by decide +kernel
theorem d_RC_readAsB_4 : decode b_RC_readAsB 4 = .ok (.iload_n 1, 1) := by decide +kernel
theorem d_RC_readAsB_5 : decode b_RC_readAsB 5 = .ok (.iaload, 1) := by decide +kernel
theorem d_RC_readAsB_6 : decode b_RC_readAsB 6 = .ok (.ireturn, 1) := by decide +kernel
def f_RC_readAsB (x1 : Int32) (σ : SS) : Option (Int32 × SS) :=
  (ld (σ 6) 40 x1).bind fun v1 => some (v1, σ)
set_option maxHeartbeats 4000000 in
set_option maxRecDepth 100000 in
theorem e_RC_readAsB {p : Program} {l : Launch} {e : Env} {s : State} {m : MethodId} {args : Array Value} {below : List Frame} {meth : Method} {c : Code} {D : va_G} {a t : Nat → Nat} {cI cZ : ClassId} (ha : aCC a) (F : CallFix p m c b_RC_readAsB 2 s args gt R_RC) (hr : meth.sig.returnType = some .int) (hlk : meth.locks = false) (hK : va_K D vwCl [(cI, .int), (cZ, .boolean)] s) (hT : stC t (aC a) s s.heap) :
    ∀ (x1 : Int32) (σ : SS) (q : Int32 × SS), f_RC_readAsB x1 σ = some q → ∀ (H : Heap) (locs : List Loc), va_P D vwCl ((wC a cI cZ) σ) H → va_S (aC a) s.heap H locs → ∀ (ls : Array Slot), lv_has ls 2 [(0, .ref (a 1)), (1, .int x1)] → W p l e { frames := 0, cells := 0, slots := 0, locals := 0 } s m args below meth c H locs 0 0 (MQ below (va_Qi (fun r u => r = q.1 ∧ u = q.2) (pW D (wC a cI cZ) [(cI, .int), (cZ, .boolean)] (stC t) (aC a)) (aC a)) args s 0 0 (aC a)) (F0 m 0 ls []) := by
  obtain ⟨hx, hb, hml, hown, hg⟩ := id F
  intro x1 σ q hf H locs hP hS ls hl
  unfold f_RC_readAsB at hf
  refine lv_aload_n hx hb d_RC_readAsB_0 rfl (lv_at hl 0 rfl) ?_
  refine va_get (D := D) (ci := 1) (v := .ref (a 12)) (C := R_RC) (T := T_RC) (N := 8) hx hb hg in_RC hown hK hP 1 rfl rfl 6 (by decide) (hg _ gw_29) (fun _ h9 => h9) rfl d_RC_readAsB_1 ?_
  refine lv_iload_n hx hb d_RC_readAsB_4 rfl (lv_at hl 1 rfl) ?_
  refine bdK hf (fun v1 h2 hf => ?_)
  refine r_iald hx hb hK hP 12 0 rfl rfl h2 d_RC_readAsB_5 ?_
  exact rr_i hx hb hr hlk (stC_g t) hK hT hP hS hf d_RC_readAsB_6
set_option maxHeartbeats 4000000 in
set_option maxRecDepth 100000 in
theorem c_RC_readAsB (l : Launch) {D : va_G} {a t : Nat → Nat} {cI cZ : ClassId} (ha : aCC a) (x1 : Int32) (σ : SS) (q : Int32 × SS) (hf : f_RC_readAsB x1 σ = some q) : Met l y_RC_readAsB ws_RC_readAsB { frames := 0, cells := 0, slots := 0, locals := 0 } (va_Pc [.ref (a 1), .int x1] (pW D (wC a cI cZ) [(cI, .int), (cZ, .boolean)] (stC t) (aC a) σ)) (va_Qi (fun r u => r = q.1 ∧ u = q.2) (pW D (wC a cI cZ) [(cI, .int), (cZ, .boolean)] (stC t) (aC a)) (aC a)) 0 0 (aC a) := by
  refine Met.ofW (cc := b_RC_readAsB) (maxL := 2) (ret := some .int) (by decide) rfl ?_
  intro p e s m args below meth c s₁ B hml hv
  obtain ⟨rfl, hP, hK, hT⟩ := hv
  have hl := lv_entry ([.ref (a 1), .int x1]) (n := 2) (Nat.le_of_ble_eq_true rfl)
  rw [lg_entry_eq]
  generalize (lg_sl ([.ref (a 1), .int x1]) ++ List.replicate (2 - (lg_sl ([.ref (a 1), .int x1])).length) Slot.unset).toArray = ls at hl ⊢
  exact e_RC_readAsB ha ⟨B.exec, B.bytes, hml, findClass_of_methodNamed B.named, fun w h => atoms_spec (ws := ws_RC_readAsB) B.pre w (List.mem_cons_of_mem _ h)⟩ B.returns B.notSynchronized hK hT x1 σ q hf s.heap [] hP va_S.rf ls hl
theorem d_RC_writtenBy_0 : decode b_RC_writtenBy 0 = .ok (.aload_n 0, 1) := by decide +kernel
theorem d_RC_writtenBy_1 : decode b_RC_writtenBy 1 = .ok (.getfield 24, 3) := by decide +kernel
theorem d_RC_writtenBy_4 : decode b_RC_writtenBy 4 = .ok (.iload_n 1, 1) := by decide +kernel
theorem d_RC_writtenBy_5 : decode b_RC_writtenBy 5 = .ok (.iaload, 1) := by decide +kernel
theorem d_RC_writtenBy_6 : decode b_RC_writtenBy 6 = .ok (.ireturn, 1) := by decide +kernel
def f_RC_writtenBy (x1 : Int32) (σ : SS) : Option (Int32 × SS) :=
  (ld (σ 4) 40 x1).bind fun v1 => some (v1, σ)
set_option maxHeartbeats 4000000 in
set_option maxRecDepth 100000 in
theorem e_RC_writtenBy {p : Program} {l : Launch} {e : Env} {s : State} {m : MethodId} {args : Array Value} {below : List Frame} {meth : Method} {c : Code} {D : va_G} {a t : Nat → Nat} {cI cZ : ClassId} (ha : aCC a) (F : CallFix p m c b_RC_writtenBy 2 s args gt R_RC) (hr : meth.sig.returnType = some .int) (hlk : meth.locks = false) (hK : va_K D vwCl [(cI, .int), (cZ, .boolean)] s) (hT : stC t (aC a) s s.heap) :
    ∀ (x1 : Int32) (σ : SS) (q : Int32 × SS), f_RC_writtenBy x1 σ = some q → ∀ (H : Heap) (locs : List Loc), va_P D vwCl ((wC a cI cZ) σ) H → va_S (aC a) s.heap H locs → ∀ (ls : Array Slot), lv_has ls 2 [(0, .ref (a 1)), (1, .int x1)] → W p l e { frames := 0, cells := 0, slots := 0, locals := 0 } s m args below meth c H locs 0 0 (MQ below (va_Qi (fun r u => r = q.1 ∧ u = q.2) (pW D (wC a cI cZ) [(cI, .int), (cZ, .boolean)] (stC t) (aC a)) (aC a)) args s 0 0 (aC a)) (F0 m 0 ls []) := by
  obtain ⟨hx, hb, hml, hown, hg⟩ := id F
  intro x1 σ q hf H locs hP hS ls hl
  unfold f_RC_writtenBy at hf
  refine lv_aload_n hx hb d_RC_writtenBy_0 rfl (lv_at hl 0 rfl) ?_
  refine va_get (D := D) (ci := 1) (v := .ref (a 10)) (C := R_RC) (T := T_RC) (N := 8) hx hb hg in_RC hown hK hP 1 rfl rfl 4 (by decide) (hg _ gw_27) (fun _ h9 => h9) rfl d_RC_writtenBy_1 ?_
  refine lv_iload_n hx hb d_RC_writtenBy_4 rfl (lv_at hl 1 rfl) ?_
  refine bdK hf (fun v1 h2 hf => ?_)
  refine r_iald hx hb hK hP 10 0 rfl rfl h2 d_RC_writtenBy_5 ?_
  exact rr_i hx hb hr hlk (stC_g t) hK hT hP hS hf d_RC_writtenBy_6
set_option maxHeartbeats 4000000 in
set_option maxRecDepth 100000 in
theorem c_RC_writtenBy (l : Launch) {D : va_G} {a t : Nat → Nat} {cI cZ : ClassId} (ha : aCC a) (x1 : Int32) (σ : SS) (q : Int32 × SS) (hf : f_RC_writtenBy x1 σ = some q) : Met l y_RC_writtenBy ws_RC_writtenBy { frames := 0, cells := 0, slots := 0, locals := 0 } (va_Pc [.ref (a 1), .int x1] (pW D (wC a cI cZ) [(cI, .int), (cZ, .boolean)] (stC t) (aC a) σ)) (va_Qi (fun r u => r = q.1 ∧ u = q.2) (pW D (wC a cI cZ) [(cI, .int), (cZ, .boolean)] (stC t) (aC a)) (aC a)) 0 0 (aC a) := by
  refine Met.ofW (cc := b_RC_writtenBy) (maxL := 2) (ret := some .int) (by decide) rfl ?_
  intro p e s m args below meth c s₁ B hml hv
  obtain ⟨rfl, hP, hK, hT⟩ := hv
  have hl := lv_entry ([.ref (a 1), .int x1]) (n := 2) (Nat.le_of_ble_eq_true rfl)
  rw [lg_entry_eq]
  generalize (lg_sl ([.ref (a 1), .int x1]) ++ List.replicate (2 - (lg_sl ([.ref (a 1), .int x1])).length) Slot.unset).toArray = ls at hl ⊢
  exact e_RC_writtenBy ha ⟨B.exec, B.bytes, hml, findClass_of_methodNamed B.named, fun w h => atoms_spec (ws := ws_RC_writtenBy) B.pre w (List.mem_cons_of_mem _ h)⟩ B.returns B.notSynchronized hK hT x1 σ q hf s.heap [] hP va_S.rf ls hl
