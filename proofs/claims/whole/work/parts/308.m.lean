theorem d_MO_out_0 : decode b_MO_out 0 = .ok (.iload_n 1, 1) := by decide +kernel
theorem d_MO_out_1 : decode b_MO_out 1 = .ok (.iconst 0, 1) := by decide +kernel
theorem d_MO_out_2 : decode b_MO_out 2 = .ok (.bipush 39, 2) := by decide +kernel
theorem d_MO_out_4 : decode b_MO_out 4 = .ok (.invokestatic 75, 3) := by decide +kernel
theorem d_MO_out_7 : decode b_MO_out 7 = .ok (.ifCond .eq 20, 3) := by decide +kernel
theorem d_MO_out_10 : decode b_MO_out 10 = .ok (.iload_n 1, 1) := by decide +kernel
theorem d_MO_out_11 : decode b_MO_out 11 = .ok (.aload_n 0, 1) := by decide +kernel
theorem d_MO_out_12 : decode b_MO_out 12 = .ok (.getfield 173, 3) := by decide +kernel
theorem d_MO_out_15 : decode b_MO_out 15 = .ok (.if_icmp .ge 12, 3) := by decide +kernel
theorem d_MO_out_18 : decode b_MO_out 18 = .ok (.aload_n 0, 1) := by decide +kernel
theorem d_MO_out_19 : decode b_MO_out 19 = .ok (.getfield 59, 3) := by decide +kernel
theorem d_MO_out_22 : decode b_MO_out 22 = .ok (.iload_n 1, 1) := by decide +kernel
theorem d_MO_out_23 : decode b_MO_out 23 = .ok (.iaload, 1) := by decide +kernel
theorem d_MO_out_24 : decode b_MO_out 24 = .ok (.goto 4, 3) := by decide +kernel
theorem d_MO_out_27 : decode b_MO_out 27 = .ok (.iconst 0, 1) := by decide +kernel
theorem d_MO_out_28 : decode b_MO_out 28 = .ok (.ireturn, 1) := by decide +kernel
def f_MO_out (x1 : Int32) (σ : SS) : Option (Int32 × SS) :=
  (f_MO_in x1 (0 : Int32) (39 : Int32) σ).bind fun q1 => (if q1.1 = 0 then some ((0 : Int32), q1.2) else (if (q1.2 24 0) ≤ x1 then some ((0 : Int32), q1.2) else (ld (q1.2 16) 40 x1).bind fun v5 => some (v5, q1.2)))
set_option maxHeartbeats 4000000 in
set_option maxRecDepth 100000 in
theorem e_MO_out {p : Program} {l : Launch} {e : Env} {s : State} {m : MethodId} {args : Array Value} {below : List Frame} {meth : Method} {c : Code} {D : va_G} {a t : Nat → Nat} {cI cZ : ClassId} (ha : aMC a) (F : CallFix p m c b_MO_out 2 s args gt R_MO) (hr : meth.sig.returnType = some .int) (hlk : meth.locks = false) (hK : va_K D vwCl [(cI, .int), (cZ, .boolean)] s) (hT : stM t (aM a) s s.heap) :
    ∀ (x1 : Int32) (σ : SS) (q : Int32 × SS), f_MO_out x1 σ = some q → ∀ (H : Heap) (locs : List Loc), va_P D vwCl ((wM a cI cZ) σ) H → va_S (aM a) s.heap H locs → ∀ (ls : Array Slot), lv_has ls 2 [(0, .ref (a 0)), (1, .int x1)] → W p l e { frames := 1, cells := 0, slots := 0, locals := 22 } s m args below meth c H locs 0 0 (MQ below (va_Qi (fun r u => r = q.1 ∧ u = q.2) (pW D (wM a cI cZ) [(cI, .int), (cZ, .boolean)] (stM t) (aM a)) (aM a)) args s 0 0 (aM a)) (F0 m 0 ls []) := by
  obtain ⟨hx, hb, hml, hown, hg⟩ := id F
  intro x1 σ q hf H locs hP hS ls hl
  unfold f_MO_out at hf
  refine lv_iload_n hx hb d_MO_out_0 rfl (lv_at hl 1 rfl) ?_
  refine lv_iconst (v := (0 : Int32)) hx hb d_MO_out_1 (by decide) ?_
  refine lv_bipush (v := (39 : Int32)) hx hb d_MO_out_2 (by decide) ?_
  refine bdK hf (fun q1 h2 hf => ?_)
  refine rc_Si (As := [.int x1, .int (0 : Int32), .int (39 : Int32)]) (rest := []) (stM_g t) F (c_MO_in l ha x1 (0 : Int32) (39 : Int32) σ q1 h2) (cwS 3 hg gc_MO_75 rfl rfl rfl hs_MO_in ⟨Nat.le_of_ble_eq_true rfl, Nat.le_of_ble_eq_true rfl⟩) hK hT hP hS rfl hl.1 rfl (Nat.le_of_ble_eq_true rfl) d_MO_out_4 ⟨Nat.zero_le _, Nat.zero_le _⟩ (fun H locs hP hS => ?_)
  refine lv_if_eq (tgt := 27) hx hb d_MO_out_7 (by decide) (fun c3 => ?_) (fun c3 => ?_)
  · replace hf := (if_pos c3).symm.trans hf
    refine lv_iconst (v := (0 : Int32)) hx hb d_MO_out_27 (by decide) ?_
    exact rr_i hx hb hr hlk (stM_g t) hK hT hP hS hf d_MO_out_28
  · replace hf := (if_neg c3).symm.trans hf
    refine lv_iload_n hx hb d_MO_out_10 rfl (lv_at hl 1 rfl) ?_
    refine lv_aload_n hx hb d_MO_out_11 rfl (lv_at hl 0 rfl) ?_
    refine va_get (D := D) (ci := 6) (v := .int (q1.2 24 0)) (C := R_MO) (T := T_MO) (N := 26) hx hb hg in_MO hown hK hP 0 rfl rfl 20 (by decide) (hg _ gw_603) (fun _ h9 => h9) rfl d_MO_out_12 ?_
    refine lv_icmp_ge (tgt := 27) hx hb d_MO_out_15 (by decide) (fun c4 => ?_) (fun c4 => ?_)
    · replace hf := (if_pos c4).symm.trans hf
      refine lv_iconst (v := (0 : Int32)) hx hb d_MO_out_27 (by decide) ?_
      exact rr_i hx hb hr hlk (stM_g t) hK hT hP hS hf d_MO_out_28
    · replace hf := (if_neg c4).symm.trans hf
      refine lv_aload_n hx hb d_MO_out_18 rfl (lv_at hl 0 rfl) ?_
      refine va_get (D := D) (ci := 6) (v := .ref (a 17)) (C := R_MO) (T := T_MO) (N := 26) hx hb hg in_MO hown hK hP 0 rfl rfl 21 (by decide) (hg _ gw_604) (fun _ h9 => h9) rfl d_MO_out_19 ?_
      refine lv_iload_n hx hb d_MO_out_22 rfl (lv_at hl 1 rfl) ?_
      refine bdK hf (fun v5 h6 hf => ?_)
      refine r_iald hx hb hK hP 17 0 rfl rfl h6 d_MO_out_23 ?_
      refine lv_goto (tgt := 28) hx hb d_MO_out_24 (by decide) ?_
      exact rr_i hx hb hr hlk (stM_g t) hK hT hP hS hf d_MO_out_28
set_option maxHeartbeats 4000000 in
set_option maxRecDepth 100000 in
theorem c_MO_out (l : Launch) {D : va_G} {a t : Nat → Nat} {cI cZ : ClassId} (ha : aMC a) (x1 : Int32) (σ : SS) (q : Int32 × SS) (hf : f_MO_out x1 σ = some q) : Met l y_MO_out ws_MO_out { frames := 1, cells := 0, slots := 0, locals := 22 } (va_Pc [.ref (a 0), .int x1] (pW D (wM a cI cZ) [(cI, .int), (cZ, .boolean)] (stM t) (aM a) σ)) (va_Qi (fun r u => r = q.1 ∧ u = q.2) (pW D (wM a cI cZ) [(cI, .int), (cZ, .boolean)] (stM t) (aM a)) (aM a)) 0 0 (aM a) := by
  refine Met.ofW (cc := b_MO_out) (maxL := 2) (ret := some .int) (by decide) rfl ?_
  intro p e s m args below meth c s₁ B hml hv
  obtain ⟨rfl, hP, hK, hT⟩ := hv
  have hl := lv_entry ([.ref (a 0), .int x1]) (n := 2) (Nat.le_of_ble_eq_true rfl)
  rw [lg_entry_eq]
  generalize (lg_sl ([.ref (a 0), .int x1]) ++ List.replicate (2 - (lg_sl ([.ref (a 0), .int x1])).length) Slot.unset).toArray = ls at hl ⊢
  exact e_MO_out ha ⟨B.exec, B.bytes, hml, findClass_of_methodNamed B.named, fun w h => atoms_spec (ws := ws_MO_out) B.pre w (List.mem_cons_of_mem _ h)⟩ B.returns B.notSynchronized hK hT x1 σ q hf s.heap [] hP va_S.rf ls hl
theorem d_MO_steps_0 : decode b_MO_steps 0 = .ok (.aload_n 0, 1) := by decide +kernel
theorem d_MO_steps_1 : decode b_MO_steps 1 = .ok (.getfield 182, 3) := by decide +kernel
theorem d_MO_steps_4 : decode b_MO_steps 4 = .ok (.ireturn, 1) := by decide +kernel
def f_MO_steps (σ : SS) : Option (Int32 × SS) :=
  some ((σ 25 0), σ)
set_option maxHeartbeats 4000000 in
set_option maxRecDepth 100000 in
theorem e_MO_steps {p : Program} {l : Launch} {e : Env} {s : State} {m : MethodId} {args : Array Value} {below : List Frame} {meth : Method} {c : Code} {D : va_G} {a t : Nat → Nat} {cI cZ : ClassId} (ha : aMC a) (F : CallFix p m c b_MO_steps 1 s args gt R_MO) (hr : meth.sig.returnType = some .int) (hlk : meth.locks = false) (hK : va_K D vwCl [(cI, .int), (cZ, .boolean)] s) (hT : stM t (aM a) s s.heap) :
    ∀ (σ : SS) (q : Int32 × SS), f_MO_steps σ = some q → ∀ (H : Heap) (locs : List Loc), va_P D vwCl ((wM a cI cZ) σ) H → va_S (aM a) s.heap H locs → ∀ (ls : Array Slot), lv_has ls 1 [(0, .ref (a 0))] → W p l e { frames := 0, cells := 0, slots := 0, locals := 0 } s m args below meth c H locs 0 0 (MQ below (va_Qi (fun r u => r = q.1 ∧ u = q.2) (pW D (wM a cI cZ) [(cI, .int), (cZ, .boolean)] (stM t) (aM a)) (aM a)) args s 0 0 (aM a)) (F0 m 0 ls []) := by
  obtain ⟨hx, hb, hml, hown, hg⟩ := id F
  intro σ q hf H locs hP hS ls hl
  unfold f_MO_steps at hf
  refine lv_aload_n hx hb d_MO_steps_0 rfl (lv_at hl 0 rfl) ?_
  refine va_get (D := D) (ci := 6) (v := .int (σ 25 0)) (C := R_MO) (T := T_MO) (N := 26) hx hb hg in_MO hown hK hP 0 rfl rfl 22 (by decide) (hg _ gw_605) (fun _ h9 => h9) rfl d_MO_steps_1 ?_
  exact rr_i hx hb hr hlk (stM_g t) hK hT hP hS hf d_MO_steps_4
set_option maxHeartbeats 4000000 in
set_option maxRecDepth 100000 in
theorem c_MO_steps (l : Launch) {D : va_G} {a t : Nat → Nat} {cI cZ : ClassId} (ha : aMC a) (σ : SS) (q : Int32 × SS) (hf : f_MO_steps σ = some q) : Met l y_MO_steps ws_MO_steps { frames := 0, cells := 0, slots := 0, locals := 0 } (va_Pc [.ref (a 0)] (pW D (wM a cI cZ) [(cI, .int), (cZ, .boolean)] (stM t) (aM a) σ)) (va_Qi (fun r u => r = q.1 ∧ u = q.2) (pW D (wM a cI cZ) [(cI, .int), (cZ, .boolean)] (stM t) (aM a)) (aM a)) 0 0 (aM a) := by
  refine Met.ofW (cc := b_MO_steps) (maxL := 1) (ret := some .int) (by decide) rfl ?_
  intro p e s m args below meth c s₁ B hml hv
  obtain ⟨rfl, hP, hK, hT⟩ := hv
  have hl := lv_entry ([.ref (a 0)]) (n := 1) (Nat.le_of_ble_eq_true rfl)
  rw [lg_entry_eq]
  generalize (lg_sl ([.ref (a 0)]) ++ List.replicate (1 - (lg_sl ([.ref (a 0)])).length) Slot.unset).toArray = ls at hl ⊢
  exact e_MO_steps ha ⟨B.exec, B.bytes, hml, findClass_of_methodNamed B.named, fun w h => atoms_spec (ws := ws_MO_steps) B.pre w (List.mem_cons_of_mem _ h)⟩ B.returns B.notSynchronized hK hT σ q hf s.heap [] hP va_S.rf ls hl
theorem d_MO_cell_0 : decode b_MO_cell 0 = .ok (.iload_n 1, 1) := by decide +kernel
theorem d_MO_cell_1 : decode b_MO_cell 1 = .ok (.iconst 0, 1) := by decide +kernel
theorem d_MO_cell_2 : decode b_MO_cell 2 = .ok (.bipush 15, 2) := by decide +kernel
theorem d_MO_cell_4 : decode b_MO_cell 4 = .ok (.invokestatic 75, 3) := by decide +kernel
theorem d_MO_cell_7 : decode b_MO_cell 7 = .ok (.ifCond .eq 12, 3) := by decide +kernel
theorem d_MO_cell_10 : decode b_MO_cell 10 = .ok (.aload_n 0, 1) := by decide +kernel
theorem d_MO_cell_11 : decode b_MO_cell 11 = .ok (.getfield 62, 3) := by decide +kernel
theorem d_MO_cell_14 : decode b_MO_cell 14 = .ok (.iload_n 1, 1) := by decide +kernel
theorem d_MO_cell_15 : decode b_MO_cell 15 = .ok (.iaload, 1) := by decide +kernel
theorem d_MO_cell_16 : decode b_MO_cell 16 = .ok (.goto 4, 3) := by decide +kernel
theorem d_MO_cell_19 : decode b_MO_cell 19 = .ok (.iconst 0, 1) := by decide +kernel
theorem d_MO_cell_20 : decode b_MO_cell 20 = .ok (.ireturn, 1) := by decide +kernel
def f_MO_cell (x1 : Int32) (σ : SS) : Option (Int32 × SS) :=
  (f_MO_in x1 (0 : Int32) (15 : Int32) σ).bind fun q1 => (if q1.1 = 0 then some ((0 : Int32), q1.2) else (ld (q1.2 17) 16 x1).bind fun v4 => some (v4, q1.2))
set_option maxHeartbeats 4000000 in
set_option maxRecDepth 100000 in
theorem e_MO_cell {p : Program} {l : Launch} {e : Env} {s : State} {m : MethodId} {args : Array Value} {below : List Frame} {meth : Method} {c : Code} {D : va_G} {a t : Nat → Nat} {cI cZ : ClassId} (ha : aMC a) (F : CallFix p m c b_MO_cell 2 s args gt R_MO) (hr : meth.sig.returnType = some .int) (hlk : meth.locks = false) (hK : va_K D vwCl [(cI, .int), (cZ, .boolean)] s) (hT : stM t (aM a) s s.heap) :
    ∀ (x1 : Int32) (σ : SS) (q : Int32 × SS), f_MO_cell x1 σ = some q → ∀ (H : Heap) (locs : List Loc), va_P D vwCl ((wM a cI cZ) σ) H → va_S (aM a) s.heap H locs → ∀ (ls : Array Slot), lv_has ls 2 [(0, .ref (a 0)), (1, .int x1)] → W p l e { frames := 1, cells := 0, slots := 0, locals := 22 } s m args below meth c H locs 0 0 (MQ below (va_Qi (fun r u => r = q.1 ∧ u = q.2) (pW D (wM a cI cZ) [(cI, .int), (cZ, .boolean)] (stM t) (aM a)) (aM a)) args s 0 0 (aM a)) (F0 m 0 ls []) := by
  obtain ⟨hx, hb, hml, hown, hg⟩ := id F
  intro x1 σ q hf H locs hP hS ls hl
  unfold f_MO_cell at hf
  refine lv_iload_n hx hb d_MO_cell_0 rfl (lv_at hl 1 rfl) ?_
  refine lv_iconst (v := (0 : Int32)) hx hb d_MO_cell_1 (by decide) ?_
  refine lv_bipush (v := (15 : Int32)) hx hb d_MO_cell_2 (by decide) ?_
  refine bdK hf (fun q1 h2 hf => ?_)
  refine rc_Si (As := [.int x1, .int (0 : Int32), .int (15 : Int32)]) (rest := []) (stM_g t) F (c_MO_in l ha x1 (0 : Int32) (15 : Int32) σ q1 h2) (cwS 3 hg gc_MO_75 rfl rfl rfl hs_MO_in ⟨Nat.le_of_ble_eq_true rfl, Nat.le_of_ble_eq_true rfl⟩) hK hT hP hS rfl hl.1 rfl (Nat.le_of_ble_eq_true rfl) d_MO_cell_4 ⟨Nat.zero_le _, Nat.zero_le _⟩ (fun H locs hP hS => ?_)
  refine lv_if_eq (tgt := 19) hx hb d_MO_cell_7 (by decide) (fun c3 => ?_) (fun c3 => ?_)
  · replace hf := (if_pos c3).symm.trans hf
    refine lv_iconst (v := (0 : Int32)) hx hb d_MO_cell_19 (by decide) ?_
    exact rr_i hx hb hr hlk (stM_g t) hK hT hP hS hf d_MO_cell_20
  · replace hf := (if_neg c3).symm.trans hf
    refine lv_aload_n hx hb d_MO_cell_10 rfl (lv_at hl 0 rfl) ?_
    refine va_get (D := D) (ci := 6) (v := .ref (a 18)) (C := R_MO) (T := T_MO) (N := 26) hx hb hg in_MO hown hK hP 0 rfl rfl 23 (by decide) (hg _ gw_606) (fun _ h9 => h9) rfl d_MO_cell_11 ?_
    refine lv_iload_n hx hb d_MO_cell_14 rfl (lv_at hl 1 rfl) ?_
    refine bdK hf (fun v4 h5 hf => ?_)
    refine r_iald hx hb hK hP 18 0 rfl rfl h5 d_MO_cell_15 ?_
    refine lv_goto (tgt := 20) hx hb d_MO_cell_16 (by decide) ?_
    exact rr_i hx hb hr hlk (stM_g t) hK hT hP hS hf d_MO_cell_20
set_option maxHeartbeats 4000000 in
set_option maxRecDepth 100000 in
theorem c_MO_cell (l : Launch) {D : va_G} {a t : Nat → Nat} {cI cZ : ClassId} (ha : aMC a) (x1 : Int32) (σ : SS) (q : Int32 × SS) (hf : f_MO_cell x1 σ = some q) : Met l y_MO_cell ws_MO_cell { frames := 1, cells := 0, slots := 0, locals := 22 } (va_Pc [.ref (a 0), .int x1] (pW D (wM a cI cZ) [(cI, .int), (cZ, .boolean)] (stM t) (aM a) σ)) (va_Qi (fun r u => r = q.1 ∧ u = q.2) (pW D (wM a cI cZ) [(cI, .int), (cZ, .boolean)] (stM t) (aM a)) (aM a)) 0 0 (aM a) := by
  refine Met.ofW (cc := b_MO_cell) (maxL := 2) (ret := some .int) (by decide) rfl ?_
  intro p e s m args below meth c s₁ B hml hv
  obtain ⟨rfl, hP, hK, hT⟩ := hv
  have hl := lv_entry ([.ref (a 0), .int x1]) (n := 2) (Nat.le_of_ble_eq_true rfl)
  rw [lg_entry_eq]
  generalize (lg_sl ([.ref (a 0), .int x1]) ++ List.replicate (2 - (lg_sl ([.ref (a 0), .int x1])).length) Slot.unset).toArray = ls at hl ⊢
  exact e_MO_cell ha ⟨B.exec, B.bytes, hml, findClass_of_methodNamed B.named, fun w h => atoms_spec (ws := ws_MO_cell) B.pre w (List.mem_cons_of_mem _ h)⟩ B.returns B.notSynchronized hK hT x1 σ q hf s.heap [] hP va_S.rf ls hl
