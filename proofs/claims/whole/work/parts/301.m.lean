theorem d_MO_readsA_0 : decode b_MO_readsA 0 = .ok (.aload_n 0, 1) := by decide +kernel
theorem d_MO_readsA_1 : decode b_MO_readsA 1 = .ok (.getfield 7, 3) := by decide +kernel
theorem d_MO_readsA_4 : decode b_MO_readsA 4 = .ok (.iload_n 1, 1) := by decide +kernel
theorem d_MO_readsA_5 : decode b_MO_readsA 5 = .ok (.iaload, 1) := by decide +kernel
theorem d_MO_readsA_6 : decode b_MO_readsA 6 = .ok (.ifCond .eq 29, 3) := by decide +kernel
theorem d_MO_readsA_9 : decode b_MO_readsA 9 = .ok (.aload_n 0, 1) := by decide +kernel
theorem d_MO_readsA_10 : decode b_MO_readsA 10 = .ok (.getfield 7, 3) := by decide +kernel
theorem d_MO_readsA_13 : decode b_MO_readsA 13 = .ok (.iload_n 1, 1) := by decide +kernel
theorem d_MO_readsA_14 : decode b_MO_readsA 14 = .ok (.iaload, 1) := by decide +kernel
theorem d_MO_readsA_15 : decode b_MO_readsA 15 = .ok (.bipush 9, 2) := by decide +kernel
theorem d_MO_readsA_17 : decode b_MO_readsA 17 = .ok (.if_icmp .eq 18, 3) := by decide +kernel
theorem d_MO_readsA_20 : decode b_MO_readsA 20 = .ok (.aload_n 0, 1) := by decide +kernel
theorem d_MO_readsA_21 : decode b_MO_readsA 21 = .ok (.getfield 7, 3) := by decide +kernel
theorem d_MO_readsA_24 : decode b_MO_readsA 24 = .ok (.iload_n 1, 1) := by decide +kernel
theorem d_MO_readsA_25 : decode b_MO_readsA 25 = .ok (.iaload, 1) := by decide +kernel
theorem d_MO_readsA_26 : decode b_MO_readsA 26 = .ok (.bipush 11, 2) := by decide +kernel
theorem d_MO_readsA_28 : decode b_MO_readsA 28 = .ok (.if_icmp .eq 7, 3) := by decide +kernel
theorem d_MO_readsA_31 : decode b_MO_readsA 31 = .ok (.iconst 1, 1) := by decide +kernel
theorem d_MO_readsA_32 : decode b_MO_readsA 32 = .ok (.goto 4, 3) := by decide +kernel
theorem d_MO_readsA_35 : decode b_MO_readsA 35 = .ok (.iconst 0, 1) := by decide +kernel
theorem d_MO_readsA_36 : decode b_MO_readsA 36 = .ok (.ireturn, 1) := by decide +kernel
def f_MO_readsA (x1 : Int32) (σ : SS) : Option (Int32 × SS) :=
  (ld (σ 0) 40 x1).bind fun v1 => (if v1 = 0 then some ((0 : Int32), σ) else (ld (σ 0) 40 x1).bind fun v4 => (if v4 = (9 : Int32) then some ((0 : Int32), σ) else (ld (σ 0) 40 x1).bind fun v7 => (if v7 = (11 : Int32) then some ((0 : Int32), σ) else some ((1 : Int32), σ))))
set_option maxHeartbeats 4000000 in
set_option maxRecDepth 100000 in
theorem e_MO_readsA {p : Program} {l : Launch} {e : Env} {s : State} {m : MethodId} {args : Array Value} {below : List Frame} {meth : Method} {c : Code} {D : va_G} {a t : Nat → Nat} {cI cZ : ClassId} (ha : aMC a) (F : CallFix p m c b_MO_readsA 2 s args gt R_MO) (hr : meth.sig.returnType = some .boolean) (hlk : meth.locks = false) (hK : va_K D vwCl [(cI, .int), (cZ, .boolean)] s) (hT : stM t (aM a) s s.heap) :
    ∀ (x1 : Int32) (σ : SS) (q : Int32 × SS), f_MO_readsA x1 σ = some q → ∀ (H : Heap) (locs : List Loc), va_P D vwCl ((wM a cI cZ) σ) H → va_S (aM a) s.heap H locs → ∀ (ls : Array Slot), lv_has ls 2 [(0, .ref (a 0)), (1, .int x1)] → W p l e { frames := 0, cells := 0, slots := 0, locals := 0 } s m args below meth c H locs 0 0 (MQ below (va_Qi (fun r u => r = q.1 ∧ u = q.2) (pW D (wM a cI cZ) [(cI, .int), (cZ, .boolean)] (stM t) (aM a)) (aM a)) args s 0 0 (aM a)) (F0 m 0 ls []) := by
  obtain ⟨hx, hb, hml, hown, hg⟩ := id F
  intro x1 σ q hf H locs hP hS ls hl
  unfold f_MO_readsA at hf
  refine lv_aload_n hx hb d_MO_readsA_0 rfl (lv_at hl 0 rfl) ?_
  refine va_get (D := D) (ci := 6) (v := .ref (a 1)) (C := R_MO) (T := T_MO) (N := 26) hx hb hg in_MO hown hK hP 0 rfl rfl 2 (by decide) (hg _ gw_585) (fun _ h9 => h9) rfl d_MO_readsA_1 ?_
  refine lv_iload_n hx hb d_MO_readsA_4 rfl (lv_at hl 1 rfl) ?_
  refine bdK hf (fun v1 h2 hf => ?_)
  refine r_iald hx hb hK hP 1 0 rfl rfl h2 d_MO_readsA_5 ?_
  refine lv_if_eq (tgt := 35) hx hb d_MO_readsA_6 (by decide) (fun c3 => ?_) (fun c3 => ?_)
  · replace hf := (if_pos c3).symm.trans hf
    refine lv_iconst (v := (0 : Int32)) hx hb d_MO_readsA_35 (by decide) ?_
    exact rr_z hx hb hr hlk (stM_g t) hK hT hP hS (Or.inl rfl) hf d_MO_readsA_36
  · replace hf := (if_neg c3).symm.trans hf
    refine lv_aload_n hx hb d_MO_readsA_9 rfl (lv_at hl 0 rfl) ?_
    refine va_get (D := D) (ci := 6) (v := .ref (a 1)) (C := R_MO) (T := T_MO) (N := 26) hx hb hg in_MO hown hK hP 0 rfl rfl 2 (by decide) (hg _ gw_585) (fun _ h9 => h9) rfl d_MO_readsA_10 ?_
    refine lv_iload_n hx hb d_MO_readsA_13 rfl (lv_at hl 1 rfl) ?_
    refine bdK hf (fun v4 h5 hf => ?_)
    refine r_iald hx hb hK hP 1 0 rfl rfl h5 d_MO_readsA_14 ?_
    refine lv_bipush (v := (9 : Int32)) hx hb d_MO_readsA_15 (by decide) ?_
    refine lv_icmp_eq (tgt := 35) hx hb d_MO_readsA_17 (by decide) (fun c6 => ?_) (fun c6 => ?_)
    · replace hf := (if_pos c6).symm.trans hf
      refine lv_iconst (v := (0 : Int32)) hx hb d_MO_readsA_35 (by decide) ?_
      exact rr_z hx hb hr hlk (stM_g t) hK hT hP hS (Or.inl rfl) hf d_MO_readsA_36
    · replace hf := (if_neg c6).symm.trans hf
      refine lv_aload_n hx hb d_MO_readsA_20 rfl (lv_at hl 0 rfl) ?_
      refine va_get (D := D) (ci := 6) (v := .ref (a 1)) (C := R_MO) (T := T_MO) (N := 26) hx hb hg in_MO hown hK hP 0 rfl rfl 2 (by decide) (hg _ gw_585) (fun _ h9 => h9) rfl d_MO_readsA_21 ?_
      refine lv_iload_n hx hb d_MO_readsA_24 rfl (lv_at hl 1 rfl) ?_
      refine bdK hf (fun v7 h8 hf => ?_)
      refine r_iald hx hb hK hP 1 0 rfl rfl h8 d_MO_readsA_25 ?_
      refine lv_bipush (v := (11 : Int32)) hx hb d_MO_readsA_26 (by decide) ?_
      refine lv_icmp_eq (tgt := 35) hx hb d_MO_readsA_28 (by decide) (fun c9 => ?_) (fun c9 => ?_)
      · replace hf := (if_pos c9).symm.trans hf
        refine lv_iconst (v := (0 : Int32)) hx hb d_MO_readsA_35 (by decide) ?_
        exact rr_z hx hb hr hlk (stM_g t) hK hT hP hS (Or.inl rfl) hf d_MO_readsA_36
      · replace hf := (if_neg c9).symm.trans hf
        refine lv_iconst (v := (1 : Int32)) hx hb d_MO_readsA_31 (by decide) ?_
        refine lv_goto (tgt := 36) hx hb d_MO_readsA_32 (by decide) ?_
        exact rr_z hx hb hr hlk (stM_g t) hK hT hP hS (Or.inr rfl) hf d_MO_readsA_36
set_option maxHeartbeats 4000000 in
set_option maxRecDepth 100000 in
theorem c_MO_readsA (l : Launch) {D : va_G} {a t : Nat → Nat} {cI cZ : ClassId} (ha : aMC a) (x1 : Int32) (σ : SS) (q : Int32 × SS) (hf : f_MO_readsA x1 σ = some q) : Met l y_MO_readsA ws_MO_readsA { frames := 0, cells := 0, slots := 0, locals := 0 } (va_Pc [.ref (a 0), .int x1] (pW D (wM a cI cZ) [(cI, .int), (cZ, .boolean)] (stM t) (aM a) σ)) (va_Qi (fun r u => r = q.1 ∧ u = q.2) (pW D (wM a cI cZ) [(cI, .int), (cZ, .boolean)] (stM t) (aM a)) (aM a)) 0 0 (aM a) := by
  refine Met.ofW (cc := b_MO_readsA) (maxL := 2) (ret := some .boolean) (by decide) rfl ?_
  intro p e s m args below meth c s₁ B hml hv
  obtain ⟨rfl, hP, hK, hT⟩ := hv
  have hl := lv_entry ([.ref (a 0), .int x1]) (n := 2) (Nat.le_of_ble_eq_true rfl)
  rw [lg_entry_eq]
  generalize (lg_sl ([.ref (a 0), .int x1]) ++ List.replicate (2 - (lg_sl ([.ref (a 0), .int x1])).length) Slot.unset).toArray = ls at hl ⊢
  exact e_MO_readsA ha ⟨B.exec, B.bytes, hml, findClass_of_methodNamed B.named, fun w h => atoms_spec (ws := ws_MO_readsA) B.pre w (List.mem_cons_of_mem _ h)⟩ B.returns B.notSynchronized hK hT x1 σ q hf s.heap [] hP va_S.rf ls hl
theorem d_MO_readsB_0 : decode b_MO_readsB 0 = .ok (.aload_n 0, 1) := by decide +kernel
theorem d_MO_readsB_1 : decode b_MO_readsB 1 = .ok (.getfield 7, 3) := by decide +kernel
theorem d_MO_readsB_4 : decode b_MO_readsB 4 = .ok (.iload_n 1, 1) := by decide +kernel
theorem d_MO_readsB_5 : decode b_MO_readsB 5 = .ok (.iaload, 1) := by decide +kernel
theorem d_MO_readsB_6 : decode b_MO_readsB 6 = .ok (.iconst 2, 1) := by decide +kernel
theorem d_MO_readsB_7 : decode b_MO_readsB 7 = .ok (.iconst 5, 1) := by decide +kernel
theorem d_MO_readsB_8 : decode b_MO_readsB 8 = .ok (.invokestatic 75, 3) := by decide +kernel
theorem d_MO_readsB_11 : decode b_MO_readsB 11 = .ok (.ifCond .ne 14, 3) := by decide +kernel
theorem d_MO_readsB_14 : decode b_MO_readsB 14 = .ok (.aload_n 0, 1) := by decide +kernel
theorem d_MO_readsB_15 : decode b_MO_readsB 15 = .ok (.getfield 7, 3) := by decide +kernel
theorem d_MO_readsB_18 : decode b_MO_readsB 18 = .ok (.iload_n 1, 1) := by decide +kernel
theorem d_MO_readsB_19 : decode b_MO_readsB 19 = .ok (.iaload, 1) := by decide +kernel
theorem d_MO_readsB_20 : decode b_MO_readsB 20 = .ok (.bipush 7, 2) := by decide +kernel
theorem d_MO_readsB_22 : decode b_MO_readsB 22 = .ok (.if_icmp .ne 7, 3) := by decide +kernel
theorem d_MO_readsB_25 : decode b_MO_readsB 25 = .ok (.iconst 1, 1) := by decide +kernel
theorem d_MO_readsB_26 : decode b_MO_readsB 26 = .ok (.goto 4, 3) := by decide +kernel
theorem d_MO_readsB_29 : decode b_MO_readsB 29 = .ok (.iconst 0, 1) := by decide +kernel
theorem d_MO_readsB_30 : decode b_MO_readsB 30 = .ok (.ireturn, 1) := by decide +kernel
def f_MO_readsB (x1 : Int32) (σ : SS) : Option (Int32 × SS) :=
  (ld (σ 0) 40 x1).bind fun v1 => (f_MO_in v1 (2 : Int32) (5 : Int32) σ).bind fun q3 => (if q3.1 = 0 then (ld (q3.2 0) 40 x1).bind fun v6 => (if v6 = (7 : Int32) then some ((1 : Int32), q3.2) else some ((0 : Int32), q3.2)) else some ((1 : Int32), q3.2))
set_option maxHeartbeats 4000000 in
set_option maxRecDepth 100000 in
theorem e_MO_readsB {p : Program} {l : Launch} {e : Env} {s : State} {m : MethodId} {args : Array Value} {below : List Frame} {meth : Method} {c : Code} {D : va_G} {a t : Nat → Nat} {cI cZ : ClassId} (ha : aMC a) (F : CallFix p m c b_MO_readsB 2 s args gt R_MO) (hr : meth.sig.returnType = some .boolean) (hlk : meth.locks = false) (hK : va_K D vwCl [(cI, .int), (cZ, .boolean)] s) (hT : stM t (aM a) s s.heap) :
    ∀ (x1 : Int32) (σ : SS) (q : Int32 × SS), f_MO_readsB x1 σ = some q → ∀ (H : Heap) (locs : List Loc), va_P D vwCl ((wM a cI cZ) σ) H → va_S (aM a) s.heap H locs → ∀ (ls : Array Slot), lv_has ls 2 [(0, .ref (a 0)), (1, .int x1)] → W p l e { frames := 1, cells := 0, slots := 0, locals := 22 } s m args below meth c H locs 0 0 (MQ below (va_Qi (fun r u => r = q.1 ∧ u = q.2) (pW D (wM a cI cZ) [(cI, .int), (cZ, .boolean)] (stM t) (aM a)) (aM a)) args s 0 0 (aM a)) (F0 m 0 ls []) := by
  obtain ⟨hx, hb, hml, hown, hg⟩ := id F
  intro x1 σ q hf H locs hP hS ls hl
  unfold f_MO_readsB at hf
  refine lv_aload_n hx hb d_MO_readsB_0 rfl (lv_at hl 0 rfl) ?_
  refine va_get (D := D) (ci := 6) (v := .ref (a 1)) (C := R_MO) (T := T_MO) (N := 26) hx hb hg in_MO hown hK hP 0 rfl rfl 2 (by decide) (hg _ gw_585) (fun _ h9 => h9) rfl d_MO_readsB_1 ?_
  refine lv_iload_n hx hb d_MO_readsB_4 rfl (lv_at hl 1 rfl) ?_
  refine bdK hf (fun v1 h2 hf => ?_)
  refine r_iald hx hb hK hP 1 0 rfl rfl h2 d_MO_readsB_5 ?_
  refine lv_iconst (v := (2 : Int32)) hx hb d_MO_readsB_6 (by decide) ?_
  refine lv_iconst (v := (5 : Int32)) hx hb d_MO_readsB_7 (by decide) ?_
  refine bdK hf (fun q3 h4 hf => ?_)
  refine rc_Si (As := [.int v1, .int (2 : Int32), .int (5 : Int32)]) (rest := []) (stM_g t) F (c_MO_in l ha v1 (2 : Int32) (5 : Int32) σ q3 h4) (cwS 3 hg gc_MO_75 rfl rfl rfl hs_MO_in ⟨Nat.le_of_ble_eq_true rfl, Nat.le_of_ble_eq_true rfl⟩) hK hT hP hS rfl hl.1 rfl (Nat.le_of_ble_eq_true rfl) d_MO_readsB_8 ⟨Nat.zero_le _, Nat.zero_le _⟩ (fun H locs hP hS => ?_)
  refine lv_if_ne (tgt := 25) hx hb d_MO_readsB_11 (by decide) (fun c5 => ?_) (fun c5 => ?_)
  · replace hf := (if_neg c5).symm.trans hf
    refine lv_iconst (v := (1 : Int32)) hx hb d_MO_readsB_25 (by decide) ?_
    refine lv_goto (tgt := 30) hx hb d_MO_readsB_26 (by decide) ?_
    exact rr_z hx hb hr hlk (stM_g t) hK hT hP hS (Or.inr rfl) hf d_MO_readsB_30
  · replace hf := (if_pos c5).symm.trans hf
    refine lv_aload_n hx hb d_MO_readsB_14 rfl (lv_at hl 0 rfl) ?_
    refine va_get (D := D) (ci := 6) (v := .ref (a 1)) (C := R_MO) (T := T_MO) (N := 26) hx hb hg in_MO hown hK hP 0 rfl rfl 2 (by decide) (hg _ gw_585) (fun _ h9 => h9) rfl d_MO_readsB_15 ?_
    refine lv_iload_n hx hb d_MO_readsB_18 rfl (lv_at hl 1 rfl) ?_
    refine bdK hf (fun v6 h7 hf => ?_)
    refine r_iald hx hb hK hP 1 0 rfl rfl h7 d_MO_readsB_19 ?_
    refine lv_bipush (v := (7 : Int32)) hx hb d_MO_readsB_20 (by decide) ?_
    refine lv_icmp_ne (tgt := 29) hx hb d_MO_readsB_22 (by decide) (fun c8 => ?_) (fun c8 => ?_)
    · replace hf := (if_neg c8).symm.trans hf
      refine lv_iconst (v := (0 : Int32)) hx hb d_MO_readsB_29 (by decide) ?_
      exact rr_z hx hb hr hlk (stM_g t) hK hT hP hS (Or.inl rfl) hf d_MO_readsB_30
    · replace hf := (if_pos c8).symm.trans hf
      refine lv_iconst (v := (1 : Int32)) hx hb d_MO_readsB_25 (by decide) ?_
      refine lv_goto (tgt := 30) hx hb d_MO_readsB_26 (by decide) ?_
      exact rr_z hx hb hr hlk (stM_g t) hK hT hP hS (Or.inr rfl) hf d_MO_readsB_30
set_option maxHeartbeats 4000000 in
set_option maxRecDepth 100000 in
theorem c_MO_readsB (l : Launch) {D : va_G} {a t : Nat → Nat} {cI cZ : ClassId} (ha : aMC a) (x1 : Int32) (σ : SS) (q : Int32 × SS) (hf : f_MO_readsB x1 σ = some q) : Met l y_MO_readsB ws_MO_readsB { frames := 1, cells := 0, slots := 0, locals := 22 } (va_Pc [.ref (a 0), .int x1] (pW D (wM a cI cZ) [(cI, .int), (cZ, .boolean)] (stM t) (aM a) σ)) (va_Qi (fun r u => r = q.1 ∧ u = q.2) (pW D (wM a cI cZ) [(cI, .int), (cZ, .boolean)] (stM t) (aM a)) (aM a)) 0 0 (aM a) := by
  refine Met.ofW (cc := b_MO_readsB) (maxL := 2) (ret := some .boolean) (by decide) rfl ?_
  intro p e s m args below meth c s₁ B hml hv
  obtain ⟨rfl, hP, hK, hT⟩ := hv
  have hl := lv_entry ([.ref (a 0), .int x1]) (n := 2) (Nat.le_of_ble_eq_true rfl)
  rw [lg_entry_eq]
  generalize (lg_sl ([.ref (a 0), .int x1]) ++ List.replicate (2 - (lg_sl ([.ref (a 0), .int x1])).length) Slot.unset).toArray = ls at hl ⊢
  exact e_MO_readsB ha ⟨B.exec, B.bytes, hml, findClass_of_methodNamed B.named, fun w h => atoms_spec (ws := ws_MO_readsB) B.pre w (List.mem_cons_of_mem _ h)⟩ B.returns B.notSynchronized hK hT x1 σ q hf s.heap [] hP va_S.rf ls hl
theorem d_MO_times_0 : decode b_MO_times 0 = .ok (.aload_n 0, 1) := by decide +kernel
theorem d_MO_times_1 : decode b_MO_times 1 = .ok (.iload_n 1, 1) := by decide +kernel
theorem d_MO_times_2 : decode b_MO_times 2 = .ok (.invokevirtual 101, 3) := by decide +kernel
theorem d_MO_times_5 : decode b_MO_times 5 = .ok (.ifCond .eq 17, 3) := by decide +kernel
theorem d_MO_times_8 : decode b_MO_times 8 = .ok (.aload_n 0, 1) := by decide +kernel
theorem d_MO_times_9 : decode b_MO_times 9 = .ok (.getfield 16, 3) := by decide +kernel
theorem d_MO_times_12 : decode b_MO_times 12 = .ok (.iload_n 1, 1) := by decide +kernel
theorem d_MO_times_13 : decode b_MO_times 13 = .ok (.iaload, 1) := by decide +kernel
theorem d_MO_times_14 : decode b_MO_times 14 = .ok (.iload_n 2, 1) := by decide +kernel
theorem d_MO_times_15 : decode b_MO_times 15 = .ok (.if_icmp .ne 7, 3) := by decide +kernel
theorem d_MO_times_18 : decode b_MO_times 18 = .ok (.iconst 1, 1) := by decide +kernel
theorem d_MO_times_19 : decode b_MO_times 19 = .ok (.goto 4, 3) := by decide +kernel
theorem d_MO_times_22 : decode b_MO_times 22 = .ok (.iconst 0, 1) := by decide +kernel
theorem d_MO_times_23 : decode b_MO_times 23 = .ok (.aload_n 0, 1) := by decide +kernel
theorem d_MO_times_24 : decode b_MO_times 24 = .ok (.iload_n 1, 1) := by decide +kernel
theorem d_MO_times_25 : decode b_MO_times 25 = .ok (.invokevirtual 104, 3) := by decide +kernel
theorem d_MO_times_28 : decode b_MO_times 28 = .ok (.ifCond .eq 17, 3) := by decide +kernel
theorem d_MO_times_31 : decode b_MO_times 31 = .ok (.aload_n 0, 1) := by decide +kernel
theorem d_MO_times_32 : decode b_MO_times 32 = .ok (.getfield 19, 3) := by decide +kernel
theorem d_MO_times_35 : decode b_MO_times 35 = .ok (.iload_n 1, 1) := by decide +kernel
theorem d_MO_times_36 : decode b_MO_times 36 = .ok (.iaload, 1) := by decide +kernel
theorem d_MO_times_37 : decode b_MO_times 37 = .ok (.iload_n 2, 1) := by decide +kernel
theorem d_MO_times_38 : decode b_MO_times 38 = .ok (.if_icmp .ne 7, 3) := by decide +kernel
theorem d_MO_times_41 : decode b_MO_times 41 = .ok (.iconst 1, 1) := by decide +kernel
theorem d_MO_times_42 : decode b_MO_times 42 = .ok (.goto 4, 3) := by decide +kernel
theorem d_MO_times_45 : decode b_MO_times 45 = .ok (.iconst 0, 1) := by decide +kernel
theorem d_MO_times_46 : decode b_MO_times 46 = .ok (.iadd, 1) := by decide +kernel
theorem d_MO_times_47 : decode b_MO_times 47 = .ok (.ireturn, 1) := by decide +kernel
theorem gc_MO_104 : GoodIn gt (wsV R_MO 104 R_MO y_MO_readsB ws_MO_readsB) := gd_V gw_727 gw_729 gs_43 gw_7 gw_730
theorem gc_MO_101 : GoodIn gt (wsV R_MO 101 R_MO y_MO_readsA ws_MO_readsA) := gd_V gw_723 gw_725 gs_42 gw_7 gw_726
def b_MO_times_23 (x1 x2 y0 : Int32) (σ : SS) : Option (Int32 × SS) :=
  (f_MO_readsB x1 σ).bind fun q1 => (if q1.1 = 0 then some ((y0 + (0 : Int32)), q1.2) else (ld (q1.2 3) 40 x1).bind fun v4 => (if v4 = x2 then some ((y0 + (1 : Int32)), q1.2) else some ((y0 + (0 : Int32)), q1.2)))
set_option maxHeartbeats 4000000 in
set_option maxRecDepth 100000 in
theorem k_MO_times_23 {p : Program} {l : Launch} {e : Env} {s : State} {m : MethodId} {args : Array Value} {below : List Frame} {meth : Method} {c : Code} {D : va_G} {a t : Nat → Nat} {cI cZ : ClassId} (ha : aMC a) (F : CallFix p m c b_MO_times 3 s args gt R_MO) (hr : meth.sig.returnType = some .int) (hlk : meth.locks = false) (hK : va_K D vwCl [(cI, .int), (cZ, .boolean)] s) (hT : stM t (aM a) s s.heap) :
    ∀ (x1 x2 y0 : Int32) (σ : SS) (q : Int32 × SS), b_MO_times_23 x1 x2 y0 σ = some q → ∀ (H : Heap) (locs : List Loc), va_P D vwCl ((wM a cI cZ) σ) H → va_S (aM a) s.heap H locs → ∀ (ls : Array Slot), lv_has ls 3 [(0, .ref (a 0)), (1, .int x1), (2, .int x2)] → W p l e { frames := 2, cells := 0, slots := 0, locals := 43 } s m args below meth c H locs 0 0 (MQ below (va_Qi (fun r u => r = q.1 ∧ u = q.2) (pW D (wM a cI cZ) [(cI, .int), (cZ, .boolean)] (stM t) (aM a)) (aM a)) args s 0 0 (aM a)) (F0 m 23 ls [.int y0]) := by
  obtain ⟨hx, hb, hml, hown, hg⟩ := id F
  intro x1 x2 y0 σ q hf H locs hP hS ls hl
  unfold b_MO_times_23 at hf
  refine lv_aload_n hx hb d_MO_times_23 rfl (lv_at hl 0 rfl) ?_
  refine lv_iload_n hx hb d_MO_times_24 rfl (lv_at hl 1 rfl) ?_
  refine bdK hf (fun q1 h2 hf => ?_)
  refine rc_Vi (As := [.int x1]) (rest := [.int y0]) (b := a 0) (stM_g t) F (c_MO_readsB l ha x1 σ q1 h2) (cwV 1 hg gc_MO_104 rfl rfl rfl hs_MO_readsB ⟨Nat.le_of_ble_eq_true rfl, Nat.le_of_ble_eq_true rfl⟩) hK hT hP hS (va_recv hK hP (ci := 6) (q0 := 0) rfl rfl) rfl hl.1 rfl (Nat.le_of_ble_eq_true rfl) d_MO_times_25 ⟨Nat.zero_le _, Nat.zero_le _⟩ (fun H locs hP hS => ?_)
  refine lv_if_eq (tgt := 45) hx hb d_MO_times_28 (by decide) (fun c3 => ?_) (fun c3 => ?_)
  · replace hf := (if_pos c3).symm.trans hf
    refine lv_iconst (v := (0 : Int32)) hx hb d_MO_times_45 (by decide) ?_
    refine lv_iadd hx hb d_MO_times_46 ?_
    exact rr_i hx hb hr hlk (stM_g t) hK hT hP hS hf d_MO_times_47
  · replace hf := (if_neg c3).symm.trans hf
    refine lv_aload_n hx hb d_MO_times_31 rfl (lv_at hl 0 rfl) ?_
    refine va_get (D := D) (ci := 6) (v := .ref (a 4)) (C := R_MO) (T := T_MO) (N := 26) hx hb hg in_MO hown hK hP 0 rfl rfl 5 (by decide) (hg _ gw_588) (fun _ h9 => h9) rfl d_MO_times_32 ?_
    refine lv_iload_n hx hb d_MO_times_35 rfl (lv_at hl 1 rfl) ?_
    refine bdK hf (fun v4 h5 hf => ?_)
    refine r_iald hx hb hK hP 4 0 rfl rfl h5 d_MO_times_36 ?_
    refine lv_iload_n hx hb d_MO_times_37 rfl (lv_at hl 2 rfl) ?_
    refine lv_icmp_ne (tgt := 45) hx hb d_MO_times_38 (by decide) (fun c6 => ?_) (fun c6 => ?_)
    · replace hf := (if_neg c6).symm.trans hf
      refine lv_iconst (v := (0 : Int32)) hx hb d_MO_times_45 (by decide) ?_
      refine lv_iadd hx hb d_MO_times_46 ?_
      exact rr_i hx hb hr hlk (stM_g t) hK hT hP hS hf d_MO_times_47
    · replace hf := (if_pos c6).symm.trans hf
      refine lv_iconst (v := (1 : Int32)) hx hb d_MO_times_41 (by decide) ?_
      refine lv_goto (tgt := 46) hx hb d_MO_times_42 (by decide) ?_
      refine lv_iadd hx hb d_MO_times_46 ?_
      exact rr_i hx hb hr hlk (stM_g t) hK hT hP hS hf d_MO_times_47
def f_MO_times (x1 x2 : Int32) (σ : SS) : Option (Int32 × SS) :=
  (f_MO_readsA x1 σ).bind fun q1 => (if q1.1 = 0 then b_MO_times_23 x1 x2 (0 : Int32) q1.2 else (ld (q1.2 2) 40 x1).bind fun v4 => (if v4 = x2 then b_MO_times_23 x1 x2 (1 : Int32) q1.2 else b_MO_times_23 x1 x2 (0 : Int32) q1.2))
set_option maxHeartbeats 4000000 in
set_option maxRecDepth 100000 in
theorem e_MO_times {p : Program} {l : Launch} {e : Env} {s : State} {m : MethodId} {args : Array Value} {below : List Frame} {meth : Method} {c : Code} {D : va_G} {a t : Nat → Nat} {cI cZ : ClassId} (ha : aMC a) (F : CallFix p m c b_MO_times 3 s args gt R_MO) (hr : meth.sig.returnType = some .int) (hlk : meth.locks = false) (hK : va_K D vwCl [(cI, .int), (cZ, .boolean)] s) (hT : stM t (aM a) s s.heap) :
    ∀ (x1 x2 : Int32) (σ : SS) (q : Int32 × SS), f_MO_times x1 x2 σ = some q → ∀ (H : Heap) (locs : List Loc), va_P D vwCl ((wM a cI cZ) σ) H → va_S (aM a) s.heap H locs → ∀ (ls : Array Slot), lv_has ls 3 [(0, .ref (a 0)), (1, .int x1), (2, .int x2)] → W p l e { frames := 2, cells := 0, slots := 0, locals := 43 } s m args below meth c H locs 0 0 (MQ below (va_Qi (fun r u => r = q.1 ∧ u = q.2) (pW D (wM a cI cZ) [(cI, .int), (cZ, .boolean)] (stM t) (aM a)) (aM a)) args s 0 0 (aM a)) (F0 m 0 ls []) := by
  obtain ⟨hx, hb, hml, hown, hg⟩ := id F
  intro x1 x2 σ q hf H locs hP hS ls hl
  unfold f_MO_times at hf
  refine lv_aload_n hx hb d_MO_times_0 rfl (lv_at hl 0 rfl) ?_
  refine lv_iload_n hx hb d_MO_times_1 rfl (lv_at hl 1 rfl) ?_
  refine bdK hf (fun q1 h2 hf => ?_)
  refine rc_Vi (As := [.int x1]) (rest := []) (b := a 0) (stM_g t) F (c_MO_readsA l ha x1 σ q1 h2) (cwV 1 hg gc_MO_101 rfl rfl rfl hs_MO_readsA ⟨Nat.le_of_ble_eq_true rfl, Nat.le_of_ble_eq_true rfl⟩) hK hT hP hS (va_recv hK hP (ci := 6) (q0 := 0) rfl rfl) rfl hl.1 rfl (Nat.le_of_ble_eq_true rfl) d_MO_times_2 ⟨Nat.zero_le _, Nat.zero_le _⟩ (fun H locs hP hS => ?_)
  refine lv_if_eq (tgt := 22) hx hb d_MO_times_5 (by decide) (fun c3 => ?_) (fun c3 => ?_)
  · replace hf := (if_pos c3).symm.trans hf
    refine lv_iconst (v := (0 : Int32)) hx hb d_MO_times_22 (by decide) ?_
    exact k_MO_times_23 ha F hr hlk hK hT x1 x2 (0 : Int32) q1.2 q hf _ _ hP hS ls (lv_sub hl [0, 1, 2] rfl)
  · replace hf := (if_neg c3).symm.trans hf
    refine lv_aload_n hx hb d_MO_times_8 rfl (lv_at hl 0 rfl) ?_
    refine va_get (D := D) (ci := 6) (v := .ref (a 3)) (C := R_MO) (T := T_MO) (N := 26) hx hb hg in_MO hown hK hP 0 rfl rfl 4 (by decide) (hg _ gw_587) (fun _ h9 => h9) rfl d_MO_times_9 ?_
    refine lv_iload_n hx hb d_MO_times_12 rfl (lv_at hl 1 rfl) ?_
    refine bdK hf (fun v4 h5 hf => ?_)
    refine r_iald hx hb hK hP 3 0 rfl rfl h5 d_MO_times_13 ?_
    refine lv_iload_n hx hb d_MO_times_14 rfl (lv_at hl 2 rfl) ?_
    refine lv_icmp_ne (tgt := 22) hx hb d_MO_times_15 (by decide) (fun c6 => ?_) (fun c6 => ?_)
    · replace hf := (if_neg c6).symm.trans hf
      refine lv_iconst (v := (0 : Int32)) hx hb d_MO_times_22 (by decide) ?_
      exact k_MO_times_23 ha F hr hlk hK hT x1 x2 (0 : Int32) q1.2 q hf _ _ hP hS ls (lv_sub hl [0, 1, 2] rfl)
    · replace hf := (if_pos c6).symm.trans hf
      refine lv_iconst (v := (1 : Int32)) hx hb d_MO_times_18 (by decide) ?_
      refine lv_goto (tgt := 23) hx hb d_MO_times_19 (by decide) ?_
      exact k_MO_times_23 ha F hr hlk hK hT x1 x2 (1 : Int32) q1.2 q hf _ _ hP hS ls (lv_sub hl [0, 1, 2] rfl)
set_option maxHeartbeats 4000000 in
set_option maxRecDepth 100000 in
theorem c_MO_times (l : Launch) {D : va_G} {a t : Nat → Nat} {cI cZ : ClassId} (ha : aMC a) (x1 x2 : Int32) (σ : SS) (q : Int32 × SS) (hf : f_MO_times x1 x2 σ = some q) : Met l y_MO_times ws_MO_times { frames := 2, cells := 0, slots := 0, locals := 43 } (va_Pc [.ref (a 0), .int x1, .int x2] (pW D (wM a cI cZ) [(cI, .int), (cZ, .boolean)] (stM t) (aM a) σ)) (va_Qi (fun r u => r = q.1 ∧ u = q.2) (pW D (wM a cI cZ) [(cI, .int), (cZ, .boolean)] (stM t) (aM a)) (aM a)) 0 0 (aM a) := by
  refine Met.ofW (cc := b_MO_times) (maxL := 3) (ret := some .int) (by decide) rfl ?_
  intro p e s m args below meth c s₁ B hml hv
  obtain ⟨rfl, hP, hK, hT⟩ := hv
  have hl := lv_entry ([.ref (a 0), .int x1, .int x2]) (n := 3) (Nat.le_of_ble_eq_true rfl)
  rw [lg_entry_eq]
  generalize (lg_sl ([.ref (a 0), .int x1, .int x2]) ++ List.replicate (3 - (lg_sl ([.ref (a 0), .int x1, .int x2])).length) Slot.unset).toArray = ls at hl ⊢
  exact e_MO_times ha ⟨B.exec, B.bytes, hml, findClass_of_methodNamed B.named, fun w h => atoms_spec (ws := ws_MO_times) B.pre w (List.mem_cons_of_mem _ h)⟩ B.returns B.notSynchronized hK hT x1 x2 σ q hf s.heap [] hP va_S.rf ls hl
theorem d_MO_leaves_0 : decode b_MO_leaves 0 = .ok (.aload_n 0, 1) := by decide +kernel
theorem d_MO_leaves_1 : decode b_MO_leaves 1 = .ok (.getfield 7, 3) := by decide +kernel
theorem d_MO_leaves_4 : decode b_MO_leaves 4 = .ok (.iload_n 1, 1) := by decide +kernel
theorem d_MO_leaves_5 : decode b_MO_leaves 5 = .ok (.iaload, 1) := by decide +kernel
theorem d_MO_leaves_6 : decode b_MO_leaves 6 = .ok (.bipush 9, 2) := by decide +kernel
theorem d_MO_leaves_8 : decode b_MO_leaves 8 = .ok (.bipush 11, 2) := by decide +kernel
theorem d_MO_leaves_10 : decode b_MO_leaves 10 = .ok (.invokestatic 75, 3) := by decide +kernel
theorem d_MO_leaves_13 : decode b_MO_leaves 13 = .ok (.ireturn, 1) := by decide +kernel
def f_MO_leaves (x1 : Int32) (σ : SS) : Option (Int32 × SS) :=
  (ld (σ 0) 40 x1).bind fun v1 => (f_MO_in v1 (9 : Int32) (11 : Int32) σ).bind fun q3 => rz q3.1 q3.2
set_option maxHeartbeats 4000000 in
set_option maxRecDepth 100000 in
theorem e_MO_leaves {p : Program} {l : Launch} {e : Env} {s : State} {m : MethodId} {args : Array Value} {below : List Frame} {meth : Method} {c : Code} {D : va_G} {a t : Nat → Nat} {cI cZ : ClassId} (ha : aMC a) (F : CallFix p m c b_MO_leaves 2 s args gt R_MO) (hr : meth.sig.returnType = some .boolean) (hlk : meth.locks = false) (hK : va_K D vwCl [(cI, .int), (cZ, .boolean)] s) (hT : stM t (aM a) s s.heap) :
    ∀ (x1 : Int32) (σ : SS) (q : Int32 × SS), f_MO_leaves x1 σ = some q → ∀ (H : Heap) (locs : List Loc), va_P D vwCl ((wM a cI cZ) σ) H → va_S (aM a) s.heap H locs → ∀ (ls : Array Slot), lv_has ls 2 [(0, .ref (a 0)), (1, .int x1)] → W p l e { frames := 1, cells := 0, slots := 0, locals := 22 } s m args below meth c H locs 0 0 (MQ below (va_Qi (fun r u => r = q.1 ∧ u = q.2) (pW D (wM a cI cZ) [(cI, .int), (cZ, .boolean)] (stM t) (aM a)) (aM a)) args s 0 0 (aM a)) (F0 m 0 ls []) := by
  obtain ⟨hx, hb, hml, hown, hg⟩ := id F
  intro x1 σ q hf H locs hP hS ls hl
  unfold f_MO_leaves at hf
  refine lv_aload_n hx hb d_MO_leaves_0 rfl (lv_at hl 0 rfl) ?_
  refine va_get (D := D) (ci := 6) (v := .ref (a 1)) (C := R_MO) (T := T_MO) (N := 26) hx hb hg in_MO hown hK hP 0 rfl rfl 2 (by decide) (hg _ gw_585) (fun _ h9 => h9) rfl d_MO_leaves_1 ?_
  refine lv_iload_n hx hb d_MO_leaves_4 rfl (lv_at hl 1 rfl) ?_
  refine bdK hf (fun v1 h2 hf => ?_)
  refine r_iald hx hb hK hP 1 0 rfl rfl h2 d_MO_leaves_5 ?_
  refine lv_bipush (v := (9 : Int32)) hx hb d_MO_leaves_6 (by decide) ?_
  refine lv_bipush (v := (11 : Int32)) hx hb d_MO_leaves_8 (by decide) ?_
  refine bdK hf (fun q3 h4 hf => ?_)
  refine rc_Si (As := [.int v1, .int (9 : Int32), .int (11 : Int32)]) (rest := []) (stM_g t) F (c_MO_in l ha v1 (9 : Int32) (11 : Int32) σ q3 h4) (cwS 3 hg gc_MO_75 rfl rfl rfl hs_MO_in ⟨Nat.le_of_ble_eq_true rfl, Nat.le_of_ble_eq_true rfl⟩) hK hT hP hS rfl hl.1 rfl (Nat.le_of_ble_eq_true rfl) d_MO_leaves_10 ⟨Nat.zero_le _, Nat.zero_le _⟩ (fun H locs hP hS => ?_)
  exact rr_zg hx hb hr hlk (stM_g t) hK hT hP hS hf d_MO_leaves_13
set_option maxHeartbeats 4000000 in
set_option maxRecDepth 100000 in
theorem c_MO_leaves (l : Launch) {D : va_G} {a t : Nat → Nat} {cI cZ : ClassId} (ha : aMC a) (x1 : Int32) (σ : SS) (q : Int32 × SS) (hf : f_MO_leaves x1 σ = some q) : Met l y_MO_leaves ws_MO_leaves { frames := 1, cells := 0, slots := 0, locals := 22 } (va_Pc [.ref (a 0), .int x1] (pW D (wM a cI cZ) [(cI, .int), (cZ, .boolean)] (stM t) (aM a) σ)) (va_Qi (fun r u => r = q.1 ∧ u = q.2) (pW D (wM a cI cZ) [(cI, .int), (cZ, .boolean)] (stM t) (aM a)) (aM a)) 0 0 (aM a) := by
  refine Met.ofW (cc := b_MO_leaves) (maxL := 2) (ret := some .boolean) (by decide) rfl ?_
  intro p e s m args below meth c s₁ B hml hv
  obtain ⟨rfl, hP, hK, hT⟩ := hv
  have hl := lv_entry ([.ref (a 0), .int x1]) (n := 2) (Nat.le_of_ble_eq_true rfl)
  rw [lg_entry_eq]
  generalize (lg_sl ([.ref (a 0), .int x1]) ++ List.replicate (2 - (lg_sl ([.ref (a 0), .int x1])).length) Slot.unset).toArray = ls at hl ⊢
  exact e_MO_leaves ha ⟨B.exec, B.bytes, hml, findClass_of_methodNamed B.named, fun w h => atoms_spec (ws := ws_MO_leaves) B.pre w (List.mem_cons_of_mem _ h)⟩ B.returns B.notSynchronized hK hT x1 σ q hf s.heap [] hP va_S.rf ls hl
theorem d_MO_findBlocks_0 : decode b_MO_findBlocks 0 = .ok (.iconst 0, 1) := by decide +kernel
theorem d_MO_findBlocks_1 : decode b_MO_findBlocks 1 = .ok (.istore_n 1, 1) := by decide +kernel
theorem d_MO_findBlocks_2 : decode b_MO_findBlocks 2 = .ok (.iload_n 1, 1) := by decide +kernel
theorem d_MO_findBlocks_3 : decode b_MO_findBlocks 3 = .ok (.bipush 42, 2) := by decide +kernel
theorem d_MO_findBlocks_5 : decode b_MO_findBlocks 5 = .ok (.if_icmp .ge 39, 3) := by decide +kernel
theorem d_MO_findBlocks_8 : decode b_MO_findBlocks 8 = .ok (.aload_n 0, 1) := by decide +kernel
theorem d_MO_findBlocks_9 : decode b_MO_findBlocks 9 = .ok (.getfield 22, 3) := by decide +kernel
theorem d_MO_findBlocks_12 : decode b_MO_findBlocks 12 = .ok (.iload_n 1, 1) := by decide +kernel
theorem d_MO_findBlocks_13 : decode b_MO_findBlocks 13 = .ok (.iload_n 1, 1) := by decide +kernel
theorem d_MO_findBlocks_14 : decode b_MO_findBlocks 14 = .ok (.ifCond .eq 11, 3) := by decide +kernel
theorem d_MO_findBlocks_17 : decode b_MO_findBlocks 17 = .ok (.iload_n 1, 1) := by decide +kernel
theorem d_MO_findBlocks_18 : decode b_MO_findBlocks 18 = .ok (.aload_n 0, 1) := by decide +kernel
theorem d_MO_findBlocks_19 : decode b_MO_findBlocks 19 = .ok (.getfield 87, 3) := by decide +kernel
theorem d_MO_findBlocks_22 : decode b_MO_findBlocks 22 = .ok (.if_icmp .lt 7, 3) := by decide +kernel
theorem d_MO_findBlocks_25 : decode b_MO_findBlocks 25 = .ok (.iconst 1, 1) := by decide +kernel
theorem d_MO_findBlocks_26 : decode b_MO_findBlocks 26 = .ok (.goto 4, 3) := by decide +kernel
theorem d_MO_findBlocks_29 : decode b_MO_findBlocks 29 = .ok (.iconst 0, 1) := by decide +kernel
theorem d_MO_findBlocks_30 : decode b_MO_findBlocks 30 = .ok (.bastore, 1) := by decide +kernel
theorem d_MO_findBlocks_31 : decode b_MO_findBlocks 31 = .ok (.aload_n 0, 1) := by decide +kernel
theorem d_MO_findBlocks_32 : decode b_MO_findBlocks 32 = .ok (.getfield 26, 3) := by decide +kernel
theorem d_MO_findBlocks_35 : decode b_MO_findBlocks 35 = .ok (.iload_n 1, 1) := by decide +kernel
theorem d_MO_findBlocks_36 : decode b_MO_findBlocks 36 = .ok (.iconst 0, 1) := by decide +kernel
theorem d_MO_findBlocks_37 : decode b_MO_findBlocks 37 = .ok (.iastore, 1) := by decide +kernel
theorem d_MO_findBlocks_38 : decode b_MO_findBlocks 38 = .ok (.iinc 1 1, 3) := by decide +kernel
theorem d_MO_findBlocks_41 : decode b_MO_findBlocks 41 = .ok (.goto (-39), 3) := by decide +kernel
theorem d_MO_findBlocks_44 : decode b_MO_findBlocks 44 = .ok (.iconst 0, 1) := by decide +kernel
theorem d_MO_findBlocks_45 : decode b_MO_findBlocks 45 = .ok (.istore_n 1, 1) := by decide +kernel
theorem d_MO_findBlocks_46 : decode b_MO_findBlocks 46 = .ok (.iload_n 1, 1) := by decide +kernel
theorem d_MO_findBlocks_47 : decode b_MO_findBlocks 47 = .ok (.aload_n 0, 1) := by decide +kernel
theorem d_MO_findBlocks_48 : decode b_MO_findBlocks 48 = .ok (.getfield 87, 3) := by decide +kernel
theorem d_MO_findBlocks_51 : decode b_MO_findBlocks 51 = .ok (.if_icmp .ge 72, 3) := by decide +kernel
theorem d_MO_findBlocks_54 : decode b_MO_findBlocks 54 = .ok (.aload_n 0, 1) := by decide +kernel
theorem d_MO_findBlocks_55 : decode b_MO_findBlocks 55 = .ok (.iload_n 1, 1) := by decide +kernel
theorem d_MO_findBlocks_56 : decode b_MO_findBlocks 56 = .ok (.invokevirtual 107, 3) := by decide +kernel
theorem d_MO_findBlocks_59 : decode b_MO_findBlocks 59 = .ok (.ifCond .eq 12, 3) := by decide +kernel
theorem d_MO_findBlocks_62 : decode b_MO_findBlocks 62 = .ok (.aload_n 0, 1) := by decide +kernel
theorem d_MO_findBlocks_63 : decode b_MO_findBlocks 63 = .ok (.getfield 22, 3) := by decide +kernel
theorem d_MO_findBlocks_66 : decode b_MO_findBlocks 66 = .ok (.iload_n 1, 1) := by decide +kernel
theorem d_MO_findBlocks_67 : decode b_MO_findBlocks 67 = .ok (.iconst 1, 1) := by decide +kernel
theorem d_MO_findBlocks_68 : decode b_MO_findBlocks 68 = .ok (.iadd, 1) := by decide +kernel
theorem d_MO_findBlocks_69 : decode b_MO_findBlocks 69 = .ok (.iconst 1, 1) := by decide +kernel
theorem d_MO_findBlocks_70 : decode b_MO_findBlocks 70 = .ok (.bastore, 1) := by decide +kernel
theorem d_MO_findBlocks_71 : decode b_MO_findBlocks 71 = .ok (.aload_n 0, 1) := by decide +kernel
theorem d_MO_findBlocks_72 : decode b_MO_findBlocks 72 = .ok (.getfield 7, 3) := by decide +kernel
theorem d_MO_findBlocks_75 : decode b_MO_findBlocks 75 = .ok (.iload_n 1, 1) := by decide +kernel
theorem d_MO_findBlocks_76 : decode b_MO_findBlocks 76 = .ok (.iaload, 1) := by decide +kernel
theorem d_MO_findBlocks_77 : decode b_MO_findBlocks 77 = .ok (.bipush 9, 2) := by decide +kernel
theorem d_MO_findBlocks_79 : decode b_MO_findBlocks 79 = .ok (.if_icmp .ne 15, 3) := by decide +kernel
theorem d_MO_findBlocks_82 : decode b_MO_findBlocks 82 = .ok (.aload_n 0, 1) := by decide +kernel
theorem d_MO_findBlocks_83 : decode b_MO_findBlocks 83 = .ok (.getfield 22, 3) := by decide +kernel
theorem d_MO_findBlocks_86 : decode b_MO_findBlocks 86 = .ok (.aload_n 0, 1) := by decide +kernel
theorem d_MO_findBlocks_87 : decode b_MO_findBlocks 87 = .ok (.getfield 16, 3) := by decide +kernel
theorem d_MO_findBlocks_90 : decode b_MO_findBlocks 90 = .ok (.iload_n 1, 1) := by decide +kernel
theorem d_MO_findBlocks_91 : decode b_MO_findBlocks 91 = .ok (.iaload, 1) := by decide +kernel
theorem d_MO_findBlocks_92 : decode b_MO_findBlocks 92 = .ok (.iconst 1, 1) := by decide +kernel
theorem d_MO_findBlocks_93 : decode b_MO_findBlocks 93 = .ok (.bastore, 1) := by decide +kernel
theorem d_MO_findBlocks_94 : decode b_MO_findBlocks 94 = .ok (.aload_n 0, 1) := by decide +kernel
theorem d_MO_findBlocks_95 : decode b_MO_findBlocks 95 = .ok (.getfield 7, 3) := by decide +kernel
theorem d_MO_findBlocks_98 : decode b_MO_findBlocks 98 = .ok (.iload_n 1, 1) := by decide +kernel
theorem d_MO_findBlocks_99 : decode b_MO_findBlocks 99 = .ok (.iaload, 1) := by decide +kernel
theorem d_MO_findBlocks_100 : decode b_MO_findBlocks 100 = .ok (.bipush 10, 2) := by decide +kernel
theorem d_MO_findBlocks_102 : decode b_MO_findBlocks 102 = .ok (.if_icmp .ne 15, 3) := by decide +kernel
theorem d_MO_findBlocks_105 : decode b_MO_findBlocks 105 = .ok (.aload_n 0, 1) := by decide +kernel
theorem d_MO_findBlocks_106 : decode b_MO_findBlocks 106 = .ok (.getfield 22, 3) := by decide +kernel
theorem d_MO_findBlocks_109 : decode b_MO_findBlocks 109 = .ok (.aload_n 0, 1) := by decide +kernel
theorem d_MO_findBlocks_110 : decode b_MO_findBlocks 110 = .ok (.getfield 19, 3) := by decide +kernel
theorem d_MO_findBlocks_113 : decode b_MO_findBlocks 113 = .ok (.iload_n 1, 1) := by decide +kernel
theorem d_MO_findBlocks_114 : decode b_MO_findBlocks 114 = .ok (.iaload, 1) := by decide +kernel
theorem d_MO_findBlocks_115 : decode b_MO_findBlocks 115 = .ok (.iconst 1, 1) := by decide +kernel
theorem d_MO_findBlocks_116 : decode b_MO_findBlocks 116 = .ok (.bastore, 1) := by decide +kernel
theorem d_MO_findBlocks_117 : decode b_MO_findBlocks 117 = .ok (.iinc 1 1, 3) := by decide +kernel
theorem d_MO_findBlocks_120 : decode b_MO_findBlocks 120 = .ok (.goto (-74), 3) := by decide +kernel
theorem d_MO_findBlocks_123 : decode b_MO_findBlocks 123 = .ok (.return_, 1) := by decide +kernel
theorem gc_MO_107 : GoodIn gt (wsV R_MO 107 R_MO y_MO_leaves ws_MO_leaves) := gd_V gw_703 gw_705 gs_37 gw_7 gw_706
def b_MO_findBlocks_94 (r46 : Int32 → SS → Option (SS)) (x1 : Int32) (σ : SS) : Option (SS) :=
  (ld (σ 0) 40 x1).bind fun v1 => (if v1 = (10 : Int32) then (ld (σ 3) 40 x1).bind fun v4 => (sto σ 4 42 v4 (vp_nar .boolean (1 : Int32))).bind fun σ6 => r46 (x1 + (1 : Int32)) σ6 else r46 (x1 + (1 : Int32)) σ)
set_option maxHeartbeats 4000000 in
set_option maxRecDepth 100000 in
theorem k_MO_findBlocks_94 {p : Program} {l : Launch} {e : Env} {s : State} {m : MethodId} {args : Array Value} {below : List Frame} {meth : Method} {c : Code} {D : va_G} {a t : Nat → Nat} {cI cZ : ClassId} (ha : aMC a) (F : CallFix p m c b_MO_findBlocks 2 s args gt R_MO) (hr : meth.sig.returnType = none) (hlk : meth.locks = false) (hK : va_K D vwCl [(cI, .int), (cZ, .boolean)] s) (hT : stM t (aM a) s s.heap) (r46 : Int32 → SS → Option (SS)) (hr46 : ∀ (x1 : Int32) (σ : SS) (q : SS), r46 x1 σ = some q → ∀ (H : Heap) (locs : List Loc), va_P D vwCl ((wM a cI cZ) σ) H → va_S (aM a) s.heap H locs → ∀ (ls : Array Slot), lv_has ls 2 [(0, .ref (a 0)), (1, .int x1)] → W p l e { frames := 2, cells := 0, slots := 0, locals := 43 } s m args below meth c H locs 0 0 (MQ below (va_Qv (fun u => u = q) (pW D (wM a cI cZ) [(cI, .int), (cZ, .boolean)] (stM t) (aM a)) (aM a)) args s 0 0 (aM a)) (F0 m 46 ls [])) :
    ∀ (x1 : Int32) (σ : SS) (q : SS), b_MO_findBlocks_94 r46 x1 σ = some q → ∀ (H : Heap) (locs : List Loc), va_P D vwCl ((wM a cI cZ) σ) H → va_S (aM a) s.heap H locs → ∀ (ls : Array Slot), lv_has ls 2 [(0, .ref (a 0)), (1, .int x1)] → W p l e { frames := 2, cells := 0, slots := 0, locals := 43 } s m args below meth c H locs 0 0 (MQ below (va_Qv (fun u => u = q) (pW D (wM a cI cZ) [(cI, .int), (cZ, .boolean)] (stM t) (aM a)) (aM a)) args s 0 0 (aM a)) (F0 m 94 ls []) := by
  obtain ⟨hx, hb, hml, hown, hg⟩ := id F
  intro x1 σ q hf H locs hP hS ls hl
  unfold b_MO_findBlocks_94 at hf
  refine lv_aload_n hx hb d_MO_findBlocks_94 rfl (lv_at hl 0 rfl) ?_
  refine va_get (D := D) (ci := 6) (v := .ref (a 1)) (C := R_MO) (T := T_MO) (N := 26) hx hb hg in_MO hown hK hP 0 rfl rfl 2 (by decide) (hg _ gw_585) (fun _ h9 => h9) rfl d_MO_findBlocks_95 ?_
  refine lv_iload_n hx hb d_MO_findBlocks_98 rfl (lv_at hl 1 rfl) ?_
  refine bdK hf (fun v1 h2 hf => ?_)
  refine r_iald hx hb hK hP 1 0 rfl rfl h2 d_MO_findBlocks_99 ?_
  refine lv_bipush (v := (10 : Int32)) hx hb d_MO_findBlocks_100 (by decide) ?_
  refine lv_icmp_ne (tgt := 117) hx hb d_MO_findBlocks_102 (by decide) (fun c3 => ?_) (fun c3 => ?_)
  · replace hf := (if_neg c3).symm.trans hf
    refine lv_iinc (v := (x1 + (1 : Int32))) (lv' := [(1, .int (x1 + (1 : Int32))), (0, .ref (a 0))]) hx hb d_MO_findBlocks_117 hl (k := 1) rfl (by rfl) (by decide) rfl (fun ls hl => ?_)
    refine lv_goto (tgt := 46) hx hb d_MO_findBlocks_120 (by decide) ?_
    exact hr46 (x1 + (1 : Int32)) σ q hf _ _ hP hS ls (lv_sub hl [1, 0] rfl)
  · replace hf := (if_pos c3).symm.trans hf
    refine lv_aload_n hx hb d_MO_findBlocks_105 rfl (lv_at hl 0 rfl) ?_
    refine va_get (D := D) (ci := 6) (v := .ref (a 5)) (C := R_MO) (T := T_MO) (N := 26) hx hb hg in_MO hown hK hP 0 rfl rfl 7 (by decide) (hg _ gw_590) (fun _ h9 => h9) rfl d_MO_findBlocks_106 ?_
    refine lv_aload_n hx hb d_MO_findBlocks_109 rfl (lv_at hl 0 rfl) ?_
    refine va_get (D := D) (ci := 6) (v := .ref (a 4)) (C := R_MO) (T := T_MO) (N := 26) hx hb hg in_MO hown hK hP 0 rfl rfl 5 (by decide) (hg _ gw_588) (fun _ h9 => h9) rfl d_MO_findBlocks_110 ?_
    refine lv_iload_n hx hb d_MO_findBlocks_113 rfl (lv_at hl 1 rfl) ?_
    refine bdK hf (fun v4 h5 hf => ?_)
    refine r_iald hx hb hK hP 4 0 rfl rfl h5 d_MO_findBlocks_114 ?_
    refine lv_iconst (v := (1 : Int32)) hx hb d_MO_findBlocks_115 (by decide) ?_
    refine bdK hf (fun σ6 h7 hf => ?_)
    refine r_zast (wf := (wM a cI cZ)) hx hb hK hP (dM ha σ) hS 5 1 rfl rfl (fun _ _ => rfl) h7 d_MO_findBlocks_116 (fun H locs hP hS => ?_)
    refine lv_iinc (v := (x1 + (1 : Int32))) (lv' := [(1, .int (x1 + (1 : Int32))), (0, .ref (a 0))]) hx hb d_MO_findBlocks_117 hl (k := 1) rfl (by rfl) (by decide) rfl (fun ls hl => ?_)
    refine lv_goto (tgt := 46) hx hb d_MO_findBlocks_120 (by decide) ?_
    exact hr46 (x1 + (1 : Int32)) σ6 q hf _ _ hP hS ls (lv_sub hl [1, 0] rfl)
def b_MO_findBlocks_46 : Nat → Int32 → SS → Option (SS)
  | 0, _, _ => none
  | n + 1, x1, σ =>
    (if (σ 21 0) ≤ x1 then some σ else (f_MO_leaves x1 σ).bind fun q2 => (if q2.1 = 0 then (ld (q2.2 0) 40 x1).bind fun v5 => (if v5 = (9 : Int32) then (ld (q2.2 2) 40 x1).bind fun v8 => (sto q2.2 4 42 v8 (vp_nar .boolean (1 : Int32))).bind fun σ10 => b_MO_findBlocks_94 (b_MO_findBlocks_46 n) x1 σ10 else b_MO_findBlocks_94 (b_MO_findBlocks_46 n) x1 q2.2) else (sto q2.2 4 42 (x1 + (1 : Int32)) (vp_nar .boolean (1 : Int32))).bind fun σ12 => (ld (σ12 0) 40 x1).bind fun v14 => (if v14 = (9 : Int32) then (ld (σ12 2) 40 x1).bind fun v17 => (sto σ12 4 42 v17 (vp_nar .boolean (1 : Int32))).bind fun σ19 => b_MO_findBlocks_94 (b_MO_findBlocks_46 n) x1 σ19 else b_MO_findBlocks_94 (b_MO_findBlocks_46 n) x1 σ12)))
set_option maxHeartbeats 4000000 in
set_option maxRecDepth 100000 in
theorem k_MO_findBlocks_46 {p : Program} {l : Launch} {e : Env} {s : State} {m : MethodId} {args : Array Value} {below : List Frame} {meth : Method} {c : Code} {D : va_G} {a t : Nat → Nat} {cI cZ : ClassId} (ha : aMC a) (F : CallFix p m c b_MO_findBlocks 2 s args gt R_MO) (hr : meth.sig.returnType = none) (hlk : meth.locks = false) (hK : va_K D vwCl [(cI, .int), (cZ, .boolean)] s) (hT : stM t (aM a) s s.heap) :
    ∀ (n : Nat) (x1 : Int32) (σ : SS) (q : SS), b_MO_findBlocks_46 n x1 σ = some q → ∀ (H : Heap) (locs : List Loc), va_P D vwCl ((wM a cI cZ) σ) H → va_S (aM a) s.heap H locs → ∀ (ls : Array Slot), lv_has ls 2 [(0, .ref (a 0)), (1, .int x1)] → W p l e { frames := 2, cells := 0, slots := 0, locals := 43 } s m args below meth c H locs 0 0 (MQ below (va_Qv (fun u => u = q) (pW D (wM a cI cZ) [(cI, .int), (cZ, .boolean)] (stM t) (aM a)) (aM a)) args s 0 0 (aM a)) (F0 m 46 ls []) := by
  obtain ⟨hx, hb, hml, hown, hg⟩ := id F
  intro n
  induction n with
  | zero =>
    intro x1 σ q hf
    rw [b_MO_findBlocks_46] at hf
    cases hf
  | succ n ih =>
    intro x1 σ q hf H locs hP hS ls hl
    rw [b_MO_findBlocks_46] at hf
    refine lv_iload_n hx hb d_MO_findBlocks_46 rfl (lv_at hl 1 rfl) ?_
    refine lv_aload_n hx hb d_MO_findBlocks_47 rfl (lv_at hl 0 rfl) ?_
    refine va_get (D := D) (ci := 6) (v := .int (σ 21 0)) (C := R_MO) (T := T_MO) (N := 26) hx hb hg in_MO hown hK hP 0 rfl rfl 1 (by decide) (hg _ gw_584) (fun _ h9 => h9) rfl d_MO_findBlocks_48 ?_
    refine lv_icmp_ge (tgt := 123) hx hb d_MO_findBlocks_51 (by decide) (fun c1 => ?_) (fun c1 => ?_)
    · replace hf := (if_pos c1).symm.trans hf
      exact rr_v hx hb hr hlk (stM_g t) hK hT hP hS hf d_MO_findBlocks_123
    · replace hf := (if_neg c1).symm.trans hf
      refine lv_aload_n hx hb d_MO_findBlocks_54 rfl (lv_at hl 0 rfl) ?_
      refine lv_iload_n hx hb d_MO_findBlocks_55 rfl (lv_at hl 1 rfl) ?_
      refine bdK hf (fun q2 h3 hf => ?_)
      refine rc_Vi (As := [.int x1]) (rest := []) (b := a 0) (stM_g t) F (c_MO_leaves l ha x1 σ q2 h3) (cwV 1 hg gc_MO_107 rfl rfl rfl hs_MO_leaves ⟨Nat.le_of_ble_eq_true rfl, Nat.le_of_ble_eq_true rfl⟩) hK hT hP hS (va_recv hK hP (ci := 6) (q0 := 0) rfl rfl) rfl hl.1 rfl (Nat.le_of_ble_eq_true rfl) d_MO_findBlocks_56 ⟨Nat.zero_le _, Nat.zero_le _⟩ (fun H locs hP hS => ?_)
      refine lv_if_eq (tgt := 71) hx hb d_MO_findBlocks_59 (by decide) (fun c4 => ?_) (fun c4 => ?_)
      · replace hf := (if_pos c4).symm.trans hf
        refine lv_aload_n hx hb d_MO_findBlocks_71 rfl (lv_at hl 0 rfl) ?_
        refine va_get (D := D) (ci := 6) (v := .ref (a 1)) (C := R_MO) (T := T_MO) (N := 26) hx hb hg in_MO hown hK hP 0 rfl rfl 2 (by decide) (hg _ gw_585) (fun _ h9 => h9) rfl d_MO_findBlocks_72 ?_
        refine lv_iload_n hx hb d_MO_findBlocks_75 rfl (lv_at hl 1 rfl) ?_
        refine bdK hf (fun v5 h6 hf => ?_)
        refine r_iald hx hb hK hP 1 0 rfl rfl h6 d_MO_findBlocks_76 ?_
        refine lv_bipush (v := (9 : Int32)) hx hb d_MO_findBlocks_77 (by decide) ?_
        refine lv_icmp_ne (tgt := 94) hx hb d_MO_findBlocks_79 (by decide) (fun c7 => ?_) (fun c7 => ?_)
        · replace hf := (if_neg c7).symm.trans hf
          exact k_MO_findBlocks_94 ha F hr hlk hK hT (b_MO_findBlocks_46 n) ih x1 q2.2 q hf _ _ hP hS ls (lv_sub hl [0, 1] rfl)
        · replace hf := (if_pos c7).symm.trans hf
          refine lv_aload_n hx hb d_MO_findBlocks_82 rfl (lv_at hl 0 rfl) ?_
          refine va_get (D := D) (ci := 6) (v := .ref (a 5)) (C := R_MO) (T := T_MO) (N := 26) hx hb hg in_MO hown hK hP 0 rfl rfl 7 (by decide) (hg _ gw_590) (fun _ h9 => h9) rfl d_MO_findBlocks_83 ?_
          refine lv_aload_n hx hb d_MO_findBlocks_86 rfl (lv_at hl 0 rfl) ?_
          refine va_get (D := D) (ci := 6) (v := .ref (a 3)) (C := R_MO) (T := T_MO) (N := 26) hx hb hg in_MO hown hK hP 0 rfl rfl 4 (by decide) (hg _ gw_587) (fun _ h9 => h9) rfl d_MO_findBlocks_87 ?_
          refine lv_iload_n hx hb d_MO_findBlocks_90 rfl (lv_at hl 1 rfl) ?_
          refine bdK hf (fun v8 h9 hf => ?_)
          refine r_iald hx hb hK hP 3 0 rfl rfl h9 d_MO_findBlocks_91 ?_
          refine lv_iconst (v := (1 : Int32)) hx hb d_MO_findBlocks_92 (by decide) ?_
          refine bdK hf (fun σ10 h11 hf => ?_)
          refine r_zast (wf := (wM a cI cZ)) hx hb hK hP (dM ha q2.2) hS 5 1 rfl rfl (fun _ _ => rfl) h11 d_MO_findBlocks_93 (fun H locs hP hS => ?_)
          exact k_MO_findBlocks_94 ha F hr hlk hK hT (b_MO_findBlocks_46 n) ih x1 σ10 q hf _ _ hP hS ls (lv_sub hl [0, 1] rfl)
      · replace hf := (if_neg c4).symm.trans hf
        refine lv_aload_n hx hb d_MO_findBlocks_62 rfl (lv_at hl 0 rfl) ?_
        refine va_get (D := D) (ci := 6) (v := .ref (a 5)) (C := R_MO) (T := T_MO) (N := 26) hx hb hg in_MO hown hK hP 0 rfl rfl 7 (by decide) (hg _ gw_590) (fun _ h9 => h9) rfl d_MO_findBlocks_63 ?_
        refine lv_iload_n hx hb d_MO_findBlocks_66 rfl (lv_at hl 1 rfl) ?_
        refine lv_iconst (v := (1 : Int32)) hx hb d_MO_findBlocks_67 (by decide) ?_
        refine lv_iadd hx hb d_MO_findBlocks_68 ?_
        refine lv_iconst (v := (1 : Int32)) hx hb d_MO_findBlocks_69 (by decide) ?_
        refine bdK hf (fun σ12 h13 hf => ?_)
        refine r_zast (wf := (wM a cI cZ)) hx hb hK hP (dM ha q2.2) hS 5 1 rfl rfl (fun _ _ => rfl) h13 d_MO_findBlocks_70 (fun H locs hP hS => ?_)
        refine lv_aload_n hx hb d_MO_findBlocks_71 rfl (lv_at hl 0 rfl) ?_
        refine va_get (D := D) (ci := 6) (v := .ref (a 1)) (C := R_MO) (T := T_MO) (N := 26) hx hb hg in_MO hown hK hP 0 rfl rfl 2 (by decide) (hg _ gw_585) (fun _ h9 => h9) rfl d_MO_findBlocks_72 ?_
        refine lv_iload_n hx hb d_MO_findBlocks_75 rfl (lv_at hl 1 rfl) ?_
        refine bdK hf (fun v14 h15 hf => ?_)
        refine r_iald hx hb hK hP 1 0 rfl rfl h15 d_MO_findBlocks_76 ?_
        refine lv_bipush (v := (9 : Int32)) hx hb d_MO_findBlocks_77 (by decide) ?_
        refine lv_icmp_ne (tgt := 94) hx hb d_MO_findBlocks_79 (by decide) (fun c16 => ?_) (fun c16 => ?_)
        · replace hf := (if_neg c16).symm.trans hf
          exact k_MO_findBlocks_94 ha F hr hlk hK hT (b_MO_findBlocks_46 n) ih x1 σ12 q hf _ _ hP hS ls (lv_sub hl [0, 1] rfl)
        · replace hf := (if_pos c16).symm.trans hf
          refine lv_aload_n hx hb d_MO_findBlocks_82 rfl (lv_at hl 0 rfl) ?_
          refine va_get (D := D) (ci := 6) (v := .ref (a 5)) (C := R_MO) (T := T_MO) (N := 26) hx hb hg in_MO hown hK hP 0 rfl rfl 7 (by decide) (hg _ gw_590) (fun _ h9 => h9) rfl d_MO_findBlocks_83 ?_
          refine lv_aload_n hx hb d_MO_findBlocks_86 rfl (lv_at hl 0 rfl) ?_
          refine va_get (D := D) (ci := 6) (v := .ref (a 3)) (C := R_MO) (T := T_MO) (N := 26) hx hb hg in_MO hown hK hP 0 rfl rfl 4 (by decide) (hg _ gw_587) (fun _ h9 => h9) rfl d_MO_findBlocks_87 ?_
          refine lv_iload_n hx hb d_MO_findBlocks_90 rfl (lv_at hl 1 rfl) ?_
          refine bdK hf (fun v17 h18 hf => ?_)
          refine r_iald hx hb hK hP 3 0 rfl rfl h18 d_MO_findBlocks_91 ?_
          refine lv_iconst (v := (1 : Int32)) hx hb d_MO_findBlocks_92 (by decide) ?_
          refine bdK hf (fun σ19 h20 hf => ?_)
          refine r_zast (wf := (wM a cI cZ)) hx hb hK hP (dM ha σ12) hS 5 1 rfl rfl (fun _ _ => rfl) h20 d_MO_findBlocks_93 (fun H locs hP hS => ?_)
          exact k_MO_findBlocks_94 ha F hr hlk hK hT (b_MO_findBlocks_46 n) ih x1 σ19 q hf _ _ hP hS ls (lv_sub hl [0, 1] rfl)
def b_MO_findBlocks_2 : Nat → Int32 → SS → Option (SS)
  | 0, _, _ => none
  | n + 1, x1, σ =>
    (if (42 : Int32) ≤ x1 then b_MO_findBlocks_46 FU (0 : Int32) σ else (if x1 = 0 then (sto σ 4 42 x1 (vp_nar .boolean (1 : Int32))).bind fun σ3 => (sto σ3 5 42 x1 (0 : Int32)).bind fun σ5 => b_MO_findBlocks_2 n (x1 + (1 : Int32)) σ5 else (if x1 < (σ 21 0) then (sto σ 4 42 x1 (vp_nar .boolean (0 : Int32))).bind fun σ8 => (sto σ8 5 42 x1 (0 : Int32)).bind fun σ10 => b_MO_findBlocks_2 n (x1 + (1 : Int32)) σ10 else (sto σ 4 42 x1 (vp_nar .boolean (1 : Int32))).bind fun σ12 => (sto σ12 5 42 x1 (0 : Int32)).bind fun σ14 => b_MO_findBlocks_2 n (x1 + (1 : Int32)) σ14)))
set_option maxHeartbeats 4000000 in
set_option maxRecDepth 100000 in
theorem k_MO_findBlocks_2 {p : Program} {l : Launch} {e : Env} {s : State} {m : MethodId} {args : Array Value} {below : List Frame} {meth : Method} {c : Code} {D : va_G} {a t : Nat → Nat} {cI cZ : ClassId} (ha : aMC a) (F : CallFix p m c b_MO_findBlocks 2 s args gt R_MO) (hr : meth.sig.returnType = none) (hlk : meth.locks = false) (hK : va_K D vwCl [(cI, .int), (cZ, .boolean)] s) (hT : stM t (aM a) s s.heap) :
    ∀ (n : Nat) (x1 : Int32) (σ : SS) (q : SS), b_MO_findBlocks_2 n x1 σ = some q → ∀ (H : Heap) (locs : List Loc), va_P D vwCl ((wM a cI cZ) σ) H → va_S (aM a) s.heap H locs → ∀ (ls : Array Slot), lv_has ls 2 [(0, .ref (a 0)), (1, .int x1)] → W p l e { frames := 2, cells := 0, slots := 0, locals := 43 } s m args below meth c H locs 0 0 (MQ below (va_Qv (fun u => u = q) (pW D (wM a cI cZ) [(cI, .int), (cZ, .boolean)] (stM t) (aM a)) (aM a)) args s 0 0 (aM a)) (F0 m 2 ls []) := by
  obtain ⟨hx, hb, hml, hown, hg⟩ := id F
  intro n
  induction n with
  | zero =>
    intro x1 σ q hf
    rw [b_MO_findBlocks_2] at hf
    cases hf
  | succ n ih =>
    intro x1 σ q hf H locs hP hS ls hl
    rw [b_MO_findBlocks_2] at hf
    refine lv_iload_n hx hb d_MO_findBlocks_2 rfl (lv_at hl 1 rfl) ?_
    refine lv_bipush (v := (42 : Int32)) hx hb d_MO_findBlocks_3 (by decide) ?_
    refine lv_icmp_ge (tgt := 44) hx hb d_MO_findBlocks_5 (by decide) (fun c1 => ?_) (fun c1 => ?_)
    · replace hf := (if_pos c1).symm.trans hf
      refine lv_iconst (v := (0 : Int32)) hx hb d_MO_findBlocks_44 (by decide) ?_
      refine lv_istore_n (lv' := [(1, .int (0 : Int32)), (0, .ref (a 0))]) hx hb d_MO_findBlocks_45 rfl hl (by decide) rfl (fun ls hl => ?_)
      exact k_MO_findBlocks_46 ha F hr hlk hK hT FU (0 : Int32) σ q hf _ _ hP hS ls (lv_sub hl [1, 0] rfl)
    · replace hf := (if_neg c1).symm.trans hf
      refine lv_aload_n hx hb d_MO_findBlocks_8 rfl (lv_at hl 0 rfl) ?_
      refine va_get (D := D) (ci := 6) (v := .ref (a 5)) (C := R_MO) (T := T_MO) (N := 26) hx hb hg in_MO hown hK hP 0 rfl rfl 7 (by decide) (hg _ gw_590) (fun _ h9 => h9) rfl d_MO_findBlocks_9 ?_
      refine lv_iload_n hx hb d_MO_findBlocks_12 rfl (lv_at hl 1 rfl) ?_
      refine lv_iload_n hx hb d_MO_findBlocks_13 rfl (lv_at hl 1 rfl) ?_
      refine lv_if_eq (tgt := 25) hx hb d_MO_findBlocks_14 (by decide) (fun c2 => ?_) (fun c2 => ?_)
      · replace hf := (if_pos c2).symm.trans hf
        refine lv_iconst (v := (1 : Int32)) hx hb d_MO_findBlocks_25 (by decide) ?_
        refine lv_goto (tgt := 30) hx hb d_MO_findBlocks_26 (by decide) ?_
        refine bdK hf (fun σ3 h4 hf => ?_)
        refine r_zast (wf := (wM a cI cZ)) hx hb hK hP (dM ha σ) hS 5 1 rfl rfl (fun _ _ => rfl) h4 d_MO_findBlocks_30 (fun H locs hP hS => ?_)
        refine lv_aload_n hx hb d_MO_findBlocks_31 rfl (lv_at hl 0 rfl) ?_
        refine va_get (D := D) (ci := 6) (v := .ref (a 6)) (C := R_MO) (T := T_MO) (N := 26) hx hb hg in_MO hown hK hP 0 rfl rfl 8 (by decide) (hg _ gw_591) (fun _ h9 => h9) rfl d_MO_findBlocks_32 ?_
        refine lv_iload_n hx hb d_MO_findBlocks_35 rfl (lv_at hl 1 rfl) ?_
        refine lv_iconst (v := (0 : Int32)) hx hb d_MO_findBlocks_36 (by decide) ?_
        refine bdK hf (fun σ5 h6 hf => ?_)
        refine r_iast (wf := (wM a cI cZ)) hx hb hK hP (dM ha σ3) hS 6 0 rfl rfl (fun _ _ => rfl) h6 d_MO_findBlocks_37 (fun H locs hP hS => ?_)
        refine lv_iinc (v := (x1 + (1 : Int32))) (lv' := [(1, .int (x1 + (1 : Int32))), (0, .ref (a 0))]) hx hb d_MO_findBlocks_38 hl (k := 1) rfl (by rfl) (by decide) rfl (fun ls hl => ?_)
        refine lv_goto (tgt := 2) hx hb d_MO_findBlocks_41 (by decide) ?_
        exact ih (x1 + (1 : Int32)) σ5 q hf _ _ hP hS ls (lv_sub hl [1, 0] rfl)
      · replace hf := (if_neg c2).symm.trans hf
        refine lv_iload_n hx hb d_MO_findBlocks_17 rfl (lv_at hl 1 rfl) ?_
        refine lv_aload_n hx hb d_MO_findBlocks_18 rfl (lv_at hl 0 rfl) ?_
        refine va_get (D := D) (ci := 6) (v := .int (σ 21 0)) (C := R_MO) (T := T_MO) (N := 26) hx hb hg in_MO hown hK hP 0 rfl rfl 1 (by decide) (hg _ gw_584) (fun _ h9 => h9) rfl d_MO_findBlocks_19 ?_
        refine lv_icmp_lt (tgt := 29) hx hb d_MO_findBlocks_22 (by decide) (fun c7 => ?_) (fun c7 => ?_)
        · replace hf := (if_pos c7).symm.trans hf
          refine lv_iconst (v := (0 : Int32)) hx hb d_MO_findBlocks_29 (by decide) ?_
          refine bdK hf (fun σ8 h9 hf => ?_)
          refine r_zast (wf := (wM a cI cZ)) hx hb hK hP (dM ha σ) hS 5 1 rfl rfl (fun _ _ => rfl) h9 d_MO_findBlocks_30 (fun H locs hP hS => ?_)
          refine lv_aload_n hx hb d_MO_findBlocks_31 rfl (lv_at hl 0 rfl) ?_
          refine va_get (D := D) (ci := 6) (v := .ref (a 6)) (C := R_MO) (T := T_MO) (N := 26) hx hb hg in_MO hown hK hP 0 rfl rfl 8 (by decide) (hg _ gw_591) (fun _ h9 => h9) rfl d_MO_findBlocks_32 ?_
          refine lv_iload_n hx hb d_MO_findBlocks_35 rfl (lv_at hl 1 rfl) ?_
          refine lv_iconst (v := (0 : Int32)) hx hb d_MO_findBlocks_36 (by decide) ?_
          refine bdK hf (fun σ10 h11 hf => ?_)
          refine r_iast (wf := (wM a cI cZ)) hx hb hK hP (dM ha σ8) hS 6 0 rfl rfl (fun _ _ => rfl) h11 d_MO_findBlocks_37 (fun H locs hP hS => ?_)
          refine lv_iinc (v := (x1 + (1 : Int32))) (lv' := [(1, .int (x1 + (1 : Int32))), (0, .ref (a 0))]) hx hb d_MO_findBlocks_38 hl (k := 1) rfl (by rfl) (by decide) rfl (fun ls hl => ?_)
          refine lv_goto (tgt := 2) hx hb d_MO_findBlocks_41 (by decide) ?_
          exact ih (x1 + (1 : Int32)) σ10 q hf _ _ hP hS ls (lv_sub hl [1, 0] rfl)
        · replace hf := (if_neg c7).symm.trans hf
          refine lv_iconst (v := (1 : Int32)) hx hb d_MO_findBlocks_25 (by decide) ?_
          refine lv_goto (tgt := 30) hx hb d_MO_findBlocks_26 (by decide) ?_
          refine bdK hf (fun σ12 h13 hf => ?_)
          refine r_zast (wf := (wM a cI cZ)) hx hb hK hP (dM ha σ) hS 5 1 rfl rfl (fun _ _ => rfl) h13 d_MO_findBlocks_30 (fun H locs hP hS => ?_)
          refine lv_aload_n hx hb d_MO_findBlocks_31 rfl (lv_at hl 0 rfl) ?_
          refine va_get (D := D) (ci := 6) (v := .ref (a 6)) (C := R_MO) (T := T_MO) (N := 26) hx hb hg in_MO hown hK hP 0 rfl rfl 8 (by decide) (hg _ gw_591) (fun _ h9 => h9) rfl d_MO_findBlocks_32 ?_
          refine lv_iload_n hx hb d_MO_findBlocks_35 rfl (lv_at hl 1 rfl) ?_
          refine lv_iconst (v := (0 : Int32)) hx hb d_MO_findBlocks_36 (by decide) ?_
          refine bdK hf (fun σ14 h15 hf => ?_)
          refine r_iast (wf := (wM a cI cZ)) hx hb hK hP (dM ha σ12) hS 6 0 rfl rfl (fun _ _ => rfl) h15 d_MO_findBlocks_37 (fun H locs hP hS => ?_)
          refine lv_iinc (v := (x1 + (1 : Int32))) (lv' := [(1, .int (x1 + (1 : Int32))), (0, .ref (a 0))]) hx hb d_MO_findBlocks_38 hl (k := 1) rfl (by rfl) (by decide) rfl (fun ls hl => ?_)
          refine lv_goto (tgt := 2) hx hb d_MO_findBlocks_41 (by decide) ?_
          exact ih (x1 + (1 : Int32)) σ14 q hf _ _ hP hS ls (lv_sub hl [1, 0] rfl)
def f_MO_findBlocks (σ : SS) : Option (SS) :=
  b_MO_findBlocks_2 FU (0 : Int32) σ
set_option maxHeartbeats 4000000 in
set_option maxRecDepth 100000 in
theorem e_MO_findBlocks {p : Program} {l : Launch} {e : Env} {s : State} {m : MethodId} {args : Array Value} {below : List Frame} {meth : Method} {c : Code} {D : va_G} {a t : Nat → Nat} {cI cZ : ClassId} (ha : aMC a) (F : CallFix p m c b_MO_findBlocks 2 s args gt R_MO) (hr : meth.sig.returnType = none) (hlk : meth.locks = false) (hK : va_K D vwCl [(cI, .int), (cZ, .boolean)] s) (hT : stM t (aM a) s s.heap) :
    ∀ (σ : SS) (q : SS), f_MO_findBlocks σ = some q → ∀ (H : Heap) (locs : List Loc), va_P D vwCl ((wM a cI cZ) σ) H → va_S (aM a) s.heap H locs → ∀ (ls : Array Slot), lv_has ls 2 [(0, .ref (a 0))] → W p l e { frames := 2, cells := 0, slots := 0, locals := 43 } s m args below meth c H locs 0 0 (MQ below (va_Qv (fun u => u = q) (pW D (wM a cI cZ) [(cI, .int), (cZ, .boolean)] (stM t) (aM a)) (aM a)) args s 0 0 (aM a)) (F0 m 0 ls []) := by
  obtain ⟨hx, hb, hml, hown, hg⟩ := id F
  intro σ q hf H locs hP hS ls hl
  unfold f_MO_findBlocks at hf
  refine lv_iconst (v := (0 : Int32)) hx hb d_MO_findBlocks_0 (by decide) ?_
  refine lv_istore_n (lv' := [(1, .int (0 : Int32)), (0, .ref (a 0))]) hx hb d_MO_findBlocks_1 rfl hl (by decide) rfl (fun ls hl => ?_)
  exact k_MO_findBlocks_2 ha F hr hlk hK hT FU (0 : Int32) σ q hf _ _ hP hS ls (lv_sub hl [1, 0] rfl)
set_option maxHeartbeats 4000000 in
set_option maxRecDepth 100000 in
theorem c_MO_findBlocks (l : Launch) {D : va_G} {a t : Nat → Nat} {cI cZ : ClassId} (ha : aMC a) (σ : SS) (q : SS) (hf : f_MO_findBlocks σ = some q) : Met l y_MO_findBlocks ws_MO_findBlocks { frames := 2, cells := 0, slots := 0, locals := 43 } (va_Pc [.ref (a 0)] (pW D (wM a cI cZ) [(cI, .int), (cZ, .boolean)] (stM t) (aM a) σ)) (va_Qv (fun u => u = q) (pW D (wM a cI cZ) [(cI, .int), (cZ, .boolean)] (stM t) (aM a)) (aM a)) 0 0 (aM a) := by
  refine Met.ofW (cc := b_MO_findBlocks) (maxL := 2) (ret := none) (by decide) rfl ?_
  intro p e s m args below meth c s₁ B hml hv
  obtain ⟨rfl, hP, hK, hT⟩ := hv
  have hl := lv_entry ([.ref (a 0)]) (n := 2) (Nat.le_of_ble_eq_true rfl)
  rw [lg_entry_eq]
  generalize (lg_sl ([.ref (a 0)]) ++ List.replicate (2 - (lg_sl ([.ref (a 0)])).length) Slot.unset).toArray = ls at hl ⊢
  exact e_MO_findBlocks ha ⟨B.exec, B.bytes, hml, findClass_of_methodNamed B.named, fun w h => atoms_spec (ws := ws_MO_findBlocks) B.pre w (List.mem_cons_of_mem _ h)⟩ B.returns B.notSynchronized hK hT σ q hf s.heap [] hP va_S.rf ls hl
theorem d_MO_aliveAt_0 : decode b_MO_aliveAt 0 = .ok (.iload_n 1, 1) := by decide +kernel
theorem d_MO_aliveAt_1 : decode b_MO_aliveAt 1 = .ok (.aload_n 0, 1) := by decide +kernel
theorem d_MO_aliveAt_2 : decode b_MO_aliveAt 2 = .ok (.getfield 87, 3) := by decide +kernel
theorem d_MO_aliveAt_5 : decode b_MO_aliveAt 5 = .ok (.if_icmp .ge 12, 3) := by decide +kernel
theorem d_MO_aliveAt_8 : decode b_MO_aliveAt 8 = .ok (.aload_n 0, 1) := by decide +kernel
theorem d_MO_aliveAt_9 : decode b_MO_aliveAt 9 = .ok (.getfield 26, 3) := by decide +kernel
theorem d_MO_aliveAt_12 : decode b_MO_aliveAt 12 = .ok (.iload_n 1, 1) := by decide +kernel
theorem d_MO_aliveAt_13 : decode b_MO_aliveAt 13 = .ok (.iaload, 1) := by decide +kernel
theorem d_MO_aliveAt_14 : decode b_MO_aliveAt 14 = .ok (.goto 4, 3) := by decide +kernel
theorem d_MO_aliveAt_17 : decode b_MO_aliveAt 17 = .ok (.iconst 0, 1) := by decide +kernel
theorem d_MO_aliveAt_18 : decode b_MO_aliveAt 18 = .ok (.ireturn, 1) := by decide +kernel
def f_MO_aliveAt (x1 : Int32) (σ : SS) : Option (Int32 × SS) :=
  (if (σ 21 0) ≤ x1 then some ((0 : Int32), σ) else (ld (σ 5) 42 x1).bind fun v2 => some (v2, σ))
set_option maxHeartbeats 4000000 in
set_option maxRecDepth 100000 in
theorem e_MO_aliveAt {p : Program} {l : Launch} {e : Env} {s : State} {m : MethodId} {args : Array Value} {below : List Frame} {meth : Method} {c : Code} {D : va_G} {a t : Nat → Nat} {cI cZ : ClassId} (ha : aMC a) (F : CallFix p m c b_MO_aliveAt 2 s args gt R_MO) (hr : meth.sig.returnType = some .int) (hlk : meth.locks = false) (hK : va_K D vwCl [(cI, .int), (cZ, .boolean)] s) (hT : stM t (aM a) s s.heap) :
    ∀ (x1 : Int32) (σ : SS) (q : Int32 × SS), f_MO_aliveAt x1 σ = some q → ∀ (H : Heap) (locs : List Loc), va_P D vwCl ((wM a cI cZ) σ) H → va_S (aM a) s.heap H locs → ∀ (ls : Array Slot), lv_has ls 2 [(0, .ref (a 0)), (1, .int x1)] → W p l e { frames := 0, cells := 0, slots := 0, locals := 0 } s m args below meth c H locs 0 0 (MQ below (va_Qi (fun r u => r = q.1 ∧ u = q.2) (pW D (wM a cI cZ) [(cI, .int), (cZ, .boolean)] (stM t) (aM a)) (aM a)) args s 0 0 (aM a)) (F0 m 0 ls []) := by
  obtain ⟨hx, hb, hml, hown, hg⟩ := id F
  intro x1 σ q hf H locs hP hS ls hl
  unfold f_MO_aliveAt at hf
  refine lv_iload_n hx hb d_MO_aliveAt_0 rfl (lv_at hl 1 rfl) ?_
  refine lv_aload_n hx hb d_MO_aliveAt_1 rfl (lv_at hl 0 rfl) ?_
  refine va_get (D := D) (ci := 6) (v := .int (σ 21 0)) (C := R_MO) (T := T_MO) (N := 26) hx hb hg in_MO hown hK hP 0 rfl rfl 1 (by decide) (hg _ gw_584) (fun _ h9 => h9) rfl d_MO_aliveAt_2 ?_
  refine lv_icmp_ge (tgt := 17) hx hb d_MO_aliveAt_5 (by decide) (fun c1 => ?_) (fun c1 => ?_)
  · replace hf := (if_pos c1).symm.trans hf
    refine lv_iconst (v := (0 : Int32)) hx hb d_MO_aliveAt_17 (by decide) ?_
    exact rr_i hx hb hr hlk (stM_g t) hK hT hP hS hf d_MO_aliveAt_18
  · replace hf := (if_neg c1).symm.trans hf
    refine lv_aload_n hx hb d_MO_aliveAt_8 rfl (lv_at hl 0 rfl) ?_
    refine va_get (D := D) (ci := 6) (v := .ref (a 6)) (C := R_MO) (T := T_MO) (N := 26) hx hb hg in_MO hown hK hP 0 rfl rfl 8 (by decide) (hg _ gw_591) (fun _ h9 => h9) rfl d_MO_aliveAt_9 ?_
    refine lv_iload_n hx hb d_MO_aliveAt_12 rfl (lv_at hl 1 rfl) ?_
    refine bdK hf (fun v2 h3 hf => ?_)
    refine r_iald hx hb hK hP 6 0 rfl rfl h3 d_MO_aliveAt_13 ?_
    refine lv_goto (tgt := 18) hx hb d_MO_aliveAt_14 (by decide) ?_
    exact rr_i hx hb hr hlk (stM_g t) hK hT hP hS hf d_MO_aliveAt_18
set_option maxHeartbeats 4000000 in
set_option maxRecDepth 100000 in
theorem c_MO_aliveAt (l : Launch) {D : va_G} {a t : Nat → Nat} {cI cZ : ClassId} (ha : aMC a) (x1 : Int32) (σ : SS) (q : Int32 × SS) (hf : f_MO_aliveAt x1 σ = some q) : Met l y_MO_aliveAt ws_MO_aliveAt { frames := 0, cells := 0, slots := 0, locals := 0 } (va_Pc [.ref (a 0), .int x1] (pW D (wM a cI cZ) [(cI, .int), (cZ, .boolean)] (stM t) (aM a) σ)) (va_Qi (fun r u => r = q.1 ∧ u = q.2) (pW D (wM a cI cZ) [(cI, .int), (cZ, .boolean)] (stM t) (aM a)) (aM a)) 0 0 (aM a) := by
  refine Met.ofW (cc := b_MO_aliveAt) (maxL := 2) (ret := some .int) (by decide) rfl ?_
  intro p e s m args below meth c s₁ B hml hv
  obtain ⟨rfl, hP, hK, hT⟩ := hv
  have hl := lv_entry ([.ref (a 0), .int x1]) (n := 2) (Nat.le_of_ble_eq_true rfl)
  rw [lg_entry_eq]
  generalize (lg_sl ([.ref (a 0), .int x1]) ++ List.replicate (2 - (lg_sl ([.ref (a 0), .int x1])).length) Slot.unset).toArray = ls at hl ⊢
  exact e_MO_aliveAt ha ⟨B.exec, B.bytes, hml, findClass_of_methodNamed B.named, fun w h => atoms_spec (ws := ws_MO_aliveAt) B.pre w (List.mem_cons_of_mem _ h)⟩ B.returns B.notSynchronized hK hT x1 σ q hf s.heap [] hP va_S.rf ls hl
theorem d_MO_behind_0 : decode b_MO_behind 0 = .ok (.aload_n 0, 1) := by decide +kernel
theorem d_MO_behind_1 : decode b_MO_behind 1 = .ok (.getfield 7, 3) := by decide +kernel
theorem d_MO_behind_4 : decode b_MO_behind 4 = .ok (.iload_n 1, 1) := by decide +kernel
theorem d_MO_behind_5 : decode b_MO_behind 5 = .ok (.iaload, 1) := by decide +kernel
theorem d_MO_behind_6 : decode b_MO_behind 6 = .ok (.bipush 11, 2) := by decide +kernel
theorem d_MO_behind_8 : decode b_MO_behind 8 = .ok (.if_icmp .ne 5, 3) := by decide +kernel
theorem d_MO_behind_11 : decode b_MO_behind 11 = .ok (.iconst 0, 1) := by decide +kernel
theorem d_MO_behind_12 : decode b_MO_behind 12 = .ok (.ireturn, 1) := by decide +kernel
theorem d_MO_behind_13 : decode b_MO_behind 13 = .ok (.aload_n 0, 1) := by decide +kernel
theorem d_MO_behind_14 : decode b_MO_behind 14 = .ok (.getfield 7, 3) := by decide +kernel
theorem d_MO_behind_17 : decode b_MO_behind 17 = .ok (.iload_n 1, 1) := by decide +kernel
theorem d_MO_behind_18 : decode b_MO_behind 18 = .ok (.iaload, 1) := by decide +kernel
theorem d_MO_behind_19 : decode b_MO_behind 19 = .ok (.bipush 9, 2) := by decide +kernel
theorem d_MO_behind_21 : decode b_MO_behind 21 = .ok (.if_icmp .ne 14, 3) := by decide +kernel
theorem d_MO_behind_24 : decode b_MO_behind 24 = .ok (.aload_n 0, 1) := by decide +kernel
theorem d_MO_behind_25 : decode b_MO_behind 25 = .ok (.aload_n 0, 1) := by decide +kernel
theorem d_MO_behind_26 : decode b_MO_behind 26 = .ok (.getfield 16, 3) := by decide +kernel
theorem d_MO_behind_29 : decode b_MO_behind 29 = .ok (.iload_n 1, 1) := by decide +kernel
theorem d_MO_behind_30 : decode b_MO_behind 30 = .ok (.iaload, 1) := by decide +kernel
theorem d_MO_behind_31 : decode b_MO_behind 31 = .ok (.invokevirtual 110, 3) := by decide +kernel
theorem d_MO_behind_34 : decode b_MO_behind 34 = .ok (.ireturn, 1) := by decide +kernel
theorem d_MO_behind_35 : decode b_MO_behind 35 = .ok (.aload_n 0, 1) := by decide +kernel
theorem d_MO_behind_36 : decode b_MO_behind 36 = .ok (.getfield 7, 3) := by decide +kernel
theorem d_MO_behind_39 : decode b_MO_behind 39 = .ok (.iload_n 1, 1) := by decide +kernel
theorem d_MO_behind_40 : decode b_MO_behind 40 = .ok (.iaload, 1) := by decide +kernel
theorem d_MO_behind_41 : decode b_MO_behind 41 = .ok (.bipush 10, 2) := by decide +kernel
theorem d_MO_behind_43 : decode b_MO_behind 43 = .ok (.if_icmp .ne 24, 3) := by decide +kernel
theorem d_MO_behind_46 : decode b_MO_behind 46 = .ok (.aload_n 0, 1) := by decide +kernel
theorem d_MO_behind_47 : decode b_MO_behind 47 = .ok (.aload_n 0, 1) := by decide +kernel
theorem d_MO_behind_48 : decode b_MO_behind 48 = .ok (.getfield 19, 3) := by decide +kernel
theorem d_MO_behind_51 : decode b_MO_behind 51 = .ok (.iload_n 1, 1) := by decide +kernel
theorem d_MO_behind_52 : decode b_MO_behind 52 = .ok (.iaload, 1) := by decide +kernel
theorem d_MO_behind_53 : decode b_MO_behind 53 = .ok (.invokevirtual 110, 3) := by decide +kernel
theorem d_MO_behind_56 : decode b_MO_behind 56 = .ok (.aload_n 0, 1) := by decide +kernel
theorem d_MO_behind_57 : decode b_MO_behind 57 = .ok (.iload_n 1, 1) := by decide +kernel
theorem d_MO_behind_58 : decode b_MO_behind 58 = .ok (.iconst 1, 1) := by decide +kernel
theorem d_MO_behind_59 : decode b_MO_behind 59 = .ok (.iadd, 1) := by decide +kernel
theorem d_MO_behind_60 : decode b_MO_behind 60 = .ok (.invokevirtual 110, 3) := by decide +kernel
theorem d_MO_behind_63 : decode b_MO_behind 63 = .ok (.ior, 1) := by decide +kernel
theorem d_MO_behind_64 : decode b_MO_behind 64 = .ok (.goto 10, 3) := by decide +kernel
theorem d_MO_behind_67 : decode b_MO_behind 67 = .ok (.aload_n 0, 1) := by decide +kernel
theorem d_MO_behind_68 : decode b_MO_behind 68 = .ok (.iload_n 1, 1) := by decide +kernel
theorem d_MO_behind_69 : decode b_MO_behind 69 = .ok (.iconst 1, 1) := by decide +kernel
theorem d_MO_behind_70 : decode b_MO_behind 70 = .ok (.iadd, 1) := by decide +kernel
theorem d_MO_behind_71 : decode b_MO_behind 71 = .ok (.invokevirtual 110, 3) := by decide +kernel
theorem d_MO_behind_74 : decode b_MO_behind 74 = .ok (.ireturn, 1) := by decide +kernel
theorem gc_MO_110 : GoodIn gt (wsV R_MO 110 R_MO y_MO_aliveAt ws_MO_aliveAt) := gd_V gw_715 gw_717 gs_40 gw_7 gw_718
def f_MO_behind (x1 : Int32) (σ : SS) : Option (Int32 × SS) :=
  (ld (σ 0) 40 x1).bind fun v1 => (if v1 = (11 : Int32) then some ((0 : Int32), σ) else (ld (σ 0) 40 x1).bind fun v4 => (if v4 = (9 : Int32) then (ld (σ 2) 40 x1).bind fun v18 => (f_MO_aliveAt v18 σ).bind fun q20 => some (q20.1, q20.2) else (ld (σ 0) 40 x1).bind fun v7 => (if v7 = (10 : Int32) then (ld (σ 3) 40 x1).bind fun v12 => (f_MO_aliveAt v12 σ).bind fun q14 => (f_MO_aliveAt (x1 + (1 : Int32)) q14.2).bind fun q16 => some ((q14.1 ||| q16.1), q16.2) else (f_MO_aliveAt (x1 + (1 : Int32)) σ).bind fun q10 => some (q10.1, q10.2))))
set_option maxHeartbeats 4000000 in
set_option maxRecDepth 100000 in
theorem e_MO_behind {p : Program} {l : Launch} {e : Env} {s : State} {m : MethodId} {args : Array Value} {below : List Frame} {meth : Method} {c : Code} {D : va_G} {a t : Nat → Nat} {cI cZ : ClassId} (ha : aMC a) (F : CallFix p m c b_MO_behind 2 s args gt R_MO) (hr : meth.sig.returnType = some .int) (hlk : meth.locks = false) (hK : va_K D vwCl [(cI, .int), (cZ, .boolean)] s) (hT : stM t (aM a) s s.heap) :
    ∀ (x1 : Int32) (σ : SS) (q : Int32 × SS), f_MO_behind x1 σ = some q → ∀ (H : Heap) (locs : List Loc), va_P D vwCl ((wM a cI cZ) σ) H → va_S (aM a) s.heap H locs → ∀ (ls : Array Slot), lv_has ls 2 [(0, .ref (a 0)), (1, .int x1)] → W p l e { frames := 1, cells := 0, slots := 0, locals := 21 } s m args below meth c H locs 0 0 (MQ below (va_Qi (fun r u => r = q.1 ∧ u = q.2) (pW D (wM a cI cZ) [(cI, .int), (cZ, .boolean)] (stM t) (aM a)) (aM a)) args s 0 0 (aM a)) (F0 m 0 ls []) := by
  obtain ⟨hx, hb, hml, hown, hg⟩ := id F
  intro x1 σ q hf H locs hP hS ls hl
  unfold f_MO_behind at hf
  refine lv_aload_n hx hb d_MO_behind_0 rfl (lv_at hl 0 rfl) ?_
  refine va_get (D := D) (ci := 6) (v := .ref (a 1)) (C := R_MO) (T := T_MO) (N := 26) hx hb hg in_MO hown hK hP 0 rfl rfl 2 (by decide) (hg _ gw_585) (fun _ h9 => h9) rfl d_MO_behind_1 ?_
  refine lv_iload_n hx hb d_MO_behind_4 rfl (lv_at hl 1 rfl) ?_
  refine bdK hf (fun v1 h2 hf => ?_)
  refine r_iald hx hb hK hP 1 0 rfl rfl h2 d_MO_behind_5 ?_
  refine lv_bipush (v := (11 : Int32)) hx hb d_MO_behind_6 (by decide) ?_
  refine lv_icmp_ne (tgt := 13) hx hb d_MO_behind_8 (by decide) (fun c3 => ?_) (fun c3 => ?_)
  · replace hf := (if_neg c3).symm.trans hf
    refine lv_aload_n hx hb d_MO_behind_13 rfl (lv_at hl 0 rfl) ?_
    refine va_get (D := D) (ci := 6) (v := .ref (a 1)) (C := R_MO) (T := T_MO) (N := 26) hx hb hg in_MO hown hK hP 0 rfl rfl 2 (by decide) (hg _ gw_585) (fun _ h9 => h9) rfl d_MO_behind_14 ?_
    refine lv_iload_n hx hb d_MO_behind_17 rfl (lv_at hl 1 rfl) ?_
    refine bdK hf (fun v4 h5 hf => ?_)
    refine r_iald hx hb hK hP 1 0 rfl rfl h5 d_MO_behind_18 ?_
    refine lv_bipush (v := (9 : Int32)) hx hb d_MO_behind_19 (by decide) ?_
    refine lv_icmp_ne (tgt := 35) hx hb d_MO_behind_21 (by decide) (fun c6 => ?_) (fun c6 => ?_)
    · replace hf := (if_neg c6).symm.trans hf
      refine lv_aload_n hx hb d_MO_behind_35 rfl (lv_at hl 0 rfl) ?_
      refine va_get (D := D) (ci := 6) (v := .ref (a 1)) (C := R_MO) (T := T_MO) (N := 26) hx hb hg in_MO hown hK hP 0 rfl rfl 2 (by decide) (hg _ gw_585) (fun _ h9 => h9) rfl d_MO_behind_36 ?_
      refine lv_iload_n hx hb d_MO_behind_39 rfl (lv_at hl 1 rfl) ?_
      refine bdK hf (fun v7 h8 hf => ?_)
      refine r_iald hx hb hK hP 1 0 rfl rfl h8 d_MO_behind_40 ?_
      refine lv_bipush (v := (10 : Int32)) hx hb d_MO_behind_41 (by decide) ?_
      refine lv_icmp_ne (tgt := 67) hx hb d_MO_behind_43 (by decide) (fun c9 => ?_) (fun c9 => ?_)
      · replace hf := (if_neg c9).symm.trans hf
        refine lv_aload_n hx hb d_MO_behind_67 rfl (lv_at hl 0 rfl) ?_
        refine lv_iload_n hx hb d_MO_behind_68 rfl (lv_at hl 1 rfl) ?_
        refine lv_iconst (v := (1 : Int32)) hx hb d_MO_behind_69 (by decide) ?_
        refine lv_iadd hx hb d_MO_behind_70 ?_
        refine bdK hf (fun q10 h11 hf => ?_)
        refine rc_Vi (As := [.int (x1 + (1 : Int32))]) (rest := []) (b := a 0) (stM_g t) F (c_MO_aliveAt l ha (x1 + (1 : Int32)) σ q10 h11) (cwV 1 hg gc_MO_110 rfl rfl rfl hs_MO_aliveAt ⟨Nat.le_of_ble_eq_true rfl, Nat.le_of_ble_eq_true rfl⟩) hK hT hP hS (va_recv hK hP (ci := 6) (q0 := 0) rfl rfl) rfl hl.1 rfl (Nat.le_of_ble_eq_true rfl) d_MO_behind_71 ⟨Nat.zero_le _, Nat.zero_le _⟩ (fun H locs hP hS => ?_)
        exact rr_i hx hb hr hlk (stM_g t) hK hT hP hS hf d_MO_behind_74
      · replace hf := (if_pos c9).symm.trans hf
        refine lv_aload_n hx hb d_MO_behind_46 rfl (lv_at hl 0 rfl) ?_
        refine lv_aload_n hx hb d_MO_behind_47 rfl (lv_at hl 0 rfl) ?_
        refine va_get (D := D) (ci := 6) (v := .ref (a 4)) (C := R_MO) (T := T_MO) (N := 26) hx hb hg in_MO hown hK hP 0 rfl rfl 5 (by decide) (hg _ gw_588) (fun _ h9 => h9) rfl d_MO_behind_48 ?_
        refine lv_iload_n hx hb d_MO_behind_51 rfl (lv_at hl 1 rfl) ?_
        refine bdK hf (fun v12 h13 hf => ?_)
        refine r_iald hx hb hK hP 4 0 rfl rfl h13 d_MO_behind_52 ?_
        refine bdK hf (fun q14 h15 hf => ?_)
        refine rc_Vi (As := [.int v12]) (rest := []) (b := a 0) (stM_g t) F (c_MO_aliveAt l ha v12 σ q14 h15) (cwV 1 hg gc_MO_110 rfl rfl rfl hs_MO_aliveAt ⟨Nat.le_of_ble_eq_true rfl, Nat.le_of_ble_eq_true rfl⟩) hK hT hP hS (va_recv hK hP (ci := 6) (q0 := 0) rfl rfl) rfl hl.1 rfl (Nat.le_of_ble_eq_true rfl) d_MO_behind_53 ⟨Nat.zero_le _, Nat.zero_le _⟩ (fun H locs hP hS => ?_)
        refine lv_aload_n hx hb d_MO_behind_56 rfl (lv_at hl 0 rfl) ?_
        refine lv_iload_n hx hb d_MO_behind_57 rfl (lv_at hl 1 rfl) ?_
        refine lv_iconst (v := (1 : Int32)) hx hb d_MO_behind_58 (by decide) ?_
        refine lv_iadd hx hb d_MO_behind_59 ?_
        refine bdK hf (fun q16 h17 hf => ?_)
        refine rc_Vi (As := [.int (x1 + (1 : Int32))]) (rest := [.int q14.1]) (b := a 0) (stM_g t) F (c_MO_aliveAt l ha (x1 + (1 : Int32)) q14.2 q16 h17) (cwV 1 hg gc_MO_110 rfl rfl rfl hs_MO_aliveAt ⟨Nat.le_of_ble_eq_true rfl, Nat.le_of_ble_eq_true rfl⟩) hK hT hP hS (va_recv hK hP (ci := 6) (q0 := 0) rfl rfl) rfl hl.1 rfl (Nat.le_of_ble_eq_true rfl) d_MO_behind_60 ⟨Nat.zero_le _, Nat.zero_le _⟩ (fun H locs hP hS => ?_)
        refine lv_ior hx hb d_MO_behind_63 ?_
        refine lv_goto (tgt := 74) hx hb d_MO_behind_64 (by decide) ?_
        exact rr_i hx hb hr hlk (stM_g t) hK hT hP hS hf d_MO_behind_74
    · replace hf := (if_pos c6).symm.trans hf
      refine lv_aload_n hx hb d_MO_behind_24 rfl (lv_at hl 0 rfl) ?_
      refine lv_aload_n hx hb d_MO_behind_25 rfl (lv_at hl 0 rfl) ?_
      refine va_get (D := D) (ci := 6) (v := .ref (a 3)) (C := R_MO) (T := T_MO) (N := 26) hx hb hg in_MO hown hK hP 0 rfl rfl 4 (by decide) (hg _ gw_587) (fun _ h9 => h9) rfl d_MO_behind_26 ?_
      refine lv_iload_n hx hb d_MO_behind_29 rfl (lv_at hl 1 rfl) ?_
      refine bdK hf (fun v18 h19 hf => ?_)
      refine r_iald hx hb hK hP 3 0 rfl rfl h19 d_MO_behind_30 ?_
      refine bdK hf (fun q20 h21 hf => ?_)
      refine rc_Vi (As := [.int v18]) (rest := []) (b := a 0) (stM_g t) F (c_MO_aliveAt l ha v18 σ q20 h21) (cwV 1 hg gc_MO_110 rfl rfl rfl hs_MO_aliveAt ⟨Nat.le_of_ble_eq_true rfl, Nat.le_of_ble_eq_true rfl⟩) hK hT hP hS (va_recv hK hP (ci := 6) (q0 := 0) rfl rfl) rfl hl.1 rfl (Nat.le_of_ble_eq_true rfl) d_MO_behind_31 ⟨Nat.zero_le _, Nat.zero_le _⟩ (fun H locs hP hS => ?_)
      exact rr_i hx hb hr hlk (stM_g t) hK hT hP hS hf d_MO_behind_34
  · replace hf := (if_pos c3).symm.trans hf
    refine lv_iconst (v := (0 : Int32)) hx hb d_MO_behind_11 (by decide) ?_
    exact rr_i hx hb hr hlk (stM_g t) hK hT hP hS hf d_MO_behind_12
set_option maxHeartbeats 4000000 in
set_option maxRecDepth 100000 in
theorem c_MO_behind (l : Launch) {D : va_G} {a t : Nat → Nat} {cI cZ : ClassId} (ha : aMC a) (x1 : Int32) (σ : SS) (q : Int32 × SS) (hf : f_MO_behind x1 σ = some q) : Met l y_MO_behind ws_MO_behind { frames := 1, cells := 0, slots := 0, locals := 21 } (va_Pc [.ref (a 0), .int x1] (pW D (wM a cI cZ) [(cI, .int), (cZ, .boolean)] (stM t) (aM a) σ)) (va_Qi (fun r u => r = q.1 ∧ u = q.2) (pW D (wM a cI cZ) [(cI, .int), (cZ, .boolean)] (stM t) (aM a)) (aM a)) 0 0 (aM a) := by
  refine Met.ofW (cc := b_MO_behind) (maxL := 2) (ret := some .int) (by decide) rfl ?_
  intro p e s m args below meth c s₁ B hml hv
  obtain ⟨rfl, hP, hK, hT⟩ := hv
  have hl := lv_entry ([.ref (a 0), .int x1]) (n := 2) (Nat.le_of_ble_eq_true rfl)
  rw [lg_entry_eq]
  generalize (lg_sl ([.ref (a 0), .int x1]) ++ List.replicate (2 - (lg_sl ([.ref (a 0), .int x1])).length) Slot.unset).toArray = ls at hl ⊢
  exact e_MO_behind ha ⟨B.exec, B.bytes, hml, findClass_of_methodNamed B.named, fun w h => atoms_spec (ws := ws_MO_behind) B.pre w (List.mem_cons_of_mem _ h)⟩ B.returns B.notSynchronized hK hT x1 σ q hf s.heap [] hP va_S.rf ls hl
